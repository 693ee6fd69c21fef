section
variable {p : Program} {l : Launch} {e : Env} {s : State} {m : MethodId} {args : Array Value} {below : List Frame} {meth : Method} {c : Code} {base : Nat} {D : va_G} {cI cJ : ClassId} {tS : Nat}
-- ===== X4_late
set_option maxRecDepth 100000 in
set_option maxHeartbeats 4000000 in
theorem X4_late_k18 (hC : Cx p m c cX4_late 4 s args RX4 base D cI cJ tS) (hr : meth.sig.returnType = (some .int)) (hlocks : meth.locks = false) {n : Nat} {σ : Sg} {r : Int32} {τ : Sg} {H : Heap} {locs : List Loc} {ls : Array Slot} (h : X4_late_b18 n σ = some (r, τ)) : Dy base D cI cJ σ H → va_S (fun q => base ≤ q) s.heap H locs → lv_has ls 4 [] → W p l e (rmD 1 0 0) s m args below meth c H locs 0 0 (MQ below (QwI base D cI cJ r τ) args s 0 0 (fun q => base ≤ q)) (F0 m 18 ls []) := by
  intro hP hS hl
  obtain ⟨hx, hb, hml, hown, hts⟩ := hC.1
  unfold X4_late_b18 at h
  refine lv_iconst (v := (-1)) hx hb dX4_late_18 (by decide) ?_
  obtain ⟨rfl, rfl⟩ := Prod.mk.inj (Option.some.inj h)
  exact w_iret hC hr hlocks hP hS dX4_late_19
set_option maxRecDepth 100000 in
set_option maxHeartbeats 4000000 in
theorem X4_late_k32 (hC : Cx p m c cX4_late 4 s args RX4 base D cI cJ tS) (hr : meth.sig.returnType = (some .int)) (hlocks : meth.locks = false) {n : Nat} {σ : Sg} {r : Int32} {τ : Sg} {H : Heap} {locs : List Loc} {ls : Array Slot} (h : X4_late_b32 n σ = some (r, τ)) : Dy base D cI cJ σ H → va_S (fun q => base ≤ q) s.heap H locs → lv_has ls 4 [] → W p l e (rmD 1 0 0) s m args below meth c H locs 0 0 (MQ below (QwI base D cI cJ r τ) args s 0 0 (fun q => base ≤ q)) (F0 m 32 ls []) := by
  intro hP hS hl
  obtain ⟨hx, hb, hml, hown, hts⟩ := hC.1
  unfold X4_late_b32 at h
  refine lv_bipush (v := (-2)) hx hb dX4_late_32 (by decide) ?_
  obtain ⟨rfl, rfl⟩ := Prod.mk.inj (Option.some.inj h)
  exact w_iret hC hr hlocks hP hS dX4_late_34
set_option maxRecDepth 100000 in
set_option maxHeartbeats 4000000 in
theorem X4_late_k0 (hC : Cx p m c cX4_late 4 s args RX4 base D cI cJ tS) (hr : meth.sig.returnType = (some .int)) (hlocks : meth.locks = false) {n : Nat} {a0 : Nat} {i1 : Int32} {i2 : Int32} {i3 : Int32} {σ : Sg} {r : Int32} {τ : Sg} {H : Heap} {locs : List Loc} {ls : Array Slot} (h : f_X4_late n a0 i1 i2 i3 σ = some (r, τ)) : Dy base D cI cJ σ H → va_S (fun q => base ≤ q) s.heap H locs → lv_has ls 4 [(0, .ref (base + a0)), (1, .int i1), (2, .int i2), (3, .int i3)] → W p l e (rmD 1 0 0) s m args below meth c H locs 0 0 (MQ below (QwI base D cI cJ r τ) args s 0 0 (fun q => base ≤ q)) (F0 m 0 ls []) := by
  intro hP hS hl
  obtain ⟨hx, hb, hml, hown, hts⟩ := hC.1
  unfold f_X4_late at h
  refine lv_aload_n hx hb dX4_late_0 rfl (lv_at hl 0 rfl) ?_
  obtain ⟨q_1, hq_1, h⟩ := obn h
  refine w_getR (ci := 4) (j := 0) hC hP rfl inlX4 (by decide) (by decide) rfl hq_1 wl_43 dX4_late_1 ?_
  refine lv_iload_n hx hb dX4_late_4 rfl (lv_at hl 1 rfl) ?_
  obtain ⟨u_2, hu_2, h⟩ := obn h
  obtain ⟨w_3, hw_3, h⟩ := obn h
  refine k_I (r_virt (As := [.int i1]) (rest := []) hC hP hS (ci := 1) rfl (by decide) hu_2 (c_X1_hasBus (l := l) (base := base) (D := D) (cI := cI) (cJ := cJ) (tS := tS) hw_3) wl_132 wl_133 wl_134 wl_39 wl_131 rfl rfl hd_X1_hasBus ⟨Nat.le_of_ble_eq_true rfl, Nat.le_of_ble_eq_true rfl⟩ rfl hl.1 rfl (Nat.le_of_ble_eq_true rfl) dX4_late_5 ⟨Nat.le_of_ble_eq_true rfl, Nat.le_of_ble_eq_true rfl⟩) hS (fun H locs hP hS => ?_)
  refine lv_if_eq (tgt := 18) hx hb dX4_late_8 (by decide) (fun c_4 => ?_) (fun c_4 => ?_)
  · rw [if_pos c_4] at h
    exact X4_late_k18 hC hr hlocks h hP hS (lv_sub hl [] rfl)
  · rw [if_neg c_4] at h
    refine lv_iload_n hx hb dX4_late_11 rfl (lv_at hl 2 rfl) ?_
    obtain ⟨w_5, hw_5, h⟩ := obn h
    refine k_I (r_stat (As := [.int i2]) (rest := []) hC hP hS (c_X4_isGoingStop (l := l) (base := base) (D := D) (cI := cI) (cJ := cJ) (tS := tS) hw_5) wl_96 wl_97 wl_98 wl_95 rfl rfl hd_X4_isGoingStop ⟨Nat.le_of_ble_eq_true rfl, Nat.le_of_ble_eq_true rfl⟩ rfl hl.1 rfl (Nat.le_of_ble_eq_true rfl) dX4_late_12 ⟨Nat.le_of_ble_eq_true rfl, Nat.le_of_ble_eq_true rfl⟩) hS (fun H locs hP hS => ?_)
    refine lv_if_ne (tgt := 20) hx hb dX4_late_15 (by decide) (fun c_6 => ?_) (fun c_6 => ?_)
    · rw [if_neg c_6] at h
      refine lv_iload_n hx hb dX4_late_20 rfl (lv_at hl 3 rfl) ?_
      refine lv_iconst (v := 1) hx hb dX4_late_21 (by decide) ?_
      refine lv_icmp_lt (tgt := 32) hx hb dX4_late_22 (by decide) (fun c_7 => ?_) (fun c_7 => ?_)
      · rw [if_pos c_7] at h
        exact X4_late_k32 hC hr hlocks h hP hS (lv_sub hl [] rfl)
      · rw [if_neg c_7] at h
        refine lv_iload_n hx hb dX4_late_25 rfl (lv_at hl 3 rfl) ?_
        refine lv_sipush (v := 900) hx hb dX4_late_26 (by decide) ?_
        refine lv_icmp_le (tgt := 35) hx hb dX4_late_29 (by decide) (fun c_8 => ?_) (fun c_8 => ?_)
        · rw [if_pos c_8] at h
          refine lv_aload_n hx hb dX4_late_35 rfl (lv_at hl 0 rfl) ?_
          obtain ⟨q_9, hq_9, h⟩ := obn h
          refine w_getR (ci := 4) (j := 0) hC hP rfl inlX4 (by decide) (by decide) rfl hq_9 wl_43 dX4_late_36 ?_
          obtain ⟨v_10, hv_10, h⟩ := obn h
          refine w_getI (ci := 1) (j := 11) hC hP rfl inlX1 (by decide) (by decide) rfl hv_10 wl_135 dX4_late_39 ?_
          refine lv_bipush (v := 10) hx hb dX4_late_42 (by decide) ?_
          refine lv_icmp_lt (tgt := 50) hx hb dX4_late_44 (by decide) (fun c_11 => ?_) (fun c_11 => ?_)
          · rw [if_pos c_11] at h
            refine lv_aload_n hx hb dX4_late_50 rfl (lv_at hl 0 rfl) ?_
            obtain ⟨u_12, hu_12, h⟩ := obn h
            obtain ⟨w_13, hw_13, h⟩ := obn h
            refine k_V (r_virt (As := []) (rest := []) hC hP hS (ci := 4) rfl (by decide) hu_12 (c_X4_forgetCourse (l := l) (base := base) (D := D) (cI := cI) (cJ := cJ) (tS := tS) hw_13) wl_103 wl_104 wl_105 wl_98 wl_102 rfl rfl hd_X4_forgetCourse ⟨Nat.le_of_ble_eq_true rfl, Nat.le_of_ble_eq_true rfl⟩ rfl hl.1 rfl (Nat.le_of_ble_eq_true rfl) dX4_late_51 ⟨Nat.le_of_ble_eq_true rfl, Nat.le_of_ble_eq_true rfl⟩) hS (fun H locs hP hS => ?_)
            refine lv_aload_n hx hb dX4_late_54 rfl (lv_at hl 0 rfl) ?_
            obtain ⟨q_14, hq_14, h⟩ := obn h
            refine w_getR (ci := 4) (j := 0) hC hP rfl inlX4 (by decide) (by decide) rfl hq_14 wl_43 dX4_late_55 ?_
            refine lv_iload_n hx hb dX4_late_58 rfl (lv_at hl 1 rfl) ?_
            refine lv_iload_n hx hb dX4_late_59 rfl (lv_at hl 2 rfl) ?_
            refine lv_iload_n hx hb dX4_late_60 rfl (lv_at hl 3 rfl) ?_
            obtain ⟨u_15, hu_15, h⟩ := obn h
            obtain ⟨w_16, hw_16, h⟩ := obn h
            refine k_I (r_virt (As := [.int i1, .int i2, .int i3]) (rest := []) hC hP hS (ci := 1) rfl (by decide) hu_15 (c_X1_addLateness (l := l) (base := base) (D := D) (cI := cI) (cJ := cJ) (tS := tS) hw_16) wl_137 wl_138 wl_139 wl_39 wl_136 rfl rfl hd_X1_addLateness ⟨Nat.le_of_ble_eq_true rfl, Nat.le_of_ble_eq_true rfl⟩ rfl hl.1 rfl (Nat.le_of_ble_eq_true rfl) dX4_late_61 ⟨Nat.le_of_ble_eq_true rfl, Nat.le_of_ble_eq_true rfl⟩) hS (fun H locs hP hS => ?_)
            obtain ⟨rfl, rfl⟩ := Prod.mk.inj (Option.some.inj h)
            exact w_iret hC hr hlocks hP hS dX4_late_64
          · rw [if_neg c_11] at h
            refine lv_bipush (v := (-4)) hx hb dX4_late_47 (by decide) ?_
            obtain ⟨rfl, rfl⟩ := Prod.mk.inj (Option.some.inj h)
            exact w_iret hC hr hlocks hP hS dX4_late_49
        · rw [if_neg c_8] at h
          exact X4_late_k32 hC hr hlocks h hP hS (lv_sub hl [] rfl)
    · rw [if_pos c_6] at h
      exact X4_late_k18 hC hr hlocks h hP hS (lv_sub hl [] rfl)
set_option maxRecDepth 100000 in
set_option maxHeartbeats 4000000 in
theorem c_X4_late {l : Launch} {base : Nat} {D : va_G} {cI cJ : ClassId} {tS : Nat} {n : Nat} {a0 : Nat} {i1 : Int32} {i2 : Int32} {i3 : Int32} {σ : Sg} {r : Int32} {τ : Sg} (h : f_X4_late n a0 i1 i2 i3 σ = some (r, τ)) : Met l yX4_late (.code yX4_late cX4_late 4 (some .int) :: wsL_law) (rmD 1 0 0) (Pw base D cI cJ tS σ [.ref (base + a0), .int i1, .int i2, .int i3]) (QwI base D cI cJ r τ) 0 0 (fun q => base ≤ q) := by
  refine Met.ofW (cc := cX4_late) (maxL := 4) (ret := (some .int)) (by decide) rfl ?_
  intro p e s m args below meth c s₁ B hml hv
  obtain ⟨rfl, hSt, hP⟩ := hv
  have hC : Cx p m c cX4_late 4 s _ RX4 base D cI cJ tS := ⟨⟨B.exec, B.bytes, hml, findClass_of_methodNamed B.named, fun w hw => atoms_spec (ws := Cond.code yX4_late cX4_late 4 (some .int) :: wsL_law) B.pre w (List.mem_cons_of_mem _ hw)⟩, hSt⟩
  have hl := lv_entry ([.ref (base + a0), .int i1, .int i2, .int i3]) (n := 4) (Nat.le_of_ble_eq_true rfl)
  rw [lg_entry_eq]
  generalize (lg_sl ([.ref (base + a0), .int i1, .int i2, .int i3]) ++ List.replicate (4 - (lg_sl ([.ref (base + a0), .int i1, .int i2, .int i3])).length) Slot.unset).toArray = ls at hl ⊢
  exact X4_late_k0 hC B.returns B.notSynchronized h hP va_S.rf hl
-- ===== X5_isBus
set_option maxRecDepth 100000 in
set_option maxHeartbeats 4000000 in
theorem X5_isBus_k0 (hC : Cx p m c cX5_isBus 2 s args RX5 base D cI cJ tS) (hr : meth.sig.returnType = (some .boolean)) (hlocks : meth.locks = false) {n : Nat} {a0 : Nat} {i1 : Int32} {σ : Sg} {r : Int32} {τ : Sg} {H : Heap} {locs : List Loc} {ls : Array Slot} (h : f_X5_isBus n a0 i1 σ = some (r, τ)) : Dy base D cI cJ σ H → va_S (fun q => base ≤ q) s.heap H locs → lv_has ls 2 [(0, .ref (base + a0)), (1, .int i1)] → W p l e (rmD 1 0 0) s m args below meth c H locs 0 0 (MQ below (QwI base D cI cJ r τ) args s 0 0 (fun q => base ≤ q)) (F0 m 0 ls []) := by
  intro hP hS hl
  obtain ⟨hx, hb, hml, hown, hts⟩ := hC.1
  unfold f_X5_isBus at h
  refine lv_iload_n hx hb dX5_isBus_0 rfl (lv_at hl 1 rfl) ?_
  refine lv_iconst (v := 0) hx hb dX5_isBus_1 (by decide) ?_
  refine lv_aload_n hx hb dX5_isBus_2 rfl (lv_at hl 0 rfl) ?_
  obtain ⟨v_1, hv_1, h⟩ := obn h
  refine w_getI (ci := 5) (j := 3) hC hP rfl inlX5 (by decide) (by decide) rfl hv_1 wl_127 dX5_isBus_3 ?_
  refine lv_iconst (v := 1) hx hb dX5_isBus_6 (by decide) ?_
  refine lv_isub hx hb dX5_isBus_7 ?_
  obtain ⟨w_2, hw_2, h⟩ := obn h
  refine k_I (r_stat (As := [.int i1, .int 0, .int (v_1 - 1)]) (rest := []) hC hP hS (c_X5_in (l := l) (base := base) (D := D) (cI := cI) (cJ := cJ) (tS := tS) hw_2) wl_111 wl_112 wl_113 wl_110 rfl rfl hd_X5_in ⟨Nat.le_of_ble_eq_true rfl, Nat.le_of_ble_eq_true rfl⟩ rfl hl.1 rfl (Nat.le_of_ble_eq_true rfl) dX5_isBus_8 ⟨Nat.le_of_ble_eq_true rfl, Nat.le_of_ble_eq_true rfl⟩) hS (fun H locs hP hS => ?_)
  exact w_zret hC hr hlocks hP hS h dX5_isBus_11
set_option maxRecDepth 100000 in
set_option maxHeartbeats 4000000 in
theorem c_X5_isBus {l : Launch} {base : Nat} {D : va_G} {cI cJ : ClassId} {tS : Nat} {n : Nat} {a0 : Nat} {i1 : Int32} {σ : Sg} {r : Int32} {τ : Sg} (h : f_X5_isBus n a0 i1 σ = some (r, τ)) : Met l yX5_isBus (.code yX5_isBus cX5_isBus 2 (some .boolean) :: wsL_law) (rmD 1 0 0) (Pw base D cI cJ tS σ [.ref (base + a0), .int i1]) (QwI base D cI cJ r τ) 0 0 (fun q => base ≤ q) := by
  refine Met.ofW (cc := cX5_isBus) (maxL := 2) (ret := (some .boolean)) (by decide) rfl ?_
  intro p e s m args below meth c s₁ B hml hv
  obtain ⟨rfl, hSt, hP⟩ := hv
  have hC : Cx p m c cX5_isBus 2 s _ RX5 base D cI cJ tS := ⟨⟨B.exec, B.bytes, hml, findClass_of_methodNamed B.named, fun w hw => atoms_spec (ws := Cond.code yX5_isBus cX5_isBus 2 (some .boolean) :: wsL_law) B.pre w (List.mem_cons_of_mem _ hw)⟩, hSt⟩
  have hl := lv_entry ([.ref (base + a0), .int i1]) (n := 2) (Nat.le_of_ble_eq_true rfl)
  rw [lg_entry_eq]
  generalize (lg_sl ([.ref (base + a0), .int i1]) ++ List.replicate (2 - (lg_sl ([.ref (base + a0), .int i1])).length) Slot.unset).toArray = ls at hl ⊢
  exact X5_isBus_k0 hC B.returns B.notSynchronized h hP va_S.rf hl
-- ===== X5_late
set_option maxRecDepth 100000 in
set_option maxHeartbeats 4000000 in
theorem X5_late_k15 (hC : Cx p m c cX5_late 4 s args RX5 base D cI cJ tS) (hr : meth.sig.returnType = (some .int)) (hlocks : meth.locks = false) {n : Nat} {σ : Sg} {r : Int32} {τ : Sg} {H : Heap} {locs : List Loc} {ls : Array Slot} (h : X5_late_b15 n σ = some (r, τ)) : Dy base D cI cJ σ H → va_S (fun q => base ≤ q) s.heap H locs → lv_has ls 4 [] → W p l e (rmD 2 0 0) s m args below meth c H locs 0 0 (MQ below (QwI base D cI cJ r τ) args s 0 0 (fun q => base ≤ q)) (F0 m 15 ls []) := by
  intro hP hS hl
  obtain ⟨hx, hb, hml, hown, hts⟩ := hC.1
  unfold X5_late_b15 at h
  refine lv_iconst (v := (-1)) hx hb dX5_late_15 (by decide) ?_
  obtain ⟨rfl, rfl⟩ := Prod.mk.inj (Option.some.inj h)
  exact w_iret hC hr hlocks hP hS dX5_late_16
set_option maxRecDepth 100000 in
set_option maxHeartbeats 4000000 in
theorem X5_late_k0 (hC : Cx p m c cX5_late 4 s args RX5 base D cI cJ tS) (hr : meth.sig.returnType = (some .int)) (hlocks : meth.locks = false) {n : Nat} {a0 : Nat} {i1 : Int32} {i2 : Int32} {i3 : Int32} {σ : Sg} {r : Int32} {τ : Sg} {H : Heap} {locs : List Loc} {ls : Array Slot} (h : f_X5_late n a0 i1 i2 i3 σ = some (r, τ)) : Dy base D cI cJ σ H → va_S (fun q => base ≤ q) s.heap H locs → lv_has ls 4 [(0, .ref (base + a0)), (1, .int i1), (2, .int i2), (3, .int i3)] → W p l e (rmD 2 0 0) s m args below meth c H locs 0 0 (MQ below (QwI base D cI cJ r τ) args s 0 0 (fun q => base ≤ q)) (F0 m 0 ls []) := by
  intro hP hS hl
  obtain ⟨hx, hb, hml, hown, hts⟩ := hC.1
  unfold f_X5_late at h
  refine lv_aload_n hx hb dX5_late_0 rfl (lv_at hl 0 rfl) ?_
  refine lv_iload_n hx hb dX5_late_1 rfl (lv_at hl 1 rfl) ?_
  obtain ⟨u_1, hu_1, h⟩ := obn h
  obtain ⟨w_2, hw_2, h⟩ := obn h
  refine k_I (r_virt (As := [.int i1]) (rest := []) hC hP hS (ci := 5) rfl (by decide) hu_1 (c_X5_isBus (l := l) (base := base) (D := D) (cI := cI) (cJ := cJ) (tS := tS) hw_2) wl_141 wl_142 wl_143 wl_113 wl_140 rfl rfl hd_X5_isBus ⟨Nat.le_of_ble_eq_true rfl, Nat.le_of_ble_eq_true rfl⟩ rfl hl.1 rfl (Nat.le_of_ble_eq_true rfl) dX5_late_2 ⟨Nat.le_of_ble_eq_true rfl, Nat.le_of_ble_eq_true rfl⟩) hS (fun H locs hP hS => ?_)
  refine lv_if_eq (tgt := 15) hx hb dX5_late_5 (by decide) (fun c_3 => ?_) (fun c_3 => ?_)
  · rw [if_pos c_3] at h
    exact X5_late_k15 hC hr hlocks h hP hS (lv_sub hl [] rfl)
  · rw [if_neg c_3] at h
    refine lv_iload_n hx hb dX5_late_8 rfl (lv_at hl 2 rfl) ?_
    obtain ⟨w_4, hw_4, h⟩ := obn h
    refine k_I (r_stat (As := [.int i2]) (rest := []) hC hP hS (c_X5_isOn (l := l) (base := base) (D := D) (cI := cI) (cJ := cJ) (tS := tS) hw_4) wl_115 wl_116 wl_113 wl_114 rfl rfl hd_X5_isOn ⟨Nat.le_of_ble_eq_true rfl, Nat.le_of_ble_eq_true rfl⟩ rfl hl.1 rfl (Nat.le_of_ble_eq_true rfl) dX5_late_9 ⟨Nat.le_of_ble_eq_true rfl, Nat.le_of_ble_eq_true rfl⟩) hS (fun H locs hP hS => ?_)
    refine lv_if_ne (tgt := 17) hx hb dX5_late_12 (by decide) (fun c_5 => ?_) (fun c_5 => ?_)
    · rw [if_neg c_5] at h
      refine lv_iload_n hx hb dX5_late_17 rfl (lv_at hl 3 rfl) ?_
      refine lv_iconst (v := 1) hx hb dX5_late_18 (by decide) ?_
      refine lv_sipush (v := 900) hx hb dX5_late_19 (by decide) ?_
      obtain ⟨w_6, hw_6, h⟩ := obn h
      refine k_I (r_stat (As := [.int i3, .int 1, .int 900]) (rest := []) hC hP hS (c_X5_in (l := l) (base := base) (D := D) (cI := cI) (cJ := cJ) (tS := tS) hw_6) wl_111 wl_112 wl_113 wl_110 rfl rfl hd_X5_in ⟨Nat.le_of_ble_eq_true rfl, Nat.le_of_ble_eq_true rfl⟩ rfl hl.1 rfl (Nat.le_of_ble_eq_true rfl) dX5_late_22 ⟨Nat.le_of_ble_eq_true rfl, Nat.le_of_ble_eq_true rfl⟩) hS (fun H locs hP hS => ?_)
      refine lv_if_ne (tgt := 31) hx hb dX5_late_25 (by decide) (fun c_7 => ?_) (fun c_7 => ?_)
      · rw [if_neg c_7] at h
        refine lv_aload_n hx hb dX5_late_31 rfl (lv_at hl 0 rfl) ?_
        obtain ⟨v_8, hv_8, h⟩ := obn h
        refine w_getI (ci := 5) (j := 8) hC hP rfl inlX5 (by decide) (by decide) rfl hv_8 wl_144 dX5_late_32 ?_
        refine lv_bipush (v := 10) hx hb dX5_late_35 (by decide) ?_
        refine lv_icmp_ne (tgt := 43) hx hb dX5_late_37 (by decide) (fun c_9 => ?_) (fun c_9 => ?_)
        · rw [if_neg c_9] at h
          refine lv_aload_n hx hb dX5_late_43 rfl (lv_at hl 0 rfl) ?_
          obtain ⟨q_10, hq_10, h⟩ := obn h
          refine w_getR (ci := 5) (j := 9) hC hP rfl inlX5 (by decide) (by decide) rfl hq_10 wl_72 dX5_late_44 ?_
          refine lv_aload_n hx hb dX5_late_47 rfl (lv_at hl 0 rfl) ?_
          obtain ⟨v_11, hv_11, h⟩ := obn h
          refine w_getI (ci := 5) (j := 8) hC hP rfl inlX5 (by decide) (by decide) rfl hv_11 wl_144 dX5_late_48 ?_
          refine lv_iload_n hx hb dX5_late_51 rfl (lv_at hl 1 rfl) ?_
          obtain ⟨s_12, hs_12, h⟩ := obn h
          refine w_iast hC hP hS hs_12 dX5_late_52 (fun H locs hP hS => ?_)
          refine lv_aload_n hx hb dX5_late_53 rfl (lv_at hl 0 rfl) ?_
          obtain ⟨q_13, hq_13, h⟩ := obn h
          refine w_getR (ci := 5) (j := 10) hC hP rfl inlX5 (by decide) (by decide) rfl hq_13 wl_73 dX5_late_54 ?_
          refine lv_aload_n hx hb dX5_late_57 rfl (lv_at hl 0 rfl) ?_
          obtain ⟨v_14, hv_14, h⟩ := obn h
          refine w_getI (ci := 5) (j := 8) hC hP rfl inlX5 (by decide) (by decide) rfl hv_14 wl_144 dX5_late_58 ?_
          refine lv_iload_n hx hb dX5_late_61 rfl (lv_at hl 2 rfl) ?_
          obtain ⟨s_15, hs_15, h⟩ := obn h
          refine w_iast hC hP hS hs_15 dX5_late_62 (fun H locs hP hS => ?_)
          refine lv_aload_n hx hb dX5_late_63 rfl (lv_at hl 0 rfl) ?_
          obtain ⟨q_16, hq_16, h⟩ := obn h
          refine w_getR (ci := 5) (j := 11) hC hP rfl inlX5 (by decide) (by decide) rfl hq_16 wl_74 dX5_late_64 ?_
          refine lv_aload_n hx hb dX5_late_67 rfl (lv_at hl 0 rfl) ?_
          obtain ⟨v_17, hv_17, h⟩ := obn h
          refine w_getI (ci := 5) (j := 8) hC hP rfl inlX5 (by decide) (by decide) rfl hv_17 wl_144 dX5_late_68 ?_
          refine lv_iload_n hx hb dX5_late_71 rfl (lv_at hl 3 rfl) ?_
          obtain ⟨s_18, hs_18, h⟩ := obn h
          refine w_iast hC hP hS hs_18 dX5_late_72 (fun H locs hP hS => ?_)
          refine lv_aload_n hx hb dX5_late_73 rfl (lv_at hl 0 rfl) ?_
          refine lv_dup hx hb dX5_late_74 rfl ?_
          obtain ⟨v_19, hv_19, h⟩ := obn h
          refine w_getI (ci := 5) (j := 8) hC hP rfl inlX5 (by decide) (by decide) rfl hv_19 wl_144 dX5_late_75 ?_
          refine lv_iconst (v := 1) hx hb dX5_late_78 (by decide) ?_
          refine lv_iadd hx hb dX5_late_79 ?_
          obtain ⟨s_20, hs_20, h⟩ := obn h
          refine w_putI (ci := 5) (j := 8) hC hP hS rfl inlX5 tyX5 tyX5_ok nmX5 (by decide) (by decide) rfl rfl rfl rfl hs_20 wl_144 dX5_late_80 (fun H locs hP hS => ?_)
          refine lv_aload_n hx hb dX5_late_83 rfl (lv_at hl 0 rfl) ?_
          obtain ⟨v_21, hv_21, h⟩ := obn h
          refine w_getI (ci := 5) (j := 8) hC hP rfl inlX5 (by decide) (by decide) rfl hv_21 wl_144 dX5_late_84 ?_
          refine lv_iconst (v := 1) hx hb dX5_late_87 (by decide) ?_
          refine lv_isub hx hb dX5_late_88 ?_
          obtain ⟨rfl, rfl⟩ := Prod.mk.inj (Option.some.inj h)
          exact w_iret hC hr hlocks hP hS dX5_late_89
        · rw [if_pos c_9] at h
          refine lv_bipush (v := (-4)) hx hb dX5_late_40 (by decide) ?_
          obtain ⟨rfl, rfl⟩ := Prod.mk.inj (Option.some.inj h)
          exact w_iret hC hr hlocks hP hS dX5_late_42
      · rw [if_pos c_7] at h
        refine lv_bipush (v := (-2)) hx hb dX5_late_28 (by decide) ?_
        obtain ⟨rfl, rfl⟩ := Prod.mk.inj (Option.some.inj h)
        exact w_iret hC hr hlocks hP hS dX5_late_30
    · rw [if_pos c_5] at h
      exact X5_late_k15 hC hr hlocks h hP hS (lv_sub hl [] rfl)
set_option maxRecDepth 100000 in
set_option maxHeartbeats 4000000 in
theorem c_X5_late {l : Launch} {base : Nat} {D : va_G} {cI cJ : ClassId} {tS : Nat} {n : Nat} {a0 : Nat} {i1 : Int32} {i2 : Int32} {i3 : Int32} {σ : Sg} {r : Int32} {τ : Sg} (h : f_X5_late n a0 i1 i2 i3 σ = some (r, τ)) : Met l yX5_late (.code yX5_late cX5_late 4 (some .int) :: wsL_law) (rmD 2 0 0) (Pw base D cI cJ tS σ [.ref (base + a0), .int i1, .int i2, .int i3]) (QwI base D cI cJ r τ) 0 0 (fun q => base ≤ q) := by
  refine Met.ofW (cc := cX5_late) (maxL := 4) (ret := (some .int)) (by decide) rfl ?_
  intro p e s m args below meth c s₁ B hml hv
  obtain ⟨rfl, hSt, hP⟩ := hv
  have hC : Cx p m c cX5_late 4 s _ RX5 base D cI cJ tS := ⟨⟨B.exec, B.bytes, hml, findClass_of_methodNamed B.named, fun w hw => atoms_spec (ws := Cond.code yX5_late cX5_late 4 (some .int) :: wsL_law) B.pre w (List.mem_cons_of_mem _ hw)⟩, hSt⟩
  have hl := lv_entry ([.ref (base + a0), .int i1, .int i2, .int i3]) (n := 4) (Nat.le_of_ble_eq_true rfl)
  rw [lg_entry_eq]
  generalize (lg_sl ([.ref (base + a0), .int i1, .int i2, .int i3]) ++ List.replicate (4 - (lg_sl ([.ref (base + a0), .int i1, .int i2, .int i3])).length) Slot.unset).toArray = ls at hl ⊢
  exact X5_late_k0 hC B.returns B.notSynchronized h hP va_S.rf hl
-- ===== X4_mend
set_option maxRecDepth 100000 in
set_option maxHeartbeats 4000000 in
theorem X4_mend_k0 (hC : Cx p m c cX4_mend 1 s args RX4 base D cI cJ tS) (hr : meth.sig.returnType = (some .int)) (hlocks : meth.locks = false) {n : Nat} {a0 : Nat} {σ : Sg} {r : Int32} {τ : Sg} {H : Heap} {locs : List Loc} {ls : Array Slot} (h : f_X4_mend n a0 σ = some (r, τ)) : Dy base D cI cJ σ H → va_S (fun q => base ≤ q) s.heap H locs → lv_has ls 1 [(0, .ref (base + a0))] → W p l e (rmD 1 0 0) s m args below meth c H locs 0 0 (MQ below (QwI base D cI cJ r τ) args s 0 0 (fun q => base ≤ q)) (F0 m 0 ls []) := by
  intro hP hS hl
  obtain ⟨hx, hb, hml, hown, hts⟩ := hC.1
  unfold f_X4_mend at h
  refine lv_aload_n hx hb dX4_mend_0 rfl (lv_at hl 0 rfl) ?_
  obtain ⟨q_1, hq_1, h⟩ := obn h
  refine w_getR (ci := 4) (j := 0) hC hP rfl inlX4 (by decide) (by decide) rfl hq_1 wl_43 dX4_mend_1 ?_
  obtain ⟨v_2, hv_2, h⟩ := obn h
  refine w_getI (ci := 1) (j := 11) hC hP rfl inlX1 (by decide) (by decide) rfl hv_2 wl_135 dX4_mend_4 ?_
  refine lv_iconst (v := 1) hx hb dX4_mend_7 (by decide) ?_
  refine lv_icmp_ge (tgt := 14) hx hb dX4_mend_8 (by decide) (fun c_3 => ?_) (fun c_3 => ?_)
  · rw [if_pos c_3] at h
    refine lv_aload_n hx hb dX4_mend_14 rfl (lv_at hl 0 rfl) ?_
    obtain ⟨u_4, hu_4, h⟩ := obn h
    obtain ⟨w_5, hw_5, h⟩ := obn h
    refine k_V (r_virt (As := []) (rest := []) hC hP hS (ci := 4) rfl (by decide) hu_4 (c_X4_forgetCourse (l := l) (base := base) (D := D) (cI := cI) (cJ := cJ) (tS := tS) hw_5) wl_103 wl_104 wl_105 wl_98 wl_102 rfl rfl hd_X4_forgetCourse ⟨Nat.le_of_ble_eq_true rfl, Nat.le_of_ble_eq_true rfl⟩ rfl hl.1 rfl (Nat.le_of_ble_eq_true rfl) dX4_mend_15 ⟨Nat.le_of_ble_eq_true rfl, Nat.le_of_ble_eq_true rfl⟩) hS (fun H locs hP hS => ?_)
    refine lv_aload_n hx hb dX4_mend_18 rfl (lv_at hl 0 rfl) ?_
    obtain ⟨q_6, hq_6, h⟩ := obn h
    refine w_getR (ci := 4) (j := 0) hC hP rfl inlX4 (by decide) (by decide) rfl hq_6 wl_43 dX4_mend_19 ?_
    refine lv_dup hx hb dX4_mend_22 rfl ?_
    obtain ⟨v_7, hv_7, h⟩ := obn h
    refine w_getI (ci := 1) (j := 11) hC hP rfl inlX1 (by decide) (by decide) rfl hv_7 wl_135 dX4_mend_23 ?_
    refine lv_iconst (v := 1) hx hb dX4_mend_26 (by decide) ?_
    refine lv_isub hx hb dX4_mend_27 ?_
    obtain ⟨s_8, hs_8, h⟩ := obn h
    refine w_putI (ci := 1) (j := 11) hC hP hS rfl inlX1 tyX1 tyX1_ok nmX1 (by decide) (by decide) rfl rfl rfl rfl hs_8 wl_135 dX4_mend_28 (fun H locs hP hS => ?_)
    refine lv_aload_n hx hb dX4_mend_31 rfl (lv_at hl 0 rfl) ?_
    obtain ⟨q_9, hq_9, h⟩ := obn h
    refine w_getR (ci := 4) (j := 0) hC hP rfl inlX4 (by decide) (by decide) rfl hq_9 wl_43 dX4_mend_32 ?_
    obtain ⟨v_10, hv_10, h⟩ := obn h
    refine w_getI (ci := 1) (j := 11) hC hP rfl inlX1 (by decide) (by decide) rfl hv_10 wl_135 dX4_mend_35 ?_
    obtain ⟨rfl, rfl⟩ := Prod.mk.inj (Option.some.inj h)
    exact w_iret hC hr hlocks hP hS dX4_mend_38
  · rw [if_neg c_3] at h
    refine lv_bipush (v := (-5)) hx hb dX4_mend_11 (by decide) ?_
    obtain ⟨rfl, rfl⟩ := Prod.mk.inj (Option.some.inj h)
    exact w_iret hC hr hlocks hP hS dX4_mend_13
set_option maxRecDepth 100000 in
set_option maxHeartbeats 4000000 in
theorem c_X4_mend {l : Launch} {base : Nat} {D : va_G} {cI cJ : ClassId} {tS : Nat} {n : Nat} {a0 : Nat} {σ : Sg} {r : Int32} {τ : Sg} (h : f_X4_mend n a0 σ = some (r, τ)) : Met l yX4_mend (.code yX4_mend cX4_mend 1 (some .int) :: wsL_law) (rmD 1 0 0) (Pw base D cI cJ tS σ [.ref (base + a0)]) (QwI base D cI cJ r τ) 0 0 (fun q => base ≤ q) := by
  refine Met.ofW (cc := cX4_mend) (maxL := 1) (ret := (some .int)) (by decide) rfl ?_
  intro p e s m args below meth c s₁ B hml hv
  obtain ⟨rfl, hSt, hP⟩ := hv
  have hC : Cx p m c cX4_mend 1 s _ RX4 base D cI cJ tS := ⟨⟨B.exec, B.bytes, hml, findClass_of_methodNamed B.named, fun w hw => atoms_spec (ws := Cond.code yX4_mend cX4_mend 1 (some .int) :: wsL_law) B.pre w (List.mem_cons_of_mem _ hw)⟩, hSt⟩
  have hl := lv_entry ([.ref (base + a0)]) (n := 1) (Nat.le_of_ble_eq_true rfl)
  rw [lg_entry_eq]
  generalize (lg_sl ([.ref (base + a0)]) ++ List.replicate (1 - (lg_sl ([.ref (base + a0)])).length) Slot.unset).toArray = ls at hl ⊢
  exact X4_mend_k0 hC B.returns B.notSynchronized h hP va_S.rf hl
-- ===== X5_mend
set_option maxRecDepth 100000 in
set_option maxHeartbeats 4000000 in
theorem X5_mend_k0 (hC : Cx p m c cX5_mend 1 s args RX5 base D cI cJ tS) (hr : meth.sig.returnType = (some .int)) (hlocks : meth.locks = false) {n : Nat} {a0 : Nat} {σ : Sg} {r : Int32} {τ : Sg} {H : Heap} {locs : List Loc} {ls : Array Slot} (h : f_X5_mend n a0 σ = some (r, τ)) : Dy base D cI cJ σ H → va_S (fun q => base ≤ q) s.heap H locs → lv_has ls 1 [(0, .ref (base + a0))] → W p l e (rmD 0 0 0) s m args below meth c H locs 0 0 (MQ below (QwI base D cI cJ r τ) args s 0 0 (fun q => base ≤ q)) (F0 m 0 ls []) := by
  intro hP hS hl
  obtain ⟨hx, hb, hml, hown, hts⟩ := hC.1
  unfold f_X5_mend at h
  refine lv_aload_n hx hb dX5_mend_0 rfl (lv_at hl 0 rfl) ?_
  obtain ⟨v_1, hv_1, h⟩ := obn h
  refine w_getI (ci := 5) (j := 8) hC hP rfl inlX5 (by decide) (by decide) rfl hv_1 wl_144 dX5_mend_1 ?_
  refine lv_if_ne (tgt := 10) hx hb dX5_mend_4 (by decide) (fun c_2 => ?_) (fun c_2 => ?_)
  · rw [if_neg c_2] at h
    refine lv_aload_n hx hb dX5_mend_10 rfl (lv_at hl 0 rfl) ?_
    refine lv_dup hx hb dX5_mend_11 rfl ?_
    obtain ⟨v_3, hv_3, h⟩ := obn h
    refine w_getI (ci := 5) (j := 8) hC hP rfl inlX5 (by decide) (by decide) rfl hv_3 wl_144 dX5_mend_12 ?_
    refine lv_iconst (v := 1) hx hb dX5_mend_15 (by decide) ?_
    refine lv_isub hx hb dX5_mend_16 ?_
    obtain ⟨s_4, hs_4, h⟩ := obn h
    refine w_putI (ci := 5) (j := 8) hC hP hS rfl inlX5 tyX5 tyX5_ok nmX5 (by decide) (by decide) rfl rfl rfl rfl hs_4 wl_144 dX5_mend_17 (fun H locs hP hS => ?_)
    refine lv_aload_n hx hb dX5_mend_20 rfl (lv_at hl 0 rfl) ?_
    obtain ⟨v_5, hv_5, h⟩ := obn h
    refine w_getI (ci := 5) (j := 8) hC hP rfl inlX5 (by decide) (by decide) rfl hv_5 wl_144 dX5_mend_21 ?_
    obtain ⟨rfl, rfl⟩ := Prod.mk.inj (Option.some.inj h)
    exact w_iret hC hr hlocks hP hS dX5_mend_24
  · rw [if_pos c_2] at h
    refine lv_bipush (v := (-5)) hx hb dX5_mend_7 (by decide) ?_
    obtain ⟨rfl, rfl⟩ := Prod.mk.inj (Option.some.inj h)
    exact w_iret hC hr hlocks hP hS dX5_mend_9
set_option maxRecDepth 100000 in
set_option maxHeartbeats 4000000 in
theorem c_X5_mend {l : Launch} {base : Nat} {D : va_G} {cI cJ : ClassId} {tS : Nat} {n : Nat} {a0 : Nat} {σ : Sg} {r : Int32} {τ : Sg} (h : f_X5_mend n a0 σ = some (r, τ)) : Met l yX5_mend (.code yX5_mend cX5_mend 1 (some .int) :: wsL_law) (rmD 0 0 0) (Pw base D cI cJ tS σ [.ref (base + a0)]) (QwI base D cI cJ r τ) 0 0 (fun q => base ≤ q) := by
  refine Met.ofW (cc := cX5_mend) (maxL := 1) (ret := (some .int)) (by decide) rfl ?_
  intro p e s m args below meth c s₁ B hml hv
  obtain ⟨rfl, hSt, hP⟩ := hv
  have hC : Cx p m c cX5_mend 1 s _ RX5 base D cI cJ tS := ⟨⟨B.exec, B.bytes, hml, findClass_of_methodNamed B.named, fun w hw => atoms_spec (ws := Cond.code yX5_mend cX5_mend 1 (some .int) :: wsL_law) B.pre w (List.mem_cons_of_mem _ hw)⟩, hSt⟩
  have hl := lv_entry ([.ref (base + a0)]) (n := 1) (Nat.le_of_ble_eq_true rfl)
  rw [lg_entry_eq]
  generalize (lg_sl ([.ref (base + a0)]) ++ List.replicate (1 - (lg_sl ([.ref (base + a0)])).length) Slot.unset).toArray = ls at hl ⊢
  exact X5_mend_k0 hC B.returns B.notSynchronized h hP va_S.rf hl
-- ===== X4_turn
set_option maxRecDepth 100000 in
set_option maxHeartbeats 4000000 in
theorem X4_turn_k24 (hC : Cx p m c cX4_turn 4 s args RX4 base D cI cJ tS) (hr : meth.sig.returnType = (some .int)) (hlocks : meth.locks = false) {n : Nat} {σ : Sg} {r : Int32} {τ : Sg} {H : Heap} {locs : List Loc} {ls : Array Slot} (h : X4_turn_b24 n σ = some (r, τ)) : Dy base D cI cJ σ H → va_S (fun q => base ≤ q) s.heap H locs → lv_has ls 4 [] → W p l e (rmD 1 0 0) s m args below meth c H locs 0 0 (MQ below (QwI base D cI cJ r τ) args s 0 0 (fun q => base ≤ q)) (F0 m 24 ls []) := by
  intro hP hS hl
  obtain ⟨hx, hb, hml, hown, hts⟩ := hC.1
  unfold X4_turn_b24 at h
  refine lv_bipush (v := (-2)) hx hb dX4_turn_24 (by decide) ?_
  obtain ⟨rfl, rfl⟩ := Prod.mk.inj (Option.some.inj h)
  exact w_iret hC hr hlocks hP hS dX4_turn_26
set_option maxRecDepth 100000 in
set_option maxHeartbeats 4000000 in
theorem X4_turn_k0 (hC : Cx p m c cX4_turn 4 s args RX4 base D cI cJ tS) (hr : meth.sig.returnType = (some .int)) (hlocks : meth.locks = false) {n : Nat} {a0 : Nat} {i1 : Int32} {i2 : Int32} {σ : Sg} {r : Int32} {τ : Sg} {H : Heap} {locs : List Loc} {ls : Array Slot} (h : f_X4_turn n a0 i1 i2 σ = some (r, τ)) : Dy base D cI cJ σ H → va_S (fun q => base ≤ q) s.heap H locs → lv_has ls 4 [(0, .ref (base + a0)), (1, .int i1), (2, .int i2)] → W p l e (rmD 1 0 0) s m args below meth c H locs 0 0 (MQ below (QwI base D cI cJ r τ) args s 0 0 (fun q => base ≤ q)) (F0 m 0 ls []) := by
  intro hP hS hl
  obtain ⟨hx, hb, hml, hown, hts⟩ := hC.1
  unfold f_X4_turn at h
  refine lv_aload_n hx hb dX4_turn_0 rfl (lv_at hl 0 rfl) ?_
  obtain ⟨q_1, hq_1, h⟩ := obn h
  refine w_getR (ci := 4) (j := 0) hC hP rfl inlX4 (by decide) (by decide) rfl hq_1 wl_43 dX4_turn_1 ?_
  refine lv_iload_n hx hb dX4_turn_4 rfl (lv_at hl 1 rfl) ?_
  obtain ⟨u_2, hu_2, h⟩ := obn h
  obtain ⟨w_3, hw_3, h⟩ := obn h
  refine k_I (r_virt (As := [.int i1]) (rest := []) hC hP hS (ci := 1) rfl (by decide) hu_2 (c_X1_hasBus (l := l) (base := base) (D := D) (cI := cI) (cJ := cJ) (tS := tS) hw_3) wl_132 wl_133 wl_134 wl_39 wl_131 rfl rfl hd_X1_hasBus ⟨Nat.le_of_ble_eq_true rfl, Nat.le_of_ble_eq_true rfl⟩ rfl hl.1 rfl (Nat.le_of_ble_eq_true rfl) dX4_turn_5 ⟨Nat.le_of_ble_eq_true rfl, Nat.le_of_ble_eq_true rfl⟩) hS (fun H locs hP hS => ?_)
  refine lv_if_ne (tgt := 13) hx hb dX4_turn_8 (by decide) (fun c_4 => ?_) (fun c_4 => ?_)
  · rw [if_neg c_4] at h
    refine lv_iload_n hx hb dX4_turn_13 rfl (lv_at hl 2 rfl) ?_
    refine lv_iconst (v := 1) hx hb dX4_turn_14 (by decide) ?_
    refine lv_icmp_lt (tgt := 24) hx hb dX4_turn_15 (by decide) (fun c_5 => ?_) (fun c_5 => ?_)
    · rw [if_pos c_5] at h
      exact X4_turn_k24 hC hr hlocks h hP hS (lv_sub hl [] rfl)
    · rw [if_neg c_5] at h
      refine lv_iload_n hx hb dX4_turn_18 rfl (lv_at hl 2 rfl) ?_
      refine lv_bipush (v := 9) hx hb dX4_turn_19 (by decide) ?_
      refine lv_icmp_le (tgt := 27) hx hb dX4_turn_21 (by decide) (fun c_6 => ?_) (fun c_6 => ?_)
      · rw [if_pos c_6] at h
        refine lv_aload_n hx hb dX4_turn_27 rfl (lv_at hl 0 rfl) ?_
        obtain ⟨u_7, hu_7, h⟩ := obn h
        obtain ⟨w_8, hw_8, h⟩ := obn h
        refine k_V (r_virt (As := []) (rest := []) hC hP hS (ci := 4) rfl (by decide) hu_7 (c_X4_forgetCourse (l := l) (base := base) (D := D) (cI := cI) (cJ := cJ) (tS := tS) hw_8) wl_103 wl_104 wl_105 wl_98 wl_102 rfl rfl hd_X4_forgetCourse ⟨Nat.le_of_ble_eq_true rfl, Nat.le_of_ble_eq_true rfl⟩ rfl hl.1 rfl (Nat.le_of_ble_eq_true rfl) dX4_turn_28 ⟨Nat.le_of_ble_eq_true rfl, Nat.le_of_ble_eq_true rfl⟩) hS (fun H locs hP hS => ?_)
        refine lv_aload_n hx hb dX4_turn_31 rfl (lv_at hl 0 rfl) ?_
        obtain ⟨q_9, hq_9, h⟩ := obn h
        refine w_getR (ci := 4) (j := 0) hC hP rfl inlX4 (by decide) (by decide) rfl hq_9 wl_43 dX4_turn_32 ?_
        obtain ⟨q_10, hq_10, h⟩ := obn h
        refine w_getR (ci := 1) (j := 6) hC hP rfl inlX1 (by decide) (by decide) rfl hq_10 wl_145 dX4_turn_35 ?_
        refine lv_iload_n hx hb dX4_turn_38 rfl (lv_at hl 1 rfl) ?_
        obtain ⟨v_11, hv_11, h⟩ := obn h
        refine w_iald hC hP hv_11 dX4_turn_39 ?_
        refine lv_istore_n (lv' := [(3, .int v_11), (0, .ref (base + a0)), (1, .int i1), (2, .int i2)]) hx hb dX4_turn_40 rfl hl (by decide) rfl (fun ls hl => ?_)
        refine lv_aload_n hx hb dX4_turn_41 rfl (lv_at hl 1 rfl) ?_
        obtain ⟨q_12, hq_12, h⟩ := obn h
        refine w_getR (ci := 4) (j := 0) hC hP rfl inlX4 (by decide) (by decide) rfl hq_12 wl_43 dX4_turn_42 ?_
        obtain ⟨q_13, hq_13, h⟩ := obn h
        refine w_getR (ci := 1) (j := 6) hC hP rfl inlX1 (by decide) (by decide) rfl hq_13 wl_145 dX4_turn_45 ?_
        refine lv_iload_n hx hb dX4_turn_48 rfl (lv_at hl 2 rfl) ?_
        refine lv_iload_n hx hb dX4_turn_49 rfl (lv_at hl 3 rfl) ?_
        obtain ⟨s_14, hs_14, h⟩ := obn h
        refine w_iast hC hP hS hs_14 dX4_turn_50 (fun H locs hP hS => ?_)
        refine lv_iload_n hx hb dX4_turn_51 rfl (lv_at hl 0 rfl) ?_
        obtain ⟨rfl, rfl⟩ := Prod.mk.inj (Option.some.inj h)
        exact w_iret hC hr hlocks hP hS dX4_turn_52
      · rw [if_neg c_6] at h
        exact X4_turn_k24 hC hr hlocks h hP hS (lv_sub hl [] rfl)
  · rw [if_pos c_4] at h
    refine lv_iconst (v := (-1)) hx hb dX4_turn_11 (by decide) ?_
    obtain ⟨rfl, rfl⟩ := Prod.mk.inj (Option.some.inj h)
    exact w_iret hC hr hlocks hP hS dX4_turn_12
set_option maxRecDepth 100000 in
set_option maxHeartbeats 4000000 in
theorem c_X4_turn {l : Launch} {base : Nat} {D : va_G} {cI cJ : ClassId} {tS : Nat} {n : Nat} {a0 : Nat} {i1 : Int32} {i2 : Int32} {σ : Sg} {r : Int32} {τ : Sg} (h : f_X4_turn n a0 i1 i2 σ = some (r, τ)) : Met l yX4_turn (.code yX4_turn cX4_turn 4 (some .int) :: wsL_law) (rmD 1 0 0) (Pw base D cI cJ tS σ [.ref (base + a0), .int i1, .int i2]) (QwI base D cI cJ r τ) 0 0 (fun q => base ≤ q) := by
  refine Met.ofW (cc := cX4_turn) (maxL := 4) (ret := (some .int)) (by decide) rfl ?_
  intro p e s m args below meth c s₁ B hml hv
  obtain ⟨rfl, hSt, hP⟩ := hv
  have hC : Cx p m c cX4_turn 4 s _ RX4 base D cI cJ tS := ⟨⟨B.exec, B.bytes, hml, findClass_of_methodNamed B.named, fun w hw => atoms_spec (ws := Cond.code yX4_turn cX4_turn 4 (some .int) :: wsL_law) B.pre w (List.mem_cons_of_mem _ hw)⟩, hSt⟩
  have hl := lv_entry ([.ref (base + a0), .int i1, .int i2]) (n := 4) (Nat.le_of_ble_eq_true rfl)
  rw [lg_entry_eq]
  generalize (lg_sl ([.ref (base + a0), .int i1, .int i2]) ++ List.replicate (4 - (lg_sl ([.ref (base + a0), .int i1, .int i2])).length) Slot.unset).toArray = ls at hl ⊢
  exact X4_turn_k0 hC B.returns B.notSynchronized h hP va_S.rf hl
-- ===== X5_turn
set_option maxRecDepth 100000 in
set_option maxHeartbeats 4000000 in
theorem X5_turn_k0 (hC : Cx p m c cX5_turn 4 s args RX5 base D cI cJ tS) (hr : meth.sig.returnType = (some .int)) (hlocks : meth.locks = false) {n : Nat} {a0 : Nat} {i1 : Int32} {i2 : Int32} {σ : Sg} {r : Int32} {τ : Sg} {H : Heap} {locs : List Loc} {ls : Array Slot} (h : f_X5_turn n a0 i1 i2 σ = some (r, τ)) : Dy base D cI cJ σ H → va_S (fun q => base ≤ q) s.heap H locs → lv_has ls 4 [(0, .ref (base + a0)), (1, .int i1), (2, .int i2)] → W p l e (rmD 2 0 0) s m args below meth c H locs 0 0 (MQ below (QwI base D cI cJ r τ) args s 0 0 (fun q => base ≤ q)) (F0 m 0 ls []) := by
  intro hP hS hl
  obtain ⟨hx, hb, hml, hown, hts⟩ := hC.1
  unfold f_X5_turn at h
  refine lv_aload_n hx hb dX5_turn_0 rfl (lv_at hl 0 rfl) ?_
  refine lv_iload_n hx hb dX5_turn_1 rfl (lv_at hl 1 rfl) ?_
  obtain ⟨u_1, hu_1, h⟩ := obn h
  obtain ⟨w_2, hw_2, h⟩ := obn h
  refine k_I (r_virt (As := [.int i1]) (rest := []) hC hP hS (ci := 5) rfl (by decide) hu_1 (c_X5_isBus (l := l) (base := base) (D := D) (cI := cI) (cJ := cJ) (tS := tS) hw_2) wl_141 wl_142 wl_143 wl_113 wl_140 rfl rfl hd_X5_isBus ⟨Nat.le_of_ble_eq_true rfl, Nat.le_of_ble_eq_true rfl⟩ rfl hl.1 rfl (Nat.le_of_ble_eq_true rfl) dX5_turn_2 ⟨Nat.le_of_ble_eq_true rfl, Nat.le_of_ble_eq_true rfl⟩) hS (fun H locs hP hS => ?_)
  refine lv_if_ne (tgt := 10) hx hb dX5_turn_5 (by decide) (fun c_3 => ?_) (fun c_3 => ?_)
  · rw [if_neg c_3] at h
    refine lv_iload_n hx hb dX5_turn_10 rfl (lv_at hl 2 rfl) ?_
    refine lv_iconst (v := 1) hx hb dX5_turn_11 (by decide) ?_
    refine lv_bipush (v := 9) hx hb dX5_turn_12 (by decide) ?_
    obtain ⟨w_4, hw_4, h⟩ := obn h
    refine k_I (r_stat (As := [.int i2, .int 1, .int 9]) (rest := []) hC hP hS (c_X5_in (l := l) (base := base) (D := D) (cI := cI) (cJ := cJ) (tS := tS) hw_4) wl_111 wl_112 wl_113 wl_110 rfl rfl hd_X5_in ⟨Nat.le_of_ble_eq_true rfl, Nat.le_of_ble_eq_true rfl⟩ rfl hl.1 rfl (Nat.le_of_ble_eq_true rfl) dX5_turn_14 ⟨Nat.le_of_ble_eq_true rfl, Nat.le_of_ble_eq_true rfl⟩) hS (fun H locs hP hS => ?_)
    refine lv_if_ne (tgt := 23) hx hb dX5_turn_17 (by decide) (fun c_5 => ?_) (fun c_5 => ?_)
    · rw [if_neg c_5] at h
      refine lv_aload_n hx hb dX5_turn_23 rfl (lv_at hl 0 rfl) ?_
      obtain ⟨q_6, hq_6, h⟩ := obn h
      refine w_getR (ci := 5) (j := 6) hC hP rfl inlX5 (by decide) (by decide) rfl hq_6 wl_71 dX5_turn_24 ?_
      refine lv_iload_n hx hb dX5_turn_27 rfl (lv_at hl 1 rfl) ?_
      obtain ⟨v_7, hv_7, h⟩ := obn h
      refine w_iald hC hP hv_7 dX5_turn_28 ?_
      refine lv_istore_n (lv' := [(3, .int v_7), (0, .ref (base + a0)), (1, .int i1), (2, .int i2)]) hx hb dX5_turn_29 rfl hl (by decide) rfl (fun ls hl => ?_)
      refine lv_aload_n hx hb dX5_turn_30 rfl (lv_at hl 1 rfl) ?_
      obtain ⟨q_8, hq_8, h⟩ := obn h
      refine w_getR (ci := 5) (j := 6) hC hP rfl inlX5 (by decide) (by decide) rfl hq_8 wl_71 dX5_turn_31 ?_
      refine lv_iload_n hx hb dX5_turn_34 rfl (lv_at hl 2 rfl) ?_
      refine lv_iload_n hx hb dX5_turn_35 rfl (lv_at hl 3 rfl) ?_
      obtain ⟨s_9, hs_9, h⟩ := obn h
      refine w_iast hC hP hS hs_9 dX5_turn_36 (fun H locs hP hS => ?_)
      refine lv_iload_n hx hb dX5_turn_37 rfl (lv_at hl 0 rfl) ?_
      obtain ⟨rfl, rfl⟩ := Prod.mk.inj (Option.some.inj h)
      exact w_iret hC hr hlocks hP hS dX5_turn_38
    · rw [if_pos c_5] at h
      refine lv_bipush (v := (-2)) hx hb dX5_turn_20 (by decide) ?_
      obtain ⟨rfl, rfl⟩ := Prod.mk.inj (Option.some.inj h)
      exact w_iret hC hr hlocks hP hS dX5_turn_22
  · rw [if_pos c_3] at h
    refine lv_iconst (v := (-1)) hx hb dX5_turn_8 (by decide) ?_
    obtain ⟨rfl, rfl⟩ := Prod.mk.inj (Option.some.inj h)
    exact w_iret hC hr hlocks hP hS dX5_turn_9
set_option maxRecDepth 100000 in
set_option maxHeartbeats 4000000 in
theorem c_X5_turn {l : Launch} {base : Nat} {D : va_G} {cI cJ : ClassId} {tS : Nat} {n : Nat} {a0 : Nat} {i1 : Int32} {i2 : Int32} {σ : Sg} {r : Int32} {τ : Sg} (h : f_X5_turn n a0 i1 i2 σ = some (r, τ)) : Met l yX5_turn (.code yX5_turn cX5_turn 4 (some .int) :: wsL_law) (rmD 2 0 0) (Pw base D cI cJ tS σ [.ref (base + a0), .int i1, .int i2]) (QwI base D cI cJ r τ) 0 0 (fun q => base ≤ q) := by
  refine Met.ofW (cc := cX5_turn) (maxL := 4) (ret := (some .int)) (by decide) rfl ?_
  intro p e s m args below meth c s₁ B hml hv
  obtain ⟨rfl, hSt, hP⟩ := hv
  have hC : Cx p m c cX5_turn 4 s _ RX5 base D cI cJ tS := ⟨⟨B.exec, B.bytes, hml, findClass_of_methodNamed B.named, fun w hw => atoms_spec (ws := Cond.code yX5_turn cX5_turn 4 (some .int) :: wsL_law) B.pre w (List.mem_cons_of_mem _ hw)⟩, hSt⟩
  have hl := lv_entry ([.ref (base + a0), .int i1, .int i2]) (n := 4) (Nat.le_of_ble_eq_true rfl)
  rw [lg_entry_eq]
  generalize (lg_sl ([.ref (base + a0), .int i1, .int i2]) ++ List.replicate (4 - (lg_sl ([.ref (base + a0), .int i1, .int i2])).length) Slot.unset).toArray = ls at hl ⊢
  exact X5_turn_k0 hC B.returns B.notSynchronized h hP va_S.rf hl
-- ===== X4_isStop
set_option maxRecDepth 100000 in
set_option maxHeartbeats 4000000 in
theorem X4_isStop_k14 (hC : Cx p m c cX4_isStop 1 s args RX4 base D cI cJ tS) (hr : meth.sig.returnType = (some .boolean)) (hlocks : meth.locks = false) {n : Nat} {σ : Sg} {r : Int32} {τ : Sg} {H : Heap} {locs : List Loc} {ls : Array Slot} (h : X4_isStop_b14 n σ = some (r, τ)) : Dy base D cI cJ σ H → va_S (fun q => base ≤ q) s.heap H locs → lv_has ls 1 [] → W p l e (rmD 0 0 0) s m args below meth c H locs 0 0 (MQ below (QwI base D cI cJ r τ) args s 0 0 (fun q => base ≤ q)) (F0 m 14 ls []) := by
  intro hP hS hl
  obtain ⟨hx, hb, hml, hown, hts⟩ := hC.1
  unfold X4_isStop_b14 at h
  refine lv_iconst (v := 0) hx hb dX4_isStop_14 (by decide) ?_
  exact w_zret hC hr hlocks hP hS h dX4_isStop_15
set_option maxRecDepth 100000 in
set_option maxHeartbeats 4000000 in
theorem X4_isStop_k0 (hC : Cx p m c cX4_isStop 1 s args RX4 base D cI cJ tS) (hr : meth.sig.returnType = (some .boolean)) (hlocks : meth.locks = false) {n : Nat} {i0 : Int32} {σ : Sg} {r : Int32} {τ : Sg} {H : Heap} {locs : List Loc} {ls : Array Slot} (h : f_X4_isStop n i0 σ = some (r, τ)) : Dy base D cI cJ σ H → va_S (fun q => base ≤ q) s.heap H locs → lv_has ls 1 [(0, .int i0)] → W p l e (rmD 0 0 0) s m args below meth c H locs 0 0 (MQ below (QwI base D cI cJ r τ) args s 0 0 (fun q => base ≤ q)) (F0 m 0 ls []) := by
  intro hP hS hl
  obtain ⟨hx, hb, hml, hown, hts⟩ := hC.1
  unfold f_X4_isStop at h
  refine lv_iload_n hx hb dX4_isStop_0 rfl (lv_at hl 0 rfl) ?_
  refine lv_if_lt (tgt := 14) hx hb dX4_isStop_1 (by decide) (fun c_1 => ?_) (fun c_1 => ?_)
  · rw [if_pos c_1] at h
    exact X4_isStop_k14 hC hr hlocks h hP hS (lv_sub hl [] rfl)
  · rw [if_neg c_1] at h
    refine lv_iload_n hx hb dX4_isStop_4 rfl (lv_at hl 0 rfl) ?_
    refine lv_bipush (v := 10) hx hb dX4_isStop_5 (by decide) ?_
    refine lv_icmp_ge (tgt := 14) hx hb dX4_isStop_7 (by decide) (fun c_2 => ?_) (fun c_2 => ?_)
    · rw [if_pos c_2] at h
      exact X4_isStop_k14 hC hr hlocks h hP hS (lv_sub hl [] rfl)
    · rw [if_neg c_2] at h
      refine lv_iconst (v := 1) hx hb dX4_isStop_10 (by decide) ?_
      refine lv_goto (tgt := 15) hx hb dX4_isStop_11 (by decide) ?_
      exact w_zret hC hr hlocks hP hS h dX4_isStop_15
set_option maxRecDepth 100000 in
set_option maxHeartbeats 4000000 in
theorem c_X4_isStop {l : Launch} {base : Nat} {D : va_G} {cI cJ : ClassId} {tS : Nat} {n : Nat} {i0 : Int32} {σ : Sg} {r : Int32} {τ : Sg} (h : f_X4_isStop n i0 σ = some (r, τ)) : Met l yX4_isStop (.code yX4_isStop cX4_isStop 1 (some .boolean) :: wsL_law) (rmD 0 0 0) (Pw base D cI cJ tS σ [.int i0]) (QwI base D cI cJ r τ) 0 0 (fun q => base ≤ q) := by
  refine Met.ofW (cc := cX4_isStop) (maxL := 1) (ret := (some .boolean)) (by decide) rfl ?_
  intro p e s m args below meth c s₁ B hml hv
  obtain ⟨rfl, hSt, hP⟩ := hv
  have hC : Cx p m c cX4_isStop 1 s _ RX4 base D cI cJ tS := ⟨⟨B.exec, B.bytes, hml, findClass_of_methodNamed B.named, fun w hw => atoms_spec (ws := Cond.code yX4_isStop cX4_isStop 1 (some .boolean) :: wsL_law) B.pre w (List.mem_cons_of_mem _ hw)⟩, hSt⟩
  have hl := lv_entry ([.int i0]) (n := 1) (Nat.le_of_ble_eq_true rfl)
  rw [lg_entry_eq]
  generalize (lg_sl ([.int i0]) ++ List.replicate (1 - (lg_sl ([.int i0])).length) Slot.unset).toArray = ls at hl ⊢
  exact X4_isStop_k0 hC B.returns B.notSynchronized h hP va_S.rf hl
-- ===== X1_comes
set_option maxRecDepth 100000 in
set_option maxHeartbeats 4000000 in
theorem X1_comes_k0 (hC : Cx p m c cX1_comes 3 s args RX1 base D cI cJ tS) (hr : meth.sig.returnType = (some .boolean)) (hlocks : meth.locks = false) {n : Nat} {a0 : Nat} {i1 : Int32} {i2 : Int32} {σ : Sg} {r : Int32} {τ : Sg} {H : Heap} {locs : List Loc} {ls : Array Slot} (h : f_X1_comes n a0 i1 i2 σ = some (r, τ)) : Dy base D cI cJ σ H → va_S (fun q => base ≤ q) s.heap H locs → lv_has ls 3 [(0, .ref (base + a0)), (1, .int i1), (2, .int i2)] → W p l e (rmD 0 0 0) s m args below meth c H locs 0 0 (MQ below (QwI base D cI cJ r τ) args s 0 0 (fun q => base ≤ q)) (F0 m 0 ls []) := by
  intro hP hS hl
  obtain ⟨hx, hb, hml, hown, hts⟩ := hC.1
  unfold f_X1_comes at h
  refine lv_iload_n hx hb dX1_comes_0 rfl (lv_at hl 2 rfl) ?_
  refine lv_aload_n hx hb dX1_comes_1 rfl (lv_at hl 0 rfl) ?_
  obtain ⟨q_1, hq_1, h⟩ := obn h
  refine w_getR (ci := 1) (j := 6) hC hP rfl inlX1 (by decide) (by decide) rfl hq_1 wl_10 dX1_comes_2 ?_
  refine lv_iload_n hx hb dX1_comes_5 rfl (lv_at hl 1 rfl) ?_
  obtain ⟨v_2, hv_2, h⟩ := obn h
  refine w_iald hC hP hv_2 dX1_comes_6 ?_
  refine lv_icmp_gt (tgt := 14) hx hb dX1_comes_7 (by decide) (fun c_3 => ?_) (fun c_3 => ?_)
  · rw [if_pos c_3] at h
    refine lv_iconst (v := 0) hx hb dX1_comes_14 (by decide) ?_
    exact w_zret hC hr hlocks hP hS h dX1_comes_15
  · rw [if_neg c_3] at h
    refine lv_iconst (v := 1) hx hb dX1_comes_10 (by decide) ?_
    refine lv_goto (tgt := 15) hx hb dX1_comes_11 (by decide) ?_
    exact w_zret hC hr hlocks hP hS h dX1_comes_15
set_option maxRecDepth 100000 in
set_option maxHeartbeats 4000000 in
theorem c_X1_comes {l : Launch} {base : Nat} {D : va_G} {cI cJ : ClassId} {tS : Nat} {n : Nat} {a0 : Nat} {i1 : Int32} {i2 : Int32} {σ : Sg} {r : Int32} {τ : Sg} (h : f_X1_comes n a0 i1 i2 σ = some (r, τ)) : Met l yX1_comes (.code yX1_comes cX1_comes 3 (some .boolean) :: wsL_law) (rmD 0 0 0) (Pw base D cI cJ tS σ [.ref (base + a0), .int i1, .int i2]) (QwI base D cI cJ r τ) 0 0 (fun q => base ≤ q) := by
  refine Met.ofW (cc := cX1_comes) (maxL := 3) (ret := (some .boolean)) (by decide) rfl ?_
  intro p e s m args below meth c s₁ B hml hv
  obtain ⟨rfl, hSt, hP⟩ := hv
  have hC : Cx p m c cX1_comes 3 s _ RX1 base D cI cJ tS := ⟨⟨B.exec, B.bytes, hml, findClass_of_methodNamed B.named, fun w hw => atoms_spec (ws := Cond.code yX1_comes cX1_comes 3 (some .boolean) :: wsL_law) B.pre w (List.mem_cons_of_mem _ hw)⟩, hSt⟩
  have hl := lv_entry ([.ref (base + a0), .int i1, .int i2]) (n := 3) (Nat.le_of_ble_eq_true rfl)
  rw [lg_entry_eq]
  generalize (lg_sl ([.ref (base + a0), .int i1, .int i2]) ++ List.replicate (3 - (lg_sl ([.ref (base + a0), .int i1, .int i2])).length) Slot.unset).toArray = ls at hl ⊢
  exact X1_comes_k0 hC B.returns B.notSynchronized h hP va_S.rf hl
-- ===== X4_cell
set_option maxRecDepth 100000 in
set_option maxHeartbeats 4000000 in
theorem X4_cell_k0 (hC : Cx p m c cX4_cell 2 s args RX4 base D cI cJ tS) (hr : meth.sig.returnType = (some .int)) (hlocks : meth.locks = false) {n : Nat} {i0 : Int32} {i1 : Int32} {σ : Sg} {r : Int32} {τ : Sg} {H : Heap} {locs : List Loc} {ls : Array Slot} (h : f_X4_cell n i0 i1 σ = some (r, τ)) : Dy base D cI cJ σ H → va_S (fun q => base ≤ q) s.heap H locs → lv_has ls 2 [(0, .int i0), (1, .int i1)] → W p l e (rmD 0 0 0) s m args below meth c H locs 0 0 (MQ below (QwI base D cI cJ r τ) args s 0 0 (fun q => base ≤ q)) (F0 m 0 ls []) := by
  intro hP hS hl
  obtain ⟨hx, hb, hml, hown, hts⟩ := hC.1
  unfold f_X4_cell at h
  refine lv_iload_n hx hb dX4_cell_0 rfl (lv_at hl 0 rfl) ?_
  refine lv_bipush (v := 10) hx hb dX4_cell_1 (by decide) ?_
  refine lv_imul hx hb dX4_cell_3 ?_
  refine lv_iload_n hx hb dX4_cell_4 rfl (lv_at hl 1 rfl) ?_
  refine lv_iadd hx hb dX4_cell_5 ?_
  obtain ⟨rfl, rfl⟩ := Prod.mk.inj (Option.some.inj h)
  exact w_iret hC hr hlocks hP hS dX4_cell_6
set_option maxRecDepth 100000 in
set_option maxHeartbeats 4000000 in
theorem c_X4_cell {l : Launch} {base : Nat} {D : va_G} {cI cJ : ClassId} {tS : Nat} {n : Nat} {i0 : Int32} {i1 : Int32} {σ : Sg} {r : Int32} {τ : Sg} (h : f_X4_cell n i0 i1 σ = some (r, τ)) : Met l yX4_cell (.code yX4_cell cX4_cell 2 (some .int) :: wsL_law) (rmD 0 0 0) (Pw base D cI cJ tS σ [.int i0, .int i1]) (QwI base D cI cJ r τ) 0 0 (fun q => base ≤ q) := by
  refine Met.ofW (cc := cX4_cell) (maxL := 2) (ret := (some .int)) (by decide) rfl ?_
  intro p e s m args below meth c s₁ B hml hv
  obtain ⟨rfl, hSt, hP⟩ := hv
  have hC : Cx p m c cX4_cell 2 s _ RX4 base D cI cJ tS := ⟨⟨B.exec, B.bytes, hml, findClass_of_methodNamed B.named, fun w hw => atoms_spec (ws := Cond.code yX4_cell cX4_cell 2 (some .int) :: wsL_law) B.pre w (List.mem_cons_of_mem _ hw)⟩, hSt⟩
  have hl := lv_entry ([.int i0, .int i1]) (n := 2) (Nat.le_of_ble_eq_true rfl)
  rw [lg_entry_eq]
  generalize (lg_sl ([.int i0, .int i1]) ++ List.replicate (2 - (lg_sl ([.int i0, .int i1])).length) Slot.unset).toArray = ls at hl ⊢
  exact X4_cell_k0 hC B.returns B.notSynchronized h hP va_S.rf hl
-- ===== X0_layLatenesses
set_option maxRecDepth 100000 in
set_option maxHeartbeats 4000000 in
theorem X0_layLatenesses_k52 (hC : Cx p m c cX0_layLatenesses 4 s args RX0 base D cI cJ tS) (hr : meth.sig.returnType = none) (hlocks : meth.locks = false) {n : Nat} (ih : (∀ {a0 : Nat} {a1 : Nat} {i2 : Int32} {i3 : Int32} {σ : Sg} {τ : Sg} {H : Heap} {locs : List Loc} {ls : Array Slot}, X0_layLatenesses_run n a0 a1 i2 i3 σ = some τ → Dy base D cI cJ σ H → va_S (fun q => base ≤ q) s.heap H locs → lv_has ls 4 [(0, .ref (base + a0)), (1, .ref (base + a1)), (2, .int i2), (3, .int i3)] → W p l e (rmD 1 0 0) s m args below meth c H locs 0 0 (MQ below (QwV base D cI cJ τ) args s 0 0 (fun q => base ≤ q)) (F0 m 10 ls []))) {a0 : Nat} {a1 : Nat} {i2 : Int32} {i3 : Int32} {σ : Sg} {τ : Sg} {H : Heap} {locs : List Loc} {ls : Array Slot} (h : X0_layLatenesses_b52 n (X0_layLatenesses_run n) a0 a1 i2 i3 σ = some τ) : Dy base D cI cJ σ H → va_S (fun q => base ≤ q) s.heap H locs → lv_has ls 4 [(0, .ref (base + a0)), (1, .ref (base + a1)), (2, .int i2), (3, .int i3)] → W p l e (rmD 1 0 0) s m args below meth c H locs 0 0 (MQ below (QwV base D cI cJ τ) args s 0 0 (fun q => base ≤ q)) (F0 m 52 ls []) := by
  intro hP hS hl
  obtain ⟨hx, hb, hml, hown, hts⟩ := hC.1
  unfold X0_layLatenesses_b52 at h
  obtain ⟨i3_1, hi3_1, h⟩ := obn h
  refine lv_iinc (v := i3_1) (lv' := [(3, .int i3_1), (0, .ref (base + a0)), (1, .ref (base + a1)), (2, .int i2)]) hx hb dX0_layLatenesses_52 hl (k := 3) rfl (Option.some.inj hi3_1) (by decide) rfl (fun ls hl => ?_)
  refine lv_goto (tgt := 10) hx hb dX0_layLatenesses_55 (by decide) ?_
  exact ih h hP hS (lv_sub hl [1, 2, 3, 0] rfl)
set_option maxRecDepth 100000 in
set_option maxHeartbeats 4000000 in
theorem X0_layLatenesses_k10 (hC : Cx p m c cX0_layLatenesses 4 s args RX0 base D cI cJ tS) (hr : meth.sig.returnType = none) (hlocks : meth.locks = false) {n : Nat} (ih : (∀ {a0 : Nat} {a1 : Nat} {i2 : Int32} {i3 : Int32} {σ : Sg} {τ : Sg} {H : Heap} {locs : List Loc} {ls : Array Slot}, X0_layLatenesses_run n a0 a1 i2 i3 σ = some τ → Dy base D cI cJ σ H → va_S (fun q => base ≤ q) s.heap H locs → lv_has ls 4 [(0, .ref (base + a0)), (1, .ref (base + a1)), (2, .int i2), (3, .int i3)] → W p l e (rmD 1 0 0) s m args below meth c H locs 0 0 (MQ below (QwV base D cI cJ τ) args s 0 0 (fun q => base ≤ q)) (F0 m 10 ls []))) {a0 : Nat} {a1 : Nat} {i2 : Int32} {i3 : Int32} {σ : Sg} {τ : Sg} {H : Heap} {locs : List Loc} {ls : Array Slot} (h : X0_layLatenesses_b10 n (X0_layLatenesses_run n) a0 a1 i2 i3 σ = some τ) : Dy base D cI cJ σ H → va_S (fun q => base ≤ q) s.heap H locs → lv_has ls 4 [(0, .ref (base + a0)), (1, .ref (base + a1)), (2, .int i2), (3, .int i3)] → W p l e (rmD 1 0 0) s m args below meth c H locs 0 0 (MQ below (QwV base D cI cJ τ) args s 0 0 (fun q => base ≤ q)) (F0 m 10 ls []) := by
  intro hP hS hl
  obtain ⟨hx, hb, hml, hown, hts⟩ := hC.1
  unfold X0_layLatenesses_b10 at h
  refine lv_iload_n hx hb dX0_layLatenesses_10 rfl (lv_at hl 3 rfl) ?_
  refine lv_aload_n hx hb dX0_layLatenesses_11 rfl (lv_at hl 1 rfl) ?_
  obtain ⟨v_2, hv_2, h⟩ := obn h
  refine w_getI (ci := 1) (j := 11) hC hP rfl inlX1 (by decide) (by decide) rfl hv_2 wl_146 dX0_layLatenesses_12 ?_
  refine lv_icmp_ge (tgt := 58) hx hb dX0_layLatenesses_15 (by decide) (fun c_3 => ?_) (fun c_3 => ?_)
  · rw [if_pos c_3] at h
    obtain rfl := Option.some.inj h
    exact w_vret hC hr hlocks hP hS dX0_layLatenesses_58
  · rw [if_neg c_3] at h
    refine lv_iload_n hx hb dX0_layLatenesses_18 rfl (lv_at hl 3 rfl) ?_
    refine lv_iload_n hx hb dX0_layLatenesses_19 rfl (lv_at hl 2 rfl) ?_
    refine lv_icmp_eq (tgt := 52) hx hb dX0_layLatenesses_20 (by decide) (fun c_4 => ?_) (fun c_4 => ?_)
    · rw [if_pos c_4] at h
      exact X0_layLatenesses_k52 hC hr hlocks ih h hP hS (lv_sub hl [0, 1, 2, 3] rfl)
    · rw [if_neg c_4] at h
      refine lv_aload_n hx hb dX0_layLatenesses_23 rfl (lv_at hl 0 rfl) ?_
      obtain ⟨q_5, hq_5, h⟩ := obn h
      refine w_getR (ci := 0) (j := 6) hC hP rfl inlX0 (by decide) (by decide) rfl hq_5 wl_27 dX0_layLatenesses_24 ?_
      refine lv_aload_n hx hb dX0_layLatenesses_27 rfl (lv_at hl 1 rfl) ?_
      obtain ⟨q_6, hq_6, h⟩ := obn h
      refine w_getR (ci := 1) (j := 8) hC hP rfl inlX1 (by decide) (by decide) rfl hq_6 wl_147 dX0_layLatenesses_28 ?_
      refine lv_iload_n hx hb dX0_layLatenesses_31 rfl (lv_at hl 3 rfl) ?_
      obtain ⟨v_7, hv_7, h⟩ := obn h
      refine w_iald hC hP hv_7 dX0_layLatenesses_32 ?_
      refine lv_aload_n hx hb dX0_layLatenesses_33 rfl (lv_at hl 1 rfl) ?_
      obtain ⟨q_8, hq_8, h⟩ := obn h
      refine w_getR (ci := 1) (j := 9) hC hP rfl inlX1 (by decide) (by decide) rfl hq_8 wl_148 dX0_layLatenesses_34 ?_
      refine lv_iload_n hx hb dX0_layLatenesses_37 rfl (lv_at hl 3 rfl) ?_
      obtain ⟨v_9, hv_9, h⟩ := obn h
      refine w_iald hC hP hv_9 dX0_layLatenesses_38 ?_
      obtain ⟨w_10, hw_10, h⟩ := obn h
      refine k_I (r_statN (As := [.int v_7, .int v_9]) (rest := [.ref (base + q_5)]) hC hP hS (c_X4_cell (l := l) (base := base) (D := D) (cI := cI) (cJ := cJ) (tS := tS) hw_10) hC.2.2.1.2.2.2 wl_150 wl_98 wl_149 rfl rfl hd_X4_cell ⟨Nat.le_of_ble_eq_true rfl, Nat.le_of_ble_eq_true rfl⟩ rfl hl.1 rfl (Nat.le_of_ble_eq_true rfl) dX0_layLatenesses_39 ⟨Nat.le_of_ble_eq_true rfl, Nat.le_of_ble_eq_true rfl⟩) hS (fun H locs hP hS => ?_)
      refine lv_dup2_11 hx hb dX0_layLatenesses_42 rfl rfl ?_
      obtain ⟨v_11, hv_11, h⟩ := obn h
      refine w_iald hC hP hv_11 dX0_layLatenesses_43 ?_
      refine lv_aload_n hx hb dX0_layLatenesses_44 rfl (lv_at hl 1 rfl) ?_
      obtain ⟨q_12, hq_12, h⟩ := obn h
      refine w_getR (ci := 1) (j := 10) hC hP rfl inlX1 (by decide) (by decide) rfl hq_12 wl_151 dX0_layLatenesses_45 ?_
      refine lv_iload_n hx hb dX0_layLatenesses_48 rfl (lv_at hl 3 rfl) ?_
      obtain ⟨v_13, hv_13, h⟩ := obn h
      refine w_iald hC hP hv_13 dX0_layLatenesses_49 ?_
      refine lv_iadd hx hb dX0_layLatenesses_50 ?_
      obtain ⟨s_14, hs_14, h⟩ := obn h
      refine w_iast hC hP hS hs_14 dX0_layLatenesses_51 (fun H locs hP hS => ?_)
      exact X0_layLatenesses_k52 hC hr hlocks ih h hP hS (lv_sub hl [0, 1, 2, 3] rfl)
set_option maxRecDepth 100000 in
set_option maxHeartbeats 4000000 in
theorem X0_layLatenesses_k0 (hC : Cx p m c cX0_layLatenesses 4 s args RX0 base D cI cJ tS) (hr : meth.sig.returnType = none) (hlocks : meth.locks = false) {n : Nat} (ih : (∀ {a0 : Nat} {a1 : Nat} {i2 : Int32} {i3 : Int32} {σ : Sg} {τ : Sg} {H : Heap} {locs : List Loc} {ls : Array Slot}, X0_layLatenesses_run n a0 a1 i2 i3 σ = some τ → Dy base D cI cJ σ H → va_S (fun q => base ≤ q) s.heap H locs → lv_has ls 4 [(0, .ref (base + a0)), (1, .ref (base + a1)), (2, .int i2), (3, .int i3)] → W p l e (rmD 1 0 0) s m args below meth c H locs 0 0 (MQ below (QwV base D cI cJ τ) args s 0 0 (fun q => base ≤ q)) (F0 m 10 ls []))) {a0 : Nat} {a1 : Nat} {i2 : Int32} {σ : Sg} {τ : Sg} {H : Heap} {locs : List Loc} {ls : Array Slot} (h : X0_layLatenesses_b0 n (X0_layLatenesses_run n) a0 a1 i2 σ = some τ) : Dy base D cI cJ σ H → va_S (fun q => base ≤ q) s.heap H locs → lv_has ls 4 [(0, .ref (base + a0)), (1, .ref (base + a1)), (2, .int i2)] → W p l e (rmD 1 0 0) s m args below meth c H locs 0 0 (MQ below (QwV base D cI cJ τ) args s 0 0 (fun q => base ≤ q)) (F0 m 0 ls []) := by
  intro hP hS hl
  obtain ⟨hx, hb, hml, hown, hts⟩ := hC.1
  unfold X0_layLatenesses_b0 at h
  refine lv_aload_n hx hb dX0_layLatenesses_0 rfl (lv_at hl 0 rfl) ?_
  obtain ⟨q_15, hq_15, h⟩ := obn h
  refine w_getR (ci := 0) (j := 6) hC hP rfl inlX0 (by decide) (by decide) rfl hq_15 wl_27 dX0_layLatenesses_1 ?_
  refine lv_iconst (v := 0) hx hb dX0_layLatenesses_4 (by decide) ?_
  obtain ⟨w_16, hw_16, h⟩ := obn h
  refine k_V (r_stat (As := [.ref (base + q_15), .int 0]) (rest := []) hC hP hS (c_J7_fill_53178 (l := l) (base := base) (D := D) (cI := cI) (cJ := cJ) (tS := tS) hw_16) wl_152 wl_16 wl_17 wl_14 rfl rfl hd_J7_fill_53178 ⟨Nat.le_of_ble_eq_true rfl, Nat.le_of_ble_eq_true rfl⟩ rfl hl.1 rfl (Nat.le_of_ble_eq_true rfl) dX0_layLatenesses_5 ⟨Nat.le_of_ble_eq_true rfl, Nat.le_of_ble_eq_true rfl⟩) hS (fun H locs hP hS => ?_)
  refine lv_iconst (v := 0) hx hb dX0_layLatenesses_8 (by decide) ?_
  refine lv_istore_n (lv' := [(3, .int 0), (0, .ref (base + a0)), (1, .ref (base + a1)), (2, .int i2)]) hx hb dX0_layLatenesses_9 rfl hl (by decide) rfl (fun ls hl => ?_)
  exact ih h hP hS (lv_sub hl [1, 2, 3, 0] rfl)
set_option maxRecDepth 100000 in
set_option maxHeartbeats 4000000 in
theorem X0_layLatenesses_all (hC : Cx p m c cX0_layLatenesses 4 s args RX0 base D cI cJ tS) (hr : meth.sig.returnType = none) (hlocks : meth.locks = false) : ∀ n : Nat, (∀ {a0 : Nat} {a1 : Nat} {i2 : Int32} {i3 : Int32} {σ : Sg} {τ : Sg} {H : Heap} {locs : List Loc} {ls : Array Slot}, X0_layLatenesses_run n a0 a1 i2 i3 σ = some τ → Dy base D cI cJ σ H → va_S (fun q => base ≤ q) s.heap H locs → lv_has ls 4 [(0, .ref (base + a0)), (1, .ref (base + a1)), (2, .int i2), (3, .int i3)] → W p l e (rmD 1 0 0) s m args below meth c H locs 0 0 (MQ below (QwV base D cI cJ τ) args s 0 0 (fun q => base ≤ q)) (F0 m 10 ls [])) := by
  intro n
  induction n with
  | zero => exact fun h => (by cases h)
  | succ n ih => exact fun h => X0_layLatenesses_k10 hC hr hlocks ih h
set_option maxRecDepth 100000 in
set_option maxHeartbeats 4000000 in
theorem c_X0_layLatenesses {l : Launch} {base : Nat} {D : va_G} {cI cJ : ClassId} {tS : Nat} {n : Nat} {a0 : Nat} {a1 : Nat} {i2 : Int32} {σ : Sg} {τ : Sg} (h : f_X0_layLatenesses n a0 a1 i2 σ = some τ) : Met l yX0_layLatenesses (.code yX0_layLatenesses cX0_layLatenesses 4 none :: wsL_law) (rmD 1 0 0) (Pw base D cI cJ tS σ [.ref (base + a0), .ref (base + a1), .int i2]) (QwV base D cI cJ τ) 0 0 (fun q => base ≤ q) := by
  refine Met.ofW (cc := cX0_layLatenesses) (maxL := 4) (ret := none) (by decide) rfl ?_
  intro p e s m args below meth c s₁ B hml hv
  obtain ⟨rfl, hSt, hP⟩ := hv
  have hC : Cx p m c cX0_layLatenesses 4 s _ RX0 base D cI cJ tS := ⟨⟨B.exec, B.bytes, hml, findClass_of_methodNamed B.named, fun w hw => atoms_spec (ws := Cond.code yX0_layLatenesses cX0_layLatenesses 4 none :: wsL_law) B.pre w (List.mem_cons_of_mem _ hw)⟩, hSt⟩
  have hl := lv_entry ([.ref (base + a0), .ref (base + a1), .int i2]) (n := 4) (Nat.le_of_ble_eq_true rfl)
  rw [lg_entry_eq]
  generalize (lg_sl ([.ref (base + a0), .ref (base + a1), .int i2]) ++ List.replicate (4 - (lg_sl ([.ref (base + a0), .ref (base + a1), .int i2])).length) Slot.unset).toArray = ls at hl ⊢
  exact X0_layLatenesses_k0 hC B.returns B.notSynchronized (X0_layLatenesses_all hC B.returns B.notSynchronized n) h hP va_S.rf hl
-- ===== J7_fill_d0a16
set_option maxRecDepth 100000 in
set_option maxHeartbeats 4000000 in
theorem J7_fill_d0a16_k6 (hC : Cx p m c cJ7_fill_d0a16 5 s args RJ7 base D cI cJ tS) (hr : meth.sig.returnType = none) (hlocks : meth.locks = false) {n : Nat} (ih : (∀ {a0 : Nat} {j1 : Int64} {i3 : Int32} {i4 : Int32} {σ : Sg} {τ : Sg} {H : Heap} {locs : List Loc} {ls : Array Slot}, J7_fill_d0a16_run n a0 j1 i3 i4 σ = some τ → Dy base D cI cJ σ H → va_S (fun q => base ≤ q) s.heap H locs → lv_has ls 5 [(0, .ref (base + a0)), (1, .long j1), (3, .int i3), (4, .int i4)] → W p l e (rmD 0 0 0) s m args below meth c H locs 0 0 (MQ below (QwV base D cI cJ τ) args s 0 0 (fun q => base ≤ q)) (F0 m 6 ls []))) {a0 : Nat} {j1 : Int64} {i3 : Int32} {i4 : Int32} {σ : Sg} {τ : Sg} {H : Heap} {locs : List Loc} {ls : Array Slot} (h : J7_fill_d0a16_b6 n (J7_fill_d0a16_run n) a0 j1 i3 i4 σ = some τ) : Dy base D cI cJ σ H → va_S (fun q => base ≤ q) s.heap H locs → lv_has ls 5 [(0, .ref (base + a0)), (1, .long j1), (3, .int i3), (4, .int i4)] → W p l e (rmD 0 0 0) s m args below meth c H locs 0 0 (MQ below (QwV base D cI cJ τ) args s 0 0 (fun q => base ≤ q)) (F0 m 6 ls []) := by
  intro hP hS hl
  obtain ⟨hx, hb, hml, hown, hts⟩ := hC.1
  unfold J7_fill_d0a16_b6 at h
  refine lv_iload_n hx hb dJ7_fill_d0a16_6 rfl (lv_at hl 2 rfl) ?_
  refine lv_iload hx hb dJ7_fill_d0a16_7 (lv_at hl 3 rfl) ?_
  refine lv_icmp_ge (tgt := 22) hx hb dJ7_fill_d0a16_9 (by decide) (fun c_1 => ?_) (fun c_1 => ?_)
  · rw [if_pos c_1] at h
    obtain rfl := Option.some.inj h
    exact w_vret hC hr hlocks hP hS dJ7_fill_d0a16_22
  · rw [if_neg c_1] at h
    refine lv_aload_n hx hb dJ7_fill_d0a16_12 rfl (lv_at hl 0 rfl) ?_
    refine lv_iload_n hx hb dJ7_fill_d0a16_13 rfl (lv_at hl 2 rfl) ?_
    refine lv_lload_n hx hb dJ7_fill_d0a16_14 rfl (lv_at hl 1 rfl) ?_
    obtain ⟨s_2, hs_2, h⟩ := obn h
    refine w_last hC hP hS hs_2 dJ7_fill_d0a16_15 (fun H locs hP hS => ?_)
    obtain ⟨i3_3, hi3_3, h⟩ := obn h
    refine lv_iinc (v := i3_3) (lv' := [(3, .int i3_3), (0, .ref (base + a0)), (1, .long j1), (4, .int i4)]) hx hb dJ7_fill_d0a16_16 hl (k := 2) rfl (Option.some.inj hi3_3) (by decide) rfl (fun ls hl => ?_)
    refine lv_goto (tgt := 6) hx hb dJ7_fill_d0a16_19 (by decide) ?_
    exact ih h hP hS (lv_sub hl [1, 2, 0, 3] rfl)
set_option maxRecDepth 100000 in
set_option maxHeartbeats 4000000 in
theorem J7_fill_d0a16_k0 (hC : Cx p m c cJ7_fill_d0a16 5 s args RJ7 base D cI cJ tS) (hr : meth.sig.returnType = none) (hlocks : meth.locks = false) {n : Nat} (ih : (∀ {a0 : Nat} {j1 : Int64} {i3 : Int32} {i4 : Int32} {σ : Sg} {τ : Sg} {H : Heap} {locs : List Loc} {ls : Array Slot}, J7_fill_d0a16_run n a0 j1 i3 i4 σ = some τ → Dy base D cI cJ σ H → va_S (fun q => base ≤ q) s.heap H locs → lv_has ls 5 [(0, .ref (base + a0)), (1, .long j1), (3, .int i3), (4, .int i4)] → W p l e (rmD 0 0 0) s m args below meth c H locs 0 0 (MQ below (QwV base D cI cJ τ) args s 0 0 (fun q => base ≤ q)) (F0 m 6 ls []))) {a0 : Nat} {j1 : Int64} {σ : Sg} {τ : Sg} {H : Heap} {locs : List Loc} {ls : Array Slot} (h : J7_fill_d0a16_b0 n (J7_fill_d0a16_run n) a0 j1 σ = some τ) : Dy base D cI cJ σ H → va_S (fun q => base ≤ q) s.heap H locs → lv_has ls 5 [(0, .ref (base + a0)), (1, .long j1)] → W p l e (rmD 0 0 0) s m args below meth c H locs 0 0 (MQ below (QwV base D cI cJ τ) args s 0 0 (fun q => base ≤ q)) (F0 m 0 ls []) := by
  intro hP hS hl
  obtain ⟨hx, hb, hml, hown, hts⟩ := hC.1
  unfold J7_fill_d0a16_b0 at h
  refine lv_iconst (v := 0) hx hb dJ7_fill_d0a16_0 (by decide) ?_
  refine lv_istore_n (lv' := [(3, .int 0), (0, .ref (base + a0)), (1, .long j1)]) hx hb dJ7_fill_d0a16_1 rfl hl (by decide) rfl (fun ls hl => ?_)
  refine lv_aload_n hx hb dJ7_fill_d0a16_2 rfl (lv_at hl 1 rfl) ?_
  obtain ⟨v_4, hv_4, h⟩ := obn h
  refine w_alen hC hP hv_4 dJ7_fill_d0a16_3 ?_
  refine lv_istore (lv' := [(4, .int v_4), (3, .int 0), (0, .ref (base + a0)), (1, .long j1)]) hx hb dJ7_fill_d0a16_4 hl (by decide) rfl (fun ls hl => ?_)
  exact ih h hP hS (lv_sub hl [2, 3, 1, 0] rfl)
set_option maxRecDepth 100000 in
set_option maxHeartbeats 4000000 in
theorem J7_fill_d0a16_all (hC : Cx p m c cJ7_fill_d0a16 5 s args RJ7 base D cI cJ tS) (hr : meth.sig.returnType = none) (hlocks : meth.locks = false) : ∀ n : Nat, (∀ {a0 : Nat} {j1 : Int64} {i3 : Int32} {i4 : Int32} {σ : Sg} {τ : Sg} {H : Heap} {locs : List Loc} {ls : Array Slot}, J7_fill_d0a16_run n a0 j1 i3 i4 σ = some τ → Dy base D cI cJ σ H → va_S (fun q => base ≤ q) s.heap H locs → lv_has ls 5 [(0, .ref (base + a0)), (1, .long j1), (3, .int i3), (4, .int i4)] → W p l e (rmD 0 0 0) s m args below meth c H locs 0 0 (MQ below (QwV base D cI cJ τ) args s 0 0 (fun q => base ≤ q)) (F0 m 6 ls [])) := by
  intro n
  induction n with
  | zero => exact fun h => (by cases h)
  | succ n ih => exact fun h => J7_fill_d0a16_k6 hC hr hlocks ih h
set_option maxRecDepth 100000 in
set_option maxHeartbeats 4000000 in
theorem c_J7_fill_d0a16 {l : Launch} {base : Nat} {D : va_G} {cI cJ : ClassId} {tS : Nat} {n : Nat} {a0 : Nat} {j1 : Int64} {σ : Sg} {τ : Sg} (h : f_J7_fill_d0a16 n a0 j1 σ = some τ) : Met l yJ7_fill_d0a16 (.code yJ7_fill_d0a16 cJ7_fill_d0a16 5 none :: wsL_law) (rmD 0 0 0) (Pw base D cI cJ tS σ [.ref (base + a0), .long j1]) (QwV base D cI cJ τ) 0 0 (fun q => base ≤ q) := by
  refine Met.ofW (cc := cJ7_fill_d0a16) (maxL := 5) (ret := none) (by decide) rfl ?_
  intro p e s m args below meth c s₁ B hml hv
  obtain ⟨rfl, hSt, hP⟩ := hv
  have hC : Cx p m c cJ7_fill_d0a16 5 s _ RJ7 base D cI cJ tS := ⟨⟨B.exec, B.bytes, hml, findClass_of_methodNamed B.named, fun w hw => atoms_spec (ws := Cond.code yJ7_fill_d0a16 cJ7_fill_d0a16 5 none :: wsL_law) B.pre w (List.mem_cons_of_mem _ hw)⟩, hSt⟩
  have hl := lv_entry ([.ref (base + a0), .long j1]) (n := 5) (Nat.le_of_ble_eq_true rfl)
  rw [lg_entry_eq]
  generalize (lg_sl ([.ref (base + a0), .long j1]) ++ List.replicate (5 - (lg_sl ([.ref (base + a0), .long j1])).length) Slot.unset).toArray = ls at hl ⊢
  exact J7_fill_d0a16_k0 hC B.returns B.notSynchronized (J7_fill_d0a16_all hC B.returns B.notSynchronized n) h hP va_S.rf hl
-- ===== X0_putInOrder
set_option maxRecDepth 100000 in
set_option maxHeartbeats 4000000 in
theorem X0_putInOrder_k56 (hC : Cx p m c cX0_putInOrder 6 s args RX0 base D cI cJ tS) (hr : meth.sig.returnType = none) (hlocks : meth.locks = false) {n : Nat} (ih : (∀ {a0 : Nat} {a1 : Nat} {i2 : Int32} {i3 : Int32} {i5 : Int32} {σ : Sg} {τ : Sg} {H : Heap} {locs : List Loc} {ls : Array Slot}, X0_putInOrder_run n a0 a1 i2 i3 i5 σ = some τ → Dy base D cI cJ σ H → va_S (fun q => base ≤ q) s.heap H locs → lv_has ls 6 [(0, .ref (base + a0)), (1, .ref (base + a1)), (2, .int i2), (3, .int i3), (5, .int i5)] → W p l e (rmD 1 0 0) s m args below meth c H locs 0 0 (MQ below (QwV base D cI cJ τ) args s 0 0 (fun q => base ≤ q)) (F0 m 4 ls []))) {a0 : Nat} {i3 : Int32} {i5 : Int32} {σ : Sg} {τ : Sg} {H : Heap} {locs : List Loc} {ls : Array Slot} (h : X0_putInOrder_b56 n (X0_putInOrder_run n) a0 i3 i5 σ = some τ) : Dy base D cI cJ σ H → va_S (fun q => base ≤ q) s.heap H locs → lv_has ls 6 [(0, .ref (base + a0)), (3, .int i3), (5, .int i5)] → W p l e (rmD 1 0 0) s m args below meth c H locs 0 0 (MQ below (QwV base D cI cJ τ) args s 0 0 (fun q => base ≤ q)) (F0 m 56 ls []) := by
  intro hP hS hl
  obtain ⟨hx, hb, hml, hown, hts⟩ := hC.1
  unfold X0_putInOrder_b56 at h
  refine lv_aload_n hx hb dX0_putInOrder_56 rfl (lv_at hl 0 rfl) ?_
  obtain ⟨q_1, hq_1, h⟩ := obn h
  refine w_getR (ci := 0) (j := 12) hC hP rfl inlX0 (by decide) (by decide) rfl hq_1 wl_32 dX0_putInOrder_57 ?_
  refine lv_iload hx hb dX0_putInOrder_60 (lv_at hl 2 rfl) ?_
  refine lv_iload_n hx hb dX0_putInOrder_62 rfl (lv_at hl 1 rfl) ?_
  obtain ⟨s_2, hs_2, h⟩ := obn h
  refine w_iast hC hP hS hs_2 dX0_putInOrder_63 (fun H locs hP hS => ?_)
  obtain rfl := Option.some.inj h
  exact w_vret hC hr hlocks hP hS dX0_putInOrder_64
set_option maxRecDepth 100000 in
set_option maxHeartbeats 4000000 in
theorem X0_putInOrder_k4 (hC : Cx p m c cX0_putInOrder 6 s args RX0 base D cI cJ tS) (hr : meth.sig.returnType = none) (hlocks : meth.locks = false) {n : Nat} (ih : (∀ {a0 : Nat} {a1 : Nat} {i2 : Int32} {i3 : Int32} {i5 : Int32} {σ : Sg} {τ : Sg} {H : Heap} {locs : List Loc} {ls : Array Slot}, X0_putInOrder_run n a0 a1 i2 i3 i5 σ = some τ → Dy base D cI cJ σ H → va_S (fun q => base ≤ q) s.heap H locs → lv_has ls 6 [(0, .ref (base + a0)), (1, .ref (base + a1)), (2, .int i2), (3, .int i3), (5, .int i5)] → W p l e (rmD 1 0 0) s m args below meth c H locs 0 0 (MQ below (QwV base D cI cJ τ) args s 0 0 (fun q => base ≤ q)) (F0 m 4 ls []))) {a0 : Nat} {a1 : Nat} {i2 : Int32} {i3 : Int32} {i5 : Int32} {σ : Sg} {τ : Sg} {H : Heap} {locs : List Loc} {ls : Array Slot} (h : X0_putInOrder_b4 n (X0_putInOrder_run n) a0 a1 i2 i3 i5 σ = some τ) : Dy base D cI cJ σ H → va_S (fun q => base ≤ q) s.heap H locs → lv_has ls 6 [(0, .ref (base + a0)), (1, .ref (base + a1)), (2, .int i2), (3, .int i3), (5, .int i5)] → W p l e (rmD 1 0 0) s m args below meth c H locs 0 0 (MQ below (QwV base D cI cJ τ) args s 0 0 (fun q => base ≤ q)) (F0 m 4 ls []) := by
  intro hP hS hl
  obtain ⟨hx, hb, hml, hown, hts⟩ := hC.1
  unfold X0_putInOrder_b4 at h
  refine lv_iload hx hb dX0_putInOrder_4 (lv_at hl 4 rfl) ?_
  refine lv_if_le (tgt := 56) hx hb dX0_putInOrder_6 (by decide) (fun c_3 => ?_) (fun c_3 => ?_)
  · rw [if_pos c_3] at h
    exact X0_putInOrder_k56 hC hr hlocks ih h hP hS (lv_sub hl [0, 3, 4] rfl)
  · rw [if_neg c_3] at h
    refine lv_aload_n hx hb dX0_putInOrder_9 rfl (lv_at hl 1 rfl) ?_
    refine lv_aload_n hx hb dX0_putInOrder_10 rfl (lv_at hl 0 rfl) ?_
    obtain ⟨q_4, hq_4, h⟩ := obn h
    refine w_getR (ci := 0) (j := 12) hC hP rfl inlX0 (by decide) (by decide) rfl hq_4 wl_32 dX0_putInOrder_11 ?_
    refine lv_iload hx hb dX0_putInOrder_14 (lv_at hl 4 rfl) ?_
    refine lv_iconst (v := 1) hx hb dX0_putInOrder_16 (by decide) ?_
    refine lv_isub hx hb dX0_putInOrder_17 ?_
    obtain ⟨v_5, hv_5, h⟩ := obn h
    refine w_iald hC hP hv_5 dX0_putInOrder_18 ?_
    refine lv_iload_n hx hb dX0_putInOrder_19 rfl (lv_at hl 2 rfl) ?_
    obtain ⟨w_6, hw_6, h⟩ := obn h
    refine k_I (r_statN (As := [.int v_5, .int i2]) (rest := [.ref (base + a1)]) hC hP hS (c_X4_cell (l := l) (base := base) (D := D) (cI := cI) (cJ := cJ) (tS := tS) hw_6) hC.2.2.1.2.2.2 wl_150 wl_98 wl_149 rfl rfl hd_X4_cell ⟨Nat.le_of_ble_eq_true rfl, Nat.le_of_ble_eq_true rfl⟩ rfl hl.1 rfl (Nat.le_of_ble_eq_true rfl) dX0_putInOrder_20 ⟨Nat.le_of_ble_eq_true rfl, Nat.le_of_ble_eq_true rfl⟩) hS (fun H locs hP hS => ?_)
    obtain ⟨v_7, hv_7, h⟩ := obn h
    refine w_iald hC hP hv_7 dX0_putInOrder_23 ?_
    refine lv_aload_n hx hb dX0_putInOrder_24 rfl (lv_at hl 1 rfl) ?_
    refine lv_iload_n hx hb dX0_putInOrder_25 rfl (lv_at hl 3 rfl) ?_
    refine lv_iload_n hx hb dX0_putInOrder_26 rfl (lv_at hl 2 rfl) ?_
    obtain ⟨w_8, hw_8, h⟩ := obn h
    refine k_I (r_statN (As := [.int i3, .int i2]) (rest := [.ref (base + a1), .int v_7]) hC hP hS (c_X4_cell (l := l) (base := base) (D := D) (cI := cI) (cJ := cJ) (tS := tS) hw_8) hC.2.2.1.2.2.2 wl_150 wl_98 wl_149 rfl rfl hd_X4_cell ⟨Nat.le_of_ble_eq_true rfl, Nat.le_of_ble_eq_true rfl⟩ rfl hl.1 rfl (Nat.le_of_ble_eq_true rfl) dX0_putInOrder_27 ⟨Nat.le_of_ble_eq_true rfl, Nat.le_of_ble_eq_true rfl⟩) hS (fun H locs hP hS => ?_)
    obtain ⟨v_9, hv_9, h⟩ := obn h
    refine w_iald hC hP hv_9 dX0_putInOrder_30 ?_
    refine lv_icmp_le (tgt := 56) hx hb dX0_putInOrder_31 (by decide) (fun c_10 => ?_) (fun c_10 => ?_)
    · rw [if_pos c_10] at h
      exact X0_putInOrder_k56 hC hr hlocks ih h hP hS (lv_sub hl [0, 3, 4] rfl)
    · rw [if_neg c_10] at h
      refine lv_aload_n hx hb dX0_putInOrder_34 rfl (lv_at hl 0 rfl) ?_
      obtain ⟨q_11, hq_11, h⟩ := obn h
      refine w_getR (ci := 0) (j := 12) hC hP rfl inlX0 (by decide) (by decide) rfl hq_11 wl_32 dX0_putInOrder_35 ?_
      refine lv_iload hx hb dX0_putInOrder_38 (lv_at hl 4 rfl) ?_
      refine lv_aload_n hx hb dX0_putInOrder_40 rfl (lv_at hl 0 rfl) ?_
      obtain ⟨q_12, hq_12, h⟩ := obn h
      refine w_getR (ci := 0) (j := 12) hC hP rfl inlX0 (by decide) (by decide) rfl hq_12 wl_32 dX0_putInOrder_41 ?_
      refine lv_iload hx hb dX0_putInOrder_44 (lv_at hl 4 rfl) ?_
      refine lv_iconst (v := 1) hx hb dX0_putInOrder_46 (by decide) ?_
      refine lv_isub hx hb dX0_putInOrder_47 ?_
      obtain ⟨v_13, hv_13, h⟩ := obn h
      refine w_iald hC hP hv_13 dX0_putInOrder_48 ?_
      obtain ⟨s_14, hs_14, h⟩ := obn h
      refine w_iast hC hP hS hs_14 dX0_putInOrder_49 (fun H locs hP hS => ?_)
      obtain ⟨i5_15, hi5_15, h⟩ := obn h
      refine lv_iinc (v := i5_15) (lv' := [(5, .int i5_15), (0, .ref (base + a0)), (1, .ref (base + a1)), (2, .int i2), (3, .int i3)]) hx hb dX0_putInOrder_50 hl (k := 4) rfl (Option.some.inj hi5_15) (by decide) rfl (fun ls hl => ?_)
      refine lv_goto (tgt := 4) hx hb dX0_putInOrder_53 (by decide) ?_
      exact ih h hP hS (lv_sub hl [1, 2, 3, 4, 0] rfl)
set_option maxRecDepth 100000 in
set_option maxHeartbeats 4000000 in
theorem X0_putInOrder_k0 (hC : Cx p m c cX0_putInOrder 6 s args RX0 base D cI cJ tS) (hr : meth.sig.returnType = none) (hlocks : meth.locks = false) {n : Nat} (ih : (∀ {a0 : Nat} {a1 : Nat} {i2 : Int32} {i3 : Int32} {i5 : Int32} {σ : Sg} {τ : Sg} {H : Heap} {locs : List Loc} {ls : Array Slot}, X0_putInOrder_run n a0 a1 i2 i3 i5 σ = some τ → Dy base D cI cJ σ H → va_S (fun q => base ≤ q) s.heap H locs → lv_has ls 6 [(0, .ref (base + a0)), (1, .ref (base + a1)), (2, .int i2), (3, .int i3), (5, .int i5)] → W p l e (rmD 1 0 0) s m args below meth c H locs 0 0 (MQ below (QwV base D cI cJ τ) args s 0 0 (fun q => base ≤ q)) (F0 m 4 ls []))) {a0 : Nat} {a1 : Nat} {i2 : Int32} {i3 : Int32} {i4 : Int32} {σ : Sg} {τ : Sg} {H : Heap} {locs : List Loc} {ls : Array Slot} (h : X0_putInOrder_b0 n (X0_putInOrder_run n) a0 a1 i2 i3 i4 σ = some τ) : Dy base D cI cJ σ H → va_S (fun q => base ≤ q) s.heap H locs → lv_has ls 6 [(0, .ref (base + a0)), (1, .ref (base + a1)), (2, .int i2), (3, .int i3), (4, .int i4)] → W p l e (rmD 1 0 0) s m args below meth c H locs 0 0 (MQ below (QwV base D cI cJ τ) args s 0 0 (fun q => base ≤ q)) (F0 m 0 ls []) := by
  intro hP hS hl
  obtain ⟨hx, hb, hml, hown, hts⟩ := hC.1
  unfold X0_putInOrder_b0 at h
  refine lv_iload hx hb dX0_putInOrder_0 (lv_at hl 4 rfl) ?_
  refine lv_istore (lv' := [(5, .int i4), (0, .ref (base + a0)), (1, .ref (base + a1)), (2, .int i2), (3, .int i3), (4, .int i4)]) hx hb dX0_putInOrder_2 hl (by decide) rfl (fun ls hl => ?_)
  exact ih h hP hS (lv_sub hl [1, 2, 3, 4, 0] rfl)
set_option maxRecDepth 100000 in
set_option maxHeartbeats 4000000 in
theorem X0_putInOrder_all (hC : Cx p m c cX0_putInOrder 6 s args RX0 base D cI cJ tS) (hr : meth.sig.returnType = none) (hlocks : meth.locks = false) : ∀ n : Nat, (∀ {a0 : Nat} {a1 : Nat} {i2 : Int32} {i3 : Int32} {i5 : Int32} {σ : Sg} {τ : Sg} {H : Heap} {locs : List Loc} {ls : Array Slot}, X0_putInOrder_run n a0 a1 i2 i3 i5 σ = some τ → Dy base D cI cJ σ H → va_S (fun q => base ≤ q) s.heap H locs → lv_has ls 6 [(0, .ref (base + a0)), (1, .ref (base + a1)), (2, .int i2), (3, .int i3), (5, .int i5)] → W p l e (rmD 1 0 0) s m args below meth c H locs 0 0 (MQ below (QwV base D cI cJ τ) args s 0 0 (fun q => base ≤ q)) (F0 m 4 ls [])) := by
  intro n
  induction n with
  | zero => exact fun h => (by cases h)
  | succ n ih => exact fun h => X0_putInOrder_k4 hC hr hlocks ih h
set_option maxRecDepth 100000 in
set_option maxHeartbeats 4000000 in
theorem c_X0_putInOrder {l : Launch} {base : Nat} {D : va_G} {cI cJ : ClassId} {tS : Nat} {n : Nat} {a0 : Nat} {a1 : Nat} {i2 : Int32} {i3 : Int32} {i4 : Int32} {σ : Sg} {τ : Sg} (h : f_X0_putInOrder n a0 a1 i2 i3 i4 σ = some τ) : Met l yX0_putInOrder (.code yX0_putInOrder cX0_putInOrder 6 none :: wsL_law) (rmD 1 0 0) (Pw base D cI cJ tS σ [.ref (base + a0), .ref (base + a1), .int i2, .int i3, .int i4]) (QwV base D cI cJ τ) 0 0 (fun q => base ≤ q) := by
  refine Met.ofW (cc := cX0_putInOrder) (maxL := 6) (ret := none) (by decide) rfl ?_
  intro p e s m args below meth c s₁ B hml hv
  obtain ⟨rfl, hSt, hP⟩ := hv
  have hC : Cx p m c cX0_putInOrder 6 s _ RX0 base D cI cJ tS := ⟨⟨B.exec, B.bytes, hml, findClass_of_methodNamed B.named, fun w hw => atoms_spec (ws := Cond.code yX0_putInOrder cX0_putInOrder 6 none :: wsL_law) B.pre w (List.mem_cons_of_mem _ hw)⟩, hSt⟩
  have hl := lv_entry ([.ref (base + a0), .ref (base + a1), .int i2, .int i3, .int i4]) (n := 6) (Nat.le_of_ble_eq_true rfl)
  rw [lg_entry_eq]
  generalize (lg_sl ([.ref (base + a0), .ref (base + a1), .int i2, .int i3, .int i4]) ++ List.replicate (6 - (lg_sl ([.ref (base + a0), .ref (base + a1), .int i2, .int i3, .int i4])).length) Slot.unset).toArray = ls at hl ⊢
  exact X0_putInOrder_k0 hC B.returns B.notSynchronized (X0_putInOrder_all hC B.returns B.notSynchronized n) h hP va_S.rf hl
-- ===== X0_orderComing
set_option maxRecDepth 100000 in
set_option maxHeartbeats 4000000 in
theorem X0_orderComing_k86 (hC : Cx p m c cX0_orderComing 6 s args RX0 base D cI cJ tS) (hr : meth.sig.returnType = (some .int)) (hlocks : meth.locks = false) {n : Nat} (ih : (∀ {a0 : Nat} {a1 : Nat} {i2 : Int32} {i3 : Int32} {i4 : Int32} {σ : Sg} {r : Int32} {τ : Sg} {H : Heap} {locs : List Loc} {ls : Array Slot}, X0_orderComing_run n a0 a1 i2 i3 i4 σ = some (r, τ) → Dy base D cI cJ σ H → va_S (fun q => base ≤ q) s.heap H locs → lv_has ls 6 [(0, .ref (base + a0)), (1, .ref (base + a1)), (2, .int i2), (3, .int i3), (4, .int i4)] → W p l e (rmD 2 0 0) s m args below meth c H locs 0 0 (MQ below (QwI base D cI cJ r τ) args s 0 0 (fun q => base ≤ q)) (F0 m 5 ls []))) {a0 : Nat} {a1 : Nat} {i2 : Int32} {i3 : Int32} {i4 : Int32} {σ : Sg} {r : Int32} {τ : Sg} {H : Heap} {locs : List Loc} {ls : Array Slot} (h : X0_orderComing_b86 n (X0_orderComing_run n) a0 a1 i2 i3 i4 σ = some (r, τ)) : Dy base D cI cJ σ H → va_S (fun q => base ≤ q) s.heap H locs → lv_has ls 6 [(0, .ref (base + a0)), (1, .ref (base + a1)), (2, .int i2), (3, .int i3), (4, .int i4)] → W p l e (rmD 2 0 0) s m args below meth c H locs 0 0 (MQ below (QwI base D cI cJ r τ) args s 0 0 (fun q => base ≤ q)) (F0 m 86 ls []) := by
  intro hP hS hl
  obtain ⟨hx, hb, hml, hown, hts⟩ := hC.1
  unfold X0_orderComing_b86 at h
  obtain ⟨i4_1, hi4_1, h⟩ := obn h
  refine lv_iinc (v := i4_1) (lv' := [(4, .int i4_1), (0, .ref (base + a0)), (1, .ref (base + a1)), (2, .int i2), (3, .int i3)]) hx hb dX0_orderComing_86 hl (k := 4) rfl (Option.some.inj hi4_1) (by decide) rfl (fun ls hl => ?_)
  refine lv_goto (tgt := 5) hx hb dX0_orderComing_89 (by decide) ?_
  exact ih h hP hS (lv_sub hl [1, 2, 3, 4, 0] rfl)
set_option maxRecDepth 100000 in
set_option maxHeartbeats 4000000 in
theorem X0_orderComing_k70 (hC : Cx p m c cX0_orderComing 6 s args RX0 base D cI cJ tS) (hr : meth.sig.returnType = (some .int)) (hlocks : meth.locks = false) {n : Nat} (ih : (∀ {a0 : Nat} {a1 : Nat} {i2 : Int32} {i3 : Int32} {i4 : Int32} {σ : Sg} {r : Int32} {τ : Sg} {H : Heap} {locs : List Loc} {ls : Array Slot}, X0_orderComing_run n a0 a1 i2 i3 i4 σ = some (r, τ) → Dy base D cI cJ σ H → va_S (fun q => base ≤ q) s.heap H locs → lv_has ls 6 [(0, .ref (base + a0)), (1, .ref (base + a1)), (2, .int i2), (3, .int i3), (4, .int i4)] → W p l e (rmD 2 0 0) s m args below meth c H locs 0 0 (MQ below (QwI base D cI cJ r τ) args s 0 0 (fun q => base ≤ q)) (F0 m 5 ls []))) {a0 : Nat} {a1 : Nat} {i2 : Int32} {i3 : Int32} {i4 : Int32} {ta0 : Nat} {ti1 : Int32} {ti2 : Int32} {σ : Sg} {r : Int32} {τ : Sg} {H : Heap} {locs : List Loc} {ls : Array Slot} (h : X0_orderComing_b70 n (X0_orderComing_run n) a0 a1 i2 i3 i4 ta0 ti1 ti2 σ = some (r, τ)) : Dy base D cI cJ σ H → va_S (fun q => base ≤ q) s.heap H locs → lv_has ls 6 [(0, .ref (base + a0)), (1, .ref (base + a1)), (2, .int i2), (3, .int i3), (4, .int i4)] → W p l e (rmD 2 0 0) s m args below meth c H locs 0 0 (MQ below (QwI base D cI cJ r τ) args s 0 0 (fun q => base ≤ q)) (F0 m 70 ls [.int ti2, .int ti1, .ref (base + ta0)]) := by
  intro hP hS hl
  obtain ⟨hx, hb, hml, hown, hts⟩ := hC.1
  unfold X0_orderComing_b70 at h
  obtain ⟨s_2, hs_2, h⟩ := obn h
  refine w_iast hC hP hS hs_2 dX0_orderComing_70 (fun H locs hP hS => ?_)
  refine lv_aload_n hx hb dX0_orderComing_71 rfl (lv_at hl 0 rfl) ?_
  refine lv_aload_n hx hb dX0_orderComing_72 rfl (lv_at hl 0 rfl) ?_
  obtain ⟨q_3, hq_3, h⟩ := obn h
  refine w_getR (ci := 0) (j := 0) hC hP rfl inlX0 (by decide) (by decide) rfl hq_3 wl_21 dX0_orderComing_73 ?_
  refine lv_iload_n hx hb dX0_orderComing_76 rfl (lv_at hl 2 rfl) ?_
  refine lv_iload hx hb dX0_orderComing_77 (lv_at hl 4 rfl) ?_
  refine lv_iload_n hx hb dX0_orderComing_79 rfl (lv_at hl 3 rfl) ?_
  obtain ⟨u_4, hu_4, h⟩ := obn h
  obtain ⟨w_5, hw_5, h⟩ := obn h
  refine k_V (r_virt (As := [.ref (base + q_3), .int i2, .int i4, .int i3]) (rest := []) hC hP hS (ci := 0) rfl (by decide) hu_4 (c_X0_putInOrder (l := l) (base := base) (D := D) (cI := cI) (cJ := cJ) (tS := tS) hw_5) wl_154 wl_155 wl_156 wl_52 wl_153 rfl rfl hd_X0_putInOrder ⟨Nat.le_of_ble_eq_true rfl, Nat.le_of_ble_eq_true rfl⟩ rfl hl.1 rfl (Nat.le_of_ble_eq_true rfl) dX0_orderComing_80 ⟨Nat.le_of_ble_eq_true rfl, Nat.le_of_ble_eq_true rfl⟩) hS (fun H locs hP hS => ?_)
  obtain ⟨i3_6, hi3_6, h⟩ := obn h
  refine lv_iinc (v := i3_6) (lv' := [(3, .int i3_6), (0, .ref (base + a0)), (1, .ref (base + a1)), (2, .int i2), (4, .int i4)]) hx hb dX0_orderComing_83 hl (k := 3) rfl (Option.some.inj hi3_6) (by decide) rfl (fun ls hl => ?_)
  exact X0_orderComing_k86 hC hr hlocks ih h hP hS (lv_sub hl [1, 2, 3, 0, 4] rfl)
set_option maxRecDepth 100000 in
set_option maxHeartbeats 4000000 in
theorem X0_orderComing_k5 (hC : Cx p m c cX0_orderComing 6 s args RX0 base D cI cJ tS) (hr : meth.sig.returnType = (some .int)) (hlocks : meth.locks = false) {n : Nat} (ih : (∀ {a0 : Nat} {a1 : Nat} {i2 : Int32} {i3 : Int32} {i4 : Int32} {σ : Sg} {r : Int32} {τ : Sg} {H : Heap} {locs : List Loc} {ls : Array Slot}, X0_orderComing_run n a0 a1 i2 i3 i4 σ = some (r, τ) → Dy base D cI cJ σ H → va_S (fun q => base ≤ q) s.heap H locs → lv_has ls 6 [(0, .ref (base + a0)), (1, .ref (base + a1)), (2, .int i2), (3, .int i3), (4, .int i4)] → W p l e (rmD 2 0 0) s m args below meth c H locs 0 0 (MQ below (QwI base D cI cJ r τ) args s 0 0 (fun q => base ≤ q)) (F0 m 5 ls []))) {a0 : Nat} {a1 : Nat} {i2 : Int32} {i3 : Int32} {i4 : Int32} {σ : Sg} {r : Int32} {τ : Sg} {H : Heap} {locs : List Loc} {ls : Array Slot} (h : X0_orderComing_b5 n (X0_orderComing_run n) a0 a1 i2 i3 i4 σ = some (r, τ)) : Dy base D cI cJ σ H → va_S (fun q => base ≤ q) s.heap H locs → lv_has ls 6 [(0, .ref (base + a0)), (1, .ref (base + a1)), (2, .int i2), (3, .int i3), (4, .int i4)] → W p l e (rmD 2 0 0) s m args below meth c H locs 0 0 (MQ below (QwI base D cI cJ r τ) args s 0 0 (fun q => base ≤ q)) (F0 m 5 ls []) := by
  intro hP hS hl
  obtain ⟨hx, hb, hml, hown, hts⟩ := hC.1
  unfold X0_orderComing_b5 at h
  refine lv_iload hx hb dX0_orderComing_5 (lv_at hl 4 rfl) ?_
  refine lv_aload_n hx hb dX0_orderComing_7 rfl (lv_at hl 1 rfl) ?_
  obtain ⟨v_7, hv_7, h⟩ := obn h
  refine w_getI (ci := 1) (j := 7) hC hP rfl inlX1 (by decide) (by decide) rfl hv_7 wl_157 dX0_orderComing_8 ?_
  refine lv_icmp_ge (tgt := 92) hx hb dX0_orderComing_11 (by decide) (fun c_8 => ?_) (fun c_8 => ?_)
  · rw [if_pos c_8] at h
    refine lv_iload_n hx hb dX0_orderComing_92 rfl (lv_at hl 3 rfl) ?_
    obtain ⟨rfl, rfl⟩ := Prod.mk.inj (Option.some.inj h)
    exact w_iret hC hr hlocks hP hS dX0_orderComing_93
  · rw [if_neg c_8] at h
    refine lv_aload_n hx hb dX0_orderComing_14 rfl (lv_at hl 1 rfl) ?_
    refine lv_iload hx hb dX0_orderComing_15 (lv_at hl 4 rfl) ?_
    refine lv_iload_n hx hb dX0_orderComing_17 rfl (lv_at hl 2 rfl) ?_
    obtain ⟨u_9, hu_9, h⟩ := obn h
    obtain ⟨w_10, hw_10, h⟩ := obn h
    refine k_I (r_virt (As := [.int i4, .int i2]) (rest := []) hC hP hS (ci := 1) rfl (by decide) hu_9 (c_X1_comes (l := l) (base := base) (D := D) (cI := cI) (cJ := cJ) (tS := tS) hw_10) wl_159 wl_160 wl_161 wl_39 wl_158 rfl rfl hd_X1_comes ⟨Nat.le_of_ble_eq_true rfl, Nat.le_of_ble_eq_true rfl⟩ rfl hl.1 rfl (Nat.le_of_ble_eq_true rfl) dX0_orderComing_18 ⟨Nat.le_of_ble_eq_true rfl, Nat.le_of_ble_eq_true rfl⟩) hS (fun H locs hP hS => ?_)
    refine lv_if_eq (tgt := 86) hx hb dX0_orderComing_21 (by decide) (fun c_11 => ?_) (fun c_11 => ?_)
    · rw [if_pos c_11] at h
      exact X0_orderComing_k86 hC hr hlocks ih h hP hS (lv_sub hl [0, 1, 2, 3, 4] rfl)
    · rw [if_neg c_11] at h
      refine lv_iload hx hb dX0_orderComing_24 (lv_at hl 4 rfl) ?_
      refine lv_iload_n hx hb dX0_orderComing_26 rfl (lv_at hl 2 rfl) ?_
      obtain ⟨w_12, hw_12, h⟩ := obn h
      refine k_I (r_statN (As := [.int i4, .int i2]) (rest := []) hC hP hS (c_X4_cell (l := l) (base := base) (D := D) (cI := cI) (cJ := cJ) (tS := tS) hw_12) hC.2.2.1.2.2.2 wl_150 wl_98 wl_149 rfl rfl hd_X4_cell ⟨Nat.le_of_ble_eq_true rfl, Nat.le_of_ble_eq_true rfl⟩ rfl hl.1 rfl (Nat.le_of_ble_eq_true rfl) dX0_orderComing_27 ⟨Nat.le_of_ble_eq_true rfl, Nat.le_of_ble_eq_true rfl⟩) hS (fun H locs hP hS => ?_)
      refine lv_istore (lv' := [(5, .int w_12.1), (0, .ref (base + a0)), (1, .ref (base + a1)), (2, .int i2), (3, .int i3), (4, .int i4)]) hx hb dX0_orderComing_30 hl (by decide) rfl (fun ls hl => ?_)
      refine lv_aload_n hx hb dX0_orderComing_32 rfl (lv_at hl 1 rfl) ?_
      obtain ⟨q_13, hq_13, h⟩ := obn h
      refine w_getR (ci := 0) (j := 0) hC hP rfl inlX0 (by decide) (by decide) rfl hq_13 wl_21 dX0_orderComing_33 ?_
      refine lv_iload hx hb dX0_orderComing_36 (lv_at hl 0 rfl) ?_
      refine lv_iload_n hx hb dX0_orderComing_38 rfl (lv_at hl 3 rfl) ?_
      refine lv_if_ne (tgt := 52) hx hb dX0_orderComing_39 (by decide) (fun c_14 => ?_) (fun c_14 => ?_)
      · rw [if_neg c_14] at h
        refine lv_aload_n hx hb dX0_orderComing_52 rfl (lv_at hl 1 rfl) ?_
        obtain ⟨q_15, hq_15, h⟩ := obn h
        refine w_getR (ci := 0) (j := 1) hC hP rfl inlX0 (by decide) (by decide) rfl hq_15 wl_22 dX0_orderComing_53 ?_
        refine lv_iload hx hb dX0_orderComing_56 (lv_at hl 0 rfl) ?_
        refine lv_iconst (v := 1) hx hb dX0_orderComing_58 (by decide) ?_
        refine lv_isub hx hb dX0_orderComing_59 ?_
        obtain ⟨v_16, hv_16, h⟩ := obn h
        refine w_iald hC hP hv_16 dX0_orderComing_60 ?_
        refine lv_aload_n hx hb dX0_orderComing_61 rfl (lv_at hl 2 rfl) ?_
        obtain ⟨q_17, hq_17, h⟩ := obn h
        refine w_getR (ci := 1) (j := 0) hC hP rfl inlX1 (by decide) (by decide) rfl hq_17 wl_162 dX0_orderComing_62 ?_
        refine lv_iload_n hx hb dX0_orderComing_65 rfl (lv_at hl 3 rfl) ?_
        refine lv_iconst (v := 1) hx hb dX0_orderComing_66 (by decide) ?_
        refine lv_isub hx hb dX0_orderComing_67 ?_
        obtain ⟨v_18, hv_18, h⟩ := obn h
        refine w_iald hC hP hv_18 dX0_orderComing_68 ?_
        refine lv_iadd hx hb dX0_orderComing_69 ?_
        exact X0_orderComing_k70 hC hr hlocks ih h hP hS (lv_sub hl [1, 2, 3, 4, 5] rfl)
      · rw [if_pos c_14] at h
        refine lv_aload_n hx hb dX0_orderComing_42 rfl (lv_at hl 2 rfl) ?_
        obtain ⟨q_19, hq_19, h⟩ := obn h
        refine w_getR (ci := 1) (j := 4) hC hP rfl inlX1 (by decide) (by decide) rfl hq_19 wl_163 dX0_orderComing_43 ?_
        refine lv_iload hx hb dX0_orderComing_46 (lv_at hl 5 rfl) ?_
        obtain ⟨v_20, hv_20, h⟩ := obn h
        refine w_iald hC hP hv_20 dX0_orderComing_48 ?_
        refine lv_goto (tgt := 70) hx hb dX0_orderComing_49 (by decide) ?_
        exact X0_orderComing_k70 hC hr hlocks ih h hP hS (lv_sub hl [1, 2, 3, 4, 5] rfl)
set_option maxRecDepth 100000 in
set_option maxHeartbeats 4000000 in
theorem X0_orderComing_k0 (hC : Cx p m c cX0_orderComing 6 s args RX0 base D cI cJ tS) (hr : meth.sig.returnType = (some .int)) (hlocks : meth.locks = false) {n : Nat} (ih : (∀ {a0 : Nat} {a1 : Nat} {i2 : Int32} {i3 : Int32} {i4 : Int32} {σ : Sg} {r : Int32} {τ : Sg} {H : Heap} {locs : List Loc} {ls : Array Slot}, X0_orderComing_run n a0 a1 i2 i3 i4 σ = some (r, τ) → Dy base D cI cJ σ H → va_S (fun q => base ≤ q) s.heap H locs → lv_has ls 6 [(0, .ref (base + a0)), (1, .ref (base + a1)), (2, .int i2), (3, .int i3), (4, .int i4)] → W p l e (rmD 2 0 0) s m args below meth c H locs 0 0 (MQ below (QwI base D cI cJ r τ) args s 0 0 (fun q => base ≤ q)) (F0 m 5 ls []))) {a0 : Nat} {a1 : Nat} {i2 : Int32} {σ : Sg} {r : Int32} {τ : Sg} {H : Heap} {locs : List Loc} {ls : Array Slot} (h : X0_orderComing_b0 n (X0_orderComing_run n) a0 a1 i2 σ = some (r, τ)) : Dy base D cI cJ σ H → va_S (fun q => base ≤ q) s.heap H locs → lv_has ls 6 [(0, .ref (base + a0)), (1, .ref (base + a1)), (2, .int i2)] → W p l e (rmD 2 0 0) s m args below meth c H locs 0 0 (MQ below (QwI base D cI cJ r τ) args s 0 0 (fun q => base ≤ q)) (F0 m 0 ls []) := by
  intro hP hS hl
  obtain ⟨hx, hb, hml, hown, hts⟩ := hC.1
  unfold X0_orderComing_b0 at h
  refine lv_iconst (v := 0) hx hb dX0_orderComing_0 (by decide) ?_
  refine lv_istore_n (lv' := [(3, .int 0), (0, .ref (base + a0)), (1, .ref (base + a1)), (2, .int i2)]) hx hb dX0_orderComing_1 rfl hl (by decide) rfl (fun ls hl => ?_)
  refine lv_iconst (v := 0) hx hb dX0_orderComing_2 (by decide) ?_
  refine lv_istore (lv' := [(4, .int 0), (3, .int 0), (0, .ref (base + a0)), (1, .ref (base + a1)), (2, .int i2)]) hx hb dX0_orderComing_3 hl (by decide) rfl (fun ls hl => ?_)
  exact ih h hP hS (lv_sub hl [2, 3, 4, 1, 0] rfl)
set_option maxRecDepth 100000 in
set_option maxHeartbeats 4000000 in
theorem X0_orderComing_all (hC : Cx p m c cX0_orderComing 6 s args RX0 base D cI cJ tS) (hr : meth.sig.returnType = (some .int)) (hlocks : meth.locks = false) : ∀ n : Nat, (∀ {a0 : Nat} {a1 : Nat} {i2 : Int32} {i3 : Int32} {i4 : Int32} {σ : Sg} {r : Int32} {τ : Sg} {H : Heap} {locs : List Loc} {ls : Array Slot}, X0_orderComing_run n a0 a1 i2 i3 i4 σ = some (r, τ) → Dy base D cI cJ σ H → va_S (fun q => base ≤ q) s.heap H locs → lv_has ls 6 [(0, .ref (base + a0)), (1, .ref (base + a1)), (2, .int i2), (3, .int i3), (4, .int i4)] → W p l e (rmD 2 0 0) s m args below meth c H locs 0 0 (MQ below (QwI base D cI cJ r τ) args s 0 0 (fun q => base ≤ q)) (F0 m 5 ls [])) := by
  intro n
  induction n with
  | zero => exact fun h => (by cases h)
  | succ n ih => exact fun h => X0_orderComing_k5 hC hr hlocks ih h
set_option maxRecDepth 100000 in
set_option maxHeartbeats 4000000 in
theorem c_X0_orderComing {l : Launch} {base : Nat} {D : va_G} {cI cJ : ClassId} {tS : Nat} {n : Nat} {a0 : Nat} {a1 : Nat} {i2 : Int32} {σ : Sg} {r : Int32} {τ : Sg} (h : f_X0_orderComing n a0 a1 i2 σ = some (r, τ)) : Met l yX0_orderComing (.code yX0_orderComing cX0_orderComing 6 (some .int) :: wsL_law) (rmD 2 0 0) (Pw base D cI cJ tS σ [.ref (base + a0), .ref (base + a1), .int i2]) (QwI base D cI cJ r τ) 0 0 (fun q => base ≤ q) := by
  refine Met.ofW (cc := cX0_orderComing) (maxL := 6) (ret := (some .int)) (by decide) rfl ?_
  intro p e s m args below meth c s₁ B hml hv
  obtain ⟨rfl, hSt, hP⟩ := hv
  have hC : Cx p m c cX0_orderComing 6 s _ RX0 base D cI cJ tS := ⟨⟨B.exec, B.bytes, hml, findClass_of_methodNamed B.named, fun w hw => atoms_spec (ws := Cond.code yX0_orderComing cX0_orderComing 6 (some .int) :: wsL_law) B.pre w (List.mem_cons_of_mem _ hw)⟩, hSt⟩
  have hl := lv_entry ([.ref (base + a0), .ref (base + a1), .int i2]) (n := 6) (Nat.le_of_ble_eq_true rfl)
  rw [lg_entry_eq]
  generalize (lg_sl ([.ref (base + a0), .ref (base + a1), .int i2]) ++ List.replicate (6 - (lg_sl ([.ref (base + a0), .ref (base + a1), .int i2])).length) Slot.unset).toArray = ls at hl ⊢
  exact X0_orderComing_k0 hC B.returns B.notSynchronized (X0_orderComing_all hC B.returns B.notSynchronized n) h hP va_S.rf hl
-- ===== X1_goal
set_option maxRecDepth 100000 in
set_option maxHeartbeats 4000000 in
theorem X1_goal_k0 (hC : Cx p m c cX1_goal 2 s args RX1 base D cI cJ tS) (hr : meth.sig.returnType = (some .int)) (hlocks : meth.locks = false) {n : Nat} {a0 : Nat} {i1 : Int32} {σ : Sg} {r : Int32} {τ : Sg} {H : Heap} {locs : List Loc} {ls : Array Slot} (h : f_X1_goal n a0 i1 σ = some (r, τ)) : Dy base D cI cJ σ H → va_S (fun q => base ≤ q) s.heap H locs → lv_has ls 2 [(0, .ref (base + a0)), (1, .int i1)] → W p l e (rmD 1 0 0) s m args below meth c H locs 0 0 (MQ below (QwI base D cI cJ r τ) args s 0 0 (fun q => base ≤ q)) (F0 m 0 ls []) := by
  intro hP hS hl
  obtain ⟨hx, hb, hml, hown, hts⟩ := hC.1
  unfold f_X1_goal at h
  refine lv_iload_n hx hb dX1_goal_0 rfl (lv_at hl 1 rfl) ?_
  refine lv_aload_n hx hb dX1_goal_1 rfl (lv_at hl 0 rfl) ?_
  obtain ⟨q_1, hq_1, h⟩ := obn h
  refine w_getR (ci := 1) (j := 2) hC hP rfl inlX1 (by decide) (by decide) rfl hq_1 wl_6 dX1_goal_2 ?_
  refine lv_iload_n hx hb dX1_goal_5 rfl (lv_at hl 1 rfl) ?_
  obtain ⟨v_2, hv_2, h⟩ := obn h
  refine w_iald hC hP hv_2 dX1_goal_6 ?_
  refine lv_iadd hx hb dX1_goal_7 ?_
  refine lv_bipush (v := 9) hx hb dX1_goal_8 (by decide) ?_
  refine va_mmin hx hb (hml.trans hl.1.symm) hown (hts _ wl_164) (hts _ wl_165) (hts _ wl_166) (hts _ wl_167) (Nat.le_of_ble_eq_true rfl) (Nat.le_of_ble_eq_true rfl) (Nat.le_of_ble_eq_true rfl) (Nat.le_of_ble_eq_true rfl) dX1_goal_10 ?_
  obtain ⟨rfl, rfl⟩ := Prod.mk.inj (Option.some.inj h)
  exact w_iret hC hr hlocks hP hS dX1_goal_13
set_option maxRecDepth 100000 in
set_option maxHeartbeats 4000000 in
theorem c_X1_goal {l : Launch} {base : Nat} {D : va_G} {cI cJ : ClassId} {tS : Nat} {n : Nat} {a0 : Nat} {i1 : Int32} {σ : Sg} {r : Int32} {τ : Sg} (h : f_X1_goal n a0 i1 σ = some (r, τ)) : Met l yX1_goal (.code yX1_goal cX1_goal 2 (some .int) :: wsL_law) (rmD 1 0 0) (Pw base D cI cJ tS σ [.ref (base + a0), .int i1]) (QwI base D cI cJ r τ) 0 0 (fun q => base ≤ q) := by
  refine Met.ofW (cc := cX1_goal) (maxL := 2) (ret := (some .int)) (by decide) rfl ?_
  intro p e s m args below meth c s₁ B hml hv
  obtain ⟨rfl, hSt, hP⟩ := hv
  have hC : Cx p m c cX1_goal 2 s _ RX1 base D cI cJ tS := ⟨⟨B.exec, B.bytes, hml, findClass_of_methodNamed B.named, fun w hw => atoms_spec (ws := Cond.code yX1_goal cX1_goal 2 (some .int) :: wsL_law) B.pre w (List.mem_cons_of_mem _ hw)⟩, hSt⟩
  have hl := lv_entry ([.ref (base + a0), .int i1]) (n := 2) (Nat.le_of_ble_eq_true rfl)
  rw [lg_entry_eq]
  generalize (lg_sl ([.ref (base + a0), .int i1]) ++ List.replicate (2 - (lg_sl ([.ref (base + a0), .int i1])).length) Slot.unset).toArray = ls at hl ⊢
  exact X1_goal_k0 hC B.returns B.notSynchronized h hP va_S.rf hl
-- ===== X0_countAtGoal
set_option maxRecDepth 100000 in
set_option maxHeartbeats 4000000 in
theorem X0_countAtGoal_k38 (hC : Cx p m c cX0_countAtGoal 6 s args RX0 base D cI cJ tS) (hr : meth.sig.returnType = (some .int)) (hlocks : meth.locks = false) {n : Nat} (ih : (∀ {a0 : Nat} {a1 : Nat} {i2 : Int32} {i3 : Int32} {i4 : Int32} {i5 : Int32} {σ : Sg} {r : Int32} {τ : Sg} {H : Heap} {locs : List Loc} {ls : Array Slot}, X0_countAtGoal_run n a0 a1 i2 i3 i4 i5 σ = some (r, τ) → Dy base D cI cJ σ H → va_S (fun q => base ≤ q) s.heap H locs → lv_has ls 6 [(0, .ref (base + a0)), (1, .ref (base + a1)), (2, .int i2), (3, .int i3), (4, .int i4), (5, .int i5)] → W p l e (rmD 2 0 0) s m args below meth c H locs 0 0 (MQ below (QwI base D cI cJ r τ) args s 0 0 (fun q => base ≤ q)) (F0 m 6 ls []))) {a0 : Nat} {a1 : Nat} {i2 : Int32} {i3 : Int32} {i4 : Int32} {i5 : Int32} {σ : Sg} {r : Int32} {τ : Sg} {H : Heap} {locs : List Loc} {ls : Array Slot} (h : X0_countAtGoal_b38 n (X0_countAtGoal_run n) a0 a1 i2 i3 i4 i5 σ = some (r, τ)) : Dy base D cI cJ σ H → va_S (fun q => base ≤ q) s.heap H locs → lv_has ls 6 [(0, .ref (base + a0)), (1, .ref (base + a1)), (2, .int i2), (3, .int i3), (4, .int i4), (5, .int i5)] → W p l e (rmD 2 0 0) s m args below meth c H locs 0 0 (MQ below (QwI base D cI cJ r τ) args s 0 0 (fun q => base ≤ q)) (F0 m 38 ls []) := by
  intro hP hS hl
  obtain ⟨hx, hb, hml, hown, hts⟩ := hC.1
  unfold X0_countAtGoal_b38 at h
  obtain ⟨i5_1, hi5_1, h⟩ := obn h
  refine lv_iinc (v := i5_1) (lv' := [(5, .int i5_1), (0, .ref (base + a0)), (1, .ref (base + a1)), (2, .int i2), (3, .int i3), (4, .int i4)]) hx hb dX0_countAtGoal_38 hl (k := 5) rfl (Option.some.inj hi5_1) (by decide) rfl (fun ls hl => ?_)
  refine lv_goto (tgt := 6) hx hb dX0_countAtGoal_41 (by decide) ?_
  exact ih h hP hS (lv_sub hl [1, 2, 3, 4, 5, 0] rfl)
set_option maxRecDepth 100000 in
set_option maxHeartbeats 4000000 in
theorem X0_countAtGoal_k6 (hC : Cx p m c cX0_countAtGoal 6 s args RX0 base D cI cJ tS) (hr : meth.sig.returnType = (some .int)) (hlocks : meth.locks = false) {n : Nat} (ih : (∀ {a0 : Nat} {a1 : Nat} {i2 : Int32} {i3 : Int32} {i4 : Int32} {i5 : Int32} {σ : Sg} {r : Int32} {τ : Sg} {H : Heap} {locs : List Loc} {ls : Array Slot}, X0_countAtGoal_run n a0 a1 i2 i3 i4 i5 σ = some (r, τ) → Dy base D cI cJ σ H → va_S (fun q => base ≤ q) s.heap H locs → lv_has ls 6 [(0, .ref (base + a0)), (1, .ref (base + a1)), (2, .int i2), (3, .int i3), (4, .int i4), (5, .int i5)] → W p l e (rmD 2 0 0) s m args below meth c H locs 0 0 (MQ below (QwI base D cI cJ r τ) args s 0 0 (fun q => base ≤ q)) (F0 m 6 ls []))) {a0 : Nat} {a1 : Nat} {i2 : Int32} {i3 : Int32} {i4 : Int32} {i5 : Int32} {σ : Sg} {r : Int32} {τ : Sg} {H : Heap} {locs : List Loc} {ls : Array Slot} (h : X0_countAtGoal_b6 n (X0_countAtGoal_run n) a0 a1 i2 i3 i4 i5 σ = some (r, τ)) : Dy base D cI cJ σ H → va_S (fun q => base ≤ q) s.heap H locs → lv_has ls 6 [(0, .ref (base + a0)), (1, .ref (base + a1)), (2, .int i2), (3, .int i3), (4, .int i4), (5, .int i5)] → W p l e (rmD 2 0 0) s m args below meth c H locs 0 0 (MQ below (QwI base D cI cJ r τ) args s 0 0 (fun q => base ≤ q)) (F0 m 6 ls []) := by
  intro hP hS hl
  obtain ⟨hx, hb, hml, hown, hts⟩ := hC.1
  unfold X0_countAtGoal_b6 at h
  refine lv_iload hx hb dX0_countAtGoal_6 (lv_at hl 5 rfl) ?_
  refine lv_iload_n hx hb dX0_countAtGoal_8 rfl (lv_at hl 3 rfl) ?_
  refine lv_icmp_ge (tgt := 44) hx hb dX0_countAtGoal_9 (by decide) (fun c_2 => ?_) (fun c_2 => ?_)
  · rw [if_pos c_2] at h
    refine lv_iload hx hb dX0_countAtGoal_44 (lv_at hl 4 rfl) ?_
    obtain ⟨rfl, rfl⟩ := Prod.mk.inj (Option.some.inj h)
    exact w_iret hC hr hlocks hP hS dX0_countAtGoal_46
  · rw [if_neg c_2] at h
    refine lv_aload_n hx hb dX0_countAtGoal_12 rfl (lv_at hl 1 rfl) ?_
    refine lv_iload hx hb dX0_countAtGoal_13 (lv_at hl 5 rfl) ?_
    obtain ⟨u_3, hu_3, h⟩ := obn h
    obtain ⟨w_4, hw_4, h⟩ := obn h
    refine k_I (r_virt (As := [.int i5]) (rest := []) hC hP hS (ci := 1) rfl (by decide) hu_3 (c_X1_goal (l := l) (base := base) (D := D) (cI := cI) (cJ := cJ) (tS := tS) hw_4) wl_169 wl_170 wl_171 wl_39 wl_168 rfl rfl hd_X1_goal ⟨Nat.le_of_ble_eq_true rfl, Nat.le_of_ble_eq_true rfl⟩ rfl hl.1 rfl (Nat.le_of_ble_eq_true rfl) dX0_countAtGoal_15 ⟨Nat.le_of_ble_eq_true rfl, Nat.le_of_ble_eq_true rfl⟩) hS (fun H locs hP hS => ?_)
    refine lv_iload_n hx hb dX0_countAtGoal_18 rfl (lv_at hl 3 rfl) ?_
    refine lv_icmp_ne (tgt := 38) hx hb dX0_countAtGoal_19 (by decide) (fun c_5 => ?_) (fun c_5 => ?_)
    · rw [if_neg c_5] at h
      exact X0_countAtGoal_k38 hC hr hlocks ih h hP hS (lv_sub hl [0, 1, 2, 3, 4, 5] rfl)
    · rw [if_pos c_5] at h
      refine lv_iload hx hb dX0_countAtGoal_22 (lv_at hl 4 rfl) ?_
      refine lv_aload_n hx hb dX0_countAtGoal_24 rfl (lv_at hl 0 rfl) ?_
      obtain ⟨q_6, hq_6, h⟩ := obn h
      refine w_getR (ci := 0) (j := 2) hC hP rfl inlX0 (by decide) (by decide) rfl hq_6 wl_23 dX0_countAtGoal_25 ?_
      refine lv_iload_n hx hb dX0_countAtGoal_28 rfl (lv_at hl 2 rfl) ?_
      refine lv_iload hx hb dX0_countAtGoal_29 (lv_at hl 5 rfl) ?_
      obtain ⟨w_7, hw_7, h⟩ := obn h
      refine k_I (r_statN (As := [.int i2, .int i5]) (rest := [.ref (base + q_6), .int i4]) hC hP hS (c_X4_cell (l := l) (base := base) (D := D) (cI := cI) (cJ := cJ) (tS := tS) hw_7) hC.2.2.1.2.2.2 wl_150 wl_98 wl_149 rfl rfl hd_X4_cell ⟨Nat.le_of_ble_eq_true rfl, Nat.le_of_ble_eq_true rfl⟩ rfl hl.1 rfl (Nat.le_of_ble_eq_true rfl) dX0_countAtGoal_31 ⟨Nat.le_of_ble_eq_true rfl, Nat.le_of_ble_eq_true rfl⟩) hS (fun H locs hP hS => ?_)
      obtain ⟨v_8, hv_8, h⟩ := obn h
      refine w_iald hC hP hv_8 dX0_countAtGoal_34 ?_
      refine lv_iadd hx hb dX0_countAtGoal_35 ?_
      obtain ⟨i4_9, hi4_9, h⟩ := obn h
      refine w_eqi (Option.some.inj hi4_9) ?_
      refine lv_istore (lv' := [(4, .int i4_9), (0, .ref (base + a0)), (1, .ref (base + a1)), (2, .int i2), (3, .int i3), (5, .int i5)]) hx hb dX0_countAtGoal_36 hl (by decide) rfl (fun ls hl => ?_)
      exact X0_countAtGoal_k38 hC hr hlocks ih h hP hS (lv_sub hl [1, 2, 3, 4, 0, 5] rfl)
set_option maxRecDepth 100000 in
set_option maxHeartbeats 4000000 in
theorem X0_countAtGoal_k0 (hC : Cx p m c cX0_countAtGoal 6 s args RX0 base D cI cJ tS) (hr : meth.sig.returnType = (some .int)) (hlocks : meth.locks = false) {n : Nat} (ih : (∀ {a0 : Nat} {a1 : Nat} {i2 : Int32} {i3 : Int32} {i4 : Int32} {i5 : Int32} {σ : Sg} {r : Int32} {τ : Sg} {H : Heap} {locs : List Loc} {ls : Array Slot}, X0_countAtGoal_run n a0 a1 i2 i3 i4 i5 σ = some (r, τ) → Dy base D cI cJ σ H → va_S (fun q => base ≤ q) s.heap H locs → lv_has ls 6 [(0, .ref (base + a0)), (1, .ref (base + a1)), (2, .int i2), (3, .int i3), (4, .int i4), (5, .int i5)] → W p l e (rmD 2 0 0) s m args below meth c H locs 0 0 (MQ below (QwI base D cI cJ r τ) args s 0 0 (fun q => base ≤ q)) (F0 m 6 ls []))) {a0 : Nat} {a1 : Nat} {i2 : Int32} {i3 : Int32} {σ : Sg} {r : Int32} {τ : Sg} {H : Heap} {locs : List Loc} {ls : Array Slot} (h : X0_countAtGoal_b0 n (X0_countAtGoal_run n) a0 a1 i2 i3 σ = some (r, τ)) : Dy base D cI cJ σ H → va_S (fun q => base ≤ q) s.heap H locs → lv_has ls 6 [(0, .ref (base + a0)), (1, .ref (base + a1)), (2, .int i2), (3, .int i3)] → W p l e (rmD 2 0 0) s m args below meth c H locs 0 0 (MQ below (QwI base D cI cJ r τ) args s 0 0 (fun q => base ≤ q)) (F0 m 0 ls []) := by
  intro hP hS hl
  obtain ⟨hx, hb, hml, hown, hts⟩ := hC.1
  unfold X0_countAtGoal_b0 at h
  refine lv_iconst (v := 0) hx hb dX0_countAtGoal_0 (by decide) ?_
  refine lv_istore (lv' := [(4, .int 0), (0, .ref (base + a0)), (1, .ref (base + a1)), (2, .int i2), (3, .int i3)]) hx hb dX0_countAtGoal_1 hl (by decide) rfl (fun ls hl => ?_)
  refine lv_iconst (v := 0) hx hb dX0_countAtGoal_3 (by decide) ?_
  refine lv_istore (lv' := [(5, .int 0), (4, .int 0), (0, .ref (base + a0)), (1, .ref (base + a1)), (2, .int i2), (3, .int i3)]) hx hb dX0_countAtGoal_4 hl (by decide) rfl (fun ls hl => ?_)
  exact ih h hP hS (lv_sub hl [2, 3, 4, 5, 1, 0] rfl)
set_option maxRecDepth 100000 in
set_option maxHeartbeats 4000000 in
theorem X0_countAtGoal_all (hC : Cx p m c cX0_countAtGoal 6 s args RX0 base D cI cJ tS) (hr : meth.sig.returnType = (some .int)) (hlocks : meth.locks = false) : ∀ n : Nat, (∀ {a0 : Nat} {a1 : Nat} {i2 : Int32} {i3 : Int32} {i4 : Int32} {i5 : Int32} {σ : Sg} {r : Int32} {τ : Sg} {H : Heap} {locs : List Loc} {ls : Array Slot}, X0_countAtGoal_run n a0 a1 i2 i3 i4 i5 σ = some (r, τ) → Dy base D cI cJ σ H → va_S (fun q => base ≤ q) s.heap H locs → lv_has ls 6 [(0, .ref (base + a0)), (1, .ref (base + a1)), (2, .int i2), (3, .int i3), (4, .int i4), (5, .int i5)] → W p l e (rmD 2 0 0) s m args below meth c H locs 0 0 (MQ below (QwI base D cI cJ r τ) args s 0 0 (fun q => base ≤ q)) (F0 m 6 ls [])) := by
  intro n
  induction n with
  | zero => exact fun h => (by cases h)
  | succ n ih => exact fun h => X0_countAtGoal_k6 hC hr hlocks ih h
set_option maxRecDepth 100000 in
set_option maxHeartbeats 4000000 in
theorem c_X0_countAtGoal {l : Launch} {base : Nat} {D : va_G} {cI cJ : ClassId} {tS : Nat} {n : Nat} {a0 : Nat} {a1 : Nat} {i2 : Int32} {i3 : Int32} {σ : Sg} {r : Int32} {τ : Sg} (h : f_X0_countAtGoal n a0 a1 i2 i3 σ = some (r, τ)) : Met l yX0_countAtGoal (.code yX0_countAtGoal cX0_countAtGoal 6 (some .int) :: wsL_law) (rmD 2 0 0) (Pw base D cI cJ tS σ [.ref (base + a0), .ref (base + a1), .int i2, .int i3]) (QwI base D cI cJ r τ) 0 0 (fun q => base ≤ q) := by
  refine Met.ofW (cc := cX0_countAtGoal) (maxL := 6) (ret := (some .int)) (by decide) rfl ?_
  intro p e s m args below meth c s₁ B hml hv
  obtain ⟨rfl, hSt, hP⟩ := hv
  have hC : Cx p m c cX0_countAtGoal 6 s _ RX0 base D cI cJ tS := ⟨⟨B.exec, B.bytes, hml, findClass_of_methodNamed B.named, fun w hw => atoms_spec (ws := Cond.code yX0_countAtGoal cX0_countAtGoal 6 (some .int) :: wsL_law) B.pre w (List.mem_cons_of_mem _ hw)⟩, hSt⟩
  have hl := lv_entry ([.ref (base + a0), .ref (base + a1), .int i2, .int i3]) (n := 6) (Nat.le_of_ble_eq_true rfl)
  rw [lg_entry_eq]
  generalize (lg_sl ([.ref (base + a0), .ref (base + a1), .int i2, .int i3]) ++ List.replicate (6 - (lg_sl ([.ref (base + a0), .ref (base + a1), .int i2, .int i3])).length) Slot.unset).toArray = ls at hl ⊢
  exact X0_countAtGoal_k0 hC B.returns B.notSynchronized (X0_countAtGoal_all hC B.returns B.notSynchronized n) h hP va_S.rf hl
end
