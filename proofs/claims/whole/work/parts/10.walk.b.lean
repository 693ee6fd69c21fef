section
variable {p : Program} {l : Launch} {e : Env} {s : State} {m : MethodId} {args : Array Value} {below : List Frame} {meth : Method} {c : Code} {base : Nat} {D : va_G} {cI cJ : ClassId} {tS : Nat}
-- ===== X4_forgetCourse
set_option maxRecDepth 100000 in
set_option maxHeartbeats 4000000 in
theorem X4_forgetCourse_k0 (hC : Cx p m c cX4_forgetCourse 1 s args RX4 base D cI cJ tS) (hr : meth.sig.returnType = none) (hlocks : meth.locks = false) {n : Nat} {a0 : Nat} {σ : Sg} {τ : Sg} {H : Heap} {locs : List Loc} {ls : Array Slot} (h : f_X4_forgetCourse n a0 σ = some τ) : Dy base D cI cJ σ H → va_S (fun q => base ≤ q) s.heap H locs → lv_has ls 1 [(0, .ref (base + a0))] → W p l e (rmD 0 0 0) s m args below meth c H locs 0 0 (MQ below (QwV base D cI cJ τ) args s 0 0 (fun q => base ≤ q)) (F0 m 0 ls []) := by
  intro hP hS hl
  obtain ⟨hx, hb, hml, hown, hts⟩ := hC.1
  unfold f_X4_forgetCourse at h
  refine lv_aload_n hx hb dX4_forgetCourse_0 rfl (lv_at hl 0 rfl) ?_
  refine lv_iconst (v := 0) hx hb dX4_forgetCourse_1 (by decide) ?_
  obtain ⟨s_1, hs_1, h⟩ := obn h
  refine w_putI (ci := 4) (j := 6) hC hP hS rfl inlX4 tyX4 tyX4_ok nmX4 (by decide) (by decide) rfl rfl rfl rfl hs_1 wl_93 dX4_forgetCourse_2 (fun H locs hP hS => ?_)
  refine lv_aload_n hx hb dX4_forgetCourse_5 rfl (lv_at hl 0 rfl) ?_
  refine lv_iconst (v := 0) hx hb dX4_forgetCourse_6 (by decide) ?_
  obtain ⟨s_2, hs_2, h⟩ := obn h
  refine w_putI (ci := 4) (j := 7) hC hP hS rfl inlX4 tyX4 tyX4_ok nmX4 (by decide) (by decide) rfl rfl rfl rfl hs_2 wl_94 dX4_forgetCourse_7 (fun H locs hP hS => ?_)
  obtain rfl := Option.some.inj h
  exact w_vret hC hr hlocks hP hS dX4_forgetCourse_10
set_option maxRecDepth 100000 in
set_option maxHeartbeats 4000000 in
theorem c_X4_forgetCourse {l : Launch} {base : Nat} {D : va_G} {cI cJ : ClassId} {tS : Nat} {n : Nat} {a0 : Nat} {σ : Sg} {τ : Sg} (h : f_X4_forgetCourse n a0 σ = some τ) : Met l yX4_forgetCourse (.code yX4_forgetCourse cX4_forgetCourse 1 none :: wsL_law) (rmD 0 0 0) (Pw base D cI cJ tS σ [.ref (base + a0)]) (QwV base D cI cJ τ) 0 0 (fun q => base ≤ q) := by
  refine Met.ofW (cc := cX4_forgetCourse) (maxL := 1) (ret := none) (by decide) rfl ?_
  intro p e s m args below meth c s₁ B hml hv
  obtain ⟨rfl, hSt, hP⟩ := hv
  have hC : Cx p m c cX4_forgetCourse 1 s _ RX4 base D cI cJ tS := ⟨⟨B.exec, B.bytes, hml, findClass_of_methodNamed B.named, fun w hw => atoms_spec (ws := Cond.code yX4_forgetCourse cX4_forgetCourse 1 none :: wsL_law) B.pre w (List.mem_cons_of_mem _ hw)⟩, hSt⟩
  have hl := lv_entry ([.ref (base + a0)]) (n := 1) (Nat.le_of_ble_eq_true rfl)
  rw [lg_entry_eq]
  generalize (lg_sl ([.ref (base + a0)]) ++ List.replicate (1 - (lg_sl ([.ref (base + a0)])).length) Slot.unset).toArray = ls at hl ⊢
  exact X4_forgetCourse_k0 hC B.returns B.notSynchronized h hP va_S.rf hl
-- ===== X1_changeStop
set_option maxRecDepth 100000 in
set_option maxHeartbeats 4000000 in
theorem X1_changeStop_k27 (hC : Cx p m c cX1_changeStop 6 s args RX1 base D cI cJ tS) (hr : meth.sig.returnType = (some .int)) (hlocks : meth.locks = false) {n : Nat} {i1 : Int32} {i3 : Int32} {ta0 : Nat} {σ : Sg} {r : Int32} {τ : Sg} {H : Heap} {locs : List Loc} {ls : Array Slot} (h : X1_changeStop_b27 n i1 i3 ta0 σ = some (r, τ)) : Dy base D cI cJ σ H → va_S (fun q => base ≤ q) s.heap H locs → lv_has ls 6 [(1, .int i1), (3, .int i3)] → W p l e (rmD 0 0 0) s m args below meth c H locs 0 0 (MQ below (QwI base D cI cJ r τ) args s 0 0 (fun q => base ≤ q)) (F0 m 27 ls [.ref (base + ta0)]) := by
  intro hP hS hl
  obtain ⟨hx, hb, hml, hown, hts⟩ := hC.1
  unfold X1_changeStop_b27 at h
  refine lv_astore (lv' := [(4, .ref (base + ta0)), (1, .int i1), (3, .int i3)]) hx hb dX1_changeStop_27 hl (by decide) rfl (fun ls hl => ?_)
  refine lv_aload hx hb dX1_changeStop_29 (lv_at hl 0 rfl) ?_
  refine lv_iload_n hx hb dX1_changeStop_31 rfl (lv_at hl 1 rfl) ?_
  obtain ⟨v_1, hv_1, h⟩ := obn h
  refine w_iald hC hP hv_1 dX1_changeStop_32 ?_
  refine lv_istore (lv' := [(5, .int v_1), (4, .ref (base + ta0)), (1, .int i1), (3, .int i3)]) hx hb dX1_changeStop_33 hl (by decide) rfl (fun ls hl => ?_)
  refine lv_aload hx hb dX1_changeStop_35 (lv_at hl 1 rfl) ?_
  refine lv_iload_n hx hb dX1_changeStop_37 rfl (lv_at hl 2 rfl) ?_
  refine lv_iload_n hx hb dX1_changeStop_38 rfl (lv_at hl 3 rfl) ?_
  obtain ⟨s_2, hs_2, h⟩ := obn h
  refine w_iast hC hP hS hs_2 dX1_changeStop_39 (fun H locs hP hS => ?_)
  refine lv_iload hx hb dX1_changeStop_40 (lv_at hl 0 rfl) ?_
  obtain ⟨rfl, rfl⟩ := Prod.mk.inj (Option.some.inj h)
  exact w_iret hC hr hlocks hP hS dX1_changeStop_42
set_option maxRecDepth 100000 in
set_option maxHeartbeats 4000000 in
theorem X1_changeStop_k0 (hC : Cx p m c cX1_changeStop 6 s args RX1 base D cI cJ tS) (hr : meth.sig.returnType = (some .int)) (hlocks : meth.locks = false) {n : Nat} {a0 : Nat} {i1 : Int32} {i2 : Int32} {i3 : Int32} {σ : Sg} {r : Int32} {τ : Sg} {H : Heap} {locs : List Loc} {ls : Array Slot} (h : f_X1_changeStop n a0 i1 i2 i3 σ = some (r, τ)) : Dy base D cI cJ σ H → va_S (fun q => base ≤ q) s.heap H locs → lv_has ls 6 [(0, .ref (base + a0)), (1, .int i1), (2, .int i2), (3, .int i3)] → W p l e (rmD 0 0 0) s m args below meth c H locs 0 0 (MQ below (QwI base D cI cJ r τ) args s 0 0 (fun q => base ≤ q)) (F0 m 0 ls []) := by
  intro hP hS hl
  obtain ⟨hx, hb, hml, hown, hts⟩ := hC.1
  unfold f_X1_changeStop at h
  refine lv_iload_n hx hb dX1_changeStop_0 rfl (lv_at hl 2 rfl) ?_
  refine lv_if_ne (tgt := 11) hx hb dX1_changeStop_1 (by decide) (fun c_3 => ?_) (fun c_3 => ?_)
  · rw [if_neg c_3] at h
    refine lv_iload_n hx hb dX1_changeStop_11 rfl (lv_at hl 2 rfl) ?_
    refine lv_iconst (v := 1) hx hb dX1_changeStop_12 (by decide) ?_
    refine lv_icmp_ne (tgt := 23) hx hb dX1_changeStop_13 (by decide) (fun c_4 => ?_) (fun c_4 => ?_)
    · rw [if_neg c_4] at h
      refine lv_aload_n hx hb dX1_changeStop_23 rfl (lv_at hl 0 rfl) ?_
      obtain ⟨q_5, hq_5, h⟩ := obn h
      refine w_getR (ci := 1) (j := 2) hC hP rfl inlX1 (by decide) (by decide) rfl hq_5 wl_6 dX1_changeStop_24 ?_
      exact X1_changeStop_k27 hC hr hlocks h hP hS (lv_sub hl [1, 3] rfl)
    · rw [if_pos c_4] at h
      refine lv_aload_n hx hb dX1_changeStop_16 rfl (lv_at hl 0 rfl) ?_
      obtain ⟨q_6, hq_6, h⟩ := obn h
      refine w_getR (ci := 1) (j := 1) hC hP rfl inlX1 (by decide) (by decide) rfl hq_6 wl_5 dX1_changeStop_17 ?_
      refine lv_goto (tgt := 27) hx hb dX1_changeStop_20 (by decide) ?_
      exact X1_changeStop_k27 hC hr hlocks h hP hS (lv_sub hl [1, 3] rfl)
  · rw [if_pos c_3] at h
    refine lv_aload_n hx hb dX1_changeStop_4 rfl (lv_at hl 0 rfl) ?_
    obtain ⟨q_7, hq_7, h⟩ := obn h
    refine w_getR (ci := 1) (j := 0) hC hP rfl inlX1 (by decide) (by decide) rfl hq_7 wl_4 dX1_changeStop_5 ?_
    refine lv_goto (tgt := 27) hx hb dX1_changeStop_8 (by decide) ?_
    exact X1_changeStop_k27 hC hr hlocks h hP hS (lv_sub hl [1, 3] rfl)
set_option maxRecDepth 100000 in
set_option maxHeartbeats 4000000 in
theorem c_X1_changeStop {l : Launch} {base : Nat} {D : va_G} {cI cJ : ClassId} {tS : Nat} {n : Nat} {a0 : Nat} {i1 : Int32} {i2 : Int32} {i3 : Int32} {σ : Sg} {r : Int32} {τ : Sg} (h : f_X1_changeStop n a0 i1 i2 i3 σ = some (r, τ)) : Met l yX1_changeStop (.code yX1_changeStop cX1_changeStop 6 (some .int) :: wsL_law) (rmD 0 0 0) (Pw base D cI cJ tS σ [.ref (base + a0), .int i1, .int i2, .int i3]) (QwI base D cI cJ r τ) 0 0 (fun q => base ≤ q) := by
  refine Met.ofW (cc := cX1_changeStop) (maxL := 6) (ret := (some .int)) (by decide) rfl ?_
  intro p e s m args below meth c s₁ B hml hv
  obtain ⟨rfl, hSt, hP⟩ := hv
  have hC : Cx p m c cX1_changeStop 6 s _ RX1 base D cI cJ tS := ⟨⟨B.exec, B.bytes, hml, findClass_of_methodNamed B.named, fun w hw => atoms_spec (ws := Cond.code yX1_changeStop cX1_changeStop 6 (some .int) :: wsL_law) B.pre w (List.mem_cons_of_mem _ hw)⟩, hSt⟩
  have hl := lv_entry ([.ref (base + a0), .int i1, .int i2, .int i3]) (n := 6) (Nat.le_of_ble_eq_true rfl)
  rw [lg_entry_eq]
  generalize (lg_sl ([.ref (base + a0), .int i1, .int i2, .int i3]) ++ List.replicate (6 - (lg_sl ([.ref (base + a0), .int i1, .int i2, .int i3])).length) Slot.unset).toArray = ls at hl ⊢
  exact X1_changeStop_k0 hC B.returns B.notSynchronized h hP va_S.rf hl
-- ===== X4_stop
set_option maxRecDepth 100000 in
set_option maxHeartbeats 4000000 in
theorem X4_stop_k0 (hC : Cx p m c cX4_stop 4 s args RX4 base D cI cJ tS) (hr : meth.sig.returnType = (some .int)) (hlocks : meth.locks = false) {n : Nat} {a0 : Nat} {i1 : Int32} {i2 : Int32} {i3 : Int32} {σ : Sg} {r : Int32} {τ : Sg} {H : Heap} {locs : List Loc} {ls : Array Slot} (h : f_X4_stop n a0 i1 i2 i3 σ = some (r, τ)) : Dy base D cI cJ σ H → va_S (fun q => base ≤ q) s.heap H locs → lv_has ls 4 [(0, .ref (base + a0)), (1, .int i1), (2, .int i2), (3, .int i3)] → W p l e (rmD 1 0 0) s m args below meth c H locs 0 0 (MQ below (QwI base D cI cJ r τ) args s 0 0 (fun q => base ≤ q)) (F0 m 0 ls []) := by
  intro hP hS hl
  obtain ⟨hx, hb, hml, hown, hts⟩ := hC.1
  unfold f_X4_stop at h
  refine lv_iload_n hx hb dX4_stop_0 rfl (lv_at hl 1 rfl) ?_
  obtain ⟨w_1, hw_1, h⟩ := obn h
  refine k_I (r_stat (As := [.int i1]) (rest := []) hC hP hS (c_X4_isGoingStop (l := l) (base := base) (D := D) (cI := cI) (cJ := cJ) (tS := tS) hw_1) wl_96 wl_97 wl_98 wl_95 rfl rfl hd_X4_isGoingStop ⟨Nat.le_of_ble_eq_true rfl, Nat.le_of_ble_eq_true rfl⟩ rfl hl.1 rfl (Nat.le_of_ble_eq_true rfl) dX4_stop_1 ⟨Nat.le_of_ble_eq_true rfl, Nat.le_of_ble_eq_true rfl⟩) hS (fun H locs hP hS => ?_)
  refine lv_if_ne (tgt := 9) hx hb dX4_stop_4 (by decide) (fun c_2 => ?_) (fun c_2 => ?_)
  · rw [if_neg c_2] at h
    refine lv_iload_n hx hb dX4_stop_9 rfl (lv_at hl 2 rfl) ?_
    refine lv_iload_n hx hb dX4_stop_10 rfl (lv_at hl 3 rfl) ?_
    obtain ⟨w_3, hw_3, h⟩ := obn h
    refine k_I (r_stat (As := [.int i2, .int i3]) (rest := []) hC hP hS (c_X1_allowsAtStop (l := l) (base := base) (D := D) (cI := cI) (cJ := cJ) (tS := tS) hw_3) wl_100 wl_101 wl_39 wl_99 rfl rfl hd_X1_allowsAtStop ⟨Nat.le_of_ble_eq_true rfl, Nat.le_of_ble_eq_true rfl⟩ rfl hl.1 rfl (Nat.le_of_ble_eq_true rfl) dX4_stop_11 ⟨Nat.le_of_ble_eq_true rfl, Nat.le_of_ble_eq_true rfl⟩) hS (fun H locs hP hS => ?_)
    refine lv_if_ne (tgt := 20) hx hb dX4_stop_14 (by decide) (fun c_4 => ?_) (fun c_4 => ?_)
    · rw [if_neg c_4] at h
      refine lv_aload_n hx hb dX4_stop_20 rfl (lv_at hl 0 rfl) ?_
      obtain ⟨u_5, hu_5, h⟩ := obn h
      obtain ⟨w_6, hw_6, h⟩ := obn h
      refine k_V (r_virt (As := []) (rest := []) hC hP hS (ci := 4) rfl (by decide) hu_5 (c_X4_forgetCourse (l := l) (base := base) (D := D) (cI := cI) (cJ := cJ) (tS := tS) hw_6) wl_103 wl_104 wl_105 wl_98 wl_102 rfl rfl hd_X4_forgetCourse ⟨Nat.le_of_ble_eq_true rfl, Nat.le_of_ble_eq_true rfl⟩ rfl hl.1 rfl (Nat.le_of_ble_eq_true rfl) dX4_stop_21 ⟨Nat.le_of_ble_eq_true rfl, Nat.le_of_ble_eq_true rfl⟩) hS (fun H locs hP hS => ?_)
      refine lv_aload_n hx hb dX4_stop_24 rfl (lv_at hl 0 rfl) ?_
      obtain ⟨q_7, hq_7, h⟩ := obn h
      refine w_getR (ci := 4) (j := 0) hC hP rfl inlX4 (by decide) (by decide) rfl hq_7 wl_43 dX4_stop_25 ?_
      refine lv_iload_n hx hb dX4_stop_28 rfl (lv_at hl 1 rfl) ?_
      refine lv_iload_n hx hb dX4_stop_29 rfl (lv_at hl 2 rfl) ?_
      refine lv_iload_n hx hb dX4_stop_30 rfl (lv_at hl 3 rfl) ?_
      obtain ⟨u_8, hu_8, h⟩ := obn h
      obtain ⟨w_9, hw_9, h⟩ := obn h
      refine k_I (r_virt (As := [.int i1, .int i2, .int i3]) (rest := []) hC hP hS (ci := 1) rfl (by decide) hu_8 (c_X1_changeStop (l := l) (base := base) (D := D) (cI := cI) (cJ := cJ) (tS := tS) hw_9) wl_107 wl_108 wl_109 wl_39 wl_106 rfl rfl hd_X1_changeStop ⟨Nat.le_of_ble_eq_true rfl, Nat.le_of_ble_eq_true rfl⟩ rfl hl.1 rfl (Nat.le_of_ble_eq_true rfl) dX4_stop_31 ⟨Nat.le_of_ble_eq_true rfl, Nat.le_of_ble_eq_true rfl⟩) hS (fun H locs hP hS => ?_)
      obtain ⟨rfl, rfl⟩ := Prod.mk.inj (Option.some.inj h)
      exact w_iret hC hr hlocks hP hS dX4_stop_34
    · rw [if_pos c_4] at h
      refine lv_bipush (v := (-2)) hx hb dX4_stop_17 (by decide) ?_
      obtain ⟨rfl, rfl⟩ := Prod.mk.inj (Option.some.inj h)
      exact w_iret hC hr hlocks hP hS dX4_stop_19
  · rw [if_pos c_2] at h
    refine lv_iconst (v := (-1)) hx hb dX4_stop_7 (by decide) ?_
    obtain ⟨rfl, rfl⟩ := Prod.mk.inj (Option.some.inj h)
    exact w_iret hC hr hlocks hP hS dX4_stop_8
set_option maxRecDepth 100000 in
set_option maxHeartbeats 4000000 in
theorem c_X4_stop {l : Launch} {base : Nat} {D : va_G} {cI cJ : ClassId} {tS : Nat} {n : Nat} {a0 : Nat} {i1 : Int32} {i2 : Int32} {i3 : Int32} {σ : Sg} {r : Int32} {τ : Sg} (h : f_X4_stop n a0 i1 i2 i3 σ = some (r, τ)) : Met l yX4_stop (.code yX4_stop cX4_stop 4 (some .int) :: wsL_law) (rmD 1 0 0) (Pw base D cI cJ tS σ [.ref (base + a0), .int i1, .int i2, .int i3]) (QwI base D cI cJ r τ) 0 0 (fun q => base ≤ q) := by
  refine Met.ofW (cc := cX4_stop) (maxL := 4) (ret := (some .int)) (by decide) rfl ?_
  intro p e s m args below meth c s₁ B hml hv
  obtain ⟨rfl, hSt, hP⟩ := hv
  have hC : Cx p m c cX4_stop 4 s _ RX4 base D cI cJ tS := ⟨⟨B.exec, B.bytes, hml, findClass_of_methodNamed B.named, fun w hw => atoms_spec (ws := Cond.code yX4_stop cX4_stop 4 (some .int) :: wsL_law) B.pre w (List.mem_cons_of_mem _ hw)⟩, hSt⟩
  have hl := lv_entry ([.ref (base + a0), .int i1, .int i2, .int i3]) (n := 4) (Nat.le_of_ble_eq_true rfl)
  rw [lg_entry_eq]
  generalize (lg_sl ([.ref (base + a0), .int i1, .int i2, .int i3]) ++ List.replicate (4 - (lg_sl ([.ref (base + a0), .int i1, .int i2, .int i3])).length) Slot.unset).toArray = ls at hl ⊢
  exact X4_stop_k0 hC B.returns B.notSynchronized h hP va_S.rf hl
-- ===== X5_in
set_option maxRecDepth 100000 in
set_option maxHeartbeats 4000000 in
theorem X5_in_k14 (hC : Cx p m c cX5_in 3 s args RX5 base D cI cJ tS) (hr : meth.sig.returnType = (some .boolean)) (hlocks : meth.locks = false) {n : Nat} {σ : Sg} {r : Int32} {τ : Sg} {H : Heap} {locs : List Loc} {ls : Array Slot} (h : X5_in_b14 n σ = some (r, τ)) : Dy base D cI cJ σ H → va_S (fun q => base ≤ q) s.heap H locs → lv_has ls 3 [] → W p l e (rmD 0 0 0) s m args below meth c H locs 0 0 (MQ below (QwI base D cI cJ r τ) args s 0 0 (fun q => base ≤ q)) (F0 m 14 ls []) := by
  intro hP hS hl
  obtain ⟨hx, hb, hml, hown, hts⟩ := hC.1
  unfold X5_in_b14 at h
  refine lv_iconst (v := 0) hx hb dX5_in_14 (by decide) ?_
  exact w_zret hC hr hlocks hP hS h dX5_in_15
set_option maxRecDepth 100000 in
set_option maxHeartbeats 4000000 in
theorem X5_in_k0 (hC : Cx p m c cX5_in 3 s args RX5 base D cI cJ tS) (hr : meth.sig.returnType = (some .boolean)) (hlocks : meth.locks = false) {n : Nat} {i0 : Int32} {i1 : Int32} {i2 : Int32} {σ : Sg} {r : Int32} {τ : Sg} {H : Heap} {locs : List Loc} {ls : Array Slot} (h : f_X5_in n i0 i1 i2 σ = some (r, τ)) : Dy base D cI cJ σ H → va_S (fun q => base ≤ q) s.heap H locs → lv_has ls 3 [(0, .int i0), (1, .int i1), (2, .int i2)] → W p l e (rmD 0 0 0) s m args below meth c H locs 0 0 (MQ below (QwI base D cI cJ r τ) args s 0 0 (fun q => base ≤ q)) (F0 m 0 ls []) := by
  intro hP hS hl
  obtain ⟨hx, hb, hml, hown, hts⟩ := hC.1
  unfold f_X5_in at h
  refine lv_iload_n hx hb dX5_in_0 rfl (lv_at hl 0 rfl) ?_
  refine lv_iload_n hx hb dX5_in_1 rfl (lv_at hl 1 rfl) ?_
  refine lv_icmp_lt (tgt := 14) hx hb dX5_in_2 (by decide) (fun c_1 => ?_) (fun c_1 => ?_)
  · rw [if_pos c_1] at h
    exact X5_in_k14 hC hr hlocks h hP hS (lv_sub hl [] rfl)
  · rw [if_neg c_1] at h
    refine lv_iload_n hx hb dX5_in_5 rfl (lv_at hl 0 rfl) ?_
    refine lv_iload_n hx hb dX5_in_6 rfl (lv_at hl 2 rfl) ?_
    refine lv_icmp_gt (tgt := 14) hx hb dX5_in_7 (by decide) (fun c_2 => ?_) (fun c_2 => ?_)
    · rw [if_pos c_2] at h
      exact X5_in_k14 hC hr hlocks h hP hS (lv_sub hl [] rfl)
    · rw [if_neg c_2] at h
      refine lv_iconst (v := 1) hx hb dX5_in_10 (by decide) ?_
      refine lv_goto (tgt := 15) hx hb dX5_in_11 (by decide) ?_
      exact w_zret hC hr hlocks hP hS h dX5_in_15
set_option maxRecDepth 100000 in
set_option maxHeartbeats 4000000 in
theorem c_X5_in {l : Launch} {base : Nat} {D : va_G} {cI cJ : ClassId} {tS : Nat} {n : Nat} {i0 : Int32} {i1 : Int32} {i2 : Int32} {σ : Sg} {r : Int32} {τ : Sg} (h : f_X5_in n i0 i1 i2 σ = some (r, τ)) : Met l yX5_in (.code yX5_in cX5_in 3 (some .boolean) :: wsL_law) (rmD 0 0 0) (Pw base D cI cJ tS σ [.int i0, .int i1, .int i2]) (QwI base D cI cJ r τ) 0 0 (fun q => base ≤ q) := by
  refine Met.ofW (cc := cX5_in) (maxL := 3) (ret := (some .boolean)) (by decide) rfl ?_
  intro p e s m args below meth c s₁ B hml hv
  obtain ⟨rfl, hSt, hP⟩ := hv
  have hC : Cx p m c cX5_in 3 s _ RX5 base D cI cJ tS := ⟨⟨B.exec, B.bytes, hml, findClass_of_methodNamed B.named, fun w hw => atoms_spec (ws := Cond.code yX5_in cX5_in 3 (some .boolean) :: wsL_law) B.pre w (List.mem_cons_of_mem _ hw)⟩, hSt⟩
  have hl := lv_entry ([.int i0, .int i1, .int i2]) (n := 3) (Nat.le_of_ble_eq_true rfl)
  rw [lg_entry_eq]
  generalize (lg_sl ([.int i0, .int i1, .int i2]) ++ List.replicate (3 - (lg_sl ([.int i0, .int i1, .int i2])).length) Slot.unset).toArray = ls at hl ⊢
  exact X5_in_k0 hC B.returns B.notSynchronized h hP va_S.rf hl
-- ===== X5_isOn
set_option maxRecDepth 100000 in
set_option maxHeartbeats 4000000 in
theorem X5_isOn_k0 (hC : Cx p m c cX5_isOn 1 s args RX5 base D cI cJ tS) (hr : meth.sig.returnType = (some .boolean)) (hlocks : meth.locks = false) {n : Nat} {i0 : Int32} {σ : Sg} {r : Int32} {τ : Sg} {H : Heap} {locs : List Loc} {ls : Array Slot} (h : f_X5_isOn n i0 σ = some (r, τ)) : Dy base D cI cJ σ H → va_S (fun q => base ≤ q) s.heap H locs → lv_has ls 1 [(0, .int i0)] → W p l e (rmD 1 0 0) s m args below meth c H locs 0 0 (MQ below (QwI base D cI cJ r τ) args s 0 0 (fun q => base ≤ q)) (F0 m 0 ls []) := by
  intro hP hS hl
  obtain ⟨hx, hb, hml, hown, hts⟩ := hC.1
  unfold f_X5_isOn at h
  refine lv_iload_n hx hb dX5_isOn_0 rfl (lv_at hl 0 rfl) ?_
  refine lv_iconst (v := 0) hx hb dX5_isOn_1 (by decide) ?_
  refine lv_bipush (v := 8) hx hb dX5_isOn_2 (by decide) ?_
  obtain ⟨w_1, hw_1, h⟩ := obn h
  refine k_I (r_stat (As := [.int i0, .int 0, .int 8]) (rest := []) hC hP hS (c_X5_in (l := l) (base := base) (D := D) (cI := cI) (cJ := cJ) (tS := tS) hw_1) wl_111 wl_112 wl_113 wl_110 rfl rfl hd_X5_in ⟨Nat.le_of_ble_eq_true rfl, Nat.le_of_ble_eq_true rfl⟩ rfl hl.1 rfl (Nat.le_of_ble_eq_true rfl) dX5_isOn_4 ⟨Nat.le_of_ble_eq_true rfl, Nat.le_of_ble_eq_true rfl⟩) hS (fun H locs hP hS => ?_)
  exact w_zret hC hr hlocks hP hS h dX5_isOn_7
set_option maxRecDepth 100000 in
set_option maxHeartbeats 4000000 in
theorem c_X5_isOn {l : Launch} {base : Nat} {D : va_G} {cI cJ : ClassId} {tS : Nat} {n : Nat} {i0 : Int32} {σ : Sg} {r : Int32} {τ : Sg} (h : f_X5_isOn n i0 σ = some (r, τ)) : Met l yX5_isOn (.code yX5_isOn cX5_isOn 1 (some .boolean) :: wsL_law) (rmD 1 0 0) (Pw base D cI cJ tS σ [.int i0]) (QwI base D cI cJ r τ) 0 0 (fun q => base ≤ q) := by
  refine Met.ofW (cc := cX5_isOn) (maxL := 1) (ret := (some .boolean)) (by decide) rfl ?_
  intro p e s m args below meth c s₁ B hml hv
  obtain ⟨rfl, hSt, hP⟩ := hv
  have hC : Cx p m c cX5_isOn 1 s _ RX5 base D cI cJ tS := ⟨⟨B.exec, B.bytes, hml, findClass_of_methodNamed B.named, fun w hw => atoms_spec (ws := Cond.code yX5_isOn cX5_isOn 1 (some .boolean) :: wsL_law) B.pre w (List.mem_cons_of_mem _ hw)⟩, hSt⟩
  have hl := lv_entry ([.int i0]) (n := 1) (Nat.le_of_ble_eq_true rfl)
  rw [lg_entry_eq]
  generalize (lg_sl ([.int i0]) ++ List.replicate (1 - (lg_sl ([.int i0])).length) Slot.unset).toArray = ls at hl ⊢
  exact X5_isOn_k0 hC B.returns B.notSynchronized h hP va_S.rf hl
-- ===== X5_stop
set_option maxRecDepth 100000 in
set_option maxHeartbeats 4000000 in
theorem X5_stop_k155 (hC : Cx p m c cX5_stop 6 s args RX5 base D cI cJ tS) (hr : meth.sig.returnType = (some .int)) (hlocks : meth.locks = false) {n : Nat} {i5 : Int32} {σ : Sg} {r : Int32} {τ : Sg} {H : Heap} {locs : List Loc} {ls : Array Slot} (h : X5_stop_b155 n i5 σ = some (r, τ)) : Dy base D cI cJ σ H → va_S (fun q => base ≤ q) s.heap H locs → lv_has ls 6 [(5, .int i5)] → W p l e (rmD 2 0 0) s m args below meth c H locs 0 0 (MQ below (QwI base D cI cJ r τ) args s 0 0 (fun q => base ≤ q)) (F0 m 155 ls []) := by
  intro hP hS hl
  obtain ⟨hx, hb, hml, hown, hts⟩ := hC.1
  unfold X5_stop_b155 at h
  refine lv_iload hx hb dX5_stop_155 (lv_at hl 0 rfl) ?_
  obtain ⟨rfl, rfl⟩ := Prod.mk.inj (Option.some.inj h)
  exact w_iret hC hr hlocks hP hS dX5_stop_157
set_option maxRecDepth 100000 in
set_option maxHeartbeats 4000000 in
theorem X5_stop_k117 (hC : Cx p m c cX5_stop 6 s args RX5 base D cI cJ tS) (hr : meth.sig.returnType = (some .int)) (hlocks : meth.locks = false) {n : Nat} {a0 : Nat} {i1 : Int32} {i2 : Int32} {i3 : Int32} {ti0 : Int32} {σ : Sg} {r : Int32} {τ : Sg} {H : Heap} {locs : List Loc} {ls : Array Slot} (h : X5_stop_b117 n a0 i1 i2 i3 ti0 σ = some (r, τ)) : Dy base D cI cJ σ H → va_S (fun q => base ≤ q) s.heap H locs → lv_has ls 6 [(0, .ref (base + a0)), (1, .int i1), (2, .int i2), (3, .int i3)] → W p l e (rmD 2 0 0) s m args below meth c H locs 0 0 (MQ below (QwI base D cI cJ r τ) args s 0 0 (fun q => base ≤ q)) (F0 m 117 ls [.int ti0]) := by
  intro hP hS hl
  obtain ⟨hx, hb, hml, hown, hts⟩ := hC.1
  unfold X5_stop_b117 at h
  refine lv_istore (lv' := [(5, .int ti0), (0, .ref (base + a0)), (1, .int i1), (2, .int i2), (3, .int i3)]) hx hb dX5_stop_117 hl (by decide) rfl (fun ls hl => ?_)
  refine lv_iload_n hx hb dX5_stop_119 rfl (lv_at hl 3 rfl) ?_
  refine lv_if_ne (tgt := 133) hx hb dX5_stop_120 (by decide) (fun c_1 => ?_) (fun c_1 => ?_)
  · rw [if_neg c_1] at h
    refine lv_iload_n hx hb dX5_stop_133 rfl (lv_at hl 3 rfl) ?_
    refine lv_iconst (v := 1) hx hb dX5_stop_134 (by decide) ?_
    refine lv_icmp_ne (tgt := 148) hx hb dX5_stop_135 (by decide) (fun c_2 => ?_) (fun c_2 => ?_)
    · rw [if_neg c_2] at h
      refine lv_aload_n hx hb dX5_stop_148 rfl (lv_at hl 1 rfl) ?_
      obtain ⟨q_3, hq_3, h⟩ := obn h
      refine w_getR (ci := 5) (j := 2) hC hP rfl inlX5 (by decide) (by decide) rfl hq_3 wl_66 dX5_stop_149 ?_
      refine lv_iload_n hx hb dX5_stop_152 rfl (lv_at hl 2 rfl) ?_
      refine lv_iload_n hx hb dX5_stop_153 rfl (lv_at hl 4 rfl) ?_
      obtain ⟨s_4, hs_4, h⟩ := obn h
      refine w_iast hC hP hS hs_4 dX5_stop_154 (fun H locs hP hS => ?_)
      exact X5_stop_k155 hC hr hlocks h hP hS (lv_sub hl [0] rfl)
    · rw [if_pos c_2] at h
      refine lv_aload_n hx hb dX5_stop_138 rfl (lv_at hl 1 rfl) ?_
      obtain ⟨q_5, hq_5, h⟩ := obn h
      refine w_getR (ci := 5) (j := 1) hC hP rfl inlX5 (by decide) (by decide) rfl hq_5 wl_68 dX5_stop_139 ?_
      refine lv_iload_n hx hb dX5_stop_142 rfl (lv_at hl 2 rfl) ?_
      refine lv_iload_n hx hb dX5_stop_143 rfl (lv_at hl 4 rfl) ?_
      obtain ⟨s_6, hs_6, h⟩ := obn h
      refine w_iast hC hP hS hs_6 dX5_stop_144 (fun H locs hP hS => ?_)
      refine lv_goto (tgt := 155) hx hb dX5_stop_145 (by decide) ?_
      exact X5_stop_k155 hC hr hlocks h hP hS (lv_sub hl [0] rfl)
  · rw [if_pos c_1] at h
    refine lv_aload_n hx hb dX5_stop_123 rfl (lv_at hl 1 rfl) ?_
    obtain ⟨q_7, hq_7, h⟩ := obn h
    refine w_getR (ci := 5) (j := 0) hC hP rfl inlX5 (by decide) (by decide) rfl hq_7 wl_65 dX5_stop_124 ?_
    refine lv_iload_n hx hb dX5_stop_127 rfl (lv_at hl 2 rfl) ?_
    refine lv_iload_n hx hb dX5_stop_128 rfl (lv_at hl 4 rfl) ?_
    obtain ⟨s_8, hs_8, h⟩ := obn h
    refine w_iast hC hP hS hs_8 dX5_stop_129 (fun H locs hP hS => ?_)
    refine lv_goto (tgt := 155) hx hb dX5_stop_130 (by decide) ?_
    exact X5_stop_k155 hC hr hlocks h hP hS (lv_sub hl [0] rfl)
set_option maxRecDepth 100000 in
set_option maxHeartbeats 4000000 in
theorem X5_stop_k74 (hC : Cx p m c cX5_stop 6 s args RX5 base D cI cJ tS) (hr : meth.sig.returnType = (some .int)) (hlocks : meth.locks = false) {n : Nat} {a0 : Nat} {i1 : Int32} {i2 : Int32} {i3 : Int32} {ti0 : Int32} {σ : Sg} {r : Int32} {τ : Sg} {H : Heap} {locs : List Loc} {ls : Array Slot} (h : X5_stop_b74 n a0 i1 i2 i3 ti0 σ = some (r, τ)) : Dy base D cI cJ σ H → va_S (fun q => base ≤ q) s.heap H locs → lv_has ls 6 [(0, .ref (base + a0)), (1, .int i1), (2, .int i2), (3, .int i3)] → W p l e (rmD 2 0 0) s m args below meth c H locs 0 0 (MQ below (QwI base D cI cJ r τ) args s 0 0 (fun q => base ≤ q)) (F0 m 74 ls [.int ti0]) := by
  intro hP hS hl
  obtain ⟨hx, hb, hml, hown, hts⟩ := hC.1
  unfold X5_stop_b74 at h
  refine lv_istore (lv' := [(4, .int ti0), (0, .ref (base + a0)), (1, .int i1), (2, .int i2), (3, .int i3)]) hx hb dX5_stop_74 hl (by decide) rfl (fun ls hl => ?_)
  refine lv_iload hx hb dX5_stop_76 (lv_at hl 0 rfl) ?_
  refine lv_if_ne (tgt := 84) hx hb dX5_stop_78 (by decide) (fun c_9 => ?_) (fun c_9 => ?_)
  · rw [if_neg c_9] at h
    refine lv_iload_n hx hb dX5_stop_84 rfl (lv_at hl 3 rfl) ?_
    refine lv_if_ne (tgt := 97) hx hb dX5_stop_85 (by decide) (fun c_10 => ?_) (fun c_10 => ?_)
    · rw [if_neg c_10] at h
      refine lv_iload_n hx hb dX5_stop_97 rfl (lv_at hl 3 rfl) ?_
      refine lv_iconst (v := 1) hx hb dX5_stop_98 (by decide) ?_
      refine lv_icmp_ne (tgt := 111) hx hb dX5_stop_99 (by decide) (fun c_11 => ?_) (fun c_11 => ?_)
      · rw [if_neg c_11] at h
        refine lv_aload_n hx hb dX5_stop_111 rfl (lv_at hl 1 rfl) ?_
        obtain ⟨q_12, hq_12, h⟩ := obn h
        refine w_getR (ci := 5) (j := 2) hC hP rfl inlX5 (by decide) (by decide) rfl hq_12 wl_66 dX5_stop_112 ?_
        refine lv_iload_n hx hb dX5_stop_115 rfl (lv_at hl 2 rfl) ?_
        obtain ⟨v_13, hv_13, h⟩ := obn h
        refine w_iald hC hP hv_13 dX5_stop_116 ?_
        exact X5_stop_k117 hC hr hlocks h hP hS (lv_sub hl [1, 2, 3, 4] rfl)
      · rw [if_pos c_11] at h
        refine lv_aload_n hx hb dX5_stop_102 rfl (lv_at hl 1 rfl) ?_
        obtain ⟨q_14, hq_14, h⟩ := obn h
        refine w_getR (ci := 5) (j := 1) hC hP rfl inlX5 (by decide) (by decide) rfl hq_14 wl_68 dX5_stop_103 ?_
        refine lv_iload_n hx hb dX5_stop_106 rfl (lv_at hl 2 rfl) ?_
        obtain ⟨v_15, hv_15, h⟩ := obn h
        refine w_iald hC hP hv_15 dX5_stop_107 ?_
        refine lv_goto (tgt := 117) hx hb dX5_stop_108 (by decide) ?_
        exact X5_stop_k117 hC hr hlocks h hP hS (lv_sub hl [1, 2, 3, 4] rfl)
    · rw [if_pos c_10] at h
      refine lv_aload_n hx hb dX5_stop_88 rfl (lv_at hl 1 rfl) ?_
      obtain ⟨q_16, hq_16, h⟩ := obn h
      refine w_getR (ci := 5) (j := 0) hC hP rfl inlX5 (by decide) (by decide) rfl hq_16 wl_65 dX5_stop_89 ?_
      refine lv_iload_n hx hb dX5_stop_92 rfl (lv_at hl 2 rfl) ?_
      obtain ⟨v_17, hv_17, h⟩ := obn h
      refine w_iald hC hP hv_17 dX5_stop_93 ?_
      refine lv_goto (tgt := 117) hx hb dX5_stop_94 (by decide) ?_
      exact X5_stop_k117 hC hr hlocks h hP hS (lv_sub hl [1, 2, 3, 4] rfl)
  · rw [if_pos c_9] at h
    refine lv_bipush (v := (-2)) hx hb dX5_stop_81 (by decide) ?_
    obtain ⟨rfl, rfl⟩ := Prod.mk.inj (Option.some.inj h)
    exact w_iret hC hr hlocks hP hS dX5_stop_83
set_option maxRecDepth 100000 in
set_option maxHeartbeats 4000000 in
theorem X5_stop_k46 (hC : Cx p m c cX5_stop 6 s args RX5 base D cI cJ tS) (hr : meth.sig.returnType = (some .int)) (hlocks : meth.locks = false) {n : Nat} {a0 : Nat} {i1 : Int32} {i2 : Int32} {i3 : Int32} {σ : Sg} {r : Int32} {τ : Sg} {H : Heap} {locs : List Loc} {ls : Array Slot} (h : X5_stop_b46 n a0 i1 i2 i3 σ = some (r, τ)) : Dy base D cI cJ σ H → va_S (fun q => base ≤ q) s.heap H locs → lv_has ls 6 [(0, .ref (base + a0)), (1, .int i1), (2, .int i2), (3, .int i3)] → W p l e (rmD 2 0 0) s m args below meth c H locs 0 0 (MQ below (QwI base D cI cJ r τ) args s 0 0 (fun q => base ≤ q)) (F0 m 46 ls []) := by
  intro hP hS hl
  obtain ⟨hx, hb, hml, hown, hts⟩ := hC.1
  unfold X5_stop_b46 at h
  refine lv_iconst (v := 1) hx hb dX5_stop_46 (by decide) ?_
  refine lv_goto (tgt := 74) hx hb dX5_stop_47 (by decide) ?_
  exact X5_stop_k74 hC hr hlocks h hP hS (lv_sub hl [0, 1, 2, 3] rfl)
set_option maxRecDepth 100000 in
set_option maxHeartbeats 4000000 in
theorem X5_stop_k73 (hC : Cx p m c cX5_stop 6 s args RX5 base D cI cJ tS) (hr : meth.sig.returnType = (some .int)) (hlocks : meth.locks = false) {n : Nat} {a0 : Nat} {i1 : Int32} {i2 : Int32} {i3 : Int32} {σ : Sg} {r : Int32} {τ : Sg} {H : Heap} {locs : List Loc} {ls : Array Slot} (h : X5_stop_b73 n a0 i1 i2 i3 σ = some (r, τ)) : Dy base D cI cJ σ H → va_S (fun q => base ≤ q) s.heap H locs → lv_has ls 6 [(0, .ref (base + a0)), (1, .int i1), (2, .int i2), (3, .int i3)] → W p l e (rmD 2 0 0) s m args below meth c H locs 0 0 (MQ below (QwI base D cI cJ r τ) args s 0 0 (fun q => base ≤ q)) (F0 m 73 ls []) := by
  intro hP hS hl
  obtain ⟨hx, hb, hml, hown, hts⟩ := hC.1
  unfold X5_stop_b73 at h
  refine lv_iconst (v := 0) hx hb dX5_stop_73 (by decide) ?_
  exact X5_stop_k74 hC hr hlocks h hP hS (lv_sub hl [0, 1, 2, 3] rfl)
set_option maxRecDepth 100000 in
set_option maxHeartbeats 4000000 in
theorem X5_stop_k0 (hC : Cx p m c cX5_stop 6 s args RX5 base D cI cJ tS) (hr : meth.sig.returnType = (some .int)) (hlocks : meth.locks = false) {n : Nat} {a0 : Nat} {i1 : Int32} {i2 : Int32} {i3 : Int32} {σ : Sg} {r : Int32} {τ : Sg} {H : Heap} {locs : List Loc} {ls : Array Slot} (h : f_X5_stop n a0 i1 i2 i3 σ = some (r, τ)) : Dy base D cI cJ σ H → va_S (fun q => base ≤ q) s.heap H locs → lv_has ls 6 [(0, .ref (base + a0)), (1, .int i1), (2, .int i2), (3, .int i3)] → W p l e (rmD 2 0 0) s m args below meth c H locs 0 0 (MQ below (QwI base D cI cJ r τ) args s 0 0 (fun q => base ≤ q)) (F0 m 0 ls []) := by
  intro hP hS hl
  obtain ⟨hx, hb, hml, hown, hts⟩ := hC.1
  unfold f_X5_stop at h
  refine lv_iload_n hx hb dX5_stop_0 rfl (lv_at hl 1 rfl) ?_
  obtain ⟨w_18, hw_18, h⟩ := obn h
  refine k_I (r_stat (As := [.int i1]) (rest := []) hC hP hS (c_X5_isOn (l := l) (base := base) (D := D) (cI := cI) (cJ := cJ) (tS := tS) hw_18) wl_115 wl_116 wl_113 wl_114 rfl rfl hd_X5_isOn ⟨Nat.le_of_ble_eq_true rfl, Nat.le_of_ble_eq_true rfl⟩ rfl hl.1 rfl (Nat.le_of_ble_eq_true rfl) dX5_stop_1 ⟨Nat.le_of_ble_eq_true rfl, Nat.le_of_ble_eq_true rfl⟩) hS (fun H locs hP hS => ?_)
  refine lv_if_ne (tgt := 9) hx hb dX5_stop_4 (by decide) (fun c_19 => ?_) (fun c_19 => ?_)
  · rw [if_neg c_19] at h
    refine lv_iload_n hx hb dX5_stop_9 rfl (lv_at hl 2 rfl) ?_
    refine lv_if_ne (tgt := 25) hx hb dX5_stop_10 (by decide) (fun c_20 => ?_) (fun c_20 => ?_)
    · rw [if_neg c_20] at h
      refine lv_iload_n hx hb dX5_stop_25 rfl (lv_at hl 2 rfl) ?_
      refine lv_iconst (v := 1) hx hb dX5_stop_26 (by decide) ?_
      refine lv_icmp_ne (tgt := 54) hx hb dX5_stop_27 (by decide) (fun c_21 => ?_) (fun c_21 => ?_)
      · rw [if_neg c_21] at h
        refine lv_iload_n hx hb dX5_stop_54 rfl (lv_at hl 2 rfl) ?_
        refine lv_iconst (v := 2) hx hb dX5_stop_55 (by decide) ?_
        refine lv_icmp_ne (tgt := 73) hx hb dX5_stop_56 (by decide) (fun c_22 => ?_) (fun c_22 => ?_)
        · rw [if_neg c_22] at h
          exact X5_stop_k73 hC hr hlocks h hP hS (lv_sub hl [0, 1, 2, 3] rfl)
        · rw [if_pos c_22] at h
          refine lv_iload_n hx hb dX5_stop_59 rfl (lv_at hl 3 rfl) ?_
          refine lv_iconst (v := 1) hx hb dX5_stop_60 (by decide) ?_
          refine lv_bipush (v := 9) hx hb dX5_stop_61 (by decide) ?_
          obtain ⟨w_23, hw_23, h⟩ := obn h
          refine k_I (r_stat (As := [.int i3, .int 1, .int 9]) (rest := []) hC hP hS (c_X5_in (l := l) (base := base) (D := D) (cI := cI) (cJ := cJ) (tS := tS) hw_23) wl_111 wl_112 wl_113 wl_110 rfl rfl hd_X5_in ⟨Nat.le_of_ble_eq_true rfl, Nat.le_of_ble_eq_true rfl⟩ rfl hl.1 rfl (Nat.le_of_ble_eq_true rfl) dX5_stop_63 ⟨Nat.le_of_ble_eq_true rfl, Nat.le_of_ble_eq_true rfl⟩) hS (fun H locs hP hS => ?_)
          refine lv_if_eq (tgt := 73) hx hb dX5_stop_66 (by decide) (fun c_24 => ?_) (fun c_24 => ?_)
          · rw [if_pos c_24] at h
            exact X5_stop_k73 hC hr hlocks h hP hS (lv_sub hl [0, 1, 2, 3] rfl)
          · rw [if_neg c_24] at h
            refine lv_iconst (v := 1) hx hb dX5_stop_69 (by decide) ?_
            refine lv_goto (tgt := 74) hx hb dX5_stop_70 (by decide) ?_
            exact X5_stop_k74 hC hr hlocks h hP hS (lv_sub hl [0, 1, 2, 3] rfl)
      · rw [if_pos c_21] at h
        refine lv_iload_n hx hb dX5_stop_30 rfl (lv_at hl 3 rfl) ?_
        refine lv_if_eq (tgt := 46) hx hb dX5_stop_31 (by decide) (fun c_25 => ?_) (fun c_25 => ?_)
        · rw [if_pos c_25] at h
          exact X5_stop_k46 hC hr hlocks h hP hS (lv_sub hl [0, 1, 2, 3] rfl)
        · rw [if_neg c_25] at h
          refine lv_iload_n hx hb dX5_stop_34 rfl (lv_at hl 3 rfl) ?_
          refine lv_bipush (v := 10) hx hb dX5_stop_35 (by decide) ?_
          refine lv_sipush (v := 900) hx hb dX5_stop_37 (by decide) ?_
          obtain ⟨w_26, hw_26, h⟩ := obn h
          refine k_I (r_stat (As := [.int i3, .int 10, .int 900]) (rest := []) hC hP hS (c_X5_in (l := l) (base := base) (D := D) (cI := cI) (cJ := cJ) (tS := tS) hw_26) wl_111 wl_112 wl_113 wl_110 rfl rfl hd_X5_in ⟨Nat.le_of_ble_eq_true rfl, Nat.le_of_ble_eq_true rfl⟩ rfl hl.1 rfl (Nat.le_of_ble_eq_true rfl) dX5_stop_40 ⟨Nat.le_of_ble_eq_true rfl, Nat.le_of_ble_eq_true rfl⟩) hS (fun H locs hP hS => ?_)
          refine lv_if_eq (tgt := 50) hx hb dX5_stop_43 (by decide) (fun c_27 => ?_) (fun c_27 => ?_)
          · rw [if_pos c_27] at h
            refine lv_iconst (v := 0) hx hb dX5_stop_50 (by decide) ?_
            refine lv_goto (tgt := 74) hx hb dX5_stop_51 (by decide) ?_
            exact X5_stop_k74 hC hr hlocks h hP hS (lv_sub hl [0, 1, 2, 3] rfl)
          · rw [if_neg c_27] at h
            exact X5_stop_k46 hC hr hlocks h hP hS (lv_sub hl [0, 1, 2, 3] rfl)
    · rw [if_pos c_20] at h
      refine lv_iload_n hx hb dX5_stop_13 rfl (lv_at hl 3 rfl) ?_
      refine lv_bipush (v := 10) hx hb dX5_stop_14 (by decide) ?_
      refine lv_sipush (v := 900) hx hb dX5_stop_16 (by decide) ?_
      obtain ⟨w_28, hw_28, h⟩ := obn h
      refine k_I (r_stat (As := [.int i3, .int 10, .int 900]) (rest := []) hC hP hS (c_X5_in (l := l) (base := base) (D := D) (cI := cI) (cJ := cJ) (tS := tS) hw_28) wl_111 wl_112 wl_113 wl_110 rfl rfl hd_X5_in ⟨Nat.le_of_ble_eq_true rfl, Nat.le_of_ble_eq_true rfl⟩ rfl hl.1 rfl (Nat.le_of_ble_eq_true rfl) dX5_stop_19 ⟨Nat.le_of_ble_eq_true rfl, Nat.le_of_ble_eq_true rfl⟩) hS (fun H locs hP hS => ?_)
      refine lv_goto (tgt := 74) hx hb dX5_stop_22 (by decide) ?_
      exact X5_stop_k74 hC hr hlocks h hP hS (lv_sub hl [0, 1, 2, 3] rfl)
  · rw [if_pos c_19] at h
    refine lv_iconst (v := (-1)) hx hb dX5_stop_7 (by decide) ?_
    obtain ⟨rfl, rfl⟩ := Prod.mk.inj (Option.some.inj h)
    exact w_iret hC hr hlocks hP hS dX5_stop_8
set_option maxRecDepth 100000 in
set_option maxHeartbeats 4000000 in
theorem c_X5_stop {l : Launch} {base : Nat} {D : va_G} {cI cJ : ClassId} {tS : Nat} {n : Nat} {a0 : Nat} {i1 : Int32} {i2 : Int32} {i3 : Int32} {σ : Sg} {r : Int32} {τ : Sg} (h : f_X5_stop n a0 i1 i2 i3 σ = some (r, τ)) : Met l yX5_stop (.code yX5_stop cX5_stop 6 (some .int) :: wsL_law) (rmD 2 0 0) (Pw base D cI cJ tS σ [.ref (base + a0), .int i1, .int i2, .int i3]) (QwI base D cI cJ r τ) 0 0 (fun q => base ≤ q) := by
  refine Met.ofW (cc := cX5_stop) (maxL := 6) (ret := (some .int)) (by decide) rfl ?_
  intro p e s m args below meth c s₁ B hml hv
  obtain ⟨rfl, hSt, hP⟩ := hv
  have hC : Cx p m c cX5_stop 6 s _ RX5 base D cI cJ tS := ⟨⟨B.exec, B.bytes, hml, findClass_of_methodNamed B.named, fun w hw => atoms_spec (ws := Cond.code yX5_stop cX5_stop 6 (some .int) :: wsL_law) B.pre w (List.mem_cons_of_mem _ hw)⟩, hSt⟩
  have hl := lv_entry ([.ref (base + a0), .int i1, .int i2, .int i3]) (n := 6) (Nat.le_of_ble_eq_true rfl)
  rw [lg_entry_eq]
  generalize (lg_sl ([.ref (base + a0), .int i1, .int i2, .int i3]) ++ List.replicate (6 - (lg_sl ([.ref (base + a0), .int i1, .int i2, .int i3])).length) Slot.unset).toArray = ls at hl ⊢
  exact X5_stop_k0 hC B.returns B.notSynchronized h hP va_S.rf hl
-- ===== X1_earliestNewBus
set_option maxRecDepth 100000 in
set_option maxHeartbeats 4000000 in
theorem X1_earliestNewBus_k0 (hC : Cx p m c cX1_earliestNewBus 1 s args RX1 base D cI cJ tS) (hr : meth.sig.returnType = (some .int)) (hlocks : meth.locks = false) {n : Nat} {a0 : Nat} {σ : Sg} {r : Int32} {τ : Sg} {H : Heap} {locs : List Loc} {ls : Array Slot} (h : f_X1_earliestNewBus n a0 σ = some (r, τ)) : Dy base D cI cJ σ H → va_S (fun q => base ≤ q) s.heap H locs → lv_has ls 1 [(0, .ref (base + a0))] → W p l e (rmD 0 0 0) s m args below meth c H locs 0 0 (MQ below (QwI base D cI cJ r τ) args s 0 0 (fun q => base ≤ q)) (F0 m 0 ls []) := by
  intro hP hS hl
  obtain ⟨hx, hb, hml, hown, hts⟩ := hC.1
  unfold f_X1_earliestNewBus at h
  refine lv_aload_n hx hb dX1_earliestNewBus_0 rfl (lv_at hl 0 rfl) ?_
  obtain ⟨v_1, hv_1, h⟩ := obn h
  refine w_getI (ci := 1) (j := 7) hC hP rfl inlX1 (by decide) (by decide) rfl hv_1 wl_117 dX1_earliestNewBus_1 ?_
  refine lv_if_le (tgt := 21) hx hb dX1_earliestNewBus_4 (by decide) (fun c_2 => ?_) (fun c_2 => ?_)
  · rw [if_pos c_2] at h
    refine lv_iconst (v := 0) hx hb dX1_earliestNewBus_21 (by decide) ?_
    obtain ⟨rfl, rfl⟩ := Prod.mk.inj (Option.some.inj h)
    exact w_iret hC hr hlocks hP hS dX1_earliestNewBus_22
  · rw [if_neg c_2] at h
    refine lv_aload_n hx hb dX1_earliestNewBus_7 rfl (lv_at hl 0 rfl) ?_
    obtain ⟨q_3, hq_3, h⟩ := obn h
    refine w_getR (ci := 1) (j := 4) hC hP rfl inlX1 (by decide) (by decide) rfl hq_3 wl_8 dX1_earliestNewBus_8 ?_
    refine lv_aload_n hx hb dX1_earliestNewBus_11 rfl (lv_at hl 0 rfl) ?_
    obtain ⟨v_4, hv_4, h⟩ := obn h
    refine w_getI (ci := 1) (j := 7) hC hP rfl inlX1 (by decide) (by decide) rfl hv_4 wl_117 dX1_earliestNewBus_12 ?_
    refine lv_iconst (v := 1) hx hb dX1_earliestNewBus_15 (by decide) ?_
    refine lv_isub hx hb dX1_earliestNewBus_16 ?_
    obtain ⟨v_5, hv_5, h⟩ := obn h
    refine w_iald hC hP hv_5 dX1_earliestNewBus_17 ?_
    refine lv_goto (tgt := 22) hx hb dX1_earliestNewBus_18 (by decide) ?_
    obtain ⟨rfl, rfl⟩ := Prod.mk.inj (Option.some.inj h)
    exact w_iret hC hr hlocks hP hS dX1_earliestNewBus_22
set_option maxRecDepth 100000 in
set_option maxHeartbeats 4000000 in
theorem c_X1_earliestNewBus {l : Launch} {base : Nat} {D : va_G} {cI cJ : ClassId} {tS : Nat} {n : Nat} {a0 : Nat} {σ : Sg} {r : Int32} {τ : Sg} (h : f_X1_earliestNewBus n a0 σ = some (r, τ)) : Met l yX1_earliestNewBus (.code yX1_earliestNewBus cX1_earliestNewBus 1 (some .int) :: wsL_law) (rmD 0 0 0) (Pw base D cI cJ tS σ [.ref (base + a0)]) (QwI base D cI cJ r τ) 0 0 (fun q => base ≤ q) := by
  refine Met.ofW (cc := cX1_earliestNewBus) (maxL := 1) (ret := (some .int)) (by decide) rfl ?_
  intro p e s m args below meth c s₁ B hml hv
  obtain ⟨rfl, hSt, hP⟩ := hv
  have hC : Cx p m c cX1_earliestNewBus 1 s _ RX1 base D cI cJ tS := ⟨⟨B.exec, B.bytes, hml, findClass_of_methodNamed B.named, fun w hw => atoms_spec (ws := Cond.code yX1_earliestNewBus cX1_earliestNewBus 1 (some .int) :: wsL_law) B.pre w (List.mem_cons_of_mem _ hw)⟩, hSt⟩
  have hl := lv_entry ([.ref (base + a0)]) (n := 1) (Nat.le_of_ble_eq_true rfl)
  rw [lg_entry_eq]
  generalize (lg_sl ([.ref (base + a0)]) ++ List.replicate (1 - (lg_sl ([.ref (base + a0)])).length) Slot.unset).toArray = ls at hl ⊢
  exact X1_earliestNewBus_k0 hC B.returns B.notSynchronized h hP va_S.rf hl
-- ===== X1_addBus
set_option maxRecDepth 100000 in
set_option maxHeartbeats 4000000 in
theorem X1_addBus_k0 (hC : Cx p m c cX1_addBus 3 s args RX1 base D cI cJ tS) (hr : meth.sig.returnType = (some .int)) (hlocks : meth.locks = false) {n : Nat} {a0 : Nat} {i1 : Int32} {i2 : Int32} {σ : Sg} {r : Int32} {τ : Sg} {H : Heap} {locs : List Loc} {ls : Array Slot} (h : f_X1_addBus n a0 i1 i2 σ = some (r, τ)) : Dy base D cI cJ σ H → va_S (fun q => base ≤ q) s.heap H locs → lv_has ls 3 [(0, .ref (base + a0)), (1, .int i1), (2, .int i2)] → W p l e (rmD 0 0 0) s m args below meth c H locs 0 0 (MQ below (QwI base D cI cJ r τ) args s 0 0 (fun q => base ≤ q)) (F0 m 0 ls []) := by
  intro hP hS hl
  obtain ⟨hx, hb, hml, hown, hts⟩ := hC.1
  unfold f_X1_addBus at h
  refine lv_aload_n hx hb dX1_addBus_0 rfl (lv_at hl 0 rfl) ?_
  obtain ⟨q_1, hq_1, h⟩ := obn h
  refine w_getR (ci := 1) (j := 4) hC hP rfl inlX1 (by decide) (by decide) rfl hq_1 wl_8 dX1_addBus_1 ?_
  refine lv_aload_n hx hb dX1_addBus_4 rfl (lv_at hl 0 rfl) ?_
  obtain ⟨v_2, hv_2, h⟩ := obn h
  refine w_getI (ci := 1) (j := 7) hC hP rfl inlX1 (by decide) (by decide) rfl hv_2 wl_117 dX1_addBus_5 ?_
  refine lv_iload_n hx hb dX1_addBus_8 rfl (lv_at hl 1 rfl) ?_
  obtain ⟨s_3, hs_3, h⟩ := obn h
  refine w_iast hC hP hS hs_3 dX1_addBus_9 (fun H locs hP hS => ?_)
  refine lv_aload_n hx hb dX1_addBus_10 rfl (lv_at hl 0 rfl) ?_
  obtain ⟨q_4, hq_4, h⟩ := obn h
  refine w_getR (ci := 1) (j := 5) hC hP rfl inlX1 (by decide) (by decide) rfl hq_4 wl_9 dX1_addBus_11 ?_
  refine lv_aload_n hx hb dX1_addBus_14 rfl (lv_at hl 0 rfl) ?_
  obtain ⟨v_5, hv_5, h⟩ := obn h
  refine w_getI (ci := 1) (j := 7) hC hP rfl inlX1 (by decide) (by decide) rfl hv_5 wl_117 dX1_addBus_15 ?_
  refine lv_iload_n hx hb dX1_addBus_18 rfl (lv_at hl 2 rfl) ?_
  obtain ⟨s_6, hs_6, h⟩ := obn h
  refine w_iast hC hP hS hs_6 dX1_addBus_19 (fun H locs hP hS => ?_)
  refine lv_aload_n hx hb dX1_addBus_20 rfl (lv_at hl 0 rfl) ?_
  obtain ⟨q_7, hq_7, h⟩ := obn h
  refine w_getR (ci := 1) (j := 6) hC hP rfl inlX1 (by decide) (by decide) rfl hq_7 wl_10 dX1_addBus_21 ?_
  refine lv_aload_n hx hb dX1_addBus_24 rfl (lv_at hl 0 rfl) ?_
  obtain ⟨v_8, hv_8, h⟩ := obn h
  refine w_getI (ci := 1) (j := 7) hC hP rfl inlX1 (by decide) (by decide) rfl hv_8 wl_117 dX1_addBus_25 ?_
  refine lv_bipush (v := 9) hx hb dX1_addBus_28 (by decide) ?_
  obtain ⟨s_9, hs_9, h⟩ := obn h
  refine w_iast hC hP hS hs_9 dX1_addBus_30 (fun H locs hP hS => ?_)
  refine lv_aload_n hx hb dX1_addBus_31 rfl (lv_at hl 0 rfl) ?_
  refine lv_dup hx hb dX1_addBus_32 rfl ?_
  obtain ⟨v_10, hv_10, h⟩ := obn h
  refine w_getI (ci := 1) (j := 7) hC hP rfl inlX1 (by decide) (by decide) rfl hv_10 wl_117 dX1_addBus_33 ?_
  refine lv_iconst (v := 1) hx hb dX1_addBus_36 (by decide) ?_
  refine lv_iadd hx hb dX1_addBus_37 ?_
  obtain ⟨s_11, hs_11, h⟩ := obn h
  refine w_putI (ci := 1) (j := 7) hC hP hS rfl inlX1 tyX1 tyX1_ok nmX1 (by decide) (by decide) rfl rfl rfl rfl hs_11 wl_117 dX1_addBus_38 (fun H locs hP hS => ?_)
  refine lv_aload_n hx hb dX1_addBus_41 rfl (lv_at hl 0 rfl) ?_
  obtain ⟨v_12, hv_12, h⟩ := obn h
  refine w_getI (ci := 1) (j := 7) hC hP rfl inlX1 (by decide) (by decide) rfl hv_12 wl_117 dX1_addBus_42 ?_
  refine lv_iconst (v := 1) hx hb dX1_addBus_45 (by decide) ?_
  refine lv_isub hx hb dX1_addBus_46 ?_
  obtain ⟨rfl, rfl⟩ := Prod.mk.inj (Option.some.inj h)
  exact w_iret hC hr hlocks hP hS dX1_addBus_47
set_option maxRecDepth 100000 in
set_option maxHeartbeats 4000000 in
theorem c_X1_addBus {l : Launch} {base : Nat} {D : va_G} {cI cJ : ClassId} {tS : Nat} {n : Nat} {a0 : Nat} {i1 : Int32} {i2 : Int32} {σ : Sg} {r : Int32} {τ : Sg} (h : f_X1_addBus n a0 i1 i2 σ = some (r, τ)) : Met l yX1_addBus (.code yX1_addBus cX1_addBus 3 (some .int) :: wsL_law) (rmD 0 0 0) (Pw base D cI cJ tS σ [.ref (base + a0), .int i1, .int i2]) (QwI base D cI cJ r τ) 0 0 (fun q => base ≤ q) := by
  refine Met.ofW (cc := cX1_addBus) (maxL := 3) (ret := (some .int)) (by decide) rfl ?_
  intro p e s m args below meth c s₁ B hml hv
  obtain ⟨rfl, hSt, hP⟩ := hv
  have hC : Cx p m c cX1_addBus 3 s _ RX1 base D cI cJ tS := ⟨⟨B.exec, B.bytes, hml, findClass_of_methodNamed B.named, fun w hw => atoms_spec (ws := Cond.code yX1_addBus cX1_addBus 3 (some .int) :: wsL_law) B.pre w (List.mem_cons_of_mem _ hw)⟩, hSt⟩
  have hl := lv_entry ([.ref (base + a0), .int i1, .int i2]) (n := 3) (Nat.le_of_ble_eq_true rfl)
  rw [lg_entry_eq]
  generalize (lg_sl ([.ref (base + a0), .int i1, .int i2]) ++ List.replicate (3 - (lg_sl ([.ref (base + a0), .int i1, .int i2])).length) Slot.unset).toArray = ls at hl ⊢
  exact X1_addBus_k0 hC B.returns B.notSynchronized h hP va_S.rf hl
-- ===== X4_bus
set_option maxRecDepth 100000 in
set_option maxHeartbeats 4000000 in
theorem X4_bus_k18 (hC : Cx p m c cX4_bus 3 s args RX4 base D cI cJ tS) (hr : meth.sig.returnType = (some .int)) (hlocks : meth.locks = false) {n : Nat} {σ : Sg} {r : Int32} {τ : Sg} {H : Heap} {locs : List Loc} {ls : Array Slot} (h : X4_bus_b18 n σ = some (r, τ)) : Dy base D cI cJ σ H → va_S (fun q => base ≤ q) s.heap H locs → lv_has ls 3 [] → W p l e (rmD 1 0 0) s m args below meth c H locs 0 0 (MQ below (QwI base D cI cJ r τ) args s 0 0 (fun q => base ≤ q)) (F0 m 18 ls []) := by
  intro hP hS hl
  obtain ⟨hx, hb, hml, hown, hts⟩ := hC.1
  unfold X4_bus_b18 at h
  refine lv_bipush (v := (-2)) hx hb dX4_bus_18 (by decide) ?_
  obtain ⟨rfl, rfl⟩ := Prod.mk.inj (Option.some.inj h)
  exact w_iret hC hr hlocks hP hS dX4_bus_20
set_option maxRecDepth 100000 in
set_option maxHeartbeats 4000000 in
theorem X4_bus_k32 (hC : Cx p m c cX4_bus 3 s args RX4 base D cI cJ tS) (hr : meth.sig.returnType = (some .int)) (hlocks : meth.locks = false) {n : Nat} {σ : Sg} {r : Int32} {τ : Sg} {H : Heap} {locs : List Loc} {ls : Array Slot} (h : X4_bus_b32 n σ = some (r, τ)) : Dy base D cI cJ σ H → va_S (fun q => base ≤ q) s.heap H locs → lv_has ls 3 [] → W p l e (rmD 1 0 0) s m args below meth c H locs 0 0 (MQ below (QwI base D cI cJ r τ) args s 0 0 (fun q => base ≤ q)) (F0 m 32 ls []) := by
  intro hP hS hl
  obtain ⟨hx, hb, hml, hown, hts⟩ := hC.1
  unfold X4_bus_b32 at h
  refine lv_bipush (v := (-2)) hx hb dX4_bus_32 (by decide) ?_
  obtain ⟨rfl, rfl⟩ := Prod.mk.inj (Option.some.inj h)
  exact w_iret hC hr hlocks hP hS dX4_bus_34
set_option maxRecDepth 100000 in
set_option maxHeartbeats 4000000 in
theorem X4_bus_k0 (hC : Cx p m c cX4_bus 3 s args RX4 base D cI cJ tS) (hr : meth.sig.returnType = (some .int)) (hlocks : meth.locks = false) {n : Nat} {a0 : Nat} {i1 : Int32} {i2 : Int32} {σ : Sg} {r : Int32} {τ : Sg} {H : Heap} {locs : List Loc} {ls : Array Slot} (h : f_X4_bus n a0 i1 i2 σ = some (r, τ)) : Dy base D cI cJ σ H → va_S (fun q => base ≤ q) s.heap H locs → lv_has ls 3 [(0, .ref (base + a0)), (1, .int i1), (2, .int i2)] → W p l e (rmD 1 0 0) s m args below meth c H locs 0 0 (MQ below (QwI base D cI cJ r τ) args s 0 0 (fun q => base ≤ q)) (F0 m 0 ls []) := by
  intro hP hS hl
  obtain ⟨hx, hb, hml, hown, hts⟩ := hC.1
  unfold f_X4_bus at h
  refine lv_iload_n hx hb dX4_bus_0 rfl (lv_at hl 1 rfl) ?_
  refine lv_aload_n hx hb dX4_bus_1 rfl (lv_at hl 0 rfl) ?_
  obtain ⟨q_1, hq_1, h⟩ := obn h
  refine w_getR (ci := 4) (j := 0) hC hP rfl inlX4 (by decide) (by decide) rfl hq_1 wl_43 dX4_bus_2 ?_
  obtain ⟨u_2, hu_2, h⟩ := obn h
  obtain ⟨w_3, hw_3, h⟩ := obn h
  refine k_I (r_virt (As := []) (rest := [.int i1]) hC hP hS (ci := 1) rfl (by decide) hu_2 (c_X1_earliestNewBus (l := l) (base := base) (D := D) (cI := cI) (cJ := cJ) (tS := tS) hw_3) wl_119 wl_120 wl_121 wl_39 wl_118 rfl rfl hd_X1_earliestNewBus ⟨Nat.le_of_ble_eq_true rfl, Nat.le_of_ble_eq_true rfl⟩ rfl hl.1 rfl (Nat.le_of_ble_eq_true rfl) dX4_bus_5 ⟨Nat.le_of_ble_eq_true rfl, Nat.le_of_ble_eq_true rfl⟩) hS (fun H locs hP hS => ?_)
  refine lv_icmp_lt (tgt := 18) hx hb dX4_bus_8 (by decide) (fun c_4 => ?_) (fun c_4 => ?_)
  · rw [if_pos c_4] at h
    exact X4_bus_k18 hC hr hlocks h hP hS (lv_sub hl [] rfl)
  · rw [if_neg c_4] at h
    refine lv_iload_n hx hb dX4_bus_11 rfl (lv_at hl 1 rfl) ?_
    refine lv_sipush (v := 7200) hx hb dX4_bus_12 (by decide) ?_
    refine lv_icmp_le (tgt := 21) hx hb dX4_bus_15 (by decide) (fun c_5 => ?_) (fun c_5 => ?_)
    · rw [if_pos c_5] at h
      refine lv_iload_n hx hb dX4_bus_21 rfl (lv_at hl 2 rfl) ?_
      refine lv_iconst (v := 1) hx hb dX4_bus_22 (by decide) ?_
      refine lv_icmp_lt (tgt := 32) hx hb dX4_bus_23 (by decide) (fun c_6 => ?_) (fun c_6 => ?_)
      · rw [if_pos c_6] at h
        exact X4_bus_k32 hC hr hlocks h hP hS (lv_sub hl [] rfl)
      · rw [if_neg c_6] at h
        refine lv_iload_n hx hb dX4_bus_26 rfl (lv_at hl 2 rfl) ?_
        refine lv_bipush (v := 80) hx hb dX4_bus_27 (by decide) ?_
        refine lv_icmp_le (tgt := 35) hx hb dX4_bus_29 (by decide) (fun c_7 => ?_) (fun c_7 => ?_)
        · rw [if_pos c_7] at h
          refine lv_aload_n hx hb dX4_bus_35 rfl (lv_at hl 0 rfl) ?_
          obtain ⟨q_8, hq_8, h⟩ := obn h
          refine w_getR (ci := 4) (j := 0) hC hP rfl inlX4 (by decide) (by decide) rfl hq_8 wl_43 dX4_bus_36 ?_
          obtain ⟨v_9, hv_9, h⟩ := obn h
          refine w_getI (ci := 1) (j := 7) hC hP rfl inlX1 (by decide) (by decide) rfl hv_9 wl_122 dX4_bus_39 ?_
          refine lv_bipush (v := 8) hx hb dX4_bus_42 (by decide) ?_
          refine lv_icmp_lt (tgt := 50) hx hb dX4_bus_44 (by decide) (fun c_10 => ?_) (fun c_10 => ?_)
          · rw [if_pos c_10] at h
            refine lv_aload_n hx hb dX4_bus_50 rfl (lv_at hl 0 rfl) ?_
            obtain ⟨u_11, hu_11, h⟩ := obn h
            obtain ⟨w_12, hw_12, h⟩ := obn h
            refine k_V (r_virt (As := []) (rest := []) hC hP hS (ci := 4) rfl (by decide) hu_11 (c_X4_forgetCourse (l := l) (base := base) (D := D) (cI := cI) (cJ := cJ) (tS := tS) hw_12) wl_103 wl_104 wl_105 wl_98 wl_102 rfl rfl hd_X4_forgetCourse ⟨Nat.le_of_ble_eq_true rfl, Nat.le_of_ble_eq_true rfl⟩ rfl hl.1 rfl (Nat.le_of_ble_eq_true rfl) dX4_bus_51 ⟨Nat.le_of_ble_eq_true rfl, Nat.le_of_ble_eq_true rfl⟩) hS (fun H locs hP hS => ?_)
            refine lv_aload_n hx hb dX4_bus_54 rfl (lv_at hl 0 rfl) ?_
            obtain ⟨q_13, hq_13, h⟩ := obn h
            refine w_getR (ci := 4) (j := 0) hC hP rfl inlX4 (by decide) (by decide) rfl hq_13 wl_43 dX4_bus_55 ?_
            refine lv_iload_n hx hb dX4_bus_58 rfl (lv_at hl 1 rfl) ?_
            refine lv_iload_n hx hb dX4_bus_59 rfl (lv_at hl 2 rfl) ?_
            obtain ⟨u_14, hu_14, h⟩ := obn h
            obtain ⟨w_15, hw_15, h⟩ := obn h
            refine k_I (r_virt (As := [.int i1, .int i2]) (rest := []) hC hP hS (ci := 1) rfl (by decide) hu_14 (c_X1_addBus (l := l) (base := base) (D := D) (cI := cI) (cJ := cJ) (tS := tS) hw_15) wl_124 wl_125 wl_126 wl_39 wl_123 rfl rfl hd_X1_addBus ⟨Nat.le_of_ble_eq_true rfl, Nat.le_of_ble_eq_true rfl⟩ rfl hl.1 rfl (Nat.le_of_ble_eq_true rfl) dX4_bus_60 ⟨Nat.le_of_ble_eq_true rfl, Nat.le_of_ble_eq_true rfl⟩) hS (fun H locs hP hS => ?_)
            obtain ⟨rfl, rfl⟩ := Prod.mk.inj (Option.some.inj h)
            exact w_iret hC hr hlocks hP hS dX4_bus_63
          · rw [if_neg c_10] at h
            refine lv_bipush (v := (-4)) hx hb dX4_bus_47 (by decide) ?_
            obtain ⟨rfl, rfl⟩ := Prod.mk.inj (Option.some.inj h)
            exact w_iret hC hr hlocks hP hS dX4_bus_49
        · rw [if_neg c_7] at h
          exact X4_bus_k32 hC hr hlocks h hP hS (lv_sub hl [] rfl)
    · rw [if_neg c_5] at h
      exact X4_bus_k18 hC hr hlocks h hP hS (lv_sub hl [] rfl)
set_option maxRecDepth 100000 in
set_option maxHeartbeats 4000000 in
theorem c_X4_bus {l : Launch} {base : Nat} {D : va_G} {cI cJ : ClassId} {tS : Nat} {n : Nat} {a0 : Nat} {i1 : Int32} {i2 : Int32} {σ : Sg} {r : Int32} {τ : Sg} (h : f_X4_bus n a0 i1 i2 σ = some (r, τ)) : Met l yX4_bus (.code yX4_bus cX4_bus 3 (some .int) :: wsL_law) (rmD 1 0 0) (Pw base D cI cJ tS σ [.ref (base + a0), .int i1, .int i2]) (QwI base D cI cJ r τ) 0 0 (fun q => base ≤ q) := by
  refine Met.ofW (cc := cX4_bus) (maxL := 3) (ret := (some .int)) (by decide) rfl ?_
  intro p e s m args below meth c s₁ B hml hv
  obtain ⟨rfl, hSt, hP⟩ := hv
  have hC : Cx p m c cX4_bus 3 s _ RX4 base D cI cJ tS := ⟨⟨B.exec, B.bytes, hml, findClass_of_methodNamed B.named, fun w hw => atoms_spec (ws := Cond.code yX4_bus cX4_bus 3 (some .int) :: wsL_law) B.pre w (List.mem_cons_of_mem _ hw)⟩, hSt⟩
  have hl := lv_entry ([.ref (base + a0), .int i1, .int i2]) (n := 3) (Nat.le_of_ble_eq_true rfl)
  rw [lg_entry_eq]
  generalize (lg_sl ([.ref (base + a0), .int i1, .int i2]) ++ List.replicate (3 - (lg_sl ([.ref (base + a0), .int i1, .int i2])).length) Slot.unset).toArray = ls at hl ⊢
  exact X4_bus_k0 hC B.returns B.notSynchronized h hP va_S.rf hl
-- ===== X5_bus
set_option maxRecDepth 100000 in
set_option maxHeartbeats 4000000 in
theorem X5_bus_k42 (hC : Cx p m c cX5_bus 3 s args RX5 base D cI cJ tS) (hr : meth.sig.returnType = (some .int)) (hlocks : meth.locks = false) {n : Nat} {σ : Sg} {r : Int32} {τ : Sg} {H : Heap} {locs : List Loc} {ls : Array Slot} (h : X5_bus_b42 n σ = some (r, τ)) : Dy base D cI cJ σ H → va_S (fun q => base ≤ q) s.heap H locs → lv_has ls 3 [] → W p l e (rmD 1 0 0) s m args below meth c H locs 0 0 (MQ below (QwI base D cI cJ r τ) args s 0 0 (fun q => base ≤ q)) (F0 m 42 ls []) := by
  intro hP hS hl
  obtain ⟨hx, hb, hml, hown, hts⟩ := hC.1
  unfold X5_bus_b42 at h
  refine lv_bipush (v := (-2)) hx hb dX5_bus_42 (by decide) ?_
  obtain ⟨rfl, rfl⟩ := Prod.mk.inj (Option.some.inj h)
  exact w_iret hC hr hlocks hP hS dX5_bus_44
set_option maxRecDepth 100000 in
set_option maxHeartbeats 4000000 in
theorem X5_bus_k23 (hC : Cx p m c cX5_bus 3 s args RX5 base D cI cJ tS) (hr : meth.sig.returnType = (some .int)) (hlocks : meth.locks = false) {n : Nat} {a0 : Nat} {i1 : Int32} {i2 : Int32} {ti0 : Int32} {ti1 : Int32} {σ : Sg} {r : Int32} {τ : Sg} {H : Heap} {locs : List Loc} {ls : Array Slot} (h : X5_bus_b23 n a0 i1 i2 ti0 ti1 σ = some (r, τ)) : Dy base D cI cJ σ H → va_S (fun q => base ≤ q) s.heap H locs → lv_has ls 3 [(0, .ref (base + a0)), (1, .int i1), (2, .int i2)] → W p l e (rmD 1 0 0) s m args below meth c H locs 0 0 (MQ below (QwI base D cI cJ r τ) args s 0 0 (fun q => base ≤ q)) (F0 m 23 ls [.int ti1, .int ti0]) := by
  intro hP hS hl
  obtain ⟨hx, hb, hml, hown, hts⟩ := hC.1
  unfold X5_bus_b23 at h
  refine lv_sipush (v := 7200) hx hb dX5_bus_23 (by decide) ?_
  obtain ⟨w_1, hw_1, h⟩ := obn h
  refine k_I (r_stat (As := [.int ti0, .int ti1, .int 7200]) (rest := []) hC hP hS (c_X5_in (l := l) (base := base) (D := D) (cI := cI) (cJ := cJ) (tS := tS) hw_1) wl_111 wl_112 wl_113 wl_110 rfl rfl hd_X5_in ⟨Nat.le_of_ble_eq_true rfl, Nat.le_of_ble_eq_true rfl⟩ rfl hl.1 rfl (Nat.le_of_ble_eq_true rfl) dX5_bus_26 ⟨Nat.le_of_ble_eq_true rfl, Nat.le_of_ble_eq_true rfl⟩) hS (fun H locs hP hS => ?_)
  refine lv_if_eq (tgt := 42) hx hb dX5_bus_29 (by decide) (fun c_2 => ?_) (fun c_2 => ?_)
  · rw [if_pos c_2] at h
    exact X5_bus_k42 hC hr hlocks h hP hS (lv_sub hl [] rfl)
  · rw [if_neg c_2] at h
    refine lv_iload_n hx hb dX5_bus_32 rfl (lv_at hl 2 rfl) ?_
    refine lv_iconst (v := 1) hx hb dX5_bus_33 (by decide) ?_
    refine lv_bipush (v := 80) hx hb dX5_bus_34 (by decide) ?_
    obtain ⟨w_3, hw_3, h⟩ := obn h
    refine k_I (r_stat (As := [.int i2, .int 1, .int 80]) (rest := []) hC hP hS (c_X5_in (l := l) (base := base) (D := D) (cI := cI) (cJ := cJ) (tS := tS) hw_3) wl_111 wl_112 wl_113 wl_110 rfl rfl hd_X5_in ⟨Nat.le_of_ble_eq_true rfl, Nat.le_of_ble_eq_true rfl⟩ rfl hl.1 rfl (Nat.le_of_ble_eq_true rfl) dX5_bus_36 ⟨Nat.le_of_ble_eq_true rfl, Nat.le_of_ble_eq_true rfl⟩) hS (fun H locs hP hS => ?_)
    refine lv_if_ne (tgt := 45) hx hb dX5_bus_39 (by decide) (fun c_4 => ?_) (fun c_4 => ?_)
    · rw [if_neg c_4] at h
      refine lv_aload_n hx hb dX5_bus_45 rfl (lv_at hl 0 rfl) ?_
      obtain ⟨v_5, hv_5, h⟩ := obn h
      refine w_getI (ci := 5) (j := 3) hC hP rfl inlX5 (by decide) (by decide) rfl hv_5 wl_127 dX5_bus_46 ?_
      refine lv_bipush (v := 8) hx hb dX5_bus_49 (by decide) ?_
      refine lv_icmp_ne (tgt := 57) hx hb dX5_bus_51 (by decide) (fun c_6 => ?_) (fun c_6 => ?_)
      · rw [if_neg c_6] at h
        refine lv_aload_n hx hb dX5_bus_57 rfl (lv_at hl 0 rfl) ?_
        obtain ⟨q_7, hq_7, h⟩ := obn h
        refine w_getR (ci := 5) (j := 4) hC hP rfl inlX5 (by decide) (by decide) rfl hq_7 wl_69 dX5_bus_58 ?_
        refine lv_aload_n hx hb dX5_bus_61 rfl (lv_at hl 0 rfl) ?_
        obtain ⟨v_8, hv_8, h⟩ := obn h
        refine w_getI (ci := 5) (j := 3) hC hP rfl inlX5 (by decide) (by decide) rfl hv_8 wl_127 dX5_bus_62 ?_
        refine lv_iload_n hx hb dX5_bus_65 rfl (lv_at hl 1 rfl) ?_
        obtain ⟨s_9, hs_9, h⟩ := obn h
        refine w_iast hC hP hS hs_9 dX5_bus_66 (fun H locs hP hS => ?_)
        refine lv_aload_n hx hb dX5_bus_67 rfl (lv_at hl 0 rfl) ?_
        obtain ⟨q_10, hq_10, h⟩ := obn h
        refine w_getR (ci := 5) (j := 5) hC hP rfl inlX5 (by decide) (by decide) rfl hq_10 wl_70 dX5_bus_68 ?_
        refine lv_aload_n hx hb dX5_bus_71 rfl (lv_at hl 0 rfl) ?_
        obtain ⟨v_11, hv_11, h⟩ := obn h
        refine w_getI (ci := 5) (j := 3) hC hP rfl inlX5 (by decide) (by decide) rfl hv_11 wl_127 dX5_bus_72 ?_
        refine lv_iload_n hx hb dX5_bus_75 rfl (lv_at hl 2 rfl) ?_
        obtain ⟨s_12, hs_12, h⟩ := obn h
        refine w_iast hC hP hS hs_12 dX5_bus_76 (fun H locs hP hS => ?_)
        refine lv_aload_n hx hb dX5_bus_77 rfl (lv_at hl 0 rfl) ?_
        obtain ⟨q_13, hq_13, h⟩ := obn h
        refine w_getR (ci := 5) (j := 6) hC hP rfl inlX5 (by decide) (by decide) rfl hq_13 wl_71 dX5_bus_78 ?_
        refine lv_aload_n hx hb dX5_bus_81 rfl (lv_at hl 0 rfl) ?_
        obtain ⟨v_14, hv_14, h⟩ := obn h
        refine w_getI (ci := 5) (j := 3) hC hP rfl inlX5 (by decide) (by decide) rfl hv_14 wl_127 dX5_bus_82 ?_
        refine lv_bipush (v := 9) hx hb dX5_bus_85 (by decide) ?_
        obtain ⟨s_15, hs_15, h⟩ := obn h
        refine w_iast hC hP hS hs_15 dX5_bus_87 (fun H locs hP hS => ?_)
        refine lv_aload_n hx hb dX5_bus_88 rfl (lv_at hl 0 rfl) ?_
        refine lv_dup hx hb dX5_bus_89 rfl ?_
        obtain ⟨v_16, hv_16, h⟩ := obn h
        refine w_getI (ci := 5) (j := 3) hC hP rfl inlX5 (by decide) (by decide) rfl hv_16 wl_127 dX5_bus_90 ?_
        refine lv_iconst (v := 1) hx hb dX5_bus_93 (by decide) ?_
        refine lv_iadd hx hb dX5_bus_94 ?_
        obtain ⟨s_17, hs_17, h⟩ := obn h
        refine w_putI (ci := 5) (j := 3) hC hP hS rfl inlX5 tyX5 tyX5_ok nmX5 (by decide) (by decide) rfl rfl rfl rfl hs_17 wl_127 dX5_bus_95 (fun H locs hP hS => ?_)
        refine lv_aload_n hx hb dX5_bus_98 rfl (lv_at hl 0 rfl) ?_
        obtain ⟨v_18, hv_18, h⟩ := obn h
        refine w_getI (ci := 5) (j := 3) hC hP rfl inlX5 (by decide) (by decide) rfl hv_18 wl_127 dX5_bus_99 ?_
        refine lv_iconst (v := 1) hx hb dX5_bus_102 (by decide) ?_
        refine lv_isub hx hb dX5_bus_103 ?_
        obtain ⟨rfl, rfl⟩ := Prod.mk.inj (Option.some.inj h)
        exact w_iret hC hr hlocks hP hS dX5_bus_104
      · rw [if_pos c_6] at h
        refine lv_bipush (v := (-4)) hx hb dX5_bus_54 (by decide) ?_
        obtain ⟨rfl, rfl⟩ := Prod.mk.inj (Option.some.inj h)
        exact w_iret hC hr hlocks hP hS dX5_bus_56
    · rw [if_pos c_4] at h
      exact X5_bus_k42 hC hr hlocks h hP hS (lv_sub hl [] rfl)
set_option maxRecDepth 100000 in
set_option maxHeartbeats 4000000 in
theorem X5_bus_k0 (hC : Cx p m c cX5_bus 3 s args RX5 base D cI cJ tS) (hr : meth.sig.returnType = (some .int)) (hlocks : meth.locks = false) {n : Nat} {a0 : Nat} {i1 : Int32} {i2 : Int32} {σ : Sg} {r : Int32} {τ : Sg} {H : Heap} {locs : List Loc} {ls : Array Slot} (h : f_X5_bus n a0 i1 i2 σ = some (r, τ)) : Dy base D cI cJ σ H → va_S (fun q => base ≤ q) s.heap H locs → lv_has ls 3 [(0, .ref (base + a0)), (1, .int i1), (2, .int i2)] → W p l e (rmD 1 0 0) s m args below meth c H locs 0 0 (MQ below (QwI base D cI cJ r τ) args s 0 0 (fun q => base ≤ q)) (F0 m 0 ls []) := by
  intro hP hS hl
  obtain ⟨hx, hb, hml, hown, hts⟩ := hC.1
  unfold f_X5_bus at h
  refine lv_iload_n hx hb dX5_bus_0 rfl (lv_at hl 1 rfl) ?_
  refine lv_aload_n hx hb dX5_bus_1 rfl (lv_at hl 0 rfl) ?_
  obtain ⟨v_19, hv_19, h⟩ := obn h
  refine w_getI (ci := 5) (j := 3) hC hP rfl inlX5 (by decide) (by decide) rfl hv_19 wl_127 dX5_bus_2 ?_
  refine lv_if_ne (tgt := 12) hx hb dX5_bus_5 (by decide) (fun c_20 => ?_) (fun c_20 => ?_)
  · rw [if_neg c_20] at h
    refine lv_aload_n hx hb dX5_bus_12 rfl (lv_at hl 0 rfl) ?_
    obtain ⟨q_21, hq_21, h⟩ := obn h
    refine w_getR (ci := 5) (j := 4) hC hP rfl inlX5 (by decide) (by decide) rfl hq_21 wl_69 dX5_bus_13 ?_
    refine lv_aload_n hx hb dX5_bus_16 rfl (lv_at hl 0 rfl) ?_
    obtain ⟨v_22, hv_22, h⟩ := obn h
    refine w_getI (ci := 5) (j := 3) hC hP rfl inlX5 (by decide) (by decide) rfl hv_22 wl_127 dX5_bus_17 ?_
    refine lv_iconst (v := 1) hx hb dX5_bus_20 (by decide) ?_
    refine lv_isub hx hb dX5_bus_21 ?_
    obtain ⟨v_23, hv_23, h⟩ := obn h
    refine w_iald hC hP hv_23 dX5_bus_22 ?_
    exact X5_bus_k23 hC hr hlocks h hP hS (lv_sub hl [0, 1, 2] rfl)
  · rw [if_pos c_20] at h
    refine lv_iconst (v := 0) hx hb dX5_bus_8 (by decide) ?_
    refine lv_goto (tgt := 23) hx hb dX5_bus_9 (by decide) ?_
    exact X5_bus_k23 hC hr hlocks h hP hS (lv_sub hl [0, 1, 2] rfl)
set_option maxRecDepth 100000 in
set_option maxHeartbeats 4000000 in
theorem c_X5_bus {l : Launch} {base : Nat} {D : va_G} {cI cJ : ClassId} {tS : Nat} {n : Nat} {a0 : Nat} {i1 : Int32} {i2 : Int32} {σ : Sg} {r : Int32} {τ : Sg} (h : f_X5_bus n a0 i1 i2 σ = some (r, τ)) : Met l yX5_bus (.code yX5_bus cX5_bus 3 (some .int) :: wsL_law) (rmD 1 0 0) (Pw base D cI cJ tS σ [.ref (base + a0), .int i1, .int i2]) (QwI base D cI cJ r τ) 0 0 (fun q => base ≤ q) := by
  refine Met.ofW (cc := cX5_bus) (maxL := 3) (ret := (some .int)) (by decide) rfl ?_
  intro p e s m args below meth c s₁ B hml hv
  obtain ⟨rfl, hSt, hP⟩ := hv
  have hC : Cx p m c cX5_bus 3 s _ RX5 base D cI cJ tS := ⟨⟨B.exec, B.bytes, hml, findClass_of_methodNamed B.named, fun w hw => atoms_spec (ws := Cond.code yX5_bus cX5_bus 3 (some .int) :: wsL_law) B.pre w (List.mem_cons_of_mem _ hw)⟩, hSt⟩
  have hl := lv_entry ([.ref (base + a0), .int i1, .int i2]) (n := 3) (Nat.le_of_ble_eq_true rfl)
  rw [lg_entry_eq]
  generalize (lg_sl ([.ref (base + a0), .int i1, .int i2]) ++ List.replicate (3 - (lg_sl ([.ref (base + a0), .int i1, .int i2])).length) Slot.unset).toArray = ls at hl ⊢
  exact X5_bus_k0 hC B.returns B.notSynchronized h hP va_S.rf hl
-- ===== X4_set
set_option maxRecDepth 100000 in
set_option maxHeartbeats 4000000 in
theorem X4_set_k22 (hC : Cx p m c cX4_set 4 s args RX4 base D cI cJ tS) (hr : meth.sig.returnType = (some .int)) (hlocks : meth.locks = false) {n : Nat} {σ : Sg} {r : Int32} {τ : Sg} {H : Heap} {locs : List Loc} {ls : Array Slot} (h : X4_set_b22 n σ = some (r, τ)) : Dy base D cI cJ σ H → va_S (fun q => base ≤ q) s.heap H locs → lv_has ls 4 [] → W p l e (rmD 1 0 0) s m args below meth c H locs 0 0 (MQ below (QwI base D cI cJ r τ) args s 0 0 (fun q => base ≤ q)) (F0 m 22 ls []) := by
  intro hP hS hl
  obtain ⟨hx, hb, hml, hown, hts⟩ := hC.1
  unfold X4_set_b22 at h
  refine lv_bipush (v := (-2)) hx hb dX4_set_22 (by decide) ?_
  obtain ⟨rfl, rfl⟩ := Prod.mk.inj (Option.some.inj h)
  exact w_iret hC hr hlocks hP hS dX4_set_24
set_option maxRecDepth 100000 in
set_option maxHeartbeats 4000000 in
theorem X4_set_k0 (hC : Cx p m c cX4_set 4 s args RX4 base D cI cJ tS) (hr : meth.sig.returnType = (some .int)) (hlocks : meth.locks = false) {n : Nat} {a0 : Nat} {i1 : Int32} {i2 : Int32} {σ : Sg} {r : Int32} {τ : Sg} {H : Heap} {locs : List Loc} {ls : Array Slot} (h : f_X4_set n a0 i1 i2 σ = some (r, τ)) : Dy base D cI cJ σ H → va_S (fun q => base ≤ q) s.heap H locs → lv_has ls 4 [(0, .ref (base + a0)), (1, .int i1), (2, .int i2)] → W p l e (rmD 1 0 0) s m args below meth c H locs 0 0 (MQ below (QwI base D cI cJ r τ) args s 0 0 (fun q => base ≤ q)) (F0 m 0 ls []) := by
  intro hP hS hl
  obtain ⟨hx, hb, hml, hown, hts⟩ := hC.1
  unfold f_X4_set at h
  refine lv_iload_n hx hb dX4_set_0 rfl (lv_at hl 1 rfl) ?_
  refine lv_if_lt (tgt := 22) hx hb dX4_set_1 (by decide) (fun c_1 => ?_) (fun c_1 => ?_)
  · rw [if_pos c_1] at h
    exact X4_set_k22 hC hr hlocks h hP hS (lv_sub hl [] rfl)
  · rw [if_neg c_1] at h
    refine lv_iload_n hx hb dX4_set_4 rfl (lv_at hl 1 rfl) ?_
    refine lv_iconst (v := 5) hx hb dX4_set_5 (by decide) ?_
    refine lv_icmp_ge (tgt := 22) hx hb dX4_set_6 (by decide) (fun c_2 => ?_) (fun c_2 => ?_)
    · rw [if_pos c_2] at h
      exact X4_set_k22 hC hr hlocks h hP hS (lv_sub hl [] rfl)
    · rw [if_neg c_2] at h
      refine lv_iload_n hx hb dX4_set_9 rfl (lv_at hl 2 rfl) ?_
      refine lv_if_lt (tgt := 22) hx hb dX4_set_10 (by decide) (fun c_3 => ?_) (fun c_3 => ?_)
      · rw [if_pos c_3] at h
        exact X4_set_k22 hC hr hlocks h hP hS (lv_sub hl [] rfl)
      · rw [if_neg c_3] at h
        refine lv_iload_n hx hb dX4_set_13 rfl (lv_at hl 2 rfl) ?_
        refine w_gets hC hS wl_128 dX4_set_14 ?_
        refine lv_iload_n hx hb dX4_set_17 rfl (lv_at hl 1 rfl) ?_
        obtain ⟨v_4, hv_4, h⟩ := obn h
        refine w_mo hC hS hv_4 dX4_set_18 ?_
        refine lv_icmp_le (tgt := 25) hx hb dX4_set_19 (by decide) (fun c_5 => ?_) (fun c_5 => ?_)
        · rw [if_pos c_5] at h
          refine lv_aload_n hx hb dX4_set_25 rfl (lv_at hl 0 rfl) ?_
          obtain ⟨u_6, hu_6, h⟩ := obn h
          obtain ⟨w_7, hw_7, h⟩ := obn h
          refine k_V (r_virt (As := []) (rest := []) hC hP hS (ci := 4) rfl (by decide) hu_6 (c_X4_forgetCourse (l := l) (base := base) (D := D) (cI := cI) (cJ := cJ) (tS := tS) hw_7) wl_103 wl_104 wl_105 wl_98 wl_102 rfl rfl hd_X4_forgetCourse ⟨Nat.le_of_ble_eq_true rfl, Nat.le_of_ble_eq_true rfl⟩ rfl hl.1 rfl (Nat.le_of_ble_eq_true rfl) dX4_set_26 ⟨Nat.le_of_ble_eq_true rfl, Nat.le_of_ble_eq_true rfl⟩) hS (fun H locs hP hS => ?_)
          refine lv_aload_n hx hb dX4_set_29 rfl (lv_at hl 0 rfl) ?_
          obtain ⟨q_8, hq_8, h⟩ := obn h
          refine w_getR (ci := 4) (j := 0) hC hP rfl inlX4 (by decide) (by decide) rfl hq_8 wl_43 dX4_set_30 ?_
          obtain ⟨q_9, hq_9, h⟩ := obn h
          refine w_getR (ci := 1) (j := 3) hC hP rfl inlX1 (by decide) (by decide) rfl hq_9 wl_129 dX4_set_33 ?_
          refine lv_iload_n hx hb dX4_set_36 rfl (lv_at hl 1 rfl) ?_
          obtain ⟨v_10, hv_10, h⟩ := obn h
          refine w_iald hC hP hv_10 dX4_set_37 ?_
          refine lv_istore_n (lv' := [(3, .int v_10), (0, .ref (base + a0)), (1, .int i1), (2, .int i2)]) hx hb dX4_set_38 rfl hl (by decide) rfl (fun ls hl => ?_)
          refine lv_aload_n hx hb dX4_set_39 rfl (lv_at hl 1 rfl) ?_
          obtain ⟨q_11, hq_11, h⟩ := obn h
          refine w_getR (ci := 4) (j := 0) hC hP rfl inlX4 (by decide) (by decide) rfl hq_11 wl_43 dX4_set_40 ?_
          obtain ⟨q_12, hq_12, h⟩ := obn h
          refine w_getR (ci := 1) (j := 3) hC hP rfl inlX1 (by decide) (by decide) rfl hq_12 wl_129 dX4_set_43 ?_
          refine lv_iload_n hx hb dX4_set_46 rfl (lv_at hl 2 rfl) ?_
          refine lv_iload_n hx hb dX4_set_47 rfl (lv_at hl 3 rfl) ?_
          obtain ⟨s_13, hs_13, h⟩ := obn h
          refine w_iast hC hP hS hs_13 dX4_set_48 (fun H locs hP hS => ?_)
          refine lv_iload_n hx hb dX4_set_49 rfl (lv_at hl 0 rfl) ?_
          obtain ⟨rfl, rfl⟩ := Prod.mk.inj (Option.some.inj h)
          exact w_iret hC hr hlocks hP hS dX4_set_50
        · rw [if_neg c_5] at h
          exact X4_set_k22 hC hr hlocks h hP hS (lv_sub hl [] rfl)
set_option maxRecDepth 100000 in
set_option maxHeartbeats 4000000 in
theorem c_X4_set {l : Launch} {base : Nat} {D : va_G} {cI cJ : ClassId} {tS : Nat} {n : Nat} {a0 : Nat} {i1 : Int32} {i2 : Int32} {σ : Sg} {r : Int32} {τ : Sg} (h : f_X4_set n a0 i1 i2 σ = some (r, τ)) : Met l yX4_set (.code yX4_set cX4_set 4 (some .int) :: wsL_law) (rmD 1 0 0) (Pw base D cI cJ tS σ [.ref (base + a0), .int i1, .int i2]) (QwI base D cI cJ r τ) 0 0 (fun q => base ≤ q) := by
  refine Met.ofW (cc := cX4_set) (maxL := 4) (ret := (some .int)) (by decide) rfl ?_
  intro p e s m args below meth c s₁ B hml hv
  obtain ⟨rfl, hSt, hP⟩ := hv
  have hC : Cx p m c cX4_set 4 s _ RX4 base D cI cJ tS := ⟨⟨B.exec, B.bytes, hml, findClass_of_methodNamed B.named, fun w hw => atoms_spec (ws := Cond.code yX4_set cX4_set 4 (some .int) :: wsL_law) B.pre w (List.mem_cons_of_mem _ hw)⟩, hSt⟩
  have hl := lv_entry ([.ref (base + a0), .int i1, .int i2]) (n := 4) (Nat.le_of_ble_eq_true rfl)
  rw [lg_entry_eq]
  generalize (lg_sl ([.ref (base + a0), .int i1, .int i2]) ++ List.replicate (4 - (lg_sl ([.ref (base + a0), .int i1, .int i2])).length) Slot.unset).toArray = ls at hl ⊢
  exact X4_set_k0 hC B.returns B.notSynchronized h hP va_S.rf hl
-- ===== X5_set
set_option maxRecDepth 100000 in
set_option maxHeartbeats 4000000 in
theorem X5_set_k45 (hC : Cx p m c cX5_set 4 s args RX5 base D cI cJ tS) (hr : meth.sig.returnType = (some .int)) (hlocks : meth.locks = false) {n : Nat} {a0 : Nat} {i1 : Int32} {i2 : Int32} {ti0 : Int32} {ti1 : Int32} {ti2 : Int32} {σ : Sg} {r : Int32} {τ : Sg} {H : Heap} {locs : List Loc} {ls : Array Slot} (h : X5_set_b45 n a0 i1 i2 ti0 ti1 ti2 σ = some (r, τ)) : Dy base D cI cJ σ H → va_S (fun q => base ≤ q) s.heap H locs → lv_has ls 4 [(0, .ref (base + a0)), (1, .int i1), (2, .int i2)] → W p l e (rmD 1 0 0) s m args below meth c H locs 0 0 (MQ below (QwI base D cI cJ r τ) args s 0 0 (fun q => base ≤ q)) (F0 m 45 ls [.int ti2, .int ti1, .int ti0]) := by
  intro hP hS hl
  obtain ⟨hx, hb, hml, hown, hts⟩ := hC.1
  unfold X5_set_b45 at h
  obtain ⟨w_1, hw_1, h⟩ := obn h
  refine k_I (r_stat (As := [.int ti0, .int ti1, .int ti2]) (rest := []) hC hP hS (c_X5_in (l := l) (base := base) (D := D) (cI := cI) (cJ := cJ) (tS := tS) hw_1) wl_111 wl_112 wl_113 wl_110 rfl rfl hd_X5_in ⟨Nat.le_of_ble_eq_true rfl, Nat.le_of_ble_eq_true rfl⟩ rfl hl.1 rfl (Nat.le_of_ble_eq_true rfl) dX5_set_45 ⟨Nat.le_of_ble_eq_true rfl, Nat.le_of_ble_eq_true rfl⟩) hS (fun H locs hP hS => ?_)
  refine lv_if_ne (tgt := 54) hx hb dX5_set_48 (by decide) (fun c_2 => ?_) (fun c_2 => ?_)
  · rw [if_neg c_2] at h
    refine lv_aload_n hx hb dX5_set_54 rfl (lv_at hl 0 rfl) ?_
    obtain ⟨q_3, hq_3, h⟩ := obn h
    refine w_getR (ci := 5) (j := 7) hC hP rfl inlX5 (by decide) (by decide) rfl hq_3 wl_64 dX5_set_55 ?_
    refine lv_iload_n hx hb dX5_set_58 rfl (lv_at hl 1 rfl) ?_
    obtain ⟨v_4, hv_4, h⟩ := obn h
    refine w_iald hC hP hv_4 dX5_set_59 ?_
    refine lv_istore_n (lv' := [(3, .int v_4), (0, .ref (base + a0)), (1, .int i1), (2, .int i2)]) hx hb dX5_set_60 rfl hl (by decide) rfl (fun ls hl => ?_)
    refine lv_aload_n hx hb dX5_set_61 rfl (lv_at hl 1 rfl) ?_
    obtain ⟨q_5, hq_5, h⟩ := obn h
    refine w_getR (ci := 5) (j := 7) hC hP rfl inlX5 (by decide) (by decide) rfl hq_5 wl_64 dX5_set_62 ?_
    refine lv_iload_n hx hb dX5_set_65 rfl (lv_at hl 2 rfl) ?_
    refine lv_iload_n hx hb dX5_set_66 rfl (lv_at hl 3 rfl) ?_
    obtain ⟨s_6, hs_6, h⟩ := obn h
    refine w_iast hC hP hS hs_6 dX5_set_67 (fun H locs hP hS => ?_)
    refine lv_iload_n hx hb dX5_set_68 rfl (lv_at hl 0 rfl) ?_
    obtain ⟨rfl, rfl⟩ := Prod.mk.inj (Option.some.inj h)
    exact w_iret hC hr hlocks hP hS dX5_set_69
  · rw [if_pos c_2] at h
    refine lv_bipush (v := (-2)) hx hb dX5_set_51 (by decide) ?_
    obtain ⟨rfl, rfl⟩ := Prod.mk.inj (Option.some.inj h)
    exact w_iret hC hr hlocks hP hS dX5_set_53
set_option maxRecDepth 100000 in
set_option maxHeartbeats 4000000 in
theorem X5_set_k0 (hC : Cx p m c cX5_set 4 s args RX5 base D cI cJ tS) (hr : meth.sig.returnType = (some .int)) (hlocks : meth.locks = false) {n : Nat} {a0 : Nat} {i1 : Int32} {i2 : Int32} {σ : Sg} {r : Int32} {τ : Sg} {H : Heap} {locs : List Loc} {ls : Array Slot} (h : f_X5_set n a0 i1 i2 σ = some (r, τ)) : Dy base D cI cJ σ H → va_S (fun q => base ≤ q) s.heap H locs → lv_has ls 4 [(0, .ref (base + a0)), (1, .int i1), (2, .int i2)] → W p l e (rmD 1 0 0) s m args below meth c H locs 0 0 (MQ below (QwI base D cI cJ r τ) args s 0 0 (fun q => base ≤ q)) (F0 m 0 ls []) := by
  intro hP hS hl
  obtain ⟨hx, hb, hml, hown, hts⟩ := hC.1
  unfold f_X5_set at h
  refine lv_iload_n hx hb dX5_set_0 rfl (lv_at hl 1 rfl) ?_
  refine lv_iconst (v := 0) hx hb dX5_set_1 (by decide) ?_
  refine lv_iconst (v := 4) hx hb dX5_set_2 (by decide) ?_
  obtain ⟨w_7, hw_7, h⟩ := obn h
  refine k_I (r_stat (As := [.int i1, .int 0, .int 4]) (rest := []) hC hP hS (c_X5_in (l := l) (base := base) (D := D) (cI := cI) (cJ := cJ) (tS := tS) hw_7) wl_111 wl_112 wl_113 wl_110 rfl rfl hd_X5_in ⟨Nat.le_of_ble_eq_true rfl, Nat.le_of_ble_eq_true rfl⟩ rfl hl.1 rfl (Nat.le_of_ble_eq_true rfl) dX5_set_3 ⟨Nat.le_of_ble_eq_true rfl, Nat.le_of_ble_eq_true rfl⟩) hS (fun H locs hP hS => ?_)
  refine lv_if_ne (tgt := 12) hx hb dX5_set_6 (by decide) (fun c_8 => ?_) (fun c_8 => ?_)
  · rw [if_neg c_8] at h
    refine lv_iload_n hx hb dX5_set_12 rfl (lv_at hl 2 rfl) ?_
    refine lv_iconst (v := 0) hx hb dX5_set_13 (by decide) ?_
    refine lv_iload_n hx hb dX5_set_14 rfl (lv_at hl 1 rfl) ?_
    refine lv_if_ne (tgt := 23) hx hb dX5_set_15 (by decide) (fun c_9 => ?_) (fun c_9 => ?_)
    · rw [if_neg c_9] at h
      refine lv_iload_n hx hb dX5_set_23 rfl (lv_at hl 1 rfl) ?_
      refine lv_iconst (v := 3) hx hb dX5_set_24 (by decide) ?_
      refine lv_icmp_ge (tgt := 33) hx hb dX5_set_25 (by decide) (fun c_10 => ?_) (fun c_10 => ?_)
      · rw [if_pos c_10] at h
        refine lv_iload_n hx hb dX5_set_33 rfl (lv_at hl 1 rfl) ?_
        refine lv_iconst (v := 3) hx hb dX5_set_34 (by decide) ?_
        refine lv_icmp_ne (tgt := 42) hx hb dX5_set_35 (by decide) (fun c_11 => ?_) (fun c_11 => ?_)
        · rw [if_neg c_11] at h
          refine lv_sipush (v := 600) hx hb dX5_set_42 (by decide) ?_
          exact X5_set_k45 hC hr hlocks h hP hS (lv_sub hl [0, 1, 2] rfl)
        · rw [if_pos c_11] at h
          refine lv_iconst (v := 1) hx hb dX5_set_38 (by decide) ?_
          refine lv_goto (tgt := 45) hx hb dX5_set_39 (by decide) ?_
          exact X5_set_k45 hC hr hlocks h hP hS (lv_sub hl [0, 1, 2] rfl)
      · rw [if_neg c_10] at h
        refine lv_bipush (v := 10) hx hb dX5_set_28 (by decide) ?_
        refine lv_goto (tgt := 45) hx hb dX5_set_30 (by decide) ?_
        exact X5_set_k45 hC hr hlocks h hP hS (lv_sub hl [0, 1, 2] rfl)
    · rw [if_pos c_9] at h
      refine lv_bipush (v := 60) hx hb dX5_set_18 (by decide) ?_
      refine lv_goto (tgt := 45) hx hb dX5_set_20 (by decide) ?_
      exact X5_set_k45 hC hr hlocks h hP hS (lv_sub hl [0, 1, 2] rfl)
  · rw [if_pos c_8] at h
    refine lv_bipush (v := (-2)) hx hb dX5_set_9 (by decide) ?_
    obtain ⟨rfl, rfl⟩ := Prod.mk.inj (Option.some.inj h)
    exact w_iret hC hr hlocks hP hS dX5_set_11
set_option maxRecDepth 100000 in
set_option maxHeartbeats 4000000 in
theorem c_X5_set {l : Launch} {base : Nat} {D : va_G} {cI cJ : ClassId} {tS : Nat} {n : Nat} {a0 : Nat} {i1 : Int32} {i2 : Int32} {σ : Sg} {r : Int32} {τ : Sg} (h : f_X5_set n a0 i1 i2 σ = some (r, τ)) : Met l yX5_set (.code yX5_set cX5_set 4 (some .int) :: wsL_law) (rmD 1 0 0) (Pw base D cI cJ tS σ [.ref (base + a0), .int i1, .int i2]) (QwI base D cI cJ r τ) 0 0 (fun q => base ≤ q) := by
  refine Met.ofW (cc := cX5_set) (maxL := 4) (ret := (some .int)) (by decide) rfl ?_
  intro p e s m args below meth c s₁ B hml hv
  obtain ⟨rfl, hSt, hP⟩ := hv
  have hC : Cx p m c cX5_set 4 s _ RX5 base D cI cJ tS := ⟨⟨B.exec, B.bytes, hml, findClass_of_methodNamed B.named, fun w hw => atoms_spec (ws := Cond.code yX5_set cX5_set 4 (some .int) :: wsL_law) B.pre w (List.mem_cons_of_mem _ hw)⟩, hSt⟩
  have hl := lv_entry ([.ref (base + a0), .int i1, .int i2]) (n := 4) (Nat.le_of_ble_eq_true rfl)
  rw [lg_entry_eq]
  generalize (lg_sl ([.ref (base + a0), .int i1, .int i2]) ++ List.replicate (4 - (lg_sl ([.ref (base + a0), .int i1, .int i2])).length) Slot.unset).toArray = ls at hl ⊢
  exact X5_set_k0 hC B.returns B.notSynchronized h hP va_S.rf hl
-- ===== X1_hasBus
set_option maxRecDepth 100000 in
set_option maxHeartbeats 4000000 in
theorem X1_hasBus_k16 (hC : Cx p m c cX1_hasBus 2 s args RX1 base D cI cJ tS) (hr : meth.sig.returnType = (some .boolean)) (hlocks : meth.locks = false) {n : Nat} {σ : Sg} {r : Int32} {τ : Sg} {H : Heap} {locs : List Loc} {ls : Array Slot} (h : X1_hasBus_b16 n σ = some (r, τ)) : Dy base D cI cJ σ H → va_S (fun q => base ≤ q) s.heap H locs → lv_has ls 2 [] → W p l e (rmD 0 0 0) s m args below meth c H locs 0 0 (MQ below (QwI base D cI cJ r τ) args s 0 0 (fun q => base ≤ q)) (F0 m 16 ls []) := by
  intro hP hS hl
  obtain ⟨hx, hb, hml, hown, hts⟩ := hC.1
  unfold X1_hasBus_b16 at h
  refine lv_iconst (v := 0) hx hb dX1_hasBus_16 (by decide) ?_
  exact w_zret hC hr hlocks hP hS h dX1_hasBus_17
set_option maxRecDepth 100000 in
set_option maxHeartbeats 4000000 in
theorem X1_hasBus_k0 (hC : Cx p m c cX1_hasBus 2 s args RX1 base D cI cJ tS) (hr : meth.sig.returnType = (some .boolean)) (hlocks : meth.locks = false) {n : Nat} {a0 : Nat} {i1 : Int32} {σ : Sg} {r : Int32} {τ : Sg} {H : Heap} {locs : List Loc} {ls : Array Slot} (h : f_X1_hasBus n a0 i1 σ = some (r, τ)) : Dy base D cI cJ σ H → va_S (fun q => base ≤ q) s.heap H locs → lv_has ls 2 [(0, .ref (base + a0)), (1, .int i1)] → W p l e (rmD 0 0 0) s m args below meth c H locs 0 0 (MQ below (QwI base D cI cJ r τ) args s 0 0 (fun q => base ≤ q)) (F0 m 0 ls []) := by
  intro hP hS hl
  obtain ⟨hx, hb, hml, hown, hts⟩ := hC.1
  unfold f_X1_hasBus at h
  refine lv_iload_n hx hb dX1_hasBus_0 rfl (lv_at hl 1 rfl) ?_
  refine lv_if_lt (tgt := 16) hx hb dX1_hasBus_1 (by decide) (fun c_1 => ?_) (fun c_1 => ?_)
  · rw [if_pos c_1] at h
    exact X1_hasBus_k16 hC hr hlocks h hP hS (lv_sub hl [] rfl)
  · rw [if_neg c_1] at h
    refine lv_iload_n hx hb dX1_hasBus_4 rfl (lv_at hl 1 rfl) ?_
    refine lv_aload_n hx hb dX1_hasBus_5 rfl (lv_at hl 0 rfl) ?_
    obtain ⟨v_2, hv_2, h⟩ := obn h
    refine w_getI (ci := 1) (j := 7) hC hP rfl inlX1 (by decide) (by decide) rfl hv_2 wl_117 dX1_hasBus_6 ?_
    refine lv_icmp_ge (tgt := 16) hx hb dX1_hasBus_9 (by decide) (fun c_3 => ?_) (fun c_3 => ?_)
    · rw [if_pos c_3] at h
      exact X1_hasBus_k16 hC hr hlocks h hP hS (lv_sub hl [] rfl)
    · rw [if_neg c_3] at h
      refine lv_iconst (v := 1) hx hb dX1_hasBus_12 (by decide) ?_
      refine lv_goto (tgt := 17) hx hb dX1_hasBus_13 (by decide) ?_
      exact w_zret hC hr hlocks hP hS h dX1_hasBus_17
set_option maxRecDepth 100000 in
set_option maxHeartbeats 4000000 in
theorem c_X1_hasBus {l : Launch} {base : Nat} {D : va_G} {cI cJ : ClassId} {tS : Nat} {n : Nat} {a0 : Nat} {i1 : Int32} {σ : Sg} {r : Int32} {τ : Sg} (h : f_X1_hasBus n a0 i1 σ = some (r, τ)) : Met l yX1_hasBus (.code yX1_hasBus cX1_hasBus 2 (some .boolean) :: wsL_law) (rmD 0 0 0) (Pw base D cI cJ tS σ [.ref (base + a0), .int i1]) (QwI base D cI cJ r τ) 0 0 (fun q => base ≤ q) := by
  refine Met.ofW (cc := cX1_hasBus) (maxL := 2) (ret := (some .boolean)) (by decide) rfl ?_
  intro p e s m args below meth c s₁ B hml hv
  obtain ⟨rfl, hSt, hP⟩ := hv
  have hC : Cx p m c cX1_hasBus 2 s _ RX1 base D cI cJ tS := ⟨⟨B.exec, B.bytes, hml, findClass_of_methodNamed B.named, fun w hw => atoms_spec (ws := Cond.code yX1_hasBus cX1_hasBus 2 (some .boolean) :: wsL_law) B.pre w (List.mem_cons_of_mem _ hw)⟩, hSt⟩
  have hl := lv_entry ([.ref (base + a0), .int i1]) (n := 2) (Nat.le_of_ble_eq_true rfl)
  rw [lg_entry_eq]
  generalize (lg_sl ([.ref (base + a0), .int i1]) ++ List.replicate (2 - (lg_sl ([.ref (base + a0), .int i1])).length) Slot.unset).toArray = ls at hl ⊢
  exact X1_hasBus_k0 hC B.returns B.notSynchronized h hP va_S.rf hl
-- ===== X1_addLateness
set_option maxRecDepth 100000 in
set_option maxHeartbeats 4000000 in
theorem X1_addLateness_k0 (hC : Cx p m c cX1_addLateness 4 s args RX1 base D cI cJ tS) (hr : meth.sig.returnType = (some .int)) (hlocks : meth.locks = false) {n : Nat} {a0 : Nat} {i1 : Int32} {i2 : Int32} {i3 : Int32} {σ : Sg} {r : Int32} {τ : Sg} {H : Heap} {locs : List Loc} {ls : Array Slot} (h : f_X1_addLateness n a0 i1 i2 i3 σ = some (r, τ)) : Dy base D cI cJ σ H → va_S (fun q => base ≤ q) s.heap H locs → lv_has ls 4 [(0, .ref (base + a0)), (1, .int i1), (2, .int i2), (3, .int i3)] → W p l e (rmD 0 0 0) s m args below meth c H locs 0 0 (MQ below (QwI base D cI cJ r τ) args s 0 0 (fun q => base ≤ q)) (F0 m 0 ls []) := by
  intro hP hS hl
  obtain ⟨hx, hb, hml, hown, hts⟩ := hC.1
  unfold f_X1_addLateness at h
  refine lv_aload_n hx hb dX1_addLateness_0 rfl (lv_at hl 0 rfl) ?_
  obtain ⟨q_1, hq_1, h⟩ := obn h
  refine w_getR (ci := 1) (j := 8) hC hP rfl inlX1 (by decide) (by decide) rfl hq_1 wl_11 dX1_addLateness_1 ?_
  refine lv_aload_n hx hb dX1_addLateness_4 rfl (lv_at hl 0 rfl) ?_
  obtain ⟨v_2, hv_2, h⟩ := obn h
  refine w_getI (ci := 1) (j := 11) hC hP rfl inlX1 (by decide) (by decide) rfl hv_2 wl_130 dX1_addLateness_5 ?_
  refine lv_iload_n hx hb dX1_addLateness_8 rfl (lv_at hl 1 rfl) ?_
  obtain ⟨s_3, hs_3, h⟩ := obn h
  refine w_iast hC hP hS hs_3 dX1_addLateness_9 (fun H locs hP hS => ?_)
  refine lv_aload_n hx hb dX1_addLateness_10 rfl (lv_at hl 0 rfl) ?_
  obtain ⟨q_4, hq_4, h⟩ := obn h
  refine w_getR (ci := 1) (j := 9) hC hP rfl inlX1 (by decide) (by decide) rfl hq_4 wl_12 dX1_addLateness_11 ?_
  refine lv_aload_n hx hb dX1_addLateness_14 rfl (lv_at hl 0 rfl) ?_
  obtain ⟨v_5, hv_5, h⟩ := obn h
  refine w_getI (ci := 1) (j := 11) hC hP rfl inlX1 (by decide) (by decide) rfl hv_5 wl_130 dX1_addLateness_15 ?_
  refine lv_iload_n hx hb dX1_addLateness_18 rfl (lv_at hl 2 rfl) ?_
  obtain ⟨s_6, hs_6, h⟩ := obn h
  refine w_iast hC hP hS hs_6 dX1_addLateness_19 (fun H locs hP hS => ?_)
  refine lv_aload_n hx hb dX1_addLateness_20 rfl (lv_at hl 0 rfl) ?_
  obtain ⟨q_7, hq_7, h⟩ := obn h
  refine w_getR (ci := 1) (j := 10) hC hP rfl inlX1 (by decide) (by decide) rfl hq_7 wl_13 dX1_addLateness_21 ?_
  refine lv_aload_n hx hb dX1_addLateness_24 rfl (lv_at hl 0 rfl) ?_
  obtain ⟨v_8, hv_8, h⟩ := obn h
  refine w_getI (ci := 1) (j := 11) hC hP rfl inlX1 (by decide) (by decide) rfl hv_8 wl_130 dX1_addLateness_25 ?_
  refine lv_iload_n hx hb dX1_addLateness_28 rfl (lv_at hl 3 rfl) ?_
  obtain ⟨s_9, hs_9, h⟩ := obn h
  refine w_iast hC hP hS hs_9 dX1_addLateness_29 (fun H locs hP hS => ?_)
  refine lv_aload_n hx hb dX1_addLateness_30 rfl (lv_at hl 0 rfl) ?_
  refine lv_dup hx hb dX1_addLateness_31 rfl ?_
  obtain ⟨v_10, hv_10, h⟩ := obn h
  refine w_getI (ci := 1) (j := 11) hC hP rfl inlX1 (by decide) (by decide) rfl hv_10 wl_130 dX1_addLateness_32 ?_
  refine lv_iconst (v := 1) hx hb dX1_addLateness_35 (by decide) ?_
  refine lv_iadd hx hb dX1_addLateness_36 ?_
  obtain ⟨s_11, hs_11, h⟩ := obn h
  refine w_putI (ci := 1) (j := 11) hC hP hS rfl inlX1 tyX1 tyX1_ok nmX1 (by decide) (by decide) rfl rfl rfl rfl hs_11 wl_130 dX1_addLateness_37 (fun H locs hP hS => ?_)
  refine lv_aload_n hx hb dX1_addLateness_40 rfl (lv_at hl 0 rfl) ?_
  obtain ⟨v_12, hv_12, h⟩ := obn h
  refine w_getI (ci := 1) (j := 11) hC hP rfl inlX1 (by decide) (by decide) rfl hv_12 wl_130 dX1_addLateness_41 ?_
  refine lv_iconst (v := 1) hx hb dX1_addLateness_44 (by decide) ?_
  refine lv_isub hx hb dX1_addLateness_45 ?_
  obtain ⟨rfl, rfl⟩ := Prod.mk.inj (Option.some.inj h)
  exact w_iret hC hr hlocks hP hS dX1_addLateness_46
set_option maxRecDepth 100000 in
set_option maxHeartbeats 4000000 in
theorem c_X1_addLateness {l : Launch} {base : Nat} {D : va_G} {cI cJ : ClassId} {tS : Nat} {n : Nat} {a0 : Nat} {i1 : Int32} {i2 : Int32} {i3 : Int32} {σ : Sg} {r : Int32} {τ : Sg} (h : f_X1_addLateness n a0 i1 i2 i3 σ = some (r, τ)) : Met l yX1_addLateness (.code yX1_addLateness cX1_addLateness 4 (some .int) :: wsL_law) (rmD 0 0 0) (Pw base D cI cJ tS σ [.ref (base + a0), .int i1, .int i2, .int i3]) (QwI base D cI cJ r τ) 0 0 (fun q => base ≤ q) := by
  refine Met.ofW (cc := cX1_addLateness) (maxL := 4) (ret := (some .int)) (by decide) rfl ?_
  intro p e s m args below meth c s₁ B hml hv
  obtain ⟨rfl, hSt, hP⟩ := hv
  have hC : Cx p m c cX1_addLateness 4 s _ RX1 base D cI cJ tS := ⟨⟨B.exec, B.bytes, hml, findClass_of_methodNamed B.named, fun w hw => atoms_spec (ws := Cond.code yX1_addLateness cX1_addLateness 4 (some .int) :: wsL_law) B.pre w (List.mem_cons_of_mem _ hw)⟩, hSt⟩
  have hl := lv_entry ([.ref (base + a0), .int i1, .int i2, .int i3]) (n := 4) (Nat.le_of_ble_eq_true rfl)
  rw [lg_entry_eq]
  generalize (lg_sl ([.ref (base + a0), .int i1, .int i2, .int i3]) ++ List.replicate (4 - (lg_sl ([.ref (base + a0), .int i1, .int i2, .int i3])).length) Slot.unset).toArray = ls at hl ⊢
  exact X1_addLateness_k0 hC B.returns B.notSynchronized h hP va_S.rf hl
end
