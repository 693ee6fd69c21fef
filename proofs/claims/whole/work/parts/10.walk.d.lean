section
variable {p : Program} {l : Launch} {e : Env} {s : State} {m : MethodId} {args : Array Value} {below : List Frame} {meth : Method} {c : Code} {base : Nat} {D : va_G} {cI cJ : ClassId} {tS : Nat}
-- ===== X1_goesOn
set_option maxRecDepth 100000 in
set_option maxHeartbeats 4000000 in
theorem X1_goesOn_k0 (hC : Cx p m c cX1_goesOn 3 s args RX1 base D cI cJ tS) (hr : meth.sig.returnType = (some .boolean)) (hlocks : meth.locks = false) {n : Nat} {a0 : Nat} {i1 : Int32} {i2 : Int32} {σ : Sg} {r : Int32} {τ : Sg} {H : Heap} {locs : List Loc} {ls : Array Slot} (h : f_X1_goesOn n a0 i1 i2 σ = some (r, τ)) : Dy base D cI cJ σ H → va_S (fun q => base ≤ q) s.heap H locs → lv_has ls 3 [(0, .ref (base + a0)), (1, .int i1), (2, .int i2)] → W p l e (rmD 0 0 0) s m args below meth c H locs 0 0 (MQ below (QwI base D cI cJ r τ) args s 0 0 (fun q => base ≤ q)) (F0 m 0 ls []) := by
  intro hP hS hl
  obtain ⟨hx, hb, hml, hown, hts⟩ := hC.1
  unfold f_X1_goesOn at h
  refine lv_iload_n hx hb dX1_goesOn_0 rfl (lv_at hl 2 rfl) ?_
  refine lv_aload_n hx hb dX1_goesOn_1 rfl (lv_at hl 0 rfl) ?_
  obtain ⟨q_1, hq_1, h⟩ := obn h
  refine w_getR (ci := 1) (j := 6) hC hP rfl inlX1 (by decide) (by decide) rfl hq_1 wl_10 dX1_goesOn_2 ?_
  refine lv_iload_n hx hb dX1_goesOn_5 rfl (lv_at hl 1 rfl) ?_
  obtain ⟨v_2, hv_2, h⟩ := obn h
  refine w_iald hC hP hv_2 dX1_goesOn_6 ?_
  refine lv_icmp_ge (tgt := 14) hx hb dX1_goesOn_7 (by decide) (fun c_3 => ?_) (fun c_3 => ?_)
  · rw [if_pos c_3] at h
    refine lv_iconst (v := 0) hx hb dX1_goesOn_14 (by decide) ?_
    exact w_zret hC hr hlocks hP hS h dX1_goesOn_15
  · rw [if_neg c_3] at h
    refine lv_iconst (v := 1) hx hb dX1_goesOn_10 (by decide) ?_
    refine lv_goto (tgt := 15) hx hb dX1_goesOn_11 (by decide) ?_
    exact w_zret hC hr hlocks hP hS h dX1_goesOn_15
set_option maxRecDepth 100000 in
set_option maxHeartbeats 4000000 in
theorem c_X1_goesOn {l : Launch} {base : Nat} {D : va_G} {cI cJ : ClassId} {tS : Nat} {n : Nat} {a0 : Nat} {i1 : Int32} {i2 : Int32} {σ : Sg} {r : Int32} {τ : Sg} (h : f_X1_goesOn n a0 i1 i2 σ = some (r, τ)) : Met l yX1_goesOn (.code yX1_goesOn cX1_goesOn 3 (some .boolean) :: wsL_law) (rmD 0 0 0) (Pw base D cI cJ tS σ [.ref (base + a0), .int i1, .int i2]) (QwI base D cI cJ r τ) 0 0 (fun q => base ≤ q) := by
  refine Met.ofW (cc := cX1_goesOn) (maxL := 3) (ret := (some .boolean)) (by decide) rfl ?_
  intro p e s m args below meth c s₁ B hml hv
  obtain ⟨rfl, hSt, hP⟩ := hv
  have hC : Cx p m c cX1_goesOn 3 s _ RX1 base D cI cJ tS := ⟨⟨B.exec, B.bytes, hml, findClass_of_methodNamed B.named, fun w hw => atoms_spec (ws := Cond.code yX1_goesOn cX1_goesOn 3 (some .boolean) :: wsL_law) B.pre w (List.mem_cons_of_mem _ hw)⟩, hSt⟩
  have hl := lv_entry ([.ref (base + a0), .int i1, .int i2]) (n := 3) (Nat.le_of_ble_eq_true rfl)
  rw [lg_entry_eq]
  generalize (lg_sl ([.ref (base + a0), .int i1, .int i2]) ++ List.replicate (3 - (lg_sl ([.ref (base + a0), .int i1, .int i2])).length) Slot.unset).toArray = ls at hl ⊢
  exact X1_goesOn_k0 hC B.returns B.notSynchronized h hP va_S.rf hl
-- ===== X1_come
set_option maxRecDepth 100000 in
set_option maxHeartbeats 4000000 in
theorem X1_come_k0 (hC : Cx p m c cX1_come 3 s args RX1 base D cI cJ tS) (hr : meth.sig.returnType = (some .int)) (hlocks : meth.locks = false) {n : Nat} {a0 : Nat} {i1 : Int32} {i2 : Int32} {σ : Sg} {r : Int32} {τ : Sg} {H : Heap} {locs : List Loc} {ls : Array Slot} (h : f_X1_come n a0 i1 i2 σ = some (r, τ)) : Dy base D cI cJ σ H → va_S (fun q => base ≤ q) s.heap H locs → lv_has ls 3 [(0, .ref (base + a0)), (1, .int i1), (2, .int i2)] → W p l e (rmD 0 0 0) s m args below meth c H locs 0 0 (MQ below (QwI base D cI cJ r τ) args s 0 0 (fun q => base ≤ q)) (F0 m 0 ls []) := by
  intro hP hS hl
  obtain ⟨hx, hb, hml, hown, hts⟩ := hC.1
  unfold f_X1_come at h
  refine lv_aload_n hx hb dX1_come_0 rfl (lv_at hl 0 rfl) ?_
  obtain ⟨q_1, hq_1, h⟩ := obn h
  refine w_getR (ci := 1) (j := 1) hC hP rfl inlX1 (by decide) (by decide) rfl hq_1 wl_5 dX1_come_1 ?_
  refine lv_iload_n hx hb dX1_come_4 rfl (lv_at hl 1 rfl) ?_
  obtain ⟨v_2, hv_2, h⟩ := obn h
  refine w_iald hC hP hv_2 dX1_come_5 ?_
  refine lv_if_le (tgt := 20) hx hb dX1_come_6 (by decide) (fun c_3 => ?_) (fun c_3 => ?_)
  · rw [if_pos c_3] at h
    refine lv_iconst (v := 0) hx hb dX1_come_20 (by decide) ?_
    obtain ⟨rfl, rfl⟩ := Prod.mk.inj (Option.some.inj h)
    exact w_iret hC hr hlocks hP hS dX1_come_21
  · rw [if_neg c_3] at h
    refine lv_iload_n hx hb dX1_come_9 rfl (lv_at hl 2 rfl) ?_
    refine lv_aload_n hx hb dX1_come_10 rfl (lv_at hl 0 rfl) ?_
    obtain ⟨q_4, hq_4, h⟩ := obn h
    refine w_getR (ci := 1) (j := 1) hC hP rfl inlX1 (by decide) (by decide) rfl hq_4 wl_5 dX1_come_11 ?_
    refine lv_iload_n hx hb dX1_come_14 rfl (lv_at hl 1 rfl) ?_
    obtain ⟨v_5, hv_5, h⟩ := obn h
    refine w_iald hC hP hv_5 dX1_come_15 ?_
    obtain ⟨u_6, hu_6, h⟩ := obn h
    refine lv_idiv hx hb dX1_come_16 (ifn hu_6).1 ?_
    refine lv_goto (tgt := 21) hx hb dX1_come_17 (by decide) ?_
    obtain ⟨rfl, rfl⟩ := Prod.mk.inj (Option.some.inj h)
    exact w_iret hC hr hlocks hP hS dX1_come_21
set_option maxRecDepth 100000 in
set_option maxHeartbeats 4000000 in
theorem c_X1_come {l : Launch} {base : Nat} {D : va_G} {cI cJ : ClassId} {tS : Nat} {n : Nat} {a0 : Nat} {i1 : Int32} {i2 : Int32} {σ : Sg} {r : Int32} {τ : Sg} (h : f_X1_come n a0 i1 i2 σ = some (r, τ)) : Met l yX1_come (.code yX1_come cX1_come 3 (some .int) :: wsL_law) (rmD 0 0 0) (Pw base D cI cJ tS σ [.ref (base + a0), .int i1, .int i2]) (QwI base D cI cJ r τ) 0 0 (fun q => base ≤ q) := by
  refine Met.ofW (cc := cX1_come) (maxL := 3) (ret := (some .int)) (by decide) rfl ?_
  intro p e s m args below meth c s₁ B hml hv
  obtain ⟨rfl, hSt, hP⟩ := hv
  have hC : Cx p m c cX1_come 3 s _ RX1 base D cI cJ tS := ⟨⟨B.exec, B.bytes, hml, findClass_of_methodNamed B.named, fun w hw => atoms_spec (ws := Cond.code yX1_come cX1_come 3 (some .int) :: wsL_law) B.pre w (List.mem_cons_of_mem _ hw)⟩, hSt⟩
  have hl := lv_entry ([.ref (base + a0), .int i1, .int i2]) (n := 3) (Nat.le_of_ble_eq_true rfl)
  rw [lg_entry_eq]
  generalize (lg_sl ([.ref (base + a0), .int i1, .int i2]) ++ List.replicate (3 - (lg_sl ([.ref (base + a0), .int i1, .int i2])).length) Slot.unset).toArray = ls at hl ⊢
  exact X1_come_k0 hC B.returns B.notSynchronized h hP va_S.rf hl
-- ===== X0_noteWaits
set_option maxRecDepth 100000 in
set_option maxHeartbeats 4000000 in
theorem X0_noteWaits_k0 (hC : Cx p m c cX0_noteWaits 8 s args RX0 base D cI cJ tS) (hr : meth.sig.returnType = none) (hlocks : meth.locks = false) {n : Nat} {a0 : Nat} {i1 : Int32} {i2 : Int32} {i3 : Int32} {i4 : Int32} {σ : Sg} {τ : Sg} {H : Heap} {locs : List Loc} {ls : Array Slot} (h : f_X0_noteWaits n a0 i1 i2 i3 i4 σ = some τ) : Dy base D cI cJ σ H → va_S (fun q => base ≤ q) s.heap H locs → lv_has ls 8 [(0, .ref (base + a0)), (1, .int i1), (2, .int i2), (3, .int i3), (4, .int i4)] → W p l e (rmD 0 0 0) s m args below meth c H locs 0 0 (MQ below (QwV base D cI cJ τ) args s 0 0 (fun q => base ≤ q)) (F0 m 0 ls []) := by
  intro hP hS hl
  obtain ⟨hx, hb, hml, hown, hts⟩ := hC.1
  unfold f_X0_noteWaits at h
  refine lv_iload_n hx hb dX0_noteWaits_0 rfl (lv_at hl 3 rfl) ?_
  refine lv_i2l hx hb dX0_noteWaits_1 rfl ?_
  refine lv_aload_n hx hb dX0_noteWaits_2 rfl (lv_at hl 0 rfl) ?_
  obtain ⟨q_1, hq_1, h⟩ := obn h
  refine w_getR (ci := 0) (j := 7) hC hP rfl inlX0 (by decide) (by decide) rfl hq_1 wl_28 dX0_noteWaits_3 ?_
  refine lv_iload_n hx hb dX0_noteWaits_6 rfl (lv_at hl 1 rfl) ?_
  obtain ⟨v_2, hv_2, h⟩ := obn h
  refine w_iald hC hP hv_2 dX0_noteWaits_7 ?_
  refine lv_i2l hx hb dX0_noteWaits_8 rfl ?_
  refine lv_lmul hx hb dX0_noteWaits_9 ?_
  refine lv_iload_n hx hb dX0_noteWaits_10 rfl (lv_at hl 3 rfl) ?_
  refine lv_i2l hx hb dX0_noteWaits_11 rfl ?_
  refine lv_iload_n hx hb dX0_noteWaits_12 rfl (lv_at hl 3 rfl) ?_
  refine lv_iconst (v := 1) hx hb dX0_noteWaits_13 (by decide) ?_
  refine lv_iadd hx hb dX0_noteWaits_14 ?_
  refine lv_i2l hx hb dX0_noteWaits_15 rfl ?_
  refine lv_lmul hx hb dX0_noteWaits_16 ?_
  refine lv_ldc2 (v := 2) hx hb hown (hts _ wl_172) dX0_noteWaits_17 ?_
  obtain ⟨u_3, hu_3, h⟩ := obn h
  refine lv_ldiv hx hb dX0_noteWaits_20 (ifn hu_3).1 ?_
  refine lv_ladd hx hb dX0_noteWaits_21 ?_
  obtain ⟨j5_4, hj5_4, h⟩ := obn h
  refine w_eqj (Option.some.inj hj5_4) ?_
  refine lv_lstore (lv' := [(5, .long j5_4), (0, .ref (base + a0)), (1, .int i1), (2, .int i2), (3, .int i3), (4, .int i4)]) hx hb dX0_noteWaits_22 hl (by decide) rfl (fun ls hl => ?_)
  refine lv_aload_n hx hb dX0_noteWaits_24 rfl (lv_at hl 1 rfl) ?_
  obtain ⟨q_5, hq_5, h⟩ := obn h
  refine w_getR (ci := 0) (j := 8) hC hP rfl inlX0 (by decide) (by decide) rfl hq_5 wl_30 dX0_noteWaits_25 ?_
  refine lv_iload_n hx hb dX0_noteWaits_28 rfl (lv_at hl 2 rfl) ?_
  refine lv_dup2_11 hx hb dX0_noteWaits_29 rfl rfl ?_
  obtain ⟨v_6, hv_6, h⟩ := obn h
  refine w_lald hC hP hv_6 dX0_noteWaits_30 ?_
  refine lv_iload_n hx hb dX0_noteWaits_31 rfl (lv_at hl 4 rfl) ?_
  refine lv_i2l hx hb dX0_noteWaits_32 rfl ?_
  refine lv_iload_n hx hb dX0_noteWaits_33 rfl (lv_at hl 3 rfl) ?_
  refine lv_i2l hx hb dX0_noteWaits_34 rfl ?_
  refine lv_lmul hx hb dX0_noteWaits_35 ?_
  refine lv_iload hx hb dX0_noteWaits_36 (lv_at hl 5 rfl) ?_
  refine lv_i2l hx hb dX0_noteWaits_38 rfl ?_
  refine lv_lload hx hb dX0_noteWaits_39 (lv_at hl 0 rfl) ?_
  refine lv_lmul hx hb dX0_noteWaits_41 ?_
  refine lv_lsub hx hb dX0_noteWaits_42 ?_
  refine lv_ladd hx hb dX0_noteWaits_43 ?_
  obtain ⟨s_7, hs_7, h⟩ := obn h
  refine w_last hC hP hS hs_7 dX0_noteWaits_44 (fun H locs hP hS => ?_)
  refine lv_iload_n hx hb dX0_noteWaits_45 rfl (lv_at hl 3 rfl) ?_
  refine lv_iload hx hb dX0_noteWaits_46 (lv_at hl 5 rfl) ?_
  refine lv_aload_n hx hb dX0_noteWaits_48 rfl (lv_at hl 1 rfl) ?_
  obtain ⟨q_8, hq_8, h⟩ := obn h
  refine w_getR (ci := 0) (j := 7) hC hP rfl inlX0 (by decide) (by decide) rfl hq_8 wl_28 dX0_noteWaits_49 ?_
  refine lv_iload_n hx hb dX0_noteWaits_52 rfl (lv_at hl 2 rfl) ?_
  obtain ⟨v_9, hv_9, h⟩ := obn h
  refine w_iald hC hP hv_9 dX0_noteWaits_53 ?_
  refine lv_iconst (v := 1) hx hb dX0_noteWaits_54 (by decide) ?_
  refine lv_iadd hx hb dX0_noteWaits_55 ?_
  refine lv_imul hx hb dX0_noteWaits_56 ?_
  refine lv_isub hx hb dX0_noteWaits_57 ?_
  obtain ⟨i7_10, hi7_10, h⟩ := obn h
  refine w_eqi (Option.some.inj hi7_10) ?_
  refine lv_istore (lv' := [(7, .int i7_10), (5, .long j5_4), (0, .ref (base + a0)), (1, .int i1), (2, .int i2), (3, .int i3), (4, .int i4)]) hx hb dX0_noteWaits_58 hl (by decide) rfl (fun ls hl => ?_)
  refine lv_iload hx hb dX0_noteWaits_60 (lv_at hl 0 rfl) ?_
  refine lv_aload_n hx hb dX0_noteWaits_62 rfl (lv_at hl 2 rfl) ?_
  obtain ⟨q_11, hq_11, h⟩ := obn h
  refine w_getR (ci := 0) (j := 9) hC hP rfl inlX0 (by decide) (by decide) rfl hq_11 wl_31 dX0_noteWaits_63 ?_
  refine lv_iload_n hx hb dX0_noteWaits_66 rfl (lv_at hl 3 rfl) ?_
  obtain ⟨v_12, hv_12, h⟩ := obn h
  refine w_iald hC hP hv_12 dX0_noteWaits_67 ?_
  refine lv_icmp_le (tgt := 79) hx hb dX0_noteWaits_68 (by decide) (fun c_13 => ?_) (fun c_13 => ?_)
  · rw [if_pos c_13] at h
    obtain rfl := Option.some.inj h
    exact w_vret hC hr hlocks hP hS dX0_noteWaits_79
  · rw [if_neg c_13] at h
    refine lv_aload_n hx hb dX0_noteWaits_71 rfl (lv_at hl 2 rfl) ?_
    obtain ⟨q_14, hq_14, h⟩ := obn h
    refine w_getR (ci := 0) (j := 9) hC hP rfl inlX0 (by decide) (by decide) rfl hq_14 wl_31 dX0_noteWaits_72 ?_
    refine lv_iload_n hx hb dX0_noteWaits_75 rfl (lv_at hl 3 rfl) ?_
    refine lv_iload hx hb dX0_noteWaits_76 (lv_at hl 0 rfl) ?_
    obtain ⟨s_15, hs_15, h⟩ := obn h
    refine w_iast hC hP hS hs_15 dX0_noteWaits_78 (fun H locs hP hS => ?_)
    obtain rfl := Option.some.inj h
    exact w_vret hC hr hlocks hP hS dX0_noteWaits_79
set_option maxRecDepth 100000 in
set_option maxHeartbeats 4000000 in
theorem c_X0_noteWaits {l : Launch} {base : Nat} {D : va_G} {cI cJ : ClassId} {tS : Nat} {n : Nat} {a0 : Nat} {i1 : Int32} {i2 : Int32} {i3 : Int32} {i4 : Int32} {σ : Sg} {τ : Sg} (h : f_X0_noteWaits n a0 i1 i2 i3 i4 σ = some τ) : Met l yX0_noteWaits (.code yX0_noteWaits cX0_noteWaits 8 none :: wsL_law) (rmD 0 0 0) (Pw base D cI cJ tS σ [.ref (base + a0), .int i1, .int i2, .int i3, .int i4]) (QwV base D cI cJ τ) 0 0 (fun q => base ≤ q) := by
  refine Met.ofW (cc := cX0_noteWaits) (maxL := 8) (ret := none) (by decide) rfl ?_
  intro p e s m args below meth c s₁ B hml hv
  obtain ⟨rfl, hSt, hP⟩ := hv
  have hC : Cx p m c cX0_noteWaits 8 s _ RX0 base D cI cJ tS := ⟨⟨B.exec, B.bytes, hml, findClass_of_methodNamed B.named, fun w hw => atoms_spec (ws := Cond.code yX0_noteWaits cX0_noteWaits 8 none :: wsL_law) B.pre w (List.mem_cons_of_mem _ hw)⟩, hSt⟩
  have hl := lv_entry ([.ref (base + a0), .int i1, .int i2, .int i3, .int i4]) (n := 8) (Nat.le_of_ble_eq_true rfl)
  rw [lg_entry_eq]
  generalize (lg_sl ([.ref (base + a0), .int i1, .int i2, .int i3, .int i4]) ++ List.replicate (8 - (lg_sl ([.ref (base + a0), .int i1, .int i2, .int i3, .int i4])).length) Slot.unset).toArray = ls at hl ⊢
  exact X0_noteWaits_k0 hC B.returns B.notSynchronized h hP va_S.rf hl
-- ===== X0_pickUp
set_option maxRecDepth 100000 in
set_option maxHeartbeats 4000000 in
theorem X0_pickUp_k0 (hC : Cx p m c cX0_pickUp 8 s args RX0 base D cI cJ tS) (hr : meth.sig.returnType = none) (hlocks : meth.locks = false) {n : Nat} {a0 : Nat} {a1 : Nat} {i2 : Int32} {i3 : Int32} {i4 : Int32} {σ : Sg} {τ : Sg} {H : Heap} {locs : List Loc} {ls : Array Slot} (h : f_X0_pickUp n a0 a1 i2 i3 i4 σ = some τ) : Dy base D cI cJ σ H → va_S (fun q => base ≤ q) s.heap H locs → lv_has ls 8 [(0, .ref (base + a0)), (1, .ref (base + a1)), (2, .int i2), (3, .int i3), (4, .int i4)] → W p l e (rmD 1 0 0) s m args below meth c H locs 0 0 (MQ below (QwV base D cI cJ τ) args s 0 0 (fun q => base ≤ q)) (F0 m 0 ls []) := by
  intro hP hS hl
  obtain ⟨hx, hb, hml, hown, hts⟩ := hC.1
  unfold f_X0_pickUp at h
  refine lv_iload_n hx hb dX0_pickUp_0 rfl (lv_at hl 2 rfl) ?_
  refine lv_iload_n hx hb dX0_pickUp_1 rfl (lv_at hl 3 rfl) ?_
  obtain ⟨w_1, hw_1, h⟩ := obn h
  refine k_I (r_statN (As := [.int i2, .int i3]) (rest := []) hC hP hS (c_X4_cell (l := l) (base := base) (D := D) (cI := cI) (cJ := cJ) (tS := tS) hw_1) hC.2.2.1.2.2.2 wl_150 wl_98 wl_149 rfl rfl hd_X4_cell ⟨Nat.le_of_ble_eq_true rfl, Nat.le_of_ble_eq_true rfl⟩ rfl hl.1 rfl (Nat.le_of_ble_eq_true rfl) dX0_pickUp_2 ⟨Nat.le_of_ble_eq_true rfl, Nat.le_of_ble_eq_true rfl⟩) hS (fun H locs hP hS => ?_)
  refine lv_istore (lv' := [(5, .int w_1.1), (0, .ref (base + a0)), (1, .ref (base + a1)), (2, .int i2), (3, .int i3), (4, .int i4)]) hx hb dX0_pickUp_5 hl (by decide) rfl (fun ls hl => ?_)
  refine lv_aload_n hx hb dX0_pickUp_7 rfl (lv_at hl 2 rfl) ?_
  refine lv_iload_n hx hb dX0_pickUp_8 rfl (lv_at hl 4 rfl) ?_
  refine lv_aload_n hx hb dX0_pickUp_9 rfl (lv_at hl 1 rfl) ?_
  obtain ⟨q_2, hq_2, h⟩ := obn h
  refine w_getR (ci := 0) (j := 0) hC hP rfl inlX0 (by decide) (by decide) rfl hq_2 wl_21 dX0_pickUp_10 ?_
  refine lv_iload hx hb dX0_pickUp_13 (lv_at hl 0 rfl) ?_
  obtain ⟨v_3, hv_3, h⟩ := obn h
  refine w_iald hC hP hv_3 dX0_pickUp_15 ?_
  obtain ⟨u_4, hu_4, h⟩ := obn h
  obtain ⟨w_5, hw_5, h⟩ := obn h
  refine k_I (r_virt (As := [.int i3, .int v_3]) (rest := []) hC hP hS (ci := 1) rfl (by decide) hu_4 (c_X1_come (l := l) (base := base) (D := D) (cI := cI) (cJ := cJ) (tS := tS) hw_5) wl_174 wl_175 wl_176 wl_39 wl_173 rfl rfl hd_X1_come ⟨Nat.le_of_ble_eq_true rfl, Nat.le_of_ble_eq_true rfl⟩ rfl hl.1 rfl (Nat.le_of_ble_eq_true rfl) dX0_pickUp_16 ⟨Nat.le_of_ble_eq_true rfl, Nat.le_of_ble_eq_true rfl⟩) hS (fun H locs hP hS => ?_)
  refine lv_aload_n hx hb dX0_pickUp_19 rfl (lv_at hl 1 rfl) ?_
  obtain ⟨q_6, hq_6, h⟩ := obn h
  refine w_getR (ci := 0) (j := 7) hC hP rfl inlX0 (by decide) (by decide) rfl hq_6 wl_28 dX0_pickUp_20 ?_
  refine lv_iload_n hx hb dX0_pickUp_23 rfl (lv_at hl 4 rfl) ?_
  obtain ⟨v_7, hv_7, h⟩ := obn h
  refine w_iald hC hP hv_7 dX0_pickUp_24 ?_
  refine lv_isub hx hb dX0_pickUp_25 ?_
  obtain ⟨i6_8, hi6_8, h⟩ := obn h
  refine w_eqi (Option.some.inj hi6_8) ?_
  refine lv_istore (lv' := [(6, .int i6_8), (5, .int w_1.1), (0, .ref (base + a0)), (1, .ref (base + a1)), (2, .int i2), (3, .int i3), (4, .int i4)]) hx hb dX0_pickUp_26 hl (by decide) rfl (fun ls hl => ?_)
  refine lv_aload_n hx hb dX0_pickUp_28 rfl (lv_at hl 3 rfl) ?_
  obtain ⟨q_9, hq_9, h⟩ := obn h
  refine w_getR (ci := 1) (j := 5) hC hP rfl inlX1 (by decide) (by decide) rfl hq_9 wl_177 dX0_pickUp_29 ?_
  refine lv_iload_n hx hb dX0_pickUp_32 rfl (lv_at hl 4 rfl) ?_
  obtain ⟨v_10, hv_10, h⟩ := obn h
  refine w_iald hC hP hv_10 dX0_pickUp_33 ?_
  refine lv_iload hx hb dX0_pickUp_34 (lv_at hl 6 rfl) ?_
  refine lv_isub hx hb dX0_pickUp_36 ?_
  refine lv_iload hx hb dX0_pickUp_37 (lv_at hl 0 rfl) ?_
  refine va_mmin hx hb (hml.trans hl.1.symm) hown (hts _ wl_178) (hts _ wl_165) (hts _ wl_166) (hts _ wl_167) (Nat.le_of_ble_eq_true rfl) (Nat.le_of_ble_eq_true rfl) (Nat.le_of_ble_eq_true rfl) (Nat.le_of_ble_eq_true rfl) dX0_pickUp_39 ?_
  obtain ⟨i7_11, hi7_11, h⟩ := obn h
  refine w_eqi (Option.some.inj hi7_11) ?_
  refine lv_istore (lv' := [(7, .int i7_11), (6, .int i6_8), (5, .int w_1.1), (0, .ref (base + a0)), (1, .ref (base + a1)), (2, .int i2), (3, .int i3), (4, .int i4)]) hx hb dX0_pickUp_42 hl (by decide) rfl (fun ls hl => ?_)
  refine lv_aload_n hx hb dX0_pickUp_44 rfl (lv_at hl 3 rfl) ?_
  obtain ⟨q_12, hq_12, h⟩ := obn h
  refine w_getR (ci := 0) (j := 2) hC hP rfl inlX0 (by decide) (by decide) rfl hq_12 wl_23 dX0_pickUp_45 ?_
  refine lv_iload hx hb dX0_pickUp_48 (lv_at hl 2 rfl) ?_
  refine lv_iload hx hb dX0_pickUp_50 (lv_at hl 0 rfl) ?_
  obtain ⟨s_13, hs_13, h⟩ := obn h
  refine w_iast hC hP hS hs_13 dX0_pickUp_52 (fun H locs hP hS => ?_)
  refine lv_aload_n hx hb dX0_pickUp_53 rfl (lv_at hl 3 rfl) ?_
  obtain ⟨q_14, hq_14, h⟩ := obn h
  refine w_getR (ci := 0) (j := 5) hC hP rfl inlX0 (by decide) (by decide) rfl hq_14 wl_26 dX0_pickUp_54 ?_
  refine lv_iload hx hb dX0_pickUp_57 (lv_at hl 2 rfl) ?_
  refine lv_iload hx hb dX0_pickUp_59 (lv_at hl 1 rfl) ?_
  refine lv_iload hx hb dX0_pickUp_61 (lv_at hl 0 rfl) ?_
  refine lv_isub hx hb dX0_pickUp_63 ?_
  obtain ⟨s_15, hs_15, h⟩ := obn h
  refine w_iast hC hP hS hs_15 dX0_pickUp_64 (fun H locs hP hS => ?_)
  refine lv_aload_n hx hb dX0_pickUp_65 rfl (lv_at hl 3 rfl) ?_
  obtain ⟨q_16, hq_16, h⟩ := obn h
  refine w_getR (ci := 0) (j := 4) hC hP rfl inlX0 (by decide) (by decide) rfl hq_16 wl_25 dX0_pickUp_66 ?_
  refine lv_iload hx hb dX0_pickUp_69 (lv_at hl 2 rfl) ?_
  refine lv_iload hx hb dX0_pickUp_71 (lv_at hl 7 rfl) ?_
  refine lv_iload hx hb dX0_pickUp_73 (lv_at hl 0 rfl) ?_
  refine lv_iadd hx hb dX0_pickUp_75 ?_
  obtain ⟨s_17, hs_17, h⟩ := obn h
  refine w_iast hC hP hS hs_17 dX0_pickUp_76 (fun H locs hP hS => ?_)
  refine lv_iload hx hb dX0_pickUp_77 (lv_at hl 0 rfl) ?_
  refine lv_if_le (tgt := 113) hx hb dX0_pickUp_79 (by decide) (fun c_18 => ?_) (fun c_18 => ?_)
  · rw [if_pos c_18] at h
    obtain rfl := Option.some.inj h
    exact w_vret hC hr hlocks hP hS dX0_pickUp_113
  · rw [if_neg c_18] at h
    refine lv_aload_n hx hb dX0_pickUp_82 rfl (lv_at hl 3 rfl) ?_
    refine lv_iload_n hx hb dX0_pickUp_83 rfl (lv_at hl 6 rfl) ?_
    refine lv_aload_n hx hb dX0_pickUp_84 rfl (lv_at hl 3 rfl) ?_
    obtain ⟨q_19, hq_19, h⟩ := obn h
    refine w_getR (ci := 0) (j := 0) hC hP rfl inlX0 (by decide) (by decide) rfl hq_19 wl_21 dX0_pickUp_85 ?_
    refine lv_iload hx hb dX0_pickUp_88 (lv_at hl 2 rfl) ?_
    obtain ⟨v_20, hv_20, h⟩ := obn h
    refine w_iald hC hP hv_20 dX0_pickUp_90 ?_
    refine lv_iload hx hb dX0_pickUp_91 (lv_at hl 0 rfl) ?_
    refine lv_aload_n hx hb dX0_pickUp_93 rfl (lv_at hl 4 rfl) ?_
    obtain ⟨q_21, hq_21, h⟩ := obn h
    refine w_getR (ci := 1) (j := 1) hC hP rfl inlX1 (by decide) (by decide) rfl hq_21 wl_179 dX0_pickUp_94 ?_
    refine lv_iload_n hx hb dX0_pickUp_97 rfl (lv_at hl 6 rfl) ?_
    obtain ⟨v_22, hv_22, h⟩ := obn h
    refine w_iald hC hP hv_22 dX0_pickUp_98 ?_
    obtain ⟨u_23, hu_23, h⟩ := obn h
    obtain ⟨w_24, hw_24, h⟩ := obn h
    refine k_V (r_virt (As := [.int i3, .int v_20, .int i7_11, .int v_22]) (rest := []) hC hP hS (ci := 0) rfl (by decide) hu_23 (c_X0_noteWaits (l := l) (base := base) (D := D) (cI := cI) (cJ := cJ) (tS := tS) hw_24) wl_181 wl_182 wl_183 wl_52 wl_180 rfl rfl hd_X0_noteWaits ⟨Nat.le_of_ble_eq_true rfl, Nat.le_of_ble_eq_true rfl⟩ rfl hl.1 rfl (Nat.le_of_ble_eq_true rfl) dX0_pickUp_99 ⟨Nat.le_of_ble_eq_true rfl, Nat.le_of_ble_eq_true rfl⟩) hS (fun H locs hP hS => ?_)
    refine lv_aload_n hx hb dX0_pickUp_102 rfl (lv_at hl 3 rfl) ?_
    obtain ⟨q_25, hq_25, h⟩ := obn h
    refine w_getR (ci := 0) (j := 7) hC hP rfl inlX0 (by decide) (by decide) rfl hq_25 wl_28 dX0_pickUp_103 ?_
    refine lv_iload_n hx hb dX0_pickUp_106 rfl (lv_at hl 6 rfl) ?_
    refine lv_dup2_11 hx hb dX0_pickUp_107 rfl rfl ?_
    obtain ⟨v_26, hv_26, h⟩ := obn h
    refine w_iald hC hP hv_26 dX0_pickUp_108 ?_
    refine lv_iload hx hb dX0_pickUp_109 (lv_at hl 0 rfl) ?_
    refine lv_iadd hx hb dX0_pickUp_111 ?_
    obtain ⟨s_27, hs_27, h⟩ := obn h
    refine w_iast hC hP hS hs_27 dX0_pickUp_112 (fun H locs hP hS => ?_)
    obtain rfl := Option.some.inj h
    exact w_vret hC hr hlocks hP hS dX0_pickUp_113
set_option maxRecDepth 100000 in
set_option maxHeartbeats 4000000 in
theorem c_X0_pickUp {l : Launch} {base : Nat} {D : va_G} {cI cJ : ClassId} {tS : Nat} {n : Nat} {a0 : Nat} {a1 : Nat} {i2 : Int32} {i3 : Int32} {i4 : Int32} {σ : Sg} {τ : Sg} (h : f_X0_pickUp n a0 a1 i2 i3 i4 σ = some τ) : Met l yX0_pickUp (.code yX0_pickUp cX0_pickUp 8 none :: wsL_law) (rmD 1 0 0) (Pw base D cI cJ tS σ [.ref (base + a0), .ref (base + a1), .int i2, .int i3, .int i4]) (QwV base D cI cJ τ) 0 0 (fun q => base ≤ q) := by
  refine Met.ofW (cc := cX0_pickUp) (maxL := 8) (ret := none) (by decide) rfl ?_
  intro p e s m args below meth c s₁ B hml hv
  obtain ⟨rfl, hSt, hP⟩ := hv
  have hC : Cx p m c cX0_pickUp 8 s _ RX0 base D cI cJ tS := ⟨⟨B.exec, B.bytes, hml, findClass_of_methodNamed B.named, fun w hw => atoms_spec (ws := Cond.code yX0_pickUp cX0_pickUp 8 none :: wsL_law) B.pre w (List.mem_cons_of_mem _ hw)⟩, hSt⟩
  have hl := lv_entry ([.ref (base + a0), .ref (base + a1), .int i2, .int i3, .int i4]) (n := 8) (Nat.le_of_ble_eq_true rfl)
  rw [lg_entry_eq]
  generalize (lg_sl ([.ref (base + a0), .ref (base + a1), .int i2, .int i3, .int i4]) ++ List.replicate (8 - (lg_sl ([.ref (base + a0), .ref (base + a1), .int i2, .int i3, .int i4])).length) Slot.unset).toArray = ls at hl ⊢
  exact X0_pickUp_k0 hC B.returns B.notSynchronized h hP va_S.rf hl
-- ===== X0_stand
set_option maxRecDepth 100000 in
set_option maxHeartbeats 4000000 in
theorem X0_stand_k20 (hC : Cx p m c cX0_stand 5 s args RX0 base D cI cJ tS) (hr : meth.sig.returnType = (some .int)) (hlocks : meth.locks = false) {n : Nat} {a0 : Nat} {a1 : Nat} {i2 : Int32} {i3 : Int32} {σ : Sg} {r : Int32} {τ : Sg} {H : Heap} {locs : List Loc} {ls : Array Slot} (h : X0_stand_b20 n a0 a1 i2 i3 σ = some (r, τ)) : Dy base D cI cJ σ H → va_S (fun q => base ≤ q) s.heap H locs → lv_has ls 5 [(0, .ref (base + a0)), (1, .ref (base + a1)), (2, .int i2), (3, .int i3)] → W p l e (rmD 0 0 0) s m args below meth c H locs 0 0 (MQ below (QwI base D cI cJ r τ) args s 0 0 (fun q => base ≤ q)) (F0 m 20 ls []) := by
  intro hP hS hl
  obtain ⟨hx, hb, hml, hown, hts⟩ := hC.1
  unfold X0_stand_b20 at h
  refine lv_aload_n hx hb dX0_stand_20 rfl (lv_at hl 1 rfl) ?_
  obtain ⟨q_1, hq_1, h⟩ := obn h
  refine w_getR (ci := 1) (j := 3) hC hP rfl inlX1 (by decide) (by decide) rfl hq_1 wl_184 dX0_stand_21 ?_
  refine lv_astore (lv' := [(4, .ref (base + q_1)), (0, .ref (base + a0)), (1, .ref (base + a1)), (2, .int i2), (3, .int i3)]) hx hb dX0_stand_24 hl (by decide) rfl (fun ls hl => ?_)
  refine lv_aload hx hb dX0_stand_26 (lv_at hl 0 rfl) ?_
  refine lv_iconst (v := 0) hx hb dX0_stand_28 (by decide) ?_
  obtain ⟨v_2, hv_2, h⟩ := obn h
  refine w_iald hC hP hv_2 dX0_stand_29 ?_
  refine lv_aload hx hb dX0_stand_30 (lv_at hl 0 rfl) ?_
  refine lv_iconst (v := 1) hx hb dX0_stand_32 (by decide) ?_
  obtain ⟨v_3, hv_3, h⟩ := obn h
  refine w_iald hC hP hv_3 dX0_stand_33 ?_
  refine lv_aload_n hx hb dX0_stand_34 rfl (lv_at hl 1 rfl) ?_
  obtain ⟨q_4, hq_4, h⟩ := obn h
  refine w_getR (ci := 0) (j := 2) hC hP rfl inlX0 (by decide) (by decide) rfl hq_4 wl_23 dX0_stand_35 ?_
  refine lv_iload_n hx hb dX0_stand_38 rfl (lv_at hl 3 rfl) ?_
  obtain ⟨v_5, hv_5, h⟩ := obn h
  refine w_iald hC hP hv_5 dX0_stand_39 ?_
  refine lv_imul hx hb dX0_stand_40 ?_
  refine lv_iadd hx hb dX0_stand_41 ?_
  refine lv_aload hx hb dX0_stand_42 (lv_at hl 0 rfl) ?_
  refine lv_iconst (v := 2) hx hb dX0_stand_44 (by decide) ?_
  obtain ⟨v_6, hv_6, h⟩ := obn h
  refine w_iald hC hP hv_6 dX0_stand_45 ?_
  refine lv_iload_n hx hb dX0_stand_46 rfl (lv_at hl 4 rfl) ?_
  refine lv_imul hx hb dX0_stand_47 ?_
  refine lv_iadd hx hb dX0_stand_48 ?_
  refine lv_aload_n hx hb dX0_stand_49 rfl (lv_at hl 1 rfl) ?_
  obtain ⟨q_7, hq_7, h⟩ := obn h
  refine w_getR (ci := 0) (j := 6) hC hP rfl inlX0 (by decide) (by decide) rfl hq_7 wl_27 dX0_stand_50 ?_
  refine lv_iload_n hx hb dX0_stand_53 rfl (lv_at hl 3 rfl) ?_
  obtain ⟨v_8, hv_8, h⟩ := obn h
  refine w_iald hC hP hv_8 dX0_stand_54 ?_
  refine lv_iadd hx hb dX0_stand_55 ?_
  obtain ⟨rfl, rfl⟩ := Prod.mk.inj (Option.some.inj h)
  exact w_iret hC hr hlocks hP hS dX0_stand_56
set_option maxRecDepth 100000 in
set_option maxHeartbeats 4000000 in
theorem X0_stand_k0 (hC : Cx p m c cX0_stand 5 s args RX0 base D cI cJ tS) (hr : meth.sig.returnType = (some .int)) (hlocks : meth.locks = false) {n : Nat} {a0 : Nat} {a1 : Nat} {i2 : Int32} {i3 : Int32} {σ : Sg} {r : Int32} {τ : Sg} {H : Heap} {locs : List Loc} {ls : Array Slot} (h : f_X0_stand n a0 a1 i2 i3 σ = some (r, τ)) : Dy base D cI cJ σ H → va_S (fun q => base ≤ q) s.heap H locs → lv_has ls 5 [(0, .ref (base + a0)), (1, .ref (base + a1)), (2, .int i2), (3, .int i3)] → W p l e (rmD 0 0 0) s m args below meth c H locs 0 0 (MQ below (QwI base D cI cJ r τ) args s 0 0 (fun q => base ≤ q)) (F0 m 0 ls []) := by
  intro hP hS hl
  obtain ⟨hx, hb, hml, hown, hts⟩ := hC.1
  unfold f_X0_stand at h
  refine lv_aload_n hx hb dX0_stand_0 rfl (lv_at hl 0 rfl) ?_
  obtain ⟨q_9, hq_9, h⟩ := obn h
  refine w_getR (ci := 0) (j := 2) hC hP rfl inlX0 (by decide) (by decide) rfl hq_9 wl_23 dX0_stand_1 ?_
  refine lv_iload_n hx hb dX0_stand_4 rfl (lv_at hl 2 rfl) ?_
  obtain ⟨v_10, hv_10, h⟩ := obn h
  refine w_iald hC hP hv_10 dX0_stand_5 ?_
  refine lv_if_ne (tgt := 20) hx hb dX0_stand_6 (by decide) (fun c_11 => ?_) (fun c_11 => ?_)
  · rw [if_neg c_11] at h
    exact X0_stand_k20 hC hr hlocks h hP hS (lv_sub hl [0, 1, 2, 3] rfl)
  · rw [if_pos c_11] at h
    refine lv_iload_n hx hb dX0_stand_9 rfl (lv_at hl 3 rfl) ?_
    refine lv_if_ne (tgt := 20) hx hb dX0_stand_10 (by decide) (fun c_12 => ?_) (fun c_12 => ?_)
    · rw [if_neg c_12] at h
      exact X0_stand_k20 hC hr hlocks h hP hS (lv_sub hl [0, 1, 2, 3] rfl)
    · rw [if_pos c_12] at h
      refine lv_aload_n hx hb dX0_stand_13 rfl (lv_at hl 0 rfl) ?_
      obtain ⟨q_13, hq_13, h⟩ := obn h
      refine w_getR (ci := 0) (j := 6) hC hP rfl inlX0 (by decide) (by decide) rfl hq_13 wl_27 dX0_stand_14 ?_
      refine lv_iload_n hx hb dX0_stand_17 rfl (lv_at hl 2 rfl) ?_
      obtain ⟨v_14, hv_14, h⟩ := obn h
      refine w_iald hC hP hv_14 dX0_stand_18 ?_
      obtain ⟨rfl, rfl⟩ := Prod.mk.inj (Option.some.inj h)
      exact w_iret hC hr hlocks hP hS dX0_stand_19
set_option maxRecDepth 100000 in
set_option maxHeartbeats 4000000 in
theorem c_X0_stand {l : Launch} {base : Nat} {D : va_G} {cI cJ : ClassId} {tS : Nat} {n : Nat} {a0 : Nat} {a1 : Nat} {i2 : Int32} {i3 : Int32} {σ : Sg} {r : Int32} {τ : Sg} (h : f_X0_stand n a0 a1 i2 i3 σ = some (r, τ)) : Met l yX0_stand (.code yX0_stand cX0_stand 5 (some .int) :: wsL_law) (rmD 0 0 0) (Pw base D cI cJ tS σ [.ref (base + a0), .ref (base + a1), .int i2, .int i3]) (QwI base D cI cJ r τ) 0 0 (fun q => base ≤ q) := by
  refine Met.ofW (cc := cX0_stand) (maxL := 5) (ret := (some .int)) (by decide) rfl ?_
  intro p e s m args below meth c s₁ B hml hv
  obtain ⟨rfl, hSt, hP⟩ := hv
  have hC : Cx p m c cX0_stand 5 s _ RX0 base D cI cJ tS := ⟨⟨B.exec, B.bytes, hml, findClass_of_methodNamed B.named, fun w hw => atoms_spec (ws := Cond.code yX0_stand cX0_stand 5 (some .int) :: wsL_law) B.pre w (List.mem_cons_of_mem _ hw)⟩, hSt⟩
  have hl := lv_entry ([.ref (base + a0), .ref (base + a1), .int i2, .int i3]) (n := 5) (Nat.le_of_ble_eq_true rfl)
  rw [lg_entry_eq]
  generalize (lg_sl ([.ref (base + a0), .ref (base + a1), .int i2, .int i3]) ++ List.replicate (5 - (lg_sl ([.ref (base + a0), .ref (base + a1), .int i2, .int i3])).length) Slot.unset).toArray = ls at hl ⊢
  exact X0_stand_k0 hC B.returns B.notSynchronized h hP va_S.rf hl
-- ===== X2_soonest
set_option maxRecDepth 100000 in
set_option maxHeartbeats 4000000 in
theorem X2_soonest_k49 (hC : Cx p m c cX2_soonest 4 s args RX2 base D cI cJ tS) (hr : meth.sig.returnType = (some .int)) (hlocks : meth.locks = false) {n : Nat} {σ : Sg} {r : Int32} {τ : Sg} {H : Heap} {locs : List Loc} {ls : Array Slot} (h : X2_soonest_b49 n σ = some (r, τ)) : Dy base D cI cJ σ H → va_S (fun q => base ≤ q) s.heap H locs → lv_has ls 4 [] → W p l e (rmD 0 0 0) s m args below meth c H locs 0 0 (MQ below (QwI base D cI cJ r τ) args s 0 0 (fun q => base ≤ q)) (F0 m 49 ls []) := by
  intro hP hS hl
  obtain ⟨hx, hb, hml, hown, hts⟩ := hC.1
  unfold X2_soonest_b49 at h
  refine lv_iconst (v := 0) hx hb dX2_soonest_49 (by decide) ?_
  obtain ⟨rfl, rfl⟩ := Prod.mk.inj (Option.some.inj h)
  exact w_iret hC hr hlocks hP hS dX2_soonest_50
set_option maxRecDepth 100000 in
set_option maxHeartbeats 4000000 in
theorem X2_soonest_k0 (hC : Cx p m c cX2_soonest 4 s args RX2 base D cI cJ tS) (hr : meth.sig.returnType = (some .int)) (hlocks : meth.locks = false) {n : Nat} {a0 : Nat} {i1 : Int32} {i2 : Int32} {i3 : Int32} {σ : Sg} {r : Int32} {τ : Sg} {H : Heap} {locs : List Loc} {ls : Array Slot} (h : f_X2_soonest n a0 i1 i2 i3 σ = some (r, τ)) : Dy base D cI cJ σ H → va_S (fun q => base ≤ q) s.heap H locs → lv_has ls 4 [(0, .ref (base + a0)), (1, .int i1), (2, .int i2), (3, .int i3)] → W p l e (rmD 0 0 0) s m args below meth c H locs 0 0 (MQ below (QwI base D cI cJ r τ) args s 0 0 (fun q => base ≤ q)) (F0 m 0 ls []) := by
  intro hP hS hl
  obtain ⟨hx, hb, hml, hown, hts⟩ := hC.1
  unfold f_X2_soonest at h
  refine lv_aload_n hx hb dX2_soonest_0 rfl (lv_at hl 0 rfl) ?_
  obtain ⟨q_1, hq_1, h⟩ := obn h
  refine w_getR (ci := 2) (j := 0) hC hP rfl inlX2 (by decide) (by decide) rfl hq_1 wl_34 dX2_soonest_1 ?_
  refine lv_iload_n hx hb dX2_soonest_4 rfl (lv_at hl 1 rfl) ?_
  obtain ⟨v_2, hv_2, h⟩ := obn h
  refine w_iald hC hP hv_2 dX2_soonest_5 ?_
  refine lv_bipush (v := 99) hx hb dX2_soonest_6 (by decide) ?_
  refine lv_icmp_ne (tgt := 23) hx hb dX2_soonest_8 (by decide) (fun c_3 => ?_) (fun c_3 => ?_)
  · rw [if_neg c_3] at h
    refine lv_aload_n hx hb dX2_soonest_23 rfl (lv_at hl 0 rfl) ?_
    obtain ⟨q_4, hq_4, h⟩ := obn h
    refine w_getR (ci := 2) (j := 0) hC hP rfl inlX2 (by decide) (by decide) rfl hq_4 wl_34 dX2_soonest_24 ?_
    refine lv_iload_n hx hb dX2_soonest_27 rfl (lv_at hl 1 rfl) ?_
    obtain ⟨v_5, hv_5, h⟩ := obn h
    refine w_iald hC hP hv_5 dX2_soonest_28 ?_
    refine lv_bipush (v := 103) hx hb dX2_soonest_29 (by decide) ?_
    refine lv_icmp_ne (tgt := 49) hx hb dX2_soonest_31 (by decide) (fun c_6 => ?_) (fun c_6 => ?_)
    · rw [if_neg c_6] at h
      exact X2_soonest_k49 hC hr hlocks h hP hS (lv_sub hl [] rfl)
    · rw [if_pos c_6] at h
      refine lv_iload_n hx hb dX2_soonest_34 rfl (lv_at hl 3 rfl) ?_
      refine lv_bipush (v := (-6)) hx hb dX2_soonest_35 (by decide) ?_
      refine lv_icmp_eq (tgt := 49) hx hb dX2_soonest_37 (by decide) (fun c_7 => ?_) (fun c_7 => ?_)
      · rw [if_pos c_7] at h
        exact X2_soonest_k49 hC hr hlocks h hP hS (lv_sub hl [] rfl)
      · rw [if_neg c_7] at h
        refine lv_iload_n hx hb dX2_soonest_40 rfl (lv_at hl 3 rfl) ?_
        refine lv_aload_n hx hb dX2_soonest_41 rfl (lv_at hl 0 rfl) ?_
        obtain ⟨q_8, hq_8, h⟩ := obn h
        refine w_getR (ci := 2) (j := 1) hC hP rfl inlX2 (by decide) (by decide) rfl hq_8 wl_35 dX2_soonest_42 ?_
        refine lv_iload_n hx hb dX2_soonest_45 rfl (lv_at hl 1 rfl) ?_
        obtain ⟨v_9, hv_9, h⟩ := obn h
        refine w_iald hC hP hv_9 dX2_soonest_46 ?_
        refine lv_iadd hx hb dX2_soonest_47 ?_
        obtain ⟨rfl, rfl⟩ := Prod.mk.inj (Option.some.inj h)
        exact w_iret hC hr hlocks hP hS dX2_soonest_48
  · rw [if_pos c_3] at h
    refine lv_iload_n hx hb dX2_soonest_11 rfl (lv_at hl 2 rfl) ?_
    refine lv_bipush (v := 10) hx hb dX2_soonest_12 (by decide) ?_
    refine lv_aload_n hx hb dX2_soonest_14 rfl (lv_at hl 0 rfl) ?_
    obtain ⟨q_10, hq_10, h⟩ := obn h
    refine w_getR (ci := 2) (j := 1) hC hP rfl inlX2 (by decide) (by decide) rfl hq_10 wl_35 dX2_soonest_15 ?_
    refine lv_iload_n hx hb dX2_soonest_18 rfl (lv_at hl 1 rfl) ?_
    obtain ⟨v_11, hv_11, h⟩ := obn h
    refine w_iald hC hP hv_11 dX2_soonest_19 ?_
    refine lv_imul hx hb dX2_soonest_20 ?_
    refine lv_iadd hx hb dX2_soonest_21 ?_
    obtain ⟨rfl, rfl⟩ := Prod.mk.inj (Option.some.inj h)
    exact w_iret hC hr hlocks hP hS dX2_soonest_22
set_option maxRecDepth 100000 in
set_option maxHeartbeats 4000000 in
theorem c_X2_soonest {l : Launch} {base : Nat} {D : va_G} {cI cJ : ClassId} {tS : Nat} {n : Nat} {a0 : Nat} {i1 : Int32} {i2 : Int32} {i3 : Int32} {σ : Sg} {r : Int32} {τ : Sg} (h : f_X2_soonest n a0 i1 i2 i3 σ = some (r, τ)) : Met l yX2_soonest (.code yX2_soonest cX2_soonest 4 (some .int) :: wsL_law) (rmD 0 0 0) (Pw base D cI cJ tS σ [.ref (base + a0), .int i1, .int i2, .int i3]) (QwI base D cI cJ r τ) 0 0 (fun q => base ≤ q) := by
  refine Met.ofW (cc := cX2_soonest) (maxL := 4) (ret := (some .int)) (by decide) rfl ?_
  intro p e s m args below meth c s₁ B hml hv
  obtain ⟨rfl, hSt, hP⟩ := hv
  have hC : Cx p m c cX2_soonest 4 s _ RX2 base D cI cJ tS := ⟨⟨B.exec, B.bytes, hml, findClass_of_methodNamed B.named, fun w hw => atoms_spec (ws := Cond.code yX2_soonest cX2_soonest 4 (some .int) :: wsL_law) B.pre w (List.mem_cons_of_mem _ hw)⟩, hSt⟩
  have hl := lv_entry ([.ref (base + a0), .int i1, .int i2, .int i3]) (n := 4) (Nat.le_of_ble_eq_true rfl)
  rw [lg_entry_eq]
  generalize (lg_sl ([.ref (base + a0), .int i1, .int i2, .int i3]) ++ List.replicate (4 - (lg_sl ([.ref (base + a0), .int i1, .int i2, .int i3])).length) Slot.unset).toArray = ls at hl ⊢
  exact X2_soonest_k0 hC B.returns B.notSynchronized h hP va_S.rf hl
-- ===== X0_waitByRule
set_option maxRecDepth 100000 in
set_option maxHeartbeats 4000000 in
theorem X0_waitByRule_k0 (hC : Cx p m c cX0_waitByRule 6 s args RX0 base D cI cJ tS) (hr : meth.sig.returnType = none) (hlocks : meth.locks = false) {n : Nat} {a0 : Nat} {a1 : Nat} {i2 : Int32} {i3 : Int32} {σ : Sg} {τ : Sg} {H : Heap} {locs : List Loc} {ls : Array Slot} (h : f_X0_waitByRule n a0 a1 i2 i3 σ = some τ) : Dy base D cI cJ σ H → va_S (fun q => base ≤ q) s.heap H locs → lv_has ls 6 [(0, .ref (base + a0)), (1, .ref (base + a1)), (2, .int i2), (3, .int i3)] → W p l e (rmD 1 0 0) s m args below meth c H locs 0 0 (MQ below (QwV base D cI cJ τ) args s 0 0 (fun q => base ≤ q)) (F0 m 0 ls []) := by
  intro hP hS hl
  obtain ⟨hx, hb, hml, hown, hts⟩ := hC.1
  unfold f_X0_waitByRule at h
  refine lv_iload_n hx hb dX0_waitByRule_0 rfl (lv_at hl 2 rfl) ?_
  refine lv_iload_n hx hb dX0_waitByRule_1 rfl (lv_at hl 3 rfl) ?_
  obtain ⟨w_1, hw_1, h⟩ := obn h
  refine k_I (r_statN (As := [.int i2, .int i3]) (rest := []) hC hP hS (c_X4_cell (l := l) (base := base) (D := D) (cI := cI) (cJ := cJ) (tS := tS) hw_1) hC.2.2.1.2.2.2 wl_150 wl_98 wl_149 rfl rfl hd_X4_cell ⟨Nat.le_of_ble_eq_true rfl, Nat.le_of_ble_eq_true rfl⟩ rfl hl.1 rfl (Nat.le_of_ble_eq_true rfl) dX0_waitByRule_2 ⟨Nat.le_of_ble_eq_true rfl, Nat.le_of_ble_eq_true rfl⟩) hS (fun H locs hP hS => ?_)
  refine lv_istore (lv' := [(4, .int w_1.1), (0, .ref (base + a0)), (1, .ref (base + a1)), (2, .int i2), (3, .int i3)]) hx hb dX0_waitByRule_5 hl (by decide) rfl (fun ls hl => ?_)
  refine lv_aload_n hx hb dX0_waitByRule_7 rfl (lv_at hl 2 rfl) ?_
  refine lv_iload_n hx hb dX0_waitByRule_8 rfl (lv_at hl 4 rfl) ?_
  refine lv_aload_n hx hb dX0_waitByRule_9 rfl (lv_at hl 1 rfl) ?_
  obtain ⟨q_2, hq_2, h⟩ := obn h
  refine w_getR (ci := 0) (j := 0) hC hP rfl inlX0 (by decide) (by decide) rfl hq_2 wl_21 dX0_waitByRule_10 ?_
  refine lv_iload_n hx hb dX0_waitByRule_13 rfl (lv_at hl 3 rfl) ?_
  refine lv_iconst (v := 0) hx hb dX0_waitByRule_14 (by decide) ?_
  obtain ⟨w_3, hw_3, h⟩ := obn h
  refine k_I (r_statN (As := [.int i2, .int 0]) (rest := [.ref (base + q_2), .int i3, .ref (base + a1)]) hC hP hS (c_X4_cell (l := l) (base := base) (D := D) (cI := cI) (cJ := cJ) (tS := tS) hw_3) hC.2.2.1.2.2.2 wl_150 wl_98 wl_149 rfl rfl hd_X4_cell ⟨Nat.le_of_ble_eq_true rfl, Nat.le_of_ble_eq_true rfl⟩ rfl hl.1 rfl (Nat.le_of_ble_eq_true rfl) dX0_waitByRule_15 ⟨Nat.le_of_ble_eq_true rfl, Nat.le_of_ble_eq_true rfl⟩) hS (fun H locs hP hS => ?_)
  obtain ⟨v_4, hv_4, h⟩ := obn h
  refine w_iald hC hP hv_4 dX0_waitByRule_18 ?_
  refine lv_aload_n hx hb dX0_waitByRule_19 rfl (lv_at hl 1 rfl) ?_
  obtain ⟨v_5, hv_5, h⟩ := obn h
  refine w_getI (ci := 0) (j := 14) hC hP rfl inlX0 (by decide) (by decide) rfl hv_5 wl_185 dX0_waitByRule_20 ?_
  obtain ⟨u_6, hu_6, h⟩ := obn h
  obtain ⟨w_7, hw_7, h⟩ := obn h
  refine k_I (r_virt (As := [.int i3, .int v_4, .int v_5]) (rest := []) hC hP hS (ci := 2) rfl (by decide) hu_6 (c_X2_soonest (l := l) (base := base) (D := D) (cI := cI) (cJ := cJ) (tS := tS) hw_7) wl_187 wl_188 wl_189 wl_59 wl_186 rfl rfl hd_X2_soonest ⟨Nat.le_of_ble_eq_true rfl, Nat.le_of_ble_eq_true rfl⟩ rfl hl.1 rfl (Nat.le_of_ble_eq_true rfl) dX0_waitByRule_23 ⟨Nat.le_of_ble_eq_true rfl, Nat.le_of_ble_eq_true rfl⟩) hS (fun H locs hP hS => ?_)
  refine lv_istore (lv' := [(5, .int w_7.1), (4, .int w_1.1), (0, .ref (base + a0)), (1, .ref (base + a1)), (2, .int i2), (3, .int i3)]) hx hb dX0_waitByRule_26 hl (by decide) rfl (fun ls hl => ?_)
  refine lv_aload_n hx hb dX0_waitByRule_28 rfl (lv_at hl 2 rfl) ?_
  obtain ⟨q_8, hq_8, h⟩ := obn h
  refine w_getR (ci := 0) (j := 1) hC hP rfl inlX0 (by decide) (by decide) rfl hq_8 wl_22 dX0_waitByRule_29 ?_
  refine lv_iload hx hb dX0_waitByRule_32 (lv_at hl 1 rfl) ?_
  refine lv_aload_n hx hb dX0_waitByRule_34 rfl (lv_at hl 2 rfl) ?_
  obtain ⟨q_9, hq_9, h⟩ := obn h
  refine w_getR (ci := 0) (j := 1) hC hP rfl inlX0 (by decide) (by decide) rfl hq_9 wl_22 dX0_waitByRule_35 ?_
  refine lv_iload hx hb dX0_waitByRule_38 (lv_at hl 1 rfl) ?_
  obtain ⟨v_10, hv_10, h⟩ := obn h
  refine w_iald hC hP hv_10 dX0_waitByRule_40 ?_
  refine lv_iload hx hb dX0_waitByRule_41 (lv_at hl 0 rfl) ?_
  refine va_mmax hx hb (hml.trans hl.1.symm) hown (hts _ wl_190) (hts _ wl_191) (hts _ wl_166) (hts _ wl_192) (Nat.le_of_ble_eq_true rfl) (Nat.le_of_ble_eq_true rfl) (Nat.le_of_ble_eq_true rfl) (Nat.le_of_ble_eq_true rfl) dX0_waitByRule_43 ?_
  obtain ⟨s_11, hs_11, h⟩ := obn h
  refine w_iast hC hP hS hs_11 dX0_waitByRule_46 (fun H locs hP hS => ?_)
  refine lv_aload_n hx hb dX0_waitByRule_47 rfl (lv_at hl 2 rfl) ?_
  refine lv_aload_n hx hb dX0_waitByRule_48 rfl (lv_at hl 2 rfl) ?_
  obtain ⟨v_12, hv_12, h⟩ := obn h
  refine w_getI (ci := 0) (j := 14) hC hP rfl inlX0 (by decide) (by decide) rfl hv_12 wl_185 dX0_waitByRule_49 ?_
  refine lv_aload_n hx hb dX0_waitByRule_52 rfl (lv_at hl 2 rfl) ?_
  obtain ⟨q_13, hq_13, h⟩ := obn h
  refine w_getR (ci := 0) (j := 1) hC hP rfl inlX0 (by decide) (by decide) rfl hq_13 wl_22 dX0_waitByRule_53 ?_
  refine lv_iload hx hb dX0_waitByRule_56 (lv_at hl 1 rfl) ?_
  obtain ⟨v_14, hv_14, h⟩ := obn h
  refine w_iald hC hP hv_14 dX0_waitByRule_58 ?_
  refine va_mmax hx hb (hml.trans hl.1.symm) hown (hts _ wl_190) (hts _ wl_191) (hts _ wl_166) (hts _ wl_192) (Nat.le_of_ble_eq_true rfl) (Nat.le_of_ble_eq_true rfl) (Nat.le_of_ble_eq_true rfl) (Nat.le_of_ble_eq_true rfl) dX0_waitByRule_59 ?_
  obtain ⟨s_15, hs_15, h⟩ := obn h
  refine w_putI (ci := 0) (j := 14) hC hP hS rfl inlX0 tyX0 tyX0_ok nmX0 (by decide) (by decide) rfl rfl rfl rfl hs_15 wl_185 dX0_waitByRule_62 (fun H locs hP hS => ?_)
  obtain rfl := Option.some.inj h
  exact w_vret hC hr hlocks hP hS dX0_waitByRule_65
set_option maxRecDepth 100000 in
set_option maxHeartbeats 4000000 in
theorem c_X0_waitByRule {l : Launch} {base : Nat} {D : va_G} {cI cJ : ClassId} {tS : Nat} {n : Nat} {a0 : Nat} {a1 : Nat} {i2 : Int32} {i3 : Int32} {σ : Sg} {τ : Sg} (h : f_X0_waitByRule n a0 a1 i2 i3 σ = some τ) : Met l yX0_waitByRule (.code yX0_waitByRule cX0_waitByRule 6 none :: wsL_law) (rmD 1 0 0) (Pw base D cI cJ tS σ [.ref (base + a0), .ref (base + a1), .int i2, .int i3]) (QwV base D cI cJ τ) 0 0 (fun q => base ≤ q) := by
  refine Met.ofW (cc := cX0_waitByRule) (maxL := 6) (ret := none) (by decide) rfl ?_
  intro p e s m args below meth c s₁ B hml hv
  obtain ⟨rfl, hSt, hP⟩ := hv
  have hC : Cx p m c cX0_waitByRule 6 s _ RX0 base D cI cJ tS := ⟨⟨B.exec, B.bytes, hml, findClass_of_methodNamed B.named, fun w hw => atoms_spec (ws := Cond.code yX0_waitByRule cX0_waitByRule 6 none :: wsL_law) B.pre w (List.mem_cons_of_mem _ hw)⟩, hSt⟩
  have hl := lv_entry ([.ref (base + a0), .ref (base + a1), .int i2, .int i3]) (n := 6) (Nat.le_of_ble_eq_true rfl)
  rw [lg_entry_eq]
  generalize (lg_sl ([.ref (base + a0), .ref (base + a1), .int i2, .int i3]) ++ List.replicate (6 - (lg_sl ([.ref (base + a0), .ref (base + a1), .int i2, .int i3])).length) Slot.unset).toArray = ls at hl ⊢
  exact X0_waitByRule_k0 hC B.returns B.notSynchronized h hP va_S.rf hl
-- ===== X0_emptyOut
set_option maxRecDepth 100000 in
set_option maxHeartbeats 4000000 in
theorem X0_emptyOut_k0 (hC : Cx p m c cX0_emptyOut 4 s args RX0 base D cI cJ tS) (hr : meth.sig.returnType = none) (hlocks : meth.locks = false) {n : Nat} {a0 : Nat} {a1 : Nat} {i2 : Int32} {i3 : Int32} {σ : Sg} {τ : Sg} {H : Heap} {locs : List Loc} {ls : Array Slot} (h : f_X0_emptyOut n a0 a1 i2 i3 σ = some τ) : Dy base D cI cJ σ H → va_S (fun q => base ≤ q) s.heap H locs → lv_has ls 4 [(0, .ref (base + a0)), (1, .ref (base + a1)), (2, .int i2), (3, .int i3)] → W p l e (rmD 1 0 0) s m args below meth c H locs 0 0 (MQ below (QwV base D cI cJ τ) args s 0 0 (fun q => base ≤ q)) (F0 m 0 ls []) := by
  intro hP hS hl
  obtain ⟨hx, hb, hml, hown, hts⟩ := hC.1
  unfold f_X0_emptyOut at h
  refine lv_aload_n hx hb dX0_emptyOut_0 rfl (lv_at hl 0 rfl) ?_
  obtain ⟨q_1, hq_1, h⟩ := obn h
  refine w_getR (ci := 0) (j := 2) hC hP rfl inlX0 (by decide) (by decide) rfl hq_1 wl_23 dX0_emptyOut_1 ?_
  refine lv_iload_n hx hb dX0_emptyOut_4 rfl (lv_at hl 3 rfl) ?_
  refine lv_iconst (v := 0) hx hb dX0_emptyOut_5 (by decide) ?_
  obtain ⟨s_2, hs_2, h⟩ := obn h
  refine w_iast hC hP hS hs_2 dX0_emptyOut_6 (fun H locs hP hS => ?_)
  refine lv_aload_n hx hb dX0_emptyOut_7 rfl (lv_at hl 0 rfl) ?_
  obtain ⟨q_3, hq_3, h⟩ := obn h
  refine w_getR (ci := 0) (j := 4) hC hP rfl inlX0 (by decide) (by decide) rfl hq_3 wl_25 dX0_emptyOut_8 ?_
  refine lv_iload_n hx hb dX0_emptyOut_11 rfl (lv_at hl 3 rfl) ?_
  refine lv_iconst (v := 0) hx hb dX0_emptyOut_12 (by decide) ?_
  obtain ⟨s_4, hs_4, h⟩ := obn h
  refine w_iast hC hP hS hs_4 dX0_emptyOut_13 (fun H locs hP hS => ?_)
  refine lv_aload_n hx hb dX0_emptyOut_14 rfl (lv_at hl 0 rfl) ?_
  obtain ⟨q_5, hq_5, h⟩ := obn h
  refine w_getR (ci := 0) (j := 5) hC hP rfl inlX0 (by decide) (by decide) rfl hq_5 wl_26 dX0_emptyOut_15 ?_
  refine lv_iload_n hx hb dX0_emptyOut_18 rfl (lv_at hl 3 rfl) ?_
  refine lv_aload_n hx hb dX0_emptyOut_19 rfl (lv_at hl 1 rfl) ?_
  refine lv_iload_n hx hb dX0_emptyOut_20 rfl (lv_at hl 2 rfl) ?_
  refine lv_aload_n hx hb dX0_emptyOut_21 rfl (lv_at hl 0 rfl) ?_
  obtain ⟨q_6, hq_6, h⟩ := obn h
  refine w_getR (ci := 0) (j := 0) hC hP rfl inlX0 (by decide) (by decide) rfl hq_6 wl_21 dX0_emptyOut_22 ?_
  refine lv_iload_n hx hb dX0_emptyOut_25 rfl (lv_at hl 3 rfl) ?_
  obtain ⟨v_7, hv_7, h⟩ := obn h
  refine w_iald hC hP hv_7 dX0_emptyOut_26 ?_
  obtain ⟨u_8, hu_8, h⟩ := obn h
  obtain ⟨w_9, hw_9, h⟩ := obn h
  refine k_I (r_virt (As := [.int i2, .int v_7]) (rest := [.int i3, .ref (base + q_5)]) hC hP hS (ci := 1) rfl (by decide) hu_8 (c_X1_come (l := l) (base := base) (D := D) (cI := cI) (cJ := cJ) (tS := tS) hw_9) wl_174 wl_175 wl_176 wl_39 wl_173 rfl rfl hd_X1_come ⟨Nat.le_of_ble_eq_true rfl, Nat.le_of_ble_eq_true rfl⟩ rfl hl.1 rfl (Nat.le_of_ble_eq_true rfl) dX0_emptyOut_27 ⟨Nat.le_of_ble_eq_true rfl, Nat.le_of_ble_eq_true rfl⟩) hS (fun H locs hP hS => ?_)
  refine lv_aload_n hx hb dX0_emptyOut_30 rfl (lv_at hl 0 rfl) ?_
  obtain ⟨q_10, hq_10, h⟩ := obn h
  refine w_getR (ci := 0) (j := 7) hC hP rfl inlX0 (by decide) (by decide) rfl hq_10 wl_28 dX0_emptyOut_31 ?_
  refine lv_iload_n hx hb dX0_emptyOut_34 rfl (lv_at hl 2 rfl) ?_
  obtain ⟨v_11, hv_11, h⟩ := obn h
  refine w_iald hC hP hv_11 dX0_emptyOut_35 ?_
  refine lv_isub hx hb dX0_emptyOut_36 ?_
  obtain ⟨s_12, hs_12, h⟩ := obn h
  refine w_iast hC hP hS hs_12 dX0_emptyOut_37 (fun H locs hP hS => ?_)
  obtain rfl := Option.some.inj h
  exact w_vret hC hr hlocks hP hS dX0_emptyOut_38
set_option maxRecDepth 100000 in
set_option maxHeartbeats 4000000 in
theorem c_X0_emptyOut {l : Launch} {base : Nat} {D : va_G} {cI cJ : ClassId} {tS : Nat} {n : Nat} {a0 : Nat} {a1 : Nat} {i2 : Int32} {i3 : Int32} {σ : Sg} {τ : Sg} (h : f_X0_emptyOut n a0 a1 i2 i3 σ = some τ) : Met l yX0_emptyOut (.code yX0_emptyOut cX0_emptyOut 4 none :: wsL_law) (rmD 1 0 0) (Pw base D cI cJ tS σ [.ref (base + a0), .ref (base + a1), .int i2, .int i3]) (QwV base D cI cJ τ) 0 0 (fun q => base ≤ q) := by
  refine Met.ofW (cc := cX0_emptyOut) (maxL := 4) (ret := none) (by decide) rfl ?_
  intro p e s m args below meth c s₁ B hml hv
  obtain ⟨rfl, hSt, hP⟩ := hv
  have hC : Cx p m c cX0_emptyOut 4 s _ RX0 base D cI cJ tS := ⟨⟨B.exec, B.bytes, hml, findClass_of_methodNamed B.named, fun w hw => atoms_spec (ws := Cond.code yX0_emptyOut cX0_emptyOut 4 none :: wsL_law) B.pre w (List.mem_cons_of_mem _ hw)⟩, hSt⟩
  have hl := lv_entry ([.ref (base + a0), .ref (base + a1), .int i2, .int i3]) (n := 4) (Nat.le_of_ble_eq_true rfl)
  rw [lg_entry_eq]
  generalize (lg_sl ([.ref (base + a0), .ref (base + a1), .int i2, .int i3]) ++ List.replicate (4 - (lg_sl ([.ref (base + a0), .ref (base + a1), .int i2, .int i3])).length) Slot.unset).toArray = ls at hl ⊢
  exact X0_emptyOut_k0 hC B.returns B.notSynchronized h hP va_S.rf hl
-- ===== X0_visit
set_option maxRecDepth 100000 in
set_option maxHeartbeats 4000000 in
theorem X0_visit_k223 (hC : Cx p m c cX0_visit 7 s args RX0 base D cI cJ tS) (hr : meth.sig.returnType = none) (hlocks : meth.locks = false) {n : Nat} {a0 : Nat} {i5 : Int32} {σ : Sg} {τ : Sg} {H : Heap} {locs : List Loc} {ls : Array Slot} (h : X0_visit_b223 n a0 i5 σ = some τ) : Dy base D cI cJ σ H → va_S (fun q => base ≤ q) s.heap H locs → lv_has ls 7 [(0, .ref (base + a0)), (5, .int i5)] → W p l e (rmD 3 0 0) s m args below meth c H locs 0 0 (MQ below (QwV base D cI cJ τ) args s 0 0 (fun q => base ≤ q)) (F0 m 223 ls []) := by
  intro hP hS hl
  obtain ⟨hx, hb, hml, hown, hts⟩ := hC.1
  unfold X0_visit_b223 at h
  refine lv_aload_n hx hb dX0_visit_223 rfl (lv_at hl 0 rfl) ?_
  refine lv_aload_n hx hb dX0_visit_224 rfl (lv_at hl 0 rfl) ?_
  obtain ⟨v_1, hv_1, h⟩ := obn h
  refine w_getI (ci := 0) (j := 13) hC hP rfl inlX0 (by decide) (by decide) rfl hv_1 wl_193 dX0_visit_225 ?_
  refine lv_aload_n hx hb dX0_visit_228 rfl (lv_at hl 0 rfl) ?_
  obtain ⟨q_2, hq_2, h⟩ := obn h
  refine w_getR (ci := 0) (j := 1) hC hP rfl inlX0 (by decide) (by decide) rfl hq_2 wl_22 dX0_visit_229 ?_
  refine lv_iload hx hb dX0_visit_232 (lv_at hl 1 rfl) ?_
  obtain ⟨v_3, hv_3, h⟩ := obn h
  refine w_iald hC hP hv_3 dX0_visit_234 ?_
  refine va_mmax hx hb (hml.trans hl.1.symm) hown (hts _ wl_190) (hts _ wl_191) (hts _ wl_166) (hts _ wl_192) (Nat.le_of_ble_eq_true rfl) (Nat.le_of_ble_eq_true rfl) (Nat.le_of_ble_eq_true rfl) (Nat.le_of_ble_eq_true rfl) dX0_visit_235 ?_
  obtain ⟨s_4, hs_4, h⟩ := obn h
  refine w_putI (ci := 0) (j := 13) hC hP hS rfl inlX0 tyX0 tyX0_ok nmX0 (by decide) (by decide) rfl rfl rfl rfl hs_4 wl_193 dX0_visit_238 (fun H locs hP hS => ?_)
  obtain rfl := Option.some.inj h
  exact w_vret hC hr hlocks hP hS dX0_visit_241
set_option maxRecDepth 100000 in
set_option maxHeartbeats 4000000 in
theorem X0_visit_k88 (hC : Cx p m c cX0_visit 7 s args RX0 base D cI cJ tS) (hr : meth.sig.returnType = none) (hlocks : meth.locks = false) {n : Nat} {a0 : Nat} {a1 : Nat} {a2 : Nat} {i3 : Int32} {i4 : Int32} {i5 : Int32} {i6 : Int32} {σ : Sg} {τ : Sg} {H : Heap} {locs : List Loc} {ls : Array Slot} (h : X0_visit_b88 n a0 a1 a2 i3 i4 i5 i6 σ = some τ) : Dy base D cI cJ σ H → va_S (fun q => base ≤ q) s.heap H locs → lv_has ls 7 [(0, .ref (base + a0)), (1, .ref (base + a1)), (2, .ref (base + a2)), (3, .int i3), (4, .int i4), (5, .int i5), (6, .int i6)] → W p l e (rmD 3 0 0) s m args below meth c H locs 0 0 (MQ below (QwV base D cI cJ τ) args s 0 0 (fun q => base ≤ q)) (F0 m 88 ls []) := by
  intro hP hS hl
  obtain ⟨hx, hb, hml, hown, hts⟩ := hC.1
  unfold X0_visit_b88 at h
  refine lv_aload_n hx hb dX0_visit_88 rfl (lv_at hl 0 rfl) ?_
  obtain ⟨q_5, hq_5, h⟩ := obn h
  refine w_getR (ci := 0) (j := 3) hC hP rfl inlX0 (by decide) (by decide) rfl hq_5 wl_24 dX0_visit_89 ?_
  refine lv_iload hx hb dX0_visit_92 (lv_at hl 5 rfl) ?_
  refine lv_aload_n hx hb dX0_visit_94 rfl (lv_at hl 0 rfl) ?_
  refine lv_aload_n hx hb dX0_visit_95 rfl (lv_at hl 1 rfl) ?_
  refine lv_iload_n hx hb dX0_visit_96 rfl (lv_at hl 3 rfl) ?_
  refine lv_iload hx hb dX0_visit_97 (lv_at hl 4 rfl) ?_
  obtain ⟨u_6, hu_6, h⟩ := obn h
  obtain ⟨w_7, hw_7, h⟩ := obn h
  refine k_I (r_virt (As := [.ref (base + a1), .int i3, .int i4]) (rest := [.int i5, .ref (base + q_5)]) hC hP hS (ci := 0) rfl (by decide) hu_6 (c_X0_countAtGoal (l := l) (base := base) (D := D) (cI := cI) (cJ := cJ) (tS := tS) hw_7) wl_195 wl_196 wl_197 wl_52 wl_194 rfl rfl hd_X0_countAtGoal ⟨Nat.le_of_ble_eq_true rfl, Nat.le_of_ble_eq_true rfl⟩ rfl hl.1 rfl (Nat.le_of_ble_eq_true rfl) dX0_visit_99 ⟨Nat.le_of_ble_eq_true rfl, Nat.le_of_ble_eq_true rfl⟩) hS (fun H locs hP hS => ?_)
  obtain ⟨s_8, hs_8, h⟩ := obn h
  refine w_iast hC hP hS hs_8 dX0_visit_102 (fun H locs hP hS => ?_)
  refine lv_aload_n hx hb dX0_visit_103 rfl (lv_at hl 1 rfl) ?_
  refine lv_iload_n hx hb dX0_visit_104 rfl (lv_at hl 3 rfl) ?_
  refine lv_iload hx hb dX0_visit_105 (lv_at hl 4 rfl) ?_
  obtain ⟨u_9, hu_9, h⟩ := obn h
  obtain ⟨w_10, hw_10, h⟩ := obn h
  refine k_I (r_virt (As := [.int i3, .int i4]) (rest := []) hC hP hS (ci := 1) rfl (by decide) hu_9 (c_X1_goesOn (l := l) (base := base) (D := D) (cI := cI) (cJ := cJ) (tS := tS) hw_10) wl_199 wl_200 wl_201 wl_39 wl_198 rfl rfl hd_X1_goesOn ⟨Nat.le_of_ble_eq_true rfl, Nat.le_of_ble_eq_true rfl⟩ rfl hl.1 rfl (Nat.le_of_ble_eq_true rfl) dX0_visit_107 ⟨Nat.le_of_ble_eq_true rfl, Nat.le_of_ble_eq_true rfl⟩) hS (fun H locs hP hS => ?_)
  refine lv_if_eq (tgt := 171) hx hb dX0_visit_110 (by decide) (fun c_11 => ?_) (fun c_11 => ?_)
  · rw [if_pos c_11] at h
    refine lv_aload_n hx hb dX0_visit_171 rfl (lv_at hl 0 rfl) ?_
    refine lv_dup hx hb dX0_visit_172 rfl ?_
    obtain ⟨v_12, hv_12, h⟩ := obn h
    refine w_getI (ci := 0) (j := 11) hC hP rfl inlX0 (by decide) (by decide) rfl hv_12 wl_202 dX0_visit_173 ?_
    refine lv_iload hx hb dX0_visit_176 (lv_at hl 6 rfl) ?_
    refine lv_aload_n hx hb dX0_visit_178 rfl (lv_at hl 0 rfl) ?_
    obtain ⟨q_13, hq_13, h⟩ := obn h
    refine w_getR (ci := 0) (j := 3) hC hP rfl inlX0 (by decide) (by decide) rfl hq_13 wl_24 dX0_visit_179 ?_
    refine lv_iload hx hb dX0_visit_182 (lv_at hl 5 rfl) ?_
    obtain ⟨v_14, hv_14, h⟩ := obn h
    refine w_iald hC hP hv_14 dX0_visit_184 ?_
    refine lv_isub hx hb dX0_visit_185 ?_
    refine lv_iadd hx hb dX0_visit_186 ?_
    obtain ⟨s_15, hs_15, h⟩ := obn h
    refine w_putI (ci := 0) (j := 11) hC hP hS rfl inlX0 tyX0 tyX0_ok nmX0 (by decide) (by decide) rfl rfl rfl rfl hs_15 wl_202 dX0_visit_187 (fun H locs hP hS => ?_)
    refine lv_aload_n hx hb dX0_visit_190 rfl (lv_at hl 0 rfl) ?_
    refine lv_aload_n hx hb dX0_visit_191 rfl (lv_at hl 1 rfl) ?_
    refine lv_iload hx hb dX0_visit_192 (lv_at hl 4 rfl) ?_
    refine lv_iload hx hb dX0_visit_194 (lv_at hl 5 rfl) ?_
    obtain ⟨u_16, hu_16, h⟩ := obn h
    obtain ⟨w_17, hw_17, h⟩ := obn h
    refine k_V (r_virt (As := [.ref (base + a1), .int i4, .int i5]) (rest := []) hC hP hS (ci := 0) rfl (by decide) hu_16 (c_X0_emptyOut (l := l) (base := base) (D := D) (cI := cI) (cJ := cJ) (tS := tS) hw_17) wl_204 wl_205 wl_206 wl_52 wl_203 rfl rfl hd_X0_emptyOut ⟨Nat.le_of_ble_eq_true rfl, Nat.le_of_ble_eq_true rfl⟩ rfl hl.1 rfl (Nat.le_of_ble_eq_true rfl) dX0_visit_196 ⟨Nat.le_of_ble_eq_true rfl, Nat.le_of_ble_eq_true rfl⟩) hS (fun H locs hP hS => ?_)
    refine lv_aload_n hx hb dX0_visit_199 rfl (lv_at hl 0 rfl) ?_
    obtain ⟨q_18, hq_18, h⟩ := obn h
    refine w_getR (ci := 0) (j := 1) hC hP rfl inlX0 (by decide) (by decide) rfl hq_18 wl_22 dX0_visit_200 ?_
    refine lv_iload hx hb dX0_visit_203 (lv_at hl 5 rfl) ?_
    refine lv_aload_n hx hb dX0_visit_205 rfl (lv_at hl 0 rfl) ?_
    obtain ⟨q_19, hq_19, h⟩ := obn h
    refine w_getR (ci := 0) (j := 0) hC hP rfl inlX0 (by decide) (by decide) rfl hq_19 wl_21 dX0_visit_206 ?_
    refine lv_iload hx hb dX0_visit_209 (lv_at hl 5 rfl) ?_
    obtain ⟨v_20, hv_20, h⟩ := obn h
    refine w_iald hC hP hv_20 dX0_visit_211 ?_
    refine lv_aload_n hx hb dX0_visit_212 rfl (lv_at hl 0 rfl) ?_
    refine lv_aload_n hx hb dX0_visit_213 rfl (lv_at hl 1 rfl) ?_
    refine lv_iload hx hb dX0_visit_214 (lv_at hl 5 rfl) ?_
    refine lv_iload hx hb dX0_visit_216 (lv_at hl 6 rfl) ?_
    obtain ⟨u_21, hu_21, h⟩ := obn h
    obtain ⟨w_22, hw_22, h⟩ := obn h
    refine k_I (r_virt (As := [.ref (base + a1), .int i5, .int i6]) (rest := [.int v_20, .int i5, .ref (base + q_18)]) hC hP hS (ci := 0) rfl (by decide) hu_21 (c_X0_stand (l := l) (base := base) (D := D) (cI := cI) (cJ := cJ) (tS := tS) hw_22) wl_208 wl_209 wl_210 wl_52 wl_207 rfl rfl hd_X0_stand ⟨Nat.le_of_ble_eq_true rfl, Nat.le_of_ble_eq_true rfl⟩ rfl hl.1 rfl (Nat.le_of_ble_eq_true rfl) dX0_visit_218 ⟨Nat.le_of_ble_eq_true rfl, Nat.le_of_ble_eq_true rfl⟩) hS (fun H locs hP hS => ?_)
    refine lv_iadd hx hb dX0_visit_221 ?_
    obtain ⟨s_23, hs_23, h⟩ := obn h
    refine w_iast hC hP hS hs_23 dX0_visit_222 (fun H locs hP hS => ?_)
    exact X0_visit_k223 hC hr hlocks h hP hS (lv_sub hl [0, 5] rfl)
  · rw [if_neg c_11] at h
    refine lv_aload_n hx hb dX0_visit_113 rfl (lv_at hl 0 rfl) ?_
    refine lv_aload_n hx hb dX0_visit_114 rfl (lv_at hl 1 rfl) ?_
    refine lv_iload_n hx hb dX0_visit_115 rfl (lv_at hl 3 rfl) ?_
    refine lv_iload hx hb dX0_visit_116 (lv_at hl 4 rfl) ?_
    refine lv_iload hx hb dX0_visit_118 (lv_at hl 6 rfl) ?_
    refine lv_aload_n hx hb dX0_visit_120 rfl (lv_at hl 0 rfl) ?_
    obtain ⟨q_24, hq_24, h⟩ := obn h
    refine w_getR (ci := 0) (j := 3) hC hP rfl inlX0 (by decide) (by decide) rfl hq_24 wl_24 dX0_visit_121 ?_
    refine lv_iload hx hb dX0_visit_124 (lv_at hl 5 rfl) ?_
    obtain ⟨v_25, hv_25, h⟩ := obn h
    refine w_iald hC hP hv_25 dX0_visit_126 ?_
    refine lv_isub hx hb dX0_visit_127 ?_
    obtain ⟨u_26, hu_26, h⟩ := obn h
    obtain ⟨w_27, hw_27, h⟩ := obn h
    refine k_V (r_virt (As := [.ref (base + a1), .int i3, .int i4, .int (i6 - v_25)]) (rest := []) hC hP hS (ci := 0) rfl (by decide) hu_26 (c_X0_pickUp (l := l) (base := base) (D := D) (cI := cI) (cJ := cJ) (tS := tS) hw_27) wl_212 wl_213 wl_214 wl_52 wl_211 rfl rfl hd_X0_pickUp ⟨Nat.le_of_ble_eq_true rfl, Nat.le_of_ble_eq_true rfl⟩ rfl hl.1 rfl (Nat.le_of_ble_eq_true rfl) dX0_visit_128 ⟨Nat.le_of_ble_eq_true rfl, Nat.le_of_ble_eq_true rfl⟩) hS (fun H locs hP hS => ?_)
    refine lv_aload_n hx hb dX0_visit_131 rfl (lv_at hl 0 rfl) ?_
    obtain ⟨q_28, hq_28, h⟩ := obn h
    refine w_getR (ci := 0) (j := 1) hC hP rfl inlX0 (by decide) (by decide) rfl hq_28 wl_22 dX0_visit_132 ?_
    refine lv_iload hx hb dX0_visit_135 (lv_at hl 5 rfl) ?_
    refine lv_aload_n hx hb dX0_visit_137 rfl (lv_at hl 0 rfl) ?_
    obtain ⟨q_29, hq_29, h⟩ := obn h
    refine w_getR (ci := 0) (j := 0) hC hP rfl inlX0 (by decide) (by decide) rfl hq_29 wl_21 dX0_visit_138 ?_
    refine lv_iload hx hb dX0_visit_141 (lv_at hl 5 rfl) ?_
    obtain ⟨v_30, hv_30, h⟩ := obn h
    refine w_iald hC hP hv_30 dX0_visit_143 ?_
    refine lv_aload_n hx hb dX0_visit_144 rfl (lv_at hl 0 rfl) ?_
    refine lv_aload_n hx hb dX0_visit_145 rfl (lv_at hl 1 rfl) ?_
    refine lv_iload hx hb dX0_visit_146 (lv_at hl 5 rfl) ?_
    refine lv_aload_n hx hb dX0_visit_148 rfl (lv_at hl 0 rfl) ?_
    obtain ⟨q_31, hq_31, h⟩ := obn h
    refine w_getR (ci := 0) (j := 3) hC hP rfl inlX0 (by decide) (by decide) rfl hq_31 wl_24 dX0_visit_149 ?_
    refine lv_iload hx hb dX0_visit_152 (lv_at hl 5 rfl) ?_
    obtain ⟨v_32, hv_32, h⟩ := obn h
    refine w_iald hC hP hv_32 dX0_visit_154 ?_
    obtain ⟨u_33, hu_33, h⟩ := obn h
    obtain ⟨w_34, hw_34, h⟩ := obn h
    refine k_I (r_virt (As := [.ref (base + a1), .int i5, .int v_32]) (rest := [.int v_30, .int i5, .ref (base + q_28)]) hC hP hS (ci := 0) rfl (by decide) hu_33 (c_X0_stand (l := l) (base := base) (D := D) (cI := cI) (cJ := cJ) (tS := tS) hw_34) wl_208 wl_209 wl_210 wl_52 wl_207 rfl rfl hd_X0_stand ⟨Nat.le_of_ble_eq_true rfl, Nat.le_of_ble_eq_true rfl⟩ rfl hl.1 rfl (Nat.le_of_ble_eq_true rfl) dX0_visit_155 ⟨Nat.le_of_ble_eq_true rfl, Nat.le_of_ble_eq_true rfl⟩) hS (fun H locs hP hS => ?_)
    refine lv_iadd hx hb dX0_visit_158 ?_
    obtain ⟨s_35, hs_35, h⟩ := obn h
    refine w_iast hC hP hS hs_35 dX0_visit_159 (fun H locs hP hS => ?_)
    refine lv_aload_n hx hb dX0_visit_160 rfl (lv_at hl 0 rfl) ?_
    refine lv_aload_n hx hb dX0_visit_161 rfl (lv_at hl 2 rfl) ?_
    refine lv_iload_n hx hb dX0_visit_162 rfl (lv_at hl 3 rfl) ?_
    refine lv_iload hx hb dX0_visit_163 (lv_at hl 4 rfl) ?_
    obtain ⟨u_36, hu_36, h⟩ := obn h
    obtain ⟨w_37, hw_37, h⟩ := obn h
    refine k_V (r_virt (As := [.ref (base + a2), .int i3, .int i4]) (rest := []) hC hP hS (ci := 0) rfl (by decide) hu_36 (c_X0_waitByRule (l := l) (base := base) (D := D) (cI := cI) (cJ := cJ) (tS := tS) hw_37) wl_216 wl_217 wl_218 wl_52 wl_215 rfl rfl hd_X0_waitByRule ⟨Nat.le_of_ble_eq_true rfl, Nat.le_of_ble_eq_true rfl⟩ rfl hl.1 rfl (Nat.le_of_ble_eq_true rfl) dX0_visit_165 ⟨Nat.le_of_ble_eq_true rfl, Nat.le_of_ble_eq_true rfl⟩) hS (fun H locs hP hS => ?_)
    refine lv_goto (tgt := 223) hx hb dX0_visit_168 (by decide) ?_
    exact X0_visit_k223 hC hr hlocks h hP hS (lv_sub hl [0, 5] rfl)
set_option maxRecDepth 100000 in
set_option maxHeartbeats 4000000 in
theorem X0_visit_k38 (hC : Cx p m c cX0_visit 7 s args RX0 base D cI cJ tS) (hr : meth.sig.returnType = none) (hlocks : meth.locks = false) {n : Nat} {a0 : Nat} {a1 : Nat} {a2 : Nat} {i3 : Int32} {i4 : Int32} {i5 : Int32} {σ : Sg} {τ : Sg} {H : Heap} {locs : List Loc} {ls : Array Slot} (h : X0_visit_b38 n a0 a1 a2 i3 i4 i5 σ = some τ) : Dy base D cI cJ σ H → va_S (fun q => base ≤ q) s.heap H locs → lv_has ls 7 [(0, .ref (base + a0)), (1, .ref (base + a1)), (2, .ref (base + a2)), (3, .int i3), (4, .int i4), (5, .int i5)] → W p l e (rmD 3 0 0) s m args below meth c H locs 0 0 (MQ below (QwV base D cI cJ τ) args s 0 0 (fun q => base ≤ q)) (F0 m 38 ls []) := by
  intro hP hS hl
  obtain ⟨hx, hb, hml, hown, hts⟩ := hC.1
  unfold X0_visit_b38 at h
  refine lv_iconst (v := 0) hx hb dX0_visit_38 (by decide) ?_
  refine lv_istore (lv' := [(6, .int 0), (0, .ref (base + a0)), (1, .ref (base + a1)), (2, .ref (base + a2)), (3, .int i3), (4, .int i4), (5, .int i5)]) hx hb dX0_visit_39 hl (by decide) rfl (fun ls hl => ?_)
  refine lv_iload hx hb dX0_visit_41 (lv_at hl 5 rfl) ?_
  refine lv_if_le (tgt := 88) hx hb dX0_visit_43 (by decide) (fun c_38 => ?_) (fun c_38 => ?_)
  · rw [if_pos c_38] at h
    exact X0_visit_k88 hC hr hlocks h hP hS (lv_sub hl [1, 2, 3, 4, 5, 6, 0] rfl)
  · rw [if_neg c_38] at h
    refine lv_aload_n hx hb dX0_visit_46 rfl (lv_at hl 1 rfl) ?_
    obtain ⟨q_39, hq_39, h⟩ := obn h
    refine w_getR (ci := 0) (j := 4) hC hP rfl inlX0 (by decide) (by decide) rfl hq_39 wl_25 dX0_visit_47 ?_
    refine lv_iload hx hb dX0_visit_50 (lv_at hl 6 rfl) ?_
    refine lv_iconst (v := 1) hx hb dX0_visit_52 (by decide) ?_
    refine lv_isub hx hb dX0_visit_53 ?_
    obtain ⟨v_40, hv_40, h⟩ := obn h
    refine w_iald hC hP hv_40 dX0_visit_54 ?_
    refine lv_istore (lv' := [(6, .int v_40), (0, .ref (base + a0)), (1, .ref (base + a1)), (2, .ref (base + a2)), (3, .int i3), (4, .int i4), (5, .int i5)]) hx hb dX0_visit_55 hl (by decide) rfl (fun ls hl => ?_)
    refine lv_aload_n hx hb dX0_visit_57 rfl (lv_at hl 1 rfl) ?_
    refine lv_dup hx hb dX0_visit_58 rfl ?_
    obtain ⟨v_41, hv_41, h⟩ := obn h
    refine w_getJ (ci := 0) (j := 10) hC hP rfl inlX0 (by decide) (by decide) rfl hv_41 wl_219 dX0_visit_59 ?_
    refine lv_iload hx hb dX0_visit_62 (lv_at hl 0 rfl) ?_
    refine lv_i2l hx hb dX0_visit_64 rfl ?_
    refine lv_aload_n hx hb dX0_visit_65 rfl (lv_at hl 1 rfl) ?_
    obtain ⟨q_42, hq_42, h⟩ := obn h
    refine w_getR (ci := 0) (j := 0) hC hP rfl inlX0 (by decide) (by decide) rfl hq_42 wl_21 dX0_visit_66 ?_
    refine lv_iload hx hb dX0_visit_69 (lv_at hl 6 rfl) ?_
    obtain ⟨v_43, hv_43, h⟩ := obn h
    refine w_iald hC hP hv_43 dX0_visit_71 ?_
    refine lv_aload_n hx hb dX0_visit_72 rfl (lv_at hl 1 rfl) ?_
    obtain ⟨q_44, hq_44, h⟩ := obn h
    refine w_getR (ci := 0) (j := 0) hC hP rfl inlX0 (by decide) (by decide) rfl hq_44 wl_21 dX0_visit_73 ?_
    refine lv_iload hx hb dX0_visit_76 (lv_at hl 6 rfl) ?_
    refine lv_iconst (v := 1) hx hb dX0_visit_78 (by decide) ?_
    refine lv_isub hx hb dX0_visit_79 ?_
    obtain ⟨v_45, hv_45, h⟩ := obn h
    refine w_iald hC hP hv_45 dX0_visit_80 ?_
    refine lv_isub hx hb dX0_visit_81 ?_
    refine lv_i2l hx hb dX0_visit_82 rfl ?_
    refine lv_lmul hx hb dX0_visit_83 ?_
    refine lv_ladd hx hb dX0_visit_84 ?_
    obtain ⟨s_46, hs_46, h⟩ := obn h
    refine w_putJ (ci := 0) (j := 10) hC hP hS rfl inlX0 tyX0 tyX0_ok nmX0 (by decide) (by decide) rfl rfl rfl rfl hs_46 wl_219 dX0_visit_85 (fun H locs hP hS => ?_)
    exact X0_visit_k88 hC hr hlocks h hP hS (lv_sub hl [1, 2, 3, 4, 5, 6, 0] rfl)
set_option maxRecDepth 100000 in
set_option maxHeartbeats 4000000 in
theorem X0_visit_k0 (hC : Cx p m c cX0_visit 7 s args RX0 base D cI cJ tS) (hr : meth.sig.returnType = none) (hlocks : meth.locks = false) {n : Nat} {a0 : Nat} {a1 : Nat} {a2 : Nat} {i3 : Int32} {i4 : Int32} {σ : Sg} {τ : Sg} {H : Heap} {locs : List Loc} {ls : Array Slot} (h : f_X0_visit n a0 a1 a2 i3 i4 σ = some τ) : Dy base D cI cJ σ H → va_S (fun q => base ≤ q) s.heap H locs → lv_has ls 7 [(0, .ref (base + a0)), (1, .ref (base + a1)), (2, .ref (base + a2)), (3, .int i3), (4, .int i4)] → W p l e (rmD 3 0 0) s m args below meth c H locs 0 0 (MQ below (QwV base D cI cJ τ) args s 0 0 (fun q => base ≤ q)) (F0 m 0 ls []) := by
  intro hP hS hl
  obtain ⟨hx, hb, hml, hown, hts⟩ := hC.1
  unfold f_X0_visit at h
  refine lv_iload_n hx hb dX0_visit_0 rfl (lv_at hl 3 rfl) ?_
  refine lv_iload hx hb dX0_visit_1 (lv_at hl 4 rfl) ?_
  obtain ⟨w_47, hw_47, h⟩ := obn h
  refine k_I (r_statN (As := [.int i3, .int i4]) (rest := []) hC hP hS (c_X4_cell (l := l) (base := base) (D := D) (cI := cI) (cJ := cJ) (tS := tS) hw_47) hC.2.2.1.2.2.2 wl_150 wl_98 wl_149 rfl rfl hd_X4_cell ⟨Nat.le_of_ble_eq_true rfl, Nat.le_of_ble_eq_true rfl⟩ rfl hl.1 rfl (Nat.le_of_ble_eq_true rfl) dX0_visit_3 ⟨Nat.le_of_ble_eq_true rfl, Nat.le_of_ble_eq_true rfl⟩) hS (fun H locs hP hS => ?_)
  refine lv_istore (lv' := [(5, .int w_47.1), (0, .ref (base + a0)), (1, .ref (base + a1)), (2, .ref (base + a2)), (3, .int i3), (4, .int i4)]) hx hb dX0_visit_6 hl (by decide) rfl (fun ls hl => ?_)
  refine lv_aload_n hx hb dX0_visit_8 rfl (lv_at hl 2 rfl) ?_
  obtain ⟨q_48, hq_48, h⟩ := obn h
  refine w_getR (ci := 1) (j := 3) hC hP rfl inlX1 (by decide) (by decide) rfl hq_48 wl_184 dX0_visit_9 ?_
  refine lv_iconst (v := 3) hx hb dX0_visit_12 (by decide) ?_
  obtain ⟨v_49, hv_49, h⟩ := obn h
  refine w_iald hC hP hv_49 dX0_visit_13 ?_
  refine lv_if_ne (tgt := 38) hx hb dX0_visit_14 (by decide) (fun c_50 => ?_) (fun c_50 => ?_)
  · rw [if_neg c_50] at h
    exact X0_visit_k38 hC hr hlocks h hP hS (lv_sub hl [1, 2, 3, 4, 5, 0] rfl)
  · rw [if_pos c_50] at h
    refine lv_aload_n hx hb dX0_visit_17 rfl (lv_at hl 1 rfl) ?_
    obtain ⟨q_51, hq_51, h⟩ := obn h
    refine w_getR (ci := 0) (j := 0) hC hP rfl inlX0 (by decide) (by decide) rfl hq_51 wl_21 dX0_visit_18 ?_
    refine lv_iload hx hb dX0_visit_21 (lv_at hl 0 rfl) ?_
    refine lv_aload_n hx hb dX0_visit_23 rfl (lv_at hl 1 rfl) ?_
    obtain ⟨q_52, hq_52, h⟩ := obn h
    refine w_getR (ci := 0) (j := 0) hC hP rfl inlX0 (by decide) (by decide) rfl hq_52 wl_21 dX0_visit_24 ?_
    refine lv_iload hx hb dX0_visit_27 (lv_at hl 0 rfl) ?_
    obtain ⟨v_53, hv_53, h⟩ := obn h
    refine w_iald hC hP hv_53 dX0_visit_29 ?_
    refine lv_aload_n hx hb dX0_visit_30 rfl (lv_at hl 1 rfl) ?_
    obtain ⟨v_54, hv_54, h⟩ := obn h
    refine w_getI (ci := 0) (j := 13) hC hP rfl inlX0 (by decide) (by decide) rfl hv_54 wl_193 dX0_visit_31 ?_
    refine va_mmax hx hb (hml.trans hl.1.symm) hown (hts _ wl_190) (hts _ wl_191) (hts _ wl_166) (hts _ wl_192) (Nat.le_of_ble_eq_true rfl) (Nat.le_of_ble_eq_true rfl) (Nat.le_of_ble_eq_true rfl) (Nat.le_of_ble_eq_true rfl) dX0_visit_34 ?_
    obtain ⟨s_55, hs_55, h⟩ := obn h
    refine w_iast hC hP hS hs_55 dX0_visit_37 (fun H locs hP hS => ?_)
    exact X0_visit_k38 hC hr hlocks h hP hS (lv_sub hl [1, 2, 3, 4, 5, 0] rfl)
set_option maxRecDepth 100000 in
set_option maxHeartbeats 4000000 in
theorem c_X0_visit {l : Launch} {base : Nat} {D : va_G} {cI cJ : ClassId} {tS : Nat} {n : Nat} {a0 : Nat} {a1 : Nat} {a2 : Nat} {i3 : Int32} {i4 : Int32} {σ : Sg} {τ : Sg} (h : f_X0_visit n a0 a1 a2 i3 i4 σ = some τ) : Met l yX0_visit (.code yX0_visit cX0_visit 7 none :: wsL_law) (rmD 3 0 0) (Pw base D cI cJ tS σ [.ref (base + a0), .ref (base + a1), .ref (base + a2), .int i3, .int i4]) (QwV base D cI cJ τ) 0 0 (fun q => base ≤ q) := by
  refine Met.ofW (cc := cX0_visit) (maxL := 7) (ret := none) (by decide) rfl ?_
  intro p e s m args below meth c s₁ B hml hv
  obtain ⟨rfl, hSt, hP⟩ := hv
  have hC : Cx p m c cX0_visit 7 s _ RX0 base D cI cJ tS := ⟨⟨B.exec, B.bytes, hml, findClass_of_methodNamed B.named, fun w hw => atoms_spec (ws := Cond.code yX0_visit cX0_visit 7 none :: wsL_law) B.pre w (List.mem_cons_of_mem _ hw)⟩, hSt⟩
  have hl := lv_entry ([.ref (base + a0), .ref (base + a1), .ref (base + a2), .int i3, .int i4]) (n := 7) (Nat.le_of_ble_eq_true rfl)
  rw [lg_entry_eq]
  generalize (lg_sl ([.ref (base + a0), .ref (base + a1), .ref (base + a2), .int i3, .int i4]) ++ List.replicate (7 - (lg_sl ([.ref (base + a0), .ref (base + a1), .ref (base + a2), .int i3, .int i4])).length) Slot.unset).toArray = ls at hl ⊢
  exact X0_visit_k0 hC B.returns B.notSynchronized h hP va_S.rf hl
end
