section
variable {p : Program} {l : Launch} {e : Env} {s : State} {m : MethodId} {args : Array Value} {below : List Frame} {meth : Method} {c : Code} {base : Nat} {D : va_G} {cI cJ : ClassId} {tS : Nat}
-- ===== X3_add
set_option maxRecDepth 100000 in
set_option maxHeartbeats 4000000 in
theorem X3_add_k0 (hC : Cx p m c cX3_add 2 s args RX3 base D cI cJ tS) (hr : meth.sig.returnType = (some .int)) (hlocks : meth.locks = false) {n : Nat} {a0 : Nat} {i1 : Int32} {σ : Sg} {r : Int32} {τ : Sg} {H : Heap} {locs : List Loc} {ls : Array Slot} (h : f_X3_add n a0 i1 σ = some (r, τ)) : Dy base D cI cJ σ H → va_S (fun q => base ≤ q) s.heap H locs → lv_has ls 2 [(0, .ref (base + a0)), (1, .int i1)] → W p l e (rmD 0 0 0) s m args below meth c H locs 0 0 (MQ below (QwI base D cI cJ r τ) args s 0 0 (fun q => base ≤ q)) (F0 m 0 ls []) := by
  intro hP hS hl
  obtain ⟨hx, hb, hml, hown, hts⟩ := hC.1
  unfold f_X3_add at h
  refine lv_aload_n hx hb dX3_add_0 rfl (lv_at hl 0 rfl) ?_
  obtain ⟨q_1, hq_1, h⟩ := obn h
  refine w_getR (ci := 3) (j := 0) hC hP rfl inlX3 (by decide) (by decide) rfl hq_1 wl_19 dX3_add_1 ?_
  refine lv_aload_n hx hb dX3_add_4 rfl (lv_at hl 0 rfl) ?_
  obtain ⟨v_2, hv_2, h⟩ := obn h
  refine w_getI (ci := 3) (j := 1) hC hP rfl inlX3 (by decide) (by decide) rfl hv_2 wl_283 dX3_add_5 ?_
  refine lv_iload_n hx hb dX3_add_8 rfl (lv_at hl 1 rfl) ?_
  obtain ⟨s_3, hs_3, h⟩ := obn h
  refine w_iast hC hP hS hs_3 dX3_add_9 (fun H locs hP hS => ?_)
  refine lv_aload_n hx hb dX3_add_10 rfl (lv_at hl 0 rfl) ?_
  refine lv_dup hx hb dX3_add_11 rfl ?_
  obtain ⟨v_4, hv_4, h⟩ := obn h
  refine w_getI (ci := 3) (j := 1) hC hP rfl inlX3 (by decide) (by decide) rfl hv_4 wl_283 dX3_add_12 ?_
  refine lv_iconst (v := 1) hx hb dX3_add_15 (by decide) ?_
  refine lv_iadd hx hb dX3_add_16 ?_
  obtain ⟨s_5, hs_5, h⟩ := obn h
  refine w_putI (ci := 3) (j := 1) hC hP hS rfl inlX3 tyX3 tyX3_ok nmX3 (by decide) (by decide) rfl rfl rfl rfl hs_5 wl_283 dX3_add_17 (fun H locs hP hS => ?_)
  refine lv_aload_n hx hb dX3_add_20 rfl (lv_at hl 0 rfl) ?_
  obtain ⟨v_6, hv_6, h⟩ := obn h
  refine w_getI (ci := 3) (j := 1) hC hP rfl inlX3 (by decide) (by decide) rfl hv_6 wl_283 dX3_add_21 ?_
  obtain ⟨rfl, rfl⟩ := Prod.mk.inj (Option.some.inj h)
  exact w_iret hC hr hlocks hP hS dX3_add_24
set_option maxRecDepth 100000 in
set_option maxHeartbeats 4000000 in
theorem c_X3_add {l : Launch} {base : Nat} {D : va_G} {cI cJ : ClassId} {tS : Nat} {n : Nat} {a0 : Nat} {i1 : Int32} {σ : Sg} {r : Int32} {τ : Sg} (h : f_X3_add n a0 i1 σ = some (r, τ)) : Met l yX3_add (.code yX3_add cX3_add 2 (some .int) :: wsL_law) (rmD 0 0 0) (Pw base D cI cJ tS σ [.ref (base + a0), .int i1]) (QwI base D cI cJ r τ) 0 0 (fun q => base ≤ q) := by
  refine Met.ofW (cc := cX3_add) (maxL := 2) (ret := (some .int)) (by decide) rfl ?_
  intro p e s m args below meth c s₁ B hml hv
  obtain ⟨rfl, hSt, hP⟩ := hv
  have hC : Cx p m c cX3_add 2 s _ RX3 base D cI cJ tS := ⟨⟨B.exec, B.bytes, hml, findClass_of_methodNamed B.named, fun w hw => atoms_spec (ws := Cond.code yX3_add cX3_add 2 (some .int) :: wsL_law) B.pre w (List.mem_cons_of_mem _ hw)⟩, hSt⟩
  have hl := lv_entry ([.ref (base + a0), .int i1]) (n := 2) (Nat.le_of_ble_eq_true rfl)
  rw [lg_entry_eq]
  generalize (lg_sl ([.ref (base + a0), .int i1]) ++ List.replicate (2 - (lg_sl ([.ref (base + a0), .int i1])).length) Slot.unset).toArray = ls at hl ⊢
  exact X3_add_k0 hC B.returns B.notSynchronized h hP va_S.rf hl
-- ===== X4_say
set_option maxRecDepth 100000 in
set_option maxHeartbeats 4000000 in
theorem X4_say_k12 (hC : Cx p m c cX4_say 2 s args RX4 base D cI cJ tS) (hr : meth.sig.returnType = (some .int)) (hlocks : meth.locks = false) {n : Nat} {σ : Sg} {r : Int32} {τ : Sg} {H : Heap} {locs : List Loc} {ls : Array Slot} (h : X4_say_b12 n σ = some (r, τ)) : Dy base D cI cJ σ H → va_S (fun q => base ≤ q) s.heap H locs → lv_has ls 2 [] → W p l e (rmD 1 0 0) s m args below meth c H locs 0 0 (MQ below (QwI base D cI cJ r τ) args s 0 0 (fun q => base ≤ q)) (F0 m 12 ls []) := by
  intro hP hS hl
  obtain ⟨hx, hb, hml, hown, hts⟩ := hC.1
  unfold X4_say_b12 at h
  refine lv_bipush (v := (-2)) hx hb dX4_say_12 (by decide) ?_
  obtain ⟨rfl, rfl⟩ := Prod.mk.inj (Option.some.inj h)
  exact w_iret hC hr hlocks hP hS dX4_say_14
set_option maxRecDepth 100000 in
set_option maxHeartbeats 4000000 in
theorem X4_say_k0 (hC : Cx p m c cX4_say 2 s args RX4 base D cI cJ tS) (hr : meth.sig.returnType = (some .int)) (hlocks : meth.locks = false) {n : Nat} {a0 : Nat} {i1 : Int32} {σ : Sg} {r : Int32} {τ : Sg} {H : Heap} {locs : List Loc} {ls : Array Slot} (h : f_X4_say n a0 i1 σ = some (r, τ)) : Dy base D cI cJ σ H → va_S (fun q => base ≤ q) s.heap H locs → lv_has ls 2 [(0, .ref (base + a0)), (1, .int i1)] → W p l e (rmD 1 0 0) s m args below meth c H locs 0 0 (MQ below (QwI base D cI cJ r τ) args s 0 0 (fun q => base ≤ q)) (F0 m 0 ls []) := by
  intro hP hS hl
  obtain ⟨hx, hb, hml, hown, hts⟩ := hC.1
  unfold f_X4_say at h
  refine lv_iload_n hx hb dX4_say_0 rfl (lv_at hl 1 rfl) ?_
  refine lv_bipush (v := 33) hx hb dX4_say_1 (by decide) ?_
  refine lv_icmp_lt (tgt := 12) hx hb dX4_say_3 (by decide) (fun c_1 => ?_) (fun c_1 => ?_)
  · rw [if_pos c_1] at h
    exact X4_say_k12 hC hr hlocks h hP hS (lv_sub hl [] rfl)
  · rw [if_neg c_1] at h
    refine lv_iload_n hx hb dX4_say_6 rfl (lv_at hl 1 rfl) ?_
    refine lv_bipush (v := 126) hx hb dX4_say_7 (by decide) ?_
    refine lv_icmp_le (tgt := 15) hx hb dX4_say_9 (by decide) (fun c_2 => ?_) (fun c_2 => ?_)
    · rw [if_pos c_2] at h
      refine lv_aload_n hx hb dX4_say_15 rfl (lv_at hl 0 rfl) ?_
      obtain ⟨q_3, hq_3, h⟩ := obn h
      refine w_getR (ci := 4) (j := 1) hC hP rfl inlX4 (by decide) (by decide) rfl hq_3 wl_49 dX4_say_16 ?_
      obtain ⟨v_4, hv_4, h⟩ := obn h
      refine w_getI (ci := 3) (j := 1) hC hP rfl inlX3 (by decide) (by decide) rfl hv_4 wl_284 dX4_say_19 ?_
      refine lv_bipush (v := 40) hx hb dX4_say_22 (by decide) ?_
      refine lv_icmp_lt (tgt := 30) hx hb dX4_say_24 (by decide) (fun c_5 => ?_) (fun c_5 => ?_)
      · rw [if_pos c_5] at h
        refine lv_aload_n hx hb dX4_say_30 rfl (lv_at hl 0 rfl) ?_
        obtain ⟨q_6, hq_6, h⟩ := obn h
        refine w_getR (ci := 4) (j := 1) hC hP rfl inlX4 (by decide) (by decide) rfl hq_6 wl_49 dX4_say_31 ?_
        refine lv_iload_n hx hb dX4_say_34 rfl (lv_at hl 1 rfl) ?_
        obtain ⟨u_7, hu_7, h⟩ := obn h
        obtain ⟨w_8, hw_8, h⟩ := obn h
        refine k_I (r_virt (As := [.int i1]) (rest := []) hC hP hS (ci := 3) rfl (by decide) hu_7 (c_X3_add (l := l) (base := base) (D := D) (cI := cI) (cJ := cJ) (tS := tS) hw_8) wl_286 wl_287 wl_288 wl_46 wl_285 rfl rfl hd_X3_add ⟨Nat.le_of_ble_eq_true rfl, Nat.le_of_ble_eq_true rfl⟩ rfl hl.1 rfl (Nat.le_of_ble_eq_true rfl) dX4_say_35 ⟨Nat.le_of_ble_eq_true rfl, Nat.le_of_ble_eq_true rfl⟩) hS (fun H locs hP hS => ?_)
        obtain ⟨rfl, rfl⟩ := Prod.mk.inj (Option.some.inj h)
        exact w_iret hC hr hlocks hP hS dX4_say_38
      · rw [if_neg c_5] at h
        refine lv_bipush (v := (-4)) hx hb dX4_say_27 (by decide) ?_
        obtain ⟨rfl, rfl⟩ := Prod.mk.inj (Option.some.inj h)
        exact w_iret hC hr hlocks hP hS dX4_say_29
    · rw [if_neg c_2] at h
      exact X4_say_k12 hC hr hlocks h hP hS (lv_sub hl [] rfl)
set_option maxRecDepth 100000 in
set_option maxHeartbeats 4000000 in
theorem c_X4_say {l : Launch} {base : Nat} {D : va_G} {cI cJ : ClassId} {tS : Nat} {n : Nat} {a0 : Nat} {i1 : Int32} {σ : Sg} {r : Int32} {τ : Sg} (h : f_X4_say n a0 i1 σ = some (r, τ)) : Met l yX4_say (.code yX4_say cX4_say 2 (some .int) :: wsL_law) (rmD 1 0 0) (Pw base D cI cJ tS σ [.ref (base + a0), .int i1]) (QwI base D cI cJ r τ) 0 0 (fun q => base ≤ q) := by
  refine Met.ofW (cc := cX4_say) (maxL := 2) (ret := (some .int)) (by decide) rfl ?_
  intro p e s m args below meth c s₁ B hml hv
  obtain ⟨rfl, hSt, hP⟩ := hv
  have hC : Cx p m c cX4_say 2 s _ RX4 base D cI cJ tS := ⟨⟨B.exec, B.bytes, hml, findClass_of_methodNamed B.named, fun w hw => atoms_spec (ws := Cond.code yX4_say cX4_say 2 (some .int) :: wsL_law) B.pre w (List.mem_cons_of_mem _ hw)⟩, hSt⟩
  have hl := lv_entry ([.ref (base + a0), .int i1]) (n := 2) (Nat.le_of_ble_eq_true rfl)
  rw [lg_entry_eq]
  generalize (lg_sl ([.ref (base + a0), .int i1]) ++ List.replicate (2 - (lg_sl ([.ref (base + a0), .int i1])).length) Slot.unset).toArray = ls at hl ⊢
  exact X4_say_k0 hC B.returns B.notSynchronized h hP va_S.rf hl
-- ===== X5_say
set_option maxRecDepth 100000 in
set_option maxHeartbeats 4000000 in
theorem X5_say_k0 (hC : Cx p m c cX5_say 2 s args RX5 base D cI cJ tS) (hr : meth.sig.returnType = (some .int)) (hlocks : meth.locks = false) {n : Nat} {a0 : Nat} {i1 : Int32} {σ : Sg} {r : Int32} {τ : Sg} {H : Heap} {locs : List Loc} {ls : Array Slot} (h : f_X5_say n a0 i1 σ = some (r, τ)) : Dy base D cI cJ σ H → va_S (fun q => base ≤ q) s.heap H locs → lv_has ls 2 [(0, .ref (base + a0)), (1, .int i1)] → W p l e (rmD 1 0 0) s m args below meth c H locs 0 0 (MQ below (QwI base D cI cJ r τ) args s 0 0 (fun q => base ≤ q)) (F0 m 0 ls []) := by
  intro hP hS hl
  obtain ⟨hx, hb, hml, hown, hts⟩ := hC.1
  unfold f_X5_say at h
  refine lv_iload_n hx hb dX5_say_0 rfl (lv_at hl 1 rfl) ?_
  refine lv_bipush (v := 33) hx hb dX5_say_1 (by decide) ?_
  refine lv_bipush (v := 126) hx hb dX5_say_3 (by decide) ?_
  obtain ⟨w_1, hw_1, h⟩ := obn h
  refine k_I (r_stat (As := [.int i1, .int 33, .int 126]) (rest := []) hC hP hS (c_X5_in (l := l) (base := base) (D := D) (cI := cI) (cJ := cJ) (tS := tS) hw_1) wl_111 wl_112 wl_113 wl_110 rfl rfl hd_X5_in ⟨Nat.le_of_ble_eq_true rfl, Nat.le_of_ble_eq_true rfl⟩ rfl hl.1 rfl (Nat.le_of_ble_eq_true rfl) dX5_say_5 ⟨Nat.le_of_ble_eq_true rfl, Nat.le_of_ble_eq_true rfl⟩) hS (fun H locs hP hS => ?_)
  refine lv_if_ne (tgt := 14) hx hb dX5_say_8 (by decide) (fun c_2 => ?_) (fun c_2 => ?_)
  · rw [if_neg c_2] at h
    refine lv_aload_n hx hb dX5_say_14 rfl (lv_at hl 0 rfl) ?_
    obtain ⟨v_3, hv_3, h⟩ := obn h
    refine w_getI (ci := 5) (j := 12) hC hP rfl inlX5 (by decide) (by decide) rfl hv_3 wl_289 dX5_say_15 ?_
    refine lv_bipush (v := 40) hx hb dX5_say_18 (by decide) ?_
    refine lv_icmp_ne (tgt := 26) hx hb dX5_say_20 (by decide) (fun c_4 => ?_) (fun c_4 => ?_)
    · rw [if_neg c_4] at h
      refine lv_aload_n hx hb dX5_say_26 rfl (lv_at hl 0 rfl) ?_
      obtain ⟨q_5, hq_5, h⟩ := obn h
      refine w_getR (ci := 5) (j := 13) hC hP rfl inlX5 (by decide) (by decide) rfl hq_5 wl_75 dX5_say_27 ?_
      refine lv_aload_n hx hb dX5_say_30 rfl (lv_at hl 0 rfl) ?_
      obtain ⟨v_6, hv_6, h⟩ := obn h
      refine w_getI (ci := 5) (j := 12) hC hP rfl inlX5 (by decide) (by decide) rfl hv_6 wl_289 dX5_say_31 ?_
      refine lv_iload_n hx hb dX5_say_34 rfl (lv_at hl 1 rfl) ?_
      obtain ⟨s_7, hs_7, h⟩ := obn h
      refine w_iast hC hP hS hs_7 dX5_say_35 (fun H locs hP hS => ?_)
      refine lv_aload_n hx hb dX5_say_36 rfl (lv_at hl 0 rfl) ?_
      refine lv_dup hx hb dX5_say_37 rfl ?_
      obtain ⟨v_8, hv_8, h⟩ := obn h
      refine w_getI (ci := 5) (j := 12) hC hP rfl inlX5 (by decide) (by decide) rfl hv_8 wl_289 dX5_say_38 ?_
      refine lv_iconst (v := 1) hx hb dX5_say_41 (by decide) ?_
      refine lv_iadd hx hb dX5_say_42 ?_
      obtain ⟨s_9, hs_9, h⟩ := obn h
      refine w_putI (ci := 5) (j := 12) hC hP hS rfl inlX5 tyX5 tyX5_ok nmX5 (by decide) (by decide) rfl rfl rfl rfl hs_9 wl_289 dX5_say_43 (fun H locs hP hS => ?_)
      refine lv_aload_n hx hb dX5_say_46 rfl (lv_at hl 0 rfl) ?_
      obtain ⟨v_10, hv_10, h⟩ := obn h
      refine w_getI (ci := 5) (j := 12) hC hP rfl inlX5 (by decide) (by decide) rfl hv_10 wl_289 dX5_say_47 ?_
      obtain ⟨rfl, rfl⟩ := Prod.mk.inj (Option.some.inj h)
      exact w_iret hC hr hlocks hP hS dX5_say_50
    · rw [if_pos c_4] at h
      refine lv_bipush (v := (-4)) hx hb dX5_say_23 (by decide) ?_
      obtain ⟨rfl, rfl⟩ := Prod.mk.inj (Option.some.inj h)
      exact w_iret hC hr hlocks hP hS dX5_say_25
  · rw [if_pos c_2] at h
    refine lv_bipush (v := (-2)) hx hb dX5_say_11 (by decide) ?_
    obtain ⟨rfl, rfl⟩ := Prod.mk.inj (Option.some.inj h)
    exact w_iret hC hr hlocks hP hS dX5_say_13
set_option maxRecDepth 100000 in
set_option maxHeartbeats 4000000 in
theorem c_X5_say {l : Launch} {base : Nat} {D : va_G} {cI cJ : ClassId} {tS : Nat} {n : Nat} {a0 : Nat} {i1 : Int32} {σ : Sg} {r : Int32} {τ : Sg} (h : f_X5_say n a0 i1 σ = some (r, τ)) : Met l yX5_say (.code yX5_say cX5_say 2 (some .int) :: wsL_law) (rmD 1 0 0) (Pw base D cI cJ tS σ [.ref (base + a0), .int i1]) (QwI base D cI cJ r τ) 0 0 (fun q => base ≤ q) := by
  refine Met.ofW (cc := cX5_say) (maxL := 2) (ret := (some .int)) (by decide) rfl ?_
  intro p e s m args below meth c s₁ B hml hv
  obtain ⟨rfl, hSt, hP⟩ := hv
  have hC : Cx p m c cX5_say 2 s _ RX5 base D cI cJ tS := ⟨⟨B.exec, B.bytes, hml, findClass_of_methodNamed B.named, fun w hw => atoms_spec (ws := Cond.code yX5_say cX5_say 2 (some .int) :: wsL_law) B.pre w (List.mem_cons_of_mem _ hw)⟩, hSt⟩
  have hl := lv_entry ([.ref (base + a0), .int i1]) (n := 2) (Nat.le_of_ble_eq_true rfl)
  rw [lg_entry_eq]
  generalize (lg_sl ([.ref (base + a0), .int i1]) ++ List.replicate (2 - (lg_sl ([.ref (base + a0), .int i1])).length) Slot.unset).toArray = ls at hl ⊢
  exact X5_say_k0 hC B.returns B.notSynchronized h hP va_S.rf hl
-- ===== X4_wipe
set_option maxRecDepth 100000 in
set_option maxHeartbeats 4000000 in
theorem X4_wipe_k0 (hC : Cx p m c cX4_wipe 2 s args RX4 base D cI cJ tS) (hr : meth.sig.returnType = (some .int)) (hlocks : meth.locks = false) {n : Nat} {a0 : Nat} {σ : Sg} {r : Int32} {τ : Sg} {H : Heap} {locs : List Loc} {ls : Array Slot} (h : f_X4_wipe n a0 σ = some (r, τ)) : Dy base D cI cJ σ H → va_S (fun q => base ≤ q) s.heap H locs → lv_has ls 2 [(0, .ref (base + a0))] → W p l e (rmD 0 0 0) s m args below meth c H locs 0 0 (MQ below (QwI base D cI cJ r τ) args s 0 0 (fun q => base ≤ q)) (F0 m 0 ls []) := by
  intro hP hS hl
  obtain ⟨hx, hb, hml, hown, hts⟩ := hC.1
  unfold f_X4_wipe at h
  refine lv_aload_n hx hb dX4_wipe_0 rfl (lv_at hl 0 rfl) ?_
  obtain ⟨q_1, hq_1, h⟩ := obn h
  refine w_getR (ci := 4) (j := 1) hC hP rfl inlX4 (by decide) (by decide) rfl hq_1 wl_49 dX4_wipe_1 ?_
  obtain ⟨v_2, hv_2, h⟩ := obn h
  refine w_getI (ci := 3) (j := 1) hC hP rfl inlX3 (by decide) (by decide) rfl hv_2 wl_284 dX4_wipe_4 ?_
  refine lv_istore_n (lv' := [(1, .int v_2), (0, .ref (base + a0))]) hx hb dX4_wipe_7 rfl hl (by decide) rfl (fun ls hl => ?_)
  refine lv_aload_n hx hb dX4_wipe_8 rfl (lv_at hl 1 rfl) ?_
  obtain ⟨q_3, hq_3, h⟩ := obn h
  refine w_getR (ci := 4) (j := 1) hC hP rfl inlX4 (by decide) (by decide) rfl hq_3 wl_49 dX4_wipe_9 ?_
  refine lv_iconst (v := 0) hx hb dX4_wipe_12 (by decide) ?_
  obtain ⟨s_4, hs_4, h⟩ := obn h
  refine w_putI (ci := 3) (j := 1) hC hP hS rfl inlX3 tyX3 tyX3_ok nmX3 (by decide) (by decide) rfl rfl rfl rfl hs_4 wl_284 dX4_wipe_13 (fun H locs hP hS => ?_)
  refine lv_iload_n hx hb dX4_wipe_16 rfl (lv_at hl 0 rfl) ?_
  obtain ⟨rfl, rfl⟩ := Prod.mk.inj (Option.some.inj h)
  exact w_iret hC hr hlocks hP hS dX4_wipe_17
set_option maxRecDepth 100000 in
set_option maxHeartbeats 4000000 in
theorem c_X4_wipe {l : Launch} {base : Nat} {D : va_G} {cI cJ : ClassId} {tS : Nat} {n : Nat} {a0 : Nat} {σ : Sg} {r : Int32} {τ : Sg} (h : f_X4_wipe n a0 σ = some (r, τ)) : Met l yX4_wipe (.code yX4_wipe cX4_wipe 2 (some .int) :: wsL_law) (rmD 0 0 0) (Pw base D cI cJ tS σ [.ref (base + a0)]) (QwI base D cI cJ r τ) 0 0 (fun q => base ≤ q) := by
  refine Met.ofW (cc := cX4_wipe) (maxL := 2) (ret := (some .int)) (by decide) rfl ?_
  intro p e s m args below meth c s₁ B hml hv
  obtain ⟨rfl, hSt, hP⟩ := hv
  have hC : Cx p m c cX4_wipe 2 s _ RX4 base D cI cJ tS := ⟨⟨B.exec, B.bytes, hml, findClass_of_methodNamed B.named, fun w hw => atoms_spec (ws := Cond.code yX4_wipe cX4_wipe 2 (some .int) :: wsL_law) B.pre w (List.mem_cons_of_mem _ hw)⟩, hSt⟩
  have hl := lv_entry ([.ref (base + a0)]) (n := 2) (Nat.le_of_ble_eq_true rfl)
  rw [lg_entry_eq]
  generalize (lg_sl ([.ref (base + a0)]) ++ List.replicate (2 - (lg_sl ([.ref (base + a0)])).length) Slot.unset).toArray = ls at hl ⊢
  exact X4_wipe_k0 hC B.returns B.notSynchronized h hP va_S.rf hl
-- ===== X5_wipe
set_option maxRecDepth 100000 in
set_option maxHeartbeats 4000000 in
theorem X5_wipe_k0 (hC : Cx p m c cX5_wipe 2 s args RX5 base D cI cJ tS) (hr : meth.sig.returnType = (some .int)) (hlocks : meth.locks = false) {n : Nat} {a0 : Nat} {σ : Sg} {r : Int32} {τ : Sg} {H : Heap} {locs : List Loc} {ls : Array Slot} (h : f_X5_wipe n a0 σ = some (r, τ)) : Dy base D cI cJ σ H → va_S (fun q => base ≤ q) s.heap H locs → lv_has ls 2 [(0, .ref (base + a0))] → W p l e (rmD 0 0 0) s m args below meth c H locs 0 0 (MQ below (QwI base D cI cJ r τ) args s 0 0 (fun q => base ≤ q)) (F0 m 0 ls []) := by
  intro hP hS hl
  obtain ⟨hx, hb, hml, hown, hts⟩ := hC.1
  unfold f_X5_wipe at h
  refine lv_aload_n hx hb dX5_wipe_0 rfl (lv_at hl 0 rfl) ?_
  obtain ⟨v_1, hv_1, h⟩ := obn h
  refine w_getI (ci := 5) (j := 12) hC hP rfl inlX5 (by decide) (by decide) rfl hv_1 wl_289 dX5_wipe_1 ?_
  refine lv_istore_n (lv' := [(1, .int v_1), (0, .ref (base + a0))]) hx hb dX5_wipe_4 rfl hl (by decide) rfl (fun ls hl => ?_)
  refine lv_aload_n hx hb dX5_wipe_5 rfl (lv_at hl 1 rfl) ?_
  refine lv_iconst (v := 0) hx hb dX5_wipe_6 (by decide) ?_
  obtain ⟨s_2, hs_2, h⟩ := obn h
  refine w_putI (ci := 5) (j := 12) hC hP hS rfl inlX5 tyX5 tyX5_ok nmX5 (by decide) (by decide) rfl rfl rfl rfl hs_2 wl_289 dX5_wipe_7 (fun H locs hP hS => ?_)
  refine lv_iload_n hx hb dX5_wipe_10 rfl (lv_at hl 0 rfl) ?_
  obtain ⟨rfl, rfl⟩ := Prod.mk.inj (Option.some.inj h)
  exact w_iret hC hr hlocks hP hS dX5_wipe_11
set_option maxRecDepth 100000 in
set_option maxHeartbeats 4000000 in
theorem c_X5_wipe {l : Launch} {base : Nat} {D : va_G} {cI cJ : ClassId} {tS : Nat} {n : Nat} {a0 : Nat} {σ : Sg} {r : Int32} {τ : Sg} (h : f_X5_wipe n a0 σ = some (r, τ)) : Met l yX5_wipe (.code yX5_wipe cX5_wipe 2 (some .int) :: wsL_law) (rmD 0 0 0) (Pw base D cI cJ tS σ [.ref (base + a0)]) (QwI base D cI cJ r τ) 0 0 (fun q => base ≤ q) := by
  refine Met.ofW (cc := cX5_wipe) (maxL := 2) (ret := (some .int)) (by decide) rfl ?_
  intro p e s m args below meth c s₁ B hml hv
  obtain ⟨rfl, hSt, hP⟩ := hv
  have hC : Cx p m c cX5_wipe 2 s _ RX5 base D cI cJ tS := ⟨⟨B.exec, B.bytes, hml, findClass_of_methodNamed B.named, fun w hw => atoms_spec (ws := Cond.code yX5_wipe cX5_wipe 2 (some .int) :: wsL_law) B.pre w (List.mem_cons_of_mem _ hw)⟩, hSt⟩
  have hl := lv_entry ([.ref (base + a0)]) (n := 2) (Nat.le_of_ble_eq_true rfl)
  rw [lg_entry_eq]
  generalize (lg_sl ([.ref (base + a0)]) ++ List.replicate (2 - (lg_sl ([.ref (base + a0)])).length) Slot.unset).toArray = ls at hl ⊢
  exact X5_wipe_k0 hC B.returns B.notSynchronized h hP va_S.rf hl
-- ===== X2_clear
set_option maxRecDepth 100000 in
set_option maxHeartbeats 4000000 in
theorem X2_clear_k0 (hC : Cx p m c cX2_clear 1 s args RX2 base D cI cJ tS) (hr : meth.sig.returnType = none) (hlocks : meth.locks = false) {n : Nat} {a0 : Nat} {σ : Sg} {τ : Sg} {H : Heap} {locs : List Loc} {ls : Array Slot} (h : f_X2_clear n a0 σ = some τ) : Dy base D cI cJ σ H → va_S (fun q => base ≤ q) s.heap H locs → lv_has ls 1 [(0, .ref (base + a0))] → W p l e (rmD 1 0 0) s m args below meth c H locs 0 0 (MQ below (QwV base D cI cJ τ) args s 0 0 (fun q => base ≤ q)) (F0 m 0 ls []) := by
  intro hP hS hl
  obtain ⟨hx, hb, hml, hown, hts⟩ := hC.1
  unfold f_X2_clear at h
  refine lv_aload_n hx hb dX2_clear_0 rfl (lv_at hl 0 rfl) ?_
  obtain ⟨q_1, hq_1, h⟩ := obn h
  refine w_getR (ci := 2) (j := 0) hC hP rfl inlX2 (by decide) (by decide) rfl hq_1 wl_34 dX2_clear_1 ?_
  refine lv_iconst (v := 0) hx hb dX2_clear_4 (by decide) ?_
  obtain ⟨w_2, hw_2, h⟩ := obn h
  refine k_V (r_stat (As := [.ref (base + q_1), .int 0]) (rest := []) hC hP hS (c_J7_fill_53178 (l := l) (base := base) (D := D) (cI := cI) (cJ := cJ) (tS := tS) hw_2) wl_290 wl_16 wl_17 wl_14 rfl rfl hd_J7_fill_53178 ⟨Nat.le_of_ble_eq_true rfl, Nat.le_of_ble_eq_true rfl⟩ rfl hl.1 rfl (Nat.le_of_ble_eq_true rfl) dX2_clear_5 ⟨Nat.le_of_ble_eq_true rfl, Nat.le_of_ble_eq_true rfl⟩) hS (fun H locs hP hS => ?_)
  refine lv_aload_n hx hb dX2_clear_8 rfl (lv_at hl 0 rfl) ?_
  obtain ⟨q_3, hq_3, h⟩ := obn h
  refine w_getR (ci := 2) (j := 1) hC hP rfl inlX2 (by decide) (by decide) rfl hq_3 wl_35 dX2_clear_9 ?_
  refine lv_iconst (v := 0) hx hb dX2_clear_12 (by decide) ?_
  obtain ⟨w_4, hw_4, h⟩ := obn h
  refine k_V (r_stat (As := [.ref (base + q_3), .int 0]) (rest := []) hC hP hS (c_J7_fill_53178 (l := l) (base := base) (D := D) (cI := cI) (cJ := cJ) (tS := tS) hw_4) wl_290 wl_16 wl_17 wl_14 rfl rfl hd_J7_fill_53178 ⟨Nat.le_of_ble_eq_true rfl, Nat.le_of_ble_eq_true rfl⟩ rfl hl.1 rfl (Nat.le_of_ble_eq_true rfl) dX2_clear_13 ⟨Nat.le_of_ble_eq_true rfl, Nat.le_of_ble_eq_true rfl⟩) hS (fun H locs hP hS => ?_)
  refine lv_aload_n hx hb dX2_clear_16 rfl (lv_at hl 0 rfl) ?_
  refine lv_iconst (v := 0) hx hb dX2_clear_17 (by decide) ?_
  obtain ⟨s_5, hs_5, h⟩ := obn h
  refine w_putI (ci := 2) (j := 2) hC hP hS rfl inlX2 tyX2 tyX2_ok nmX2 (by decide) (by decide) rfl rfl rfl rfl hs_5 wl_291 dX2_clear_18 (fun H locs hP hS => ?_)
  obtain rfl := Option.some.inj h
  exact w_vret hC hr hlocks hP hS dX2_clear_21
set_option maxRecDepth 100000 in
set_option maxHeartbeats 4000000 in
theorem c_X2_clear {l : Launch} {base : Nat} {D : va_G} {cI cJ : ClassId} {tS : Nat} {n : Nat} {a0 : Nat} {σ : Sg} {τ : Sg} (h : f_X2_clear n a0 σ = some τ) : Met l yX2_clear (.code yX2_clear cX2_clear 1 none :: wsL_law) (rmD 1 0 0) (Pw base D cI cJ tS σ [.ref (base + a0)]) (QwV base D cI cJ τ) 0 0 (fun q => base ≤ q) := by
  refine Met.ofW (cc := cX2_clear) (maxL := 1) (ret := none) (by decide) rfl ?_
  intro p e s m args below meth c s₁ B hml hv
  obtain ⟨rfl, hSt, hP⟩ := hv
  have hC : Cx p m c cX2_clear 1 s _ RX2 base D cI cJ tS := ⟨⟨B.exec, B.bytes, hml, findClass_of_methodNamed B.named, fun w hw => atoms_spec (ws := Cond.code yX2_clear cX2_clear 1 none :: wsL_law) B.pre w (List.mem_cons_of_mem _ hw)⟩, hSt⟩
  have hl := lv_entry ([.ref (base + a0)]) (n := 1) (Nat.le_of_ble_eq_true rfl)
  rw [lg_entry_eq]
  generalize (lg_sl ([.ref (base + a0)]) ++ List.replicate (1 - (lg_sl ([.ref (base + a0)])).length) Slot.unset).toArray = ls at hl ⊢
  exact X2_clear_k0 hC B.returns B.notSynchronized h hP va_S.rf hl
-- ===== X3_isDigit
set_option maxRecDepth 100000 in
set_option maxHeartbeats 4000000 in
theorem X3_isDigit_k16 (hC : Cx p m c cX3_isDigit 1 s args RX3 base D cI cJ tS) (hr : meth.sig.returnType = (some .boolean)) (hlocks : meth.locks = false) {n : Nat} {σ : Sg} {r : Int32} {τ : Sg} {H : Heap} {locs : List Loc} {ls : Array Slot} (h : X3_isDigit_b16 n σ = some (r, τ)) : Dy base D cI cJ σ H → va_S (fun q => base ≤ q) s.heap H locs → lv_has ls 1 [] → W p l e (rmD 0 0 0) s m args below meth c H locs 0 0 (MQ below (QwI base D cI cJ r τ) args s 0 0 (fun q => base ≤ q)) (F0 m 16 ls []) := by
  intro hP hS hl
  obtain ⟨hx, hb, hml, hown, hts⟩ := hC.1
  unfold X3_isDigit_b16 at h
  refine lv_iconst (v := 0) hx hb dX3_isDigit_16 (by decide) ?_
  exact w_zret hC hr hlocks hP hS h dX3_isDigit_17
set_option maxRecDepth 100000 in
set_option maxHeartbeats 4000000 in
theorem X3_isDigit_k0 (hC : Cx p m c cX3_isDigit 1 s args RX3 base D cI cJ tS) (hr : meth.sig.returnType = (some .boolean)) (hlocks : meth.locks = false) {n : Nat} {i0 : Int32} {σ : Sg} {r : Int32} {τ : Sg} {H : Heap} {locs : List Loc} {ls : Array Slot} (h : f_X3_isDigit n i0 σ = some (r, τ)) : Dy base D cI cJ σ H → va_S (fun q => base ≤ q) s.heap H locs → lv_has ls 1 [(0, .int i0)] → W p l e (rmD 0 0 0) s m args below meth c H locs 0 0 (MQ below (QwI base D cI cJ r τ) args s 0 0 (fun q => base ≤ q)) (F0 m 0 ls []) := by
  intro hP hS hl
  obtain ⟨hx, hb, hml, hown, hts⟩ := hC.1
  unfold f_X3_isDigit at h
  refine lv_iload_n hx hb dX3_isDigit_0 rfl (lv_at hl 0 rfl) ?_
  refine lv_bipush (v := 48) hx hb dX3_isDigit_1 (by decide) ?_
  refine lv_icmp_lt (tgt := 16) hx hb dX3_isDigit_3 (by decide) (fun c_1 => ?_) (fun c_1 => ?_)
  · rw [if_pos c_1] at h
    exact X3_isDigit_k16 hC hr hlocks h hP hS (lv_sub hl [] rfl)
  · rw [if_neg c_1] at h
    refine lv_iload_n hx hb dX3_isDigit_6 rfl (lv_at hl 0 rfl) ?_
    refine lv_bipush (v := 57) hx hb dX3_isDigit_7 (by decide) ?_
    refine lv_icmp_gt (tgt := 16) hx hb dX3_isDigit_9 (by decide) (fun c_2 => ?_) (fun c_2 => ?_)
    · rw [if_pos c_2] at h
      exact X3_isDigit_k16 hC hr hlocks h hP hS (lv_sub hl [] rfl)
    · rw [if_neg c_2] at h
      refine lv_iconst (v := 1) hx hb dX3_isDigit_12 (by decide) ?_
      refine lv_goto (tgt := 17) hx hb dX3_isDigit_13 (by decide) ?_
      exact w_zret hC hr hlocks hP hS h dX3_isDigit_17
set_option maxRecDepth 100000 in
set_option maxHeartbeats 4000000 in
theorem c_X3_isDigit {l : Launch} {base : Nat} {D : va_G} {cI cJ : ClassId} {tS : Nat} {n : Nat} {i0 : Int32} {σ : Sg} {r : Int32} {τ : Sg} (h : f_X3_isDigit n i0 σ = some (r, τ)) : Met l yX3_isDigit (.code yX3_isDigit cX3_isDigit 1 (some .boolean) :: wsL_law) (rmD 0 0 0) (Pw base D cI cJ tS σ [.int i0]) (QwI base D cI cJ r τ) 0 0 (fun q => base ≤ q) := by
  refine Met.ofW (cc := cX3_isDigit) (maxL := 1) (ret := (some .boolean)) (by decide) rfl ?_
  intro p e s m args below meth c s₁ B hml hv
  obtain ⟨rfl, hSt, hP⟩ := hv
  have hC : Cx p m c cX3_isDigit 1 s _ RX3 base D cI cJ tS := ⟨⟨B.exec, B.bytes, hml, findClass_of_methodNamed B.named, fun w hw => atoms_spec (ws := Cond.code yX3_isDigit cX3_isDigit 1 (some .boolean) :: wsL_law) B.pre w (List.mem_cons_of_mem _ hw)⟩, hSt⟩
  have hl := lv_entry ([.int i0]) (n := 1) (Nat.le_of_ble_eq_true rfl)
  rw [lg_entry_eq]
  generalize (lg_sl ([.int i0]) ++ List.replicate (1 - (lg_sl ([.int i0])).length) Slot.unset).toArray = ls at hl ⊢
  exact X3_isDigit_k0 hC B.returns B.notSynchronized h hP va_S.rf hl
-- ===== X3_readsStop
set_option maxRecDepth 100000 in
set_option maxHeartbeats 4000000 in
theorem X3_readsStop_k19 (hC : Cx p m c cX3_readsStop 3 s args RX3 base D cI cJ tS) (hr : meth.sig.returnType = (some .boolean)) (hlocks : meth.locks = false) {n : Nat} {σ : Sg} {r : Int32} {τ : Sg} {H : Heap} {locs : List Loc} {ls : Array Slot} (h : X3_readsStop_b19 n σ = some (r, τ)) : Dy base D cI cJ σ H → va_S (fun q => base ≤ q) s.heap H locs → lv_has ls 3 [] → W p l e (rmD 1 0 0) s m args below meth c H locs 0 0 (MQ below (QwI base D cI cJ r τ) args s 0 0 (fun q => base ≤ q)) (F0 m 19 ls []) := by
  intro hP hS hl
  obtain ⟨hx, hb, hml, hown, hts⟩ := hC.1
  unfold X3_readsStop_b19 at h
  refine lv_iconst (v := 0) hx hb dX3_readsStop_19 (by decide) ?_
  exact w_zret hC hr hlocks hP hS h dX3_readsStop_20
set_option maxRecDepth 100000 in
set_option maxHeartbeats 4000000 in
theorem X3_readsStop_k0 (hC : Cx p m c cX3_readsStop 3 s args RX3 base D cI cJ tS) (hr : meth.sig.returnType = (some .boolean)) (hlocks : meth.locks = false) {n : Nat} {a0 : Nat} {i1 : Int32} {a2 : Nat} {σ : Sg} {r : Int32} {τ : Sg} {H : Heap} {locs : List Loc} {ls : Array Slot} (h : f_X3_readsStop n a0 i1 a2 σ = some (r, τ)) : Dy base D cI cJ σ H → va_S (fun q => base ≤ q) s.heap H locs → lv_has ls 3 [(0, .ref (base + a0)), (1, .int i1), (2, .ref (base + a2))] → W p l e (rmD 1 0 0) s m args below meth c H locs 0 0 (MQ below (QwI base D cI cJ r τ) args s 0 0 (fun q => base ≤ q)) (F0 m 0 ls []) := by
  intro hP hS hl
  obtain ⟨hx, hb, hml, hown, hts⟩ := hC.1
  unfold f_X3_readsStop at h
  refine lv_iload_n hx hb dX3_readsStop_0 rfl (lv_at hl 1 rfl) ?_
  obtain ⟨w_1, hw_1, h⟩ := obn h
  refine k_I (r_stat (As := [.int i1]) (rest := []) hC hP hS (c_X3_isDigit (l := l) (base := base) (D := D) (cI := cI) (cJ := cJ) (tS := tS) hw_1) wl_293 wl_294 wl_46 wl_292 rfl rfl hd_X3_isDigit ⟨Nat.le_of_ble_eq_true rfl, Nat.le_of_ble_eq_true rfl⟩ rfl hl.1 rfl (Nat.le_of_ble_eq_true rfl) dX3_readsStop_1 ⟨Nat.le_of_ble_eq_true rfl, Nat.le_of_ble_eq_true rfl⟩) hS (fun H locs hP hS => ?_)
  refine lv_if_eq (tgt := 19) hx hb dX3_readsStop_4 (by decide) (fun c_2 => ?_) (fun c_2 => ?_)
  · rw [if_pos c_2] at h
    exact X3_readsStop_k19 hC hr hlocks h hP hS (lv_sub hl [] rfl)
  · rw [if_neg c_2] at h
    refine lv_aload_n hx hb dX3_readsStop_7 rfl (lv_at hl 2 rfl) ?_
    obtain ⟨q_3, hq_3, h⟩ := obn h
    refine w_getR (ci := 2) (j := 0) hC hP rfl inlX2 (by decide) (by decide) rfl hq_3 wl_295 dX3_readsStop_8 ?_
    refine lv_iload_n hx hb dX3_readsStop_11 rfl (lv_at hl 1 rfl) ?_
    refine lv_bipush (v := 48) hx hb dX3_readsStop_12 (by decide) ?_
    refine lv_isub hx hb dX3_readsStop_14 ?_
    obtain ⟨v_4, hv_4, h⟩ := obn h
    refine w_iald hC hP hv_4 dX3_readsStop_15 ?_
    refine lv_if_eq (tgt := 21) hx hb dX3_readsStop_16 (by decide) (fun c_5 => ?_) (fun c_5 => ?_)
    · rw [if_pos c_5] at h
      refine lv_aload_n hx hb dX3_readsStop_21 rfl (lv_at hl 0 rfl) ?_
      refine lv_iload_n hx hb dX3_readsStop_22 rfl (lv_at hl 1 rfl) ?_
      refine lv_bipush (v := 48) hx hb dX3_readsStop_23 (by decide) ?_
      refine lv_isub hx hb dX3_readsStop_25 ?_
      obtain ⟨s_6, hs_6, h⟩ := obn h
      refine w_putI (ci := 3) (j := 3) hC hP hS rfl inlX3 tyX3 tyX3_ok nmX3 (by decide) (by decide) rfl rfl rfl rfl hs_6 wl_296 dX3_readsStop_26 (fun H locs hP hS => ?_)
      refine lv_aload_n hx hb dX3_readsStop_29 rfl (lv_at hl 0 rfl) ?_
      refine lv_iconst (v := (-1)) hx hb dX3_readsStop_30 (by decide) ?_
      obtain ⟨s_7, hs_7, h⟩ := obn h
      refine w_putI (ci := 3) (j := 2) hC hP hS rfl inlX3 tyX3 tyX3_ok nmX3 (by decide) (by decide) rfl rfl rfl rfl hs_7 wl_297 dX3_readsStop_31 (fun H locs hP hS => ?_)
      refine lv_iconst (v := 1) hx hb dX3_readsStop_34 (by decide) ?_
      exact w_zret hC hr hlocks hP hS h dX3_readsStop_35
    · rw [if_neg c_5] at h
      exact X3_readsStop_k19 hC hr hlocks h hP hS (lv_sub hl [] rfl)
set_option maxRecDepth 100000 in
set_option maxHeartbeats 4000000 in
theorem c_X3_readsStop {l : Launch} {base : Nat} {D : va_G} {cI cJ : ClassId} {tS : Nat} {n : Nat} {a0 : Nat} {i1 : Int32} {a2 : Nat} {σ : Sg} {r : Int32} {τ : Sg} (h : f_X3_readsStop n a0 i1 a2 σ = some (r, τ)) : Met l yX3_readsStop (.code yX3_readsStop cX3_readsStop 3 (some .boolean) :: wsL_law) (rmD 1 0 0) (Pw base D cI cJ tS σ [.ref (base + a0), .int i1, .ref (base + a2)]) (QwI base D cI cJ r τ) 0 0 (fun q => base ≤ q) := by
  refine Met.ofW (cc := cX3_readsStop) (maxL := 3) (ret := (some .boolean)) (by decide) rfl ?_
  intro p e s m args below meth c s₁ B hml hv
  obtain ⟨rfl, hSt, hP⟩ := hv
  have hC : Cx p m c cX3_readsStop 3 s _ RX3 base D cI cJ tS := ⟨⟨B.exec, B.bytes, hml, findClass_of_methodNamed B.named, fun w hw => atoms_spec (ws := Cond.code yX3_readsStop cX3_readsStop 3 (some .boolean) :: wsL_law) B.pre w (List.mem_cons_of_mem _ hw)⟩, hSt⟩
  have hl := lv_entry ([.ref (base + a0), .int i1, .ref (base + a2)]) (n := 3) (Nat.le_of_ble_eq_true rfl)
  rw [lg_entry_eq]
  generalize (lg_sl ([.ref (base + a0), .int i1, .ref (base + a2)]) ++ List.replicate (3 - (lg_sl ([.ref (base + a0), .int i1, .ref (base + a2)])).length) Slot.unset).toArray = ls at hl ⊢
  exact X3_readsStop_k0 hC B.returns B.notSynchronized h hP va_S.rf hl
-- ===== X3_readsLetter
set_option maxRecDepth 100000 in
set_option maxHeartbeats 4000000 in
theorem X3_readsLetter_k14 (hC : Cx p m c cX3_readsLetter 3 s args RX3 base D cI cJ tS) (hr : meth.sig.returnType = (some .boolean)) (hlocks : meth.locks = false) {n : Nat} {a0 : Nat} {i1 : Int32} {a2 : Nat} {σ : Sg} {r : Int32} {τ : Sg} {H : Heap} {locs : List Loc} {ls : Array Slot} (h : X3_readsLetter_b14 n a0 i1 a2 σ = some (r, τ)) : Dy base D cI cJ σ H → va_S (fun q => base ≤ q) s.heap H locs → lv_has ls 3 [(0, .ref (base + a0)), (1, .int i1), (2, .ref (base + a2))] → W p l e (rmD 0 0 0) s m args below meth c H locs 0 0 (MQ below (QwI base D cI cJ r τ) args s 0 0 (fun q => base ≤ q)) (F0 m 14 ls []) := by
  intro hP hS hl
  obtain ⟨hx, hb, hml, hown, hts⟩ := hC.1
  unfold X3_readsLetter_b14 at h
  refine lv_aload_n hx hb dX3_readsLetter_14 rfl (lv_at hl 2 rfl) ?_
  obtain ⟨q_1, hq_1, h⟩ := obn h
  refine w_getR (ci := 2) (j := 0) hC hP rfl inlX2 (by decide) (by decide) rfl hq_1 wl_295 dX3_readsLetter_15 ?_
  refine lv_aload_n hx hb dX3_readsLetter_18 rfl (lv_at hl 0 rfl) ?_
  obtain ⟨v_2, hv_2, h⟩ := obn h
  refine w_getI (ci := 3) (j := 3) hC hP rfl inlX3 (by decide) (by decide) rfl hv_2 wl_296 dX3_readsLetter_19 ?_
  refine lv_iload_n hx hb dX3_readsLetter_22 rfl (lv_at hl 1 rfl) ?_
  obtain ⟨s_3, hs_3, h⟩ := obn h
  refine w_iast hC hP hS hs_3 dX3_readsLetter_23 (fun H locs hP hS => ?_)
  refine lv_aload_n hx hb dX3_readsLetter_24 rfl (lv_at hl 2 rfl) ?_
  refine lv_dup hx hb dX3_readsLetter_25 rfl ?_
  obtain ⟨v_4, hv_4, h⟩ := obn h
  refine w_getI (ci := 2) (j := 2) hC hP rfl inlX2 (by decide) (by decide) rfl hv_4 wl_298 dX3_readsLetter_26 ?_
  refine lv_iconst (v := 1) hx hb dX3_readsLetter_29 (by decide) ?_
  refine lv_iadd hx hb dX3_readsLetter_30 ?_
  obtain ⟨s_5, hs_5, h⟩ := obn h
  refine w_putI (ci := 2) (j := 2) hC hP hS rfl inlX2 tyX2 tyX2_ok nmX2 (by decide) (by decide) rfl rfl rfl rfl hs_5 wl_298 dX3_readsLetter_31 (fun H locs hP hS => ?_)
  refine lv_aload_n hx hb dX3_readsLetter_34 rfl (lv_at hl 0 rfl) ?_
  refine lv_iconst (v := 0) hx hb dX3_readsLetter_35 (by decide) ?_
  obtain ⟨s_6, hs_6, h⟩ := obn h
  refine w_putI (ci := 3) (j := 2) hC hP hS rfl inlX3 tyX3 tyX3_ok nmX3 (by decide) (by decide) rfl rfl rfl rfl hs_6 wl_297 dX3_readsLetter_36 (fun H locs hP hS => ?_)
  refine lv_iconst (v := 1) hx hb dX3_readsLetter_39 (by decide) ?_
  exact w_zret hC hr hlocks hP hS h dX3_readsLetter_40
set_option maxRecDepth 100000 in
set_option maxHeartbeats 4000000 in
theorem X3_readsLetter_k0 (hC : Cx p m c cX3_readsLetter 3 s args RX3 base D cI cJ tS) (hr : meth.sig.returnType = (some .boolean)) (hlocks : meth.locks = false) {n : Nat} {a0 : Nat} {i1 : Int32} {a2 : Nat} {σ : Sg} {r : Int32} {τ : Sg} {H : Heap} {locs : List Loc} {ls : Array Slot} (h : f_X3_readsLetter n a0 i1 a2 σ = some (r, τ)) : Dy base D cI cJ σ H → va_S (fun q => base ≤ q) s.heap H locs → lv_has ls 3 [(0, .ref (base + a0)), (1, .int i1), (2, .ref (base + a2))] → W p l e (rmD 0 0 0) s m args below meth c H locs 0 0 (MQ below (QwI base D cI cJ r τ) args s 0 0 (fun q => base ≤ q)) (F0 m 0 ls []) := by
  intro hP hS hl
  obtain ⟨hx, hb, hml, hown, hts⟩ := hC.1
  unfold f_X3_readsLetter at h
  refine lv_iload_n hx hb dX3_readsLetter_0 rfl (lv_at hl 1 rfl) ?_
  refine lv_bipush (v := 99) hx hb dX3_readsLetter_1 (by decide) ?_
  refine lv_icmp_eq (tgt := 14) hx hb dX3_readsLetter_3 (by decide) (fun c_7 => ?_) (fun c_7 => ?_)
  · rw [if_pos c_7] at h
    exact X3_readsLetter_k14 hC hr hlocks h hP hS (lv_sub hl [0, 1, 2] rfl)
  · rw [if_neg c_7] at h
    refine lv_iload_n hx hb dX3_readsLetter_6 rfl (lv_at hl 1 rfl) ?_
    refine lv_bipush (v := 103) hx hb dX3_readsLetter_7 (by decide) ?_
    refine lv_icmp_eq (tgt := 14) hx hb dX3_readsLetter_9 (by decide) (fun c_8 => ?_) (fun c_8 => ?_)
    · rw [if_pos c_8] at h
      exact X3_readsLetter_k14 hC hr hlocks h hP hS (lv_sub hl [0, 1, 2] rfl)
    · rw [if_neg c_8] at h
      refine lv_iconst (v := 0) hx hb dX3_readsLetter_12 (by decide) ?_
      exact w_zret hC hr hlocks hP hS h dX3_readsLetter_13
set_option maxRecDepth 100000 in
set_option maxHeartbeats 4000000 in
theorem c_X3_readsLetter {l : Launch} {base : Nat} {D : va_G} {cI cJ : ClassId} {tS : Nat} {n : Nat} {a0 : Nat} {i1 : Int32} {a2 : Nat} {σ : Sg} {r : Int32} {τ : Sg} (h : f_X3_readsLetter n a0 i1 a2 σ = some (r, τ)) : Met l yX3_readsLetter (.code yX3_readsLetter cX3_readsLetter 3 (some .boolean) :: wsL_law) (rmD 0 0 0) (Pw base D cI cJ tS σ [.ref (base + a0), .int i1, .ref (base + a2)]) (QwI base D cI cJ r τ) 0 0 (fun q => base ≤ q) := by
  refine Met.ofW (cc := cX3_readsLetter) (maxL := 3) (ret := (some .boolean)) (by decide) rfl ?_
  intro p e s m args below meth c s₁ B hml hv
  obtain ⟨rfl, hSt, hP⟩ := hv
  have hC : Cx p m c cX3_readsLetter 3 s _ RX3 base D cI cJ tS := ⟨⟨B.exec, B.bytes, hml, findClass_of_methodNamed B.named, fun w hw => atoms_spec (ws := Cond.code yX3_readsLetter cX3_readsLetter 3 (some .boolean) :: wsL_law) B.pre w (List.mem_cons_of_mem _ hw)⟩, hSt⟩
  have hl := lv_entry ([.ref (base + a0), .int i1, .ref (base + a2)]) (n := 3) (Nat.le_of_ble_eq_true rfl)
  rw [lg_entry_eq]
  generalize (lg_sl ([.ref (base + a0), .int i1, .ref (base + a2)]) ++ List.replicate (3 - (lg_sl ([.ref (base + a0), .int i1, .ref (base + a2)])).length) Slot.unset).toArray = ls at hl ⊢
  exact X3_readsLetter_k0 hC B.returns B.notSynchronized h hP va_S.rf hl
-- ===== X3_readsBetween
set_option maxRecDepth 100000 in
set_option maxHeartbeats 4000000 in
theorem X3_readsBetween_k17 (hC : Cx p m c cX3_readsBetween 2 s args RX3 base D cI cJ tS) (hr : meth.sig.returnType = (some .boolean)) (hlocks : meth.locks = false) {n : Nat} {σ : Sg} {r : Int32} {τ : Sg} {H : Heap} {locs : List Loc} {ls : Array Slot} (h : X3_readsBetween_b17 n σ = some (r, τ)) : Dy base D cI cJ σ H → va_S (fun q => base ≤ q) s.heap H locs → lv_has ls 2 [] → W p l e (rmD 0 0 0) s m args below meth c H locs 0 0 (MQ below (QwI base D cI cJ r τ) args s 0 0 (fun q => base ≤ q)) (F0 m 17 ls []) := by
  intro hP hS hl
  obtain ⟨hx, hb, hml, hown, hts⟩ := hC.1
  unfold X3_readsBetween_b17 at h
  refine lv_iconst (v := 0) hx hb dX3_readsBetween_17 (by decide) ?_
  exact w_zret hC hr hlocks hP hS h dX3_readsBetween_18
set_option maxRecDepth 100000 in
set_option maxHeartbeats 4000000 in
theorem X3_readsBetween_k0 (hC : Cx p m c cX3_readsBetween 2 s args RX3 base D cI cJ tS) (hr : meth.sig.returnType = (some .boolean)) (hlocks : meth.locks = false) {n : Nat} {a0 : Nat} {a1 : Nat} {σ : Sg} {r : Int32} {τ : Sg} {H : Heap} {locs : List Loc} {ls : Array Slot} (h : f_X3_readsBetween n a0 a1 σ = some (r, τ)) : Dy base D cI cJ σ H → va_S (fun q => base ≤ q) s.heap H locs → lv_has ls 2 [(0, .ref (base + a0)), (1, .ref (base + a1))] → W p l e (rmD 0 0 0) s m args below meth c H locs 0 0 (MQ below (QwI base D cI cJ r τ) args s 0 0 (fun q => base ≤ q)) (F0 m 0 ls []) := by
  intro hP hS hl
  obtain ⟨hx, hb, hml, hown, hts⟩ := hC.1
  unfold f_X3_readsBetween at h
  refine lv_aload_n hx hb dX3_readsBetween_0 rfl (lv_at hl 0 rfl) ?_
  obtain ⟨v_1, hv_1, h⟩ := obn h
  refine w_getI (ci := 3) (j := 2) hC hP rfl inlX3 (by decide) (by decide) rfl hv_1 wl_297 dX3_readsBetween_1 ?_
  refine lv_iconst (v := 1) hx hb dX3_readsBetween_4 (by decide) ?_
  refine lv_icmp_lt (tgt := 17) hx hb dX3_readsBetween_5 (by decide) (fun c_2 => ?_) (fun c_2 => ?_)
  · rw [if_pos c_2] at h
    exact X3_readsBetween_k17 hC hr hlocks h hP hS (lv_sub hl [] rfl)
  · rw [if_neg c_2] at h
    refine lv_aload_n hx hb dX3_readsBetween_8 rfl (lv_at hl 1 rfl) ?_
    obtain ⟨v_3, hv_3, h⟩ := obn h
    refine w_getI (ci := 2) (j := 2) hC hP rfl inlX2 (by decide) (by decide) rfl hv_3 wl_298 dX3_readsBetween_9 ?_
    refine lv_bipush (v := 10) hx hb dX3_readsBetween_12 (by decide) ?_
    refine lv_icmp_lt (tgt := 19) hx hb dX3_readsBetween_14 (by decide) (fun c_4 => ?_) (fun c_4 => ?_)
    · rw [if_pos c_4] at h
      refine lv_aload_n hx hb dX3_readsBetween_19 rfl (lv_at hl 0 rfl) ?_
      refine lv_bipush (v := (-2)) hx hb dX3_readsBetween_20 (by decide) ?_
      obtain ⟨s_5, hs_5, h⟩ := obn h
      refine w_putI (ci := 3) (j := 2) hC hP hS rfl inlX3 tyX3 tyX3_ok nmX3 (by decide) (by decide) rfl rfl rfl rfl hs_5 wl_297 dX3_readsBetween_22 (fun H locs hP hS => ?_)
      refine lv_iconst (v := 1) hx hb dX3_readsBetween_25 (by decide) ?_
      exact w_zret hC hr hlocks hP hS h dX3_readsBetween_26
    · rw [if_neg c_4] at h
      exact X3_readsBetween_k17 hC hr hlocks h hP hS (lv_sub hl [] rfl)
set_option maxRecDepth 100000 in
set_option maxHeartbeats 4000000 in
theorem c_X3_readsBetween {l : Launch} {base : Nat} {D : va_G} {cI cJ : ClassId} {tS : Nat} {n : Nat} {a0 : Nat} {a1 : Nat} {σ : Sg} {r : Int32} {τ : Sg} (h : f_X3_readsBetween n a0 a1 σ = some (r, τ)) : Met l yX3_readsBetween (.code yX3_readsBetween cX3_readsBetween 2 (some .boolean) :: wsL_law) (rmD 0 0 0) (Pw base D cI cJ tS σ [.ref (base + a0), .ref (base + a1)]) (QwI base D cI cJ r τ) 0 0 (fun q => base ≤ q) := by
  refine Met.ofW (cc := cX3_readsBetween) (maxL := 2) (ret := (some .boolean)) (by decide) rfl ?_
  intro p e s m args below meth c s₁ B hml hv
  obtain ⟨rfl, hSt, hP⟩ := hv
  have hC : Cx p m c cX3_readsBetween 2 s _ RX3 base D cI cJ tS := ⟨⟨B.exec, B.bytes, hml, findClass_of_methodNamed B.named, fun w hw => atoms_spec (ws := Cond.code yX3_readsBetween cX3_readsBetween 2 (some .boolean) :: wsL_law) B.pre w (List.mem_cons_of_mem _ hw)⟩, hSt⟩
  have hl := lv_entry ([.ref (base + a0), .ref (base + a1)]) (n := 2) (Nat.le_of_ble_eq_true rfl)
  rw [lg_entry_eq]
  generalize (lg_sl ([.ref (base + a0), .ref (base + a1)]) ++ List.replicate (2 - (lg_sl ([.ref (base + a0), .ref (base + a1)])).length) Slot.unset).toArray = ls at hl ⊢
  exact X3_readsBetween_k0 hC B.returns B.notSynchronized h hP va_S.rf hl
-- ===== X3_readsDigit
set_option maxRecDepth 100000 in
set_option maxHeartbeats 4000000 in
theorem X3_readsDigit_k15 (hC : Cx p m c cX3_readsDigit 3 s args RX3 base D cI cJ tS) (hr : meth.sig.returnType = (some .boolean)) (hlocks : meth.locks = false) {n : Nat} {σ : Sg} {r : Int32} {τ : Sg} {H : Heap} {locs : List Loc} {ls : Array Slot} (h : X3_readsDigit_b15 n σ = some (r, τ)) : Dy base D cI cJ σ H → va_S (fun q => base ≤ q) s.heap H locs → lv_has ls 3 [] → W p l e (rmD 1 0 0) s m args below meth c H locs 0 0 (MQ below (QwI base D cI cJ r τ) args s 0 0 (fun q => base ≤ q)) (F0 m 15 ls []) := by
  intro hP hS hl
  obtain ⟨hx, hb, hml, hown, hts⟩ := hC.1
  unfold X3_readsDigit_b15 at h
  refine lv_iconst (v := 0) hx hb dX3_readsDigit_15 (by decide) ?_
  exact w_zret hC hr hlocks hP hS h dX3_readsDigit_16
set_option maxRecDepth 100000 in
set_option maxHeartbeats 4000000 in
theorem X3_readsDigit_k0 (hC : Cx p m c cX3_readsDigit 3 s args RX3 base D cI cJ tS) (hr : meth.sig.returnType = (some .boolean)) (hlocks : meth.locks = false) {n : Nat} {a0 : Nat} {i1 : Int32} {a2 : Nat} {σ : Sg} {r : Int32} {τ : Sg} {H : Heap} {locs : List Loc} {ls : Array Slot} (h : f_X3_readsDigit n a0 i1 a2 σ = some (r, τ)) : Dy base D cI cJ σ H → va_S (fun q => base ≤ q) s.heap H locs → lv_has ls 3 [(0, .ref (base + a0)), (1, .int i1), (2, .ref (base + a2))] → W p l e (rmD 1 0 0) s m args below meth c H locs 0 0 (MQ below (QwI base D cI cJ r τ) args s 0 0 (fun q => base ≤ q)) (F0 m 0 ls []) := by
  intro hP hS hl
  obtain ⟨hx, hb, hml, hown, hts⟩ := hC.1
  unfold f_X3_readsDigit at h
  refine lv_iload_n hx hb dX3_readsDigit_0 rfl (lv_at hl 1 rfl) ?_
  obtain ⟨w_1, hw_1, h⟩ := obn h
  refine k_I (r_stat (As := [.int i1]) (rest := []) hC hP hS (c_X3_isDigit (l := l) (base := base) (D := D) (cI := cI) (cJ := cJ) (tS := tS) hw_1) wl_293 wl_294 wl_46 wl_292 rfl rfl hd_X3_isDigit ⟨Nat.le_of_ble_eq_true rfl, Nat.le_of_ble_eq_true rfl⟩ rfl hl.1 rfl (Nat.le_of_ble_eq_true rfl) dX3_readsDigit_1 ⟨Nat.le_of_ble_eq_true rfl, Nat.le_of_ble_eq_true rfl⟩) hS (fun H locs hP hS => ?_)
  refine lv_if_eq (tgt := 15) hx hb dX3_readsDigit_4 (by decide) (fun c_2 => ?_) (fun c_2 => ?_)
  · rw [if_pos c_2] at h
    exact X3_readsDigit_k15 hC hr hlocks h hP hS (lv_sub hl [] rfl)
  · rw [if_neg c_2] at h
    refine lv_aload_n hx hb dX3_readsDigit_7 rfl (lv_at hl 0 rfl) ?_
    obtain ⟨v_3, hv_3, h⟩ := obn h
    refine w_getI (ci := 3) (j := 2) hC hP rfl inlX3 (by decide) (by decide) rfl hv_3 wl_297 dX3_readsDigit_8 ?_
    refine lv_iconst (v := 3) hx hb dX3_readsDigit_11 (by decide) ?_
    refine lv_icmp_lt (tgt := 17) hx hb dX3_readsDigit_12 (by decide) (fun c_4 => ?_) (fun c_4 => ?_)
    · rw [if_pos c_4] at h
      refine lv_aload_n hx hb dX3_readsDigit_17 rfl (lv_at hl 2 rfl) ?_
      obtain ⟨q_5, hq_5, h⟩ := obn h
      refine w_getR (ci := 2) (j := 1) hC hP rfl inlX2 (by decide) (by decide) rfl hq_5 wl_299 dX3_readsDigit_18 ?_
      refine lv_aload_n hx hb dX3_readsDigit_21 rfl (lv_at hl 0 rfl) ?_
      obtain ⟨v_6, hv_6, h⟩ := obn h
      refine w_getI (ci := 3) (j := 3) hC hP rfl inlX3 (by decide) (by decide) rfl hv_6 wl_296 dX3_readsDigit_22 ?_
      refine lv_aload_n hx hb dX3_readsDigit_25 rfl (lv_at hl 2 rfl) ?_
      obtain ⟨q_7, hq_7, h⟩ := obn h
      refine w_getR (ci := 2) (j := 1) hC hP rfl inlX2 (by decide) (by decide) rfl hq_7 wl_299 dX3_readsDigit_26 ?_
      refine lv_aload_n hx hb dX3_readsDigit_29 rfl (lv_at hl 0 rfl) ?_
      obtain ⟨v_8, hv_8, h⟩ := obn h
      refine w_getI (ci := 3) (j := 3) hC hP rfl inlX3 (by decide) (by decide) rfl hv_8 wl_296 dX3_readsDigit_30 ?_
      obtain ⟨v_9, hv_9, h⟩ := obn h
      refine w_iald hC hP hv_9 dX3_readsDigit_33 ?_
      refine lv_bipush (v := 10) hx hb dX3_readsDigit_34 (by decide) ?_
      refine lv_imul hx hb dX3_readsDigit_36 ?_
      refine lv_iload_n hx hb dX3_readsDigit_37 rfl (lv_at hl 1 rfl) ?_
      refine lv_iadd hx hb dX3_readsDigit_38 ?_
      refine lv_bipush (v := 48) hx hb dX3_readsDigit_39 (by decide) ?_
      refine lv_isub hx hb dX3_readsDigit_41 ?_
      obtain ⟨s_10, hs_10, h⟩ := obn h
      refine w_iast hC hP hS hs_10 dX3_readsDigit_42 (fun H locs hP hS => ?_)
      refine lv_aload_n hx hb dX3_readsDigit_43 rfl (lv_at hl 0 rfl) ?_
      refine lv_dup hx hb dX3_readsDigit_44 rfl ?_
      obtain ⟨v_11, hv_11, h⟩ := obn h
      refine w_getI (ci := 3) (j := 2) hC hP rfl inlX3 (by decide) (by decide) rfl hv_11 wl_297 dX3_readsDigit_45 ?_
      refine lv_iconst (v := 1) hx hb dX3_readsDigit_48 (by decide) ?_
      refine lv_iadd hx hb dX3_readsDigit_49 ?_
      obtain ⟨s_12, hs_12, h⟩ := obn h
      refine w_putI (ci := 3) (j := 2) hC hP hS rfl inlX3 tyX3 tyX3_ok nmX3 (by decide) (by decide) rfl rfl rfl rfl hs_12 wl_297 dX3_readsDigit_50 (fun H locs hP hS => ?_)
      refine lv_iconst (v := 1) hx hb dX3_readsDigit_53 (by decide) ?_
      exact w_zret hC hr hlocks hP hS h dX3_readsDigit_54
    · rw [if_neg c_4] at h
      exact X3_readsDigit_k15 hC hr hlocks h hP hS (lv_sub hl [] rfl)
set_option maxRecDepth 100000 in
set_option maxHeartbeats 4000000 in
theorem c_X3_readsDigit {l : Launch} {base : Nat} {D : va_G} {cI cJ : ClassId} {tS : Nat} {n : Nat} {a0 : Nat} {i1 : Int32} {a2 : Nat} {σ : Sg} {r : Int32} {τ : Sg} (h : f_X3_readsDigit n a0 i1 a2 σ = some (r, τ)) : Met l yX3_readsDigit (.code yX3_readsDigit cX3_readsDigit 3 (some .boolean) :: wsL_law) (rmD 1 0 0) (Pw base D cI cJ tS σ [.ref (base + a0), .int i1, .ref (base + a2)]) (QwI base D cI cJ r τ) 0 0 (fun q => base ≤ q) := by
  refine Met.ofW (cc := cX3_readsDigit) (maxL := 3) (ret := (some .boolean)) (by decide) rfl ?_
  intro p e s m args below meth c s₁ B hml hv
  obtain ⟨rfl, hSt, hP⟩ := hv
  have hC : Cx p m c cX3_readsDigit 3 s _ RX3 base D cI cJ tS := ⟨⟨B.exec, B.bytes, hml, findClass_of_methodNamed B.named, fun w hw => atoms_spec (ws := Cond.code yX3_readsDigit cX3_readsDigit 3 (some .boolean) :: wsL_law) B.pre w (List.mem_cons_of_mem _ hw)⟩, hSt⟩
  have hl := lv_entry ([.ref (base + a0), .int i1, .ref (base + a2)]) (n := 3) (Nat.le_of_ble_eq_true rfl)
  rw [lg_entry_eq]
  generalize (lg_sl ([.ref (base + a0), .int i1, .ref (base + a2)]) ++ List.replicate (3 - (lg_sl ([.ref (base + a0), .int i1, .ref (base + a2)])).length) Slot.unset).toArray = ls at hl ⊢
  exact X3_readsDigit_k0 hC B.returns B.notSynchronized h hP va_S.rf hl
-- ===== X3_reads
set_option maxRecDepth 100000 in
set_option maxHeartbeats 4000000 in
theorem X3_reads_k0 (hC : Cx p m c cX3_reads 3 s args RX3 base D cI cJ tS) (hr : meth.sig.returnType = (some .boolean)) (hlocks : meth.locks = false) {n : Nat} {a0 : Nat} {i1 : Int32} {a2 : Nat} {σ : Sg} {r : Int32} {τ : Sg} {H : Heap} {locs : List Loc} {ls : Array Slot} (h : f_X3_reads n a0 i1 a2 σ = some (r, τ)) : Dy base D cI cJ σ H → va_S (fun q => base ≤ q) s.heap H locs → lv_has ls 3 [(0, .ref (base + a0)), (1, .int i1), (2, .ref (base + a2))] → W p l e (rmD 2 0 0) s m args below meth c H locs 0 0 (MQ below (QwI base D cI cJ r τ) args s 0 0 (fun q => base ≤ q)) (F0 m 0 ls []) := by
  intro hP hS hl
  obtain ⟨hx, hb, hml, hown, hts⟩ := hC.1
  unfold f_X3_reads at h
  refine lv_aload_n hx hb dX3_reads_0 rfl (lv_at hl 0 rfl) ?_
  obtain ⟨v_1, hv_1, h⟩ := obn h
  refine w_getI (ci := 3) (j := 2) hC hP rfl inlX3 (by decide) (by decide) rfl hv_1 wl_297 dX3_reads_1 ?_
  refine lv_bipush (v := (-2)) hx hb dX3_reads_4 (by decide) ?_
  refine lv_icmp_ne (tgt := 16) hx hb dX3_reads_6 (by decide) (fun c_2 => ?_) (fun c_2 => ?_)
  · rw [if_neg c_2] at h
    refine lv_aload_n hx hb dX3_reads_16 rfl (lv_at hl 0 rfl) ?_
    obtain ⟨v_3, hv_3, h⟩ := obn h
    refine w_getI (ci := 3) (j := 2) hC hP rfl inlX3 (by decide) (by decide) rfl hv_3 wl_297 dX3_reads_17 ?_
    refine lv_iconst (v := (-1)) hx hb dX3_reads_20 (by decide) ?_
    refine lv_icmp_ne (tgt := 31) hx hb dX3_reads_21 (by decide) (fun c_4 => ?_) (fun c_4 => ?_)
    · rw [if_neg c_4] at h
      refine lv_iload_n hx hb dX3_reads_31 rfl (lv_at hl 1 rfl) ?_
      refine lv_bipush (v := 59) hx hb dX3_reads_32 (by decide) ?_
      refine lv_icmp_ne (tgt := 43) hx hb dX3_reads_34 (by decide) (fun c_5 => ?_) (fun c_5 => ?_)
      · rw [if_neg c_5] at h
        refine lv_aload_n hx hb dX3_reads_43 rfl (lv_at hl 0 rfl) ?_
        refine lv_iload_n hx hb dX3_reads_44 rfl (lv_at hl 1 rfl) ?_
        refine lv_aload_n hx hb dX3_reads_45 rfl (lv_at hl 2 rfl) ?_
        obtain ⟨u_6, hu_6, h⟩ := obn h
        obtain ⟨w_7, hw_7, h⟩ := obn h
        refine k_I (r_virt (As := [.int i1, .ref (base + a2)]) (rest := []) hC hP hS (ci := 3) rfl (by decide) hu_6 (c_X3_readsDigit (l := l) (base := base) (D := D) (cI := cI) (cJ := cJ) (tS := tS) hw_7) wl_301 wl_302 wl_303 wl_46 wl_300 rfl rfl hd_X3_readsDigit ⟨Nat.le_of_ble_eq_true rfl, Nat.le_of_ble_eq_true rfl⟩ rfl hl.1 rfl (Nat.le_of_ble_eq_true rfl) dX3_reads_46 ⟨Nat.le_of_ble_eq_true rfl, Nat.le_of_ble_eq_true rfl⟩) hS (fun H locs hP hS => ?_)
        exact w_zret hC hr hlocks hP hS h dX3_reads_49
      · rw [if_pos c_5] at h
        refine lv_aload_n hx hb dX3_reads_37 rfl (lv_at hl 0 rfl) ?_
        refine lv_aload_n hx hb dX3_reads_38 rfl (lv_at hl 2 rfl) ?_
        obtain ⟨u_8, hu_8, h⟩ := obn h
        obtain ⟨w_9, hw_9, h⟩ := obn h
        refine k_I (r_virt (As := [.ref (base + a2)]) (rest := []) hC hP hS (ci := 3) rfl (by decide) hu_8 (c_X3_readsBetween (l := l) (base := base) (D := D) (cI := cI) (cJ := cJ) (tS := tS) hw_9) wl_305 wl_306 wl_307 wl_46 wl_304 rfl rfl hd_X3_readsBetween ⟨Nat.le_of_ble_eq_true rfl, Nat.le_of_ble_eq_true rfl⟩ rfl hl.1 rfl (Nat.le_of_ble_eq_true rfl) dX3_reads_39 ⟨Nat.le_of_ble_eq_true rfl, Nat.le_of_ble_eq_true rfl⟩) hS (fun H locs hP hS => ?_)
        exact w_zret hC hr hlocks hP hS h dX3_reads_42
    · rw [if_pos c_4] at h
      refine lv_aload_n hx hb dX3_reads_24 rfl (lv_at hl 0 rfl) ?_
      refine lv_iload_n hx hb dX3_reads_25 rfl (lv_at hl 1 rfl) ?_
      refine lv_aload_n hx hb dX3_reads_26 rfl (lv_at hl 2 rfl) ?_
      obtain ⟨u_10, hu_10, h⟩ := obn h
      obtain ⟨w_11, hw_11, h⟩ := obn h
      refine k_I (r_virt (As := [.int i1, .ref (base + a2)]) (rest := []) hC hP hS (ci := 3) rfl (by decide) hu_10 (c_X3_readsLetter (l := l) (base := base) (D := D) (cI := cI) (cJ := cJ) (tS := tS) hw_11) wl_309 wl_310 wl_311 wl_46 wl_308 rfl rfl hd_X3_readsLetter ⟨Nat.le_of_ble_eq_true rfl, Nat.le_of_ble_eq_true rfl⟩ rfl hl.1 rfl (Nat.le_of_ble_eq_true rfl) dX3_reads_27 ⟨Nat.le_of_ble_eq_true rfl, Nat.le_of_ble_eq_true rfl⟩) hS (fun H locs hP hS => ?_)
      exact w_zret hC hr hlocks hP hS h dX3_reads_30
  · rw [if_pos c_2] at h
    refine lv_aload_n hx hb dX3_reads_9 rfl (lv_at hl 0 rfl) ?_
    refine lv_iload_n hx hb dX3_reads_10 rfl (lv_at hl 1 rfl) ?_
    refine lv_aload_n hx hb dX3_reads_11 rfl (lv_at hl 2 rfl) ?_
    obtain ⟨u_12, hu_12, h⟩ := obn h
    obtain ⟨w_13, hw_13, h⟩ := obn h
    refine k_I (r_virt (As := [.int i1, .ref (base + a2)]) (rest := []) hC hP hS (ci := 3) rfl (by decide) hu_12 (c_X3_readsStop (l := l) (base := base) (D := D) (cI := cI) (cJ := cJ) (tS := tS) hw_13) wl_313 wl_314 wl_315 wl_46 wl_312 rfl rfl hd_X3_readsStop ⟨Nat.le_of_ble_eq_true rfl, Nat.le_of_ble_eq_true rfl⟩ rfl hl.1 rfl (Nat.le_of_ble_eq_true rfl) dX3_reads_12 ⟨Nat.le_of_ble_eq_true rfl, Nat.le_of_ble_eq_true rfl⟩) hS (fun H locs hP hS => ?_)
    exact w_zret hC hr hlocks hP hS h dX3_reads_15
set_option maxRecDepth 100000 in
set_option maxHeartbeats 4000000 in
theorem c_X3_reads {l : Launch} {base : Nat} {D : va_G} {cI cJ : ClassId} {tS : Nat} {n : Nat} {a0 : Nat} {i1 : Int32} {a2 : Nat} {σ : Sg} {r : Int32} {τ : Sg} (h : f_X3_reads n a0 i1 a2 σ = some (r, τ)) : Met l yX3_reads (.code yX3_reads cX3_reads 3 (some .boolean) :: wsL_law) (rmD 2 0 0) (Pw base D cI cJ tS σ [.ref (base + a0), .int i1, .ref (base + a2)]) (QwI base D cI cJ r τ) 0 0 (fun q => base ≤ q) := by
  refine Met.ofW (cc := cX3_reads) (maxL := 3) (ret := (some .boolean)) (by decide) rfl ?_
  intro p e s m args below meth c s₁ B hml hv
  obtain ⟨rfl, hSt, hP⟩ := hv
  have hC : Cx p m c cX3_reads 3 s _ RX3 base D cI cJ tS := ⟨⟨B.exec, B.bytes, hml, findClass_of_methodNamed B.named, fun w hw => atoms_spec (ws := Cond.code yX3_reads cX3_reads 3 (some .boolean) :: wsL_law) B.pre w (List.mem_cons_of_mem _ hw)⟩, hSt⟩
  have hl := lv_entry ([.ref (base + a0), .int i1, .ref (base + a2)]) (n := 3) (Nat.le_of_ble_eq_true rfl)
  rw [lg_entry_eq]
  generalize (lg_sl ([.ref (base + a0), .int i1, .ref (base + a2)]) ++ List.replicate (3 - (lg_sl ([.ref (base + a0), .int i1, .ref (base + a2)])).length) Slot.unset).toArray = ls at hl ⊢
  exact X3_reads_k0 hC B.returns B.notSynchronized h hP va_S.rf hl
-- ===== X3_readInto
set_option maxRecDepth 100000 in
set_option maxHeartbeats 4000000 in
theorem X3_readInto_k17 (hC : Cx p m c cX3_readInto 3 s args RX3 base D cI cJ tS) (hr : meth.sig.returnType = (some .int)) (hlocks : meth.locks = false) {n : Nat} (ih : (∀ {a0 : Nat} {a1 : Nat} {i2 : Int32} {σ : Sg} {r : Int32} {τ : Sg} {H : Heap} {locs : List Loc} {ls : Array Slot}, X3_readInto_run n a0 a1 i2 σ = some (r, τ) → Dy base D cI cJ σ H → va_S (fun q => base ≤ q) s.heap H locs → lv_has ls 3 [(0, .ref (base + a0)), (1, .ref (base + a1)), (2, .int i2)] → W p l e (rmD 3 0 0) s m args below meth c H locs 0 0 (MQ below (QwI base D cI cJ r τ) args s 0 0 (fun q => base ≤ q)) (F0 m 17 ls []))) {a0 : Nat} {a1 : Nat} {i2 : Int32} {σ : Sg} {r : Int32} {τ : Sg} {H : Heap} {locs : List Loc} {ls : Array Slot} (h : X3_readInto_b17 n (X3_readInto_run n) a0 a1 i2 σ = some (r, τ)) : Dy base D cI cJ σ H → va_S (fun q => base ≤ q) s.heap H locs → lv_has ls 3 [(0, .ref (base + a0)), (1, .ref (base + a1)), (2, .int i2)] → W p l e (rmD 3 0 0) s m args below meth c H locs 0 0 (MQ below (QwI base D cI cJ r τ) args s 0 0 (fun q => base ≤ q)) (F0 m 17 ls []) := by
  intro hP hS hl
  obtain ⟨hx, hb, hml, hown, hts⟩ := hC.1
  unfold X3_readInto_b17 at h
  refine lv_iload_n hx hb dX3_readInto_17 rfl (lv_at hl 2 rfl) ?_
  refine lv_aload_n hx hb dX3_readInto_18 rfl (lv_at hl 0 rfl) ?_
  obtain ⟨v_1, hv_1, h⟩ := obn h
  refine w_getI (ci := 3) (j := 1) hC hP rfl inlX3 (by decide) (by decide) rfl hv_1 wl_283 dX3_readInto_19 ?_
  refine lv_icmp_ge (tgt := 47) hx hb dX3_readInto_22 (by decide) (fun c_2 => ?_) (fun c_2 => ?_)
  · rw [if_pos c_2] at h
    refine lv_aload_n hx hb dX3_readInto_47 rfl (lv_at hl 0 rfl) ?_
    obtain ⟨v_3, hv_3, h⟩ := obn h
    refine w_getI (ci := 3) (j := 2) hC hP rfl inlX3 (by decide) (by decide) rfl hv_3 wl_297 dX3_readInto_48 ?_
    refine lv_iconst (v := 1) hx hb dX3_readInto_51 (by decide) ?_
    refine lv_icmp_ge (tgt := 62) hx hb dX3_readInto_52 (by decide) (fun c_4 => ?_) (fun c_4 => ?_)
    · rw [if_pos c_4] at h
      refine lv_bipush (v := (-6)) hx hb dX3_readInto_62 (by decide) ?_
      obtain ⟨rfl, rfl⟩ := Prod.mk.inj (Option.some.inj h)
      exact w_iret hC hr hlocks hP hS dX3_readInto_64
    · rw [if_neg c_4] at h
      refine lv_aload_n hx hb dX3_readInto_55 rfl (lv_at hl 0 rfl) ?_
      obtain ⟨v_5, hv_5, h⟩ := obn h
      refine w_getI (ci := 3) (j := 1) hC hP rfl inlX3 (by decide) (by decide) rfl hv_5 wl_283 dX3_readInto_56 ?_
      refine lv_goto (tgt := 64) hx hb dX3_readInto_59 (by decide) ?_
      obtain ⟨rfl, rfl⟩ := Prod.mk.inj (Option.some.inj h)
      exact w_iret hC hr hlocks hP hS dX3_readInto_64
  · rw [if_neg c_2] at h
    refine lv_aload_n hx hb dX3_readInto_25 rfl (lv_at hl 0 rfl) ?_
    refine lv_aload_n hx hb dX3_readInto_26 rfl (lv_at hl 0 rfl) ?_
    obtain ⟨q_6, hq_6, h⟩ := obn h
    refine w_getR (ci := 3) (j := 0) hC hP rfl inlX3 (by decide) (by decide) rfl hq_6 wl_19 dX3_readInto_27 ?_
    refine lv_iload_n hx hb dX3_readInto_30 rfl (lv_at hl 2 rfl) ?_
    obtain ⟨v_7, hv_7, h⟩ := obn h
    refine w_iald hC hP hv_7 dX3_readInto_31 ?_
    refine lv_aload_n hx hb dX3_readInto_32 rfl (lv_at hl 1 rfl) ?_
    obtain ⟨u_8, hu_8, h⟩ := obn h
    obtain ⟨w_9, hw_9, h⟩ := obn h
    refine k_I (r_virt (As := [.int v_7, .ref (base + a1)]) (rest := []) hC hP hS (ci := 3) rfl (by decide) hu_8 (c_X3_reads (l := l) (base := base) (D := D) (cI := cI) (cJ := cJ) (tS := tS) hw_9) wl_317 wl_318 wl_319 wl_46 wl_316 rfl rfl hd_X3_reads ⟨Nat.le_of_ble_eq_true rfl, Nat.le_of_ble_eq_true rfl⟩ rfl hl.1 rfl (Nat.le_of_ble_eq_true rfl) dX3_readInto_33 ⟨Nat.le_of_ble_eq_true rfl, Nat.le_of_ble_eq_true rfl⟩) hS (fun H locs hP hS => ?_)
    refine lv_if_ne (tgt := 41) hx hb dX3_readInto_36 (by decide) (fun c_10 => ?_) (fun c_10 => ?_)
    · rw [if_neg c_10] at h
      obtain ⟨i2_11, hi2_11, h⟩ := obn h
      refine lv_iinc (v := i2_11) (lv' := [(2, .int i2_11), (0, .ref (base + a0)), (1, .ref (base + a1))]) hx hb dX3_readInto_41 hl (k := 2) rfl (Option.some.inj hi2_11) (by decide) rfl (fun ls hl => ?_)
      refine lv_goto (tgt := 17) hx hb dX3_readInto_44 (by decide) ?_
      exact ih h hP hS (lv_sub hl [1, 2, 0] rfl)
    · rw [if_pos c_10] at h
      refine lv_iload_n hx hb dX3_readInto_39 rfl (lv_at hl 2 rfl) ?_
      obtain ⟨rfl, rfl⟩ := Prod.mk.inj (Option.some.inj h)
      exact w_iret hC hr hlocks hP hS dX3_readInto_40
set_option maxRecDepth 100000 in
set_option maxHeartbeats 4000000 in
theorem X3_readInto_k0 (hC : Cx p m c cX3_readInto 3 s args RX3 base D cI cJ tS) (hr : meth.sig.returnType = (some .int)) (hlocks : meth.locks = false) {n : Nat} (ih : (∀ {a0 : Nat} {a1 : Nat} {i2 : Int32} {σ : Sg} {r : Int32} {τ : Sg} {H : Heap} {locs : List Loc} {ls : Array Slot}, X3_readInto_run n a0 a1 i2 σ = some (r, τ) → Dy base D cI cJ σ H → va_S (fun q => base ≤ q) s.heap H locs → lv_has ls 3 [(0, .ref (base + a0)), (1, .ref (base + a1)), (2, .int i2)] → W p l e (rmD 3 0 0) s m args below meth c H locs 0 0 (MQ below (QwI base D cI cJ r τ) args s 0 0 (fun q => base ≤ q)) (F0 m 17 ls []))) {a0 : Nat} {a1 : Nat} {σ : Sg} {r : Int32} {τ : Sg} {H : Heap} {locs : List Loc} {ls : Array Slot} (h : X3_readInto_b0 n (X3_readInto_run n) a0 a1 σ = some (r, τ)) : Dy base D cI cJ σ H → va_S (fun q => base ≤ q) s.heap H locs → lv_has ls 3 [(0, .ref (base + a0)), (1, .ref (base + a1))] → W p l e (rmD 3 0 0) s m args below meth c H locs 0 0 (MQ below (QwI base D cI cJ r τ) args s 0 0 (fun q => base ≤ q)) (F0 m 0 ls []) := by
  intro hP hS hl
  obtain ⟨hx, hb, hml, hown, hts⟩ := hC.1
  unfold X3_readInto_b0 at h
  refine lv_aload_n hx hb dX3_readInto_0 rfl (lv_at hl 1 rfl) ?_
  obtain ⟨u_12, hu_12, h⟩ := obn h
  obtain ⟨w_13, hw_13, h⟩ := obn h
  refine k_V (r_virt (As := []) (rest := []) hC hP hS (ci := 2) rfl (by decide) hu_12 (c_X2_clear (l := l) (base := base) (D := D) (cI := cI) (cJ := cJ) (tS := tS) hw_13) wl_321 wl_322 wl_323 wl_59 wl_320 rfl rfl hd_X2_clear ⟨Nat.le_of_ble_eq_true rfl, Nat.le_of_ble_eq_true rfl⟩ rfl hl.1 rfl (Nat.le_of_ble_eq_true rfl) dX3_readInto_1 ⟨Nat.le_of_ble_eq_true rfl, Nat.le_of_ble_eq_true rfl⟩) hS (fun H locs hP hS => ?_)
  refine lv_aload_n hx hb dX3_readInto_4 rfl (lv_at hl 0 rfl) ?_
  refine lv_bipush (v := (-2)) hx hb dX3_readInto_5 (by decide) ?_
  obtain ⟨s_14, hs_14, h⟩ := obn h
  refine w_putI (ci := 3) (j := 2) hC hP hS rfl inlX3 tyX3 tyX3_ok nmX3 (by decide) (by decide) rfl rfl rfl rfl hs_14 wl_297 dX3_readInto_7 (fun H locs hP hS => ?_)
  refine lv_aload_n hx hb dX3_readInto_10 rfl (lv_at hl 0 rfl) ?_
  refine lv_iconst (v := 0) hx hb dX3_readInto_11 (by decide) ?_
  obtain ⟨s_15, hs_15, h⟩ := obn h
  refine w_putI (ci := 3) (j := 3) hC hP hS rfl inlX3 tyX3 tyX3_ok nmX3 (by decide) (by decide) rfl rfl rfl rfl hs_15 wl_296 dX3_readInto_12 (fun H locs hP hS => ?_)
  refine lv_iconst (v := 0) hx hb dX3_readInto_15 (by decide) ?_
  refine lv_istore_n (lv' := [(2, .int 0), (0, .ref (base + a0)), (1, .ref (base + a1))]) hx hb dX3_readInto_16 rfl hl (by decide) rfl (fun ls hl => ?_)
  exact ih h hP hS (lv_sub hl [1, 2, 0] rfl)
set_option maxRecDepth 100000 in
set_option maxHeartbeats 4000000 in
theorem X3_readInto_all (hC : Cx p m c cX3_readInto 3 s args RX3 base D cI cJ tS) (hr : meth.sig.returnType = (some .int)) (hlocks : meth.locks = false) : ∀ n : Nat, (∀ {a0 : Nat} {a1 : Nat} {i2 : Int32} {σ : Sg} {r : Int32} {τ : Sg} {H : Heap} {locs : List Loc} {ls : Array Slot}, X3_readInto_run n a0 a1 i2 σ = some (r, τ) → Dy base D cI cJ σ H → va_S (fun q => base ≤ q) s.heap H locs → lv_has ls 3 [(0, .ref (base + a0)), (1, .ref (base + a1)), (2, .int i2)] → W p l e (rmD 3 0 0) s m args below meth c H locs 0 0 (MQ below (QwI base D cI cJ r τ) args s 0 0 (fun q => base ≤ q)) (F0 m 17 ls [])) := by
  intro n
  induction n with
  | zero => exact fun h => (by cases h)
  | succ n ih => exact fun h => X3_readInto_k17 hC hr hlocks ih h
set_option maxRecDepth 100000 in
set_option maxHeartbeats 4000000 in
theorem c_X3_readInto {l : Launch} {base : Nat} {D : va_G} {cI cJ : ClassId} {tS : Nat} {n : Nat} {a0 : Nat} {a1 : Nat} {σ : Sg} {r : Int32} {τ : Sg} (h : f_X3_readInto n a0 a1 σ = some (r, τ)) : Met l yX3_readInto (.code yX3_readInto cX3_readInto 3 (some .int) :: wsL_law) (rmD 3 0 0) (Pw base D cI cJ tS σ [.ref (base + a0), .ref (base + a1)]) (QwI base D cI cJ r τ) 0 0 (fun q => base ≤ q) := by
  refine Met.ofW (cc := cX3_readInto) (maxL := 3) (ret := (some .int)) (by decide) rfl ?_
  intro p e s m args below meth c s₁ B hml hv
  obtain ⟨rfl, hSt, hP⟩ := hv
  have hC : Cx p m c cX3_readInto 3 s _ RX3 base D cI cJ tS := ⟨⟨B.exec, B.bytes, hml, findClass_of_methodNamed B.named, fun w hw => atoms_spec (ws := Cond.code yX3_readInto cX3_readInto 3 (some .int) :: wsL_law) B.pre w (List.mem_cons_of_mem _ hw)⟩, hSt⟩
  have hl := lv_entry ([.ref (base + a0), .ref (base + a1)]) (n := 3) (Nat.le_of_ble_eq_true rfl)
  rw [lg_entry_eq]
  generalize (lg_sl ([.ref (base + a0), .ref (base + a1)]) ++ List.replicate (3 - (lg_sl ([.ref (base + a0), .ref (base + a1)])).length) Slot.unset).toArray = ls at hl ⊢
  exact X3_readInto_k0 hC B.returns B.notSynchronized (X3_readInto_all hC B.returns B.notSynchronized n) h hP va_S.rf hl
-- ===== X4_fault
set_option maxRecDepth 100000 in
set_option maxHeartbeats 4000000 in
theorem X4_fault_k0 (hC : Cx p m c cX4_fault 1 s args RX4 base D cI cJ tS) (hr : meth.sig.returnType = (some .int)) (hlocks : meth.locks = false) {n : Nat} {a0 : Nat} {σ : Sg} {r : Int32} {τ : Sg} {H : Heap} {locs : List Loc} {ls : Array Slot} (h : f_X4_fault n a0 σ = some (r, τ)) : Dy base D cI cJ σ H → va_S (fun q => base ≤ q) s.heap H locs → lv_has ls 1 [(0, .ref (base + a0))] → W p l e (rmD 4 0 0) s m args below meth c H locs 0 0 (MQ below (QwI base D cI cJ r τ) args s 0 0 (fun q => base ≤ q)) (F0 m 0 ls []) := by
  intro hP hS hl
  obtain ⟨hx, hb, hml, hown, hts⟩ := hC.1
  unfold f_X4_fault at h
  refine lv_aload_n hx hb dX4_fault_0 rfl (lv_at hl 0 rfl) ?_
  obtain ⟨q_1, hq_1, h⟩ := obn h
  refine w_getR (ci := 4) (j := 1) hC hP rfl inlX4 (by decide) (by decide) rfl hq_1 wl_49 dX4_fault_1 ?_
  refine lv_aload_n hx hb dX4_fault_4 rfl (lv_at hl 0 rfl) ?_
  obtain ⟨q_2, hq_2, h⟩ := obn h
  refine w_getR (ci := 4) (j := 5) hC hP rfl inlX4 (by decide) (by decide) rfl hq_2 wl_63 dX4_fault_5 ?_
  obtain ⟨u_3, hu_3, h⟩ := obn h
  obtain ⟨w_4, hw_4, h⟩ := obn h
  refine k_I (r_virt (As := [.ref (base + q_2)]) (rest := []) hC hP hS (ci := 3) rfl (by decide) hu_3 (c_X3_readInto (l := l) (base := base) (D := D) (cI := cI) (cJ := cJ) (tS := tS) hw_4) wl_325 wl_326 wl_327 wl_46 wl_324 rfl rfl hd_X3_readInto ⟨Nat.le_of_ble_eq_true rfl, Nat.le_of_ble_eq_true rfl⟩ rfl hl.1 rfl (Nat.le_of_ble_eq_true rfl) dX4_fault_8 ⟨Nat.le_of_ble_eq_true rfl, Nat.le_of_ble_eq_true rfl⟩) hS (fun H locs hP hS => ?_)
  obtain ⟨rfl, rfl⟩ := Prod.mk.inj (Option.some.inj h)
  exact w_iret hC hr hlocks hP hS dX4_fault_11
set_option maxRecDepth 100000 in
set_option maxHeartbeats 4000000 in
theorem c_X4_fault {l : Launch} {base : Nat} {D : va_G} {cI cJ : ClassId} {tS : Nat} {n : Nat} {a0 : Nat} {σ : Sg} {r : Int32} {τ : Sg} (h : f_X4_fault n a0 σ = some (r, τ)) : Met l yX4_fault (.code yX4_fault cX4_fault 1 (some .int) :: wsL_law) (rmD 4 0 0) (Pw base D cI cJ tS σ [.ref (base + a0)]) (QwI base D cI cJ r τ) 0 0 (fun q => base ≤ q) := by
  refine Met.ofW (cc := cX4_fault) (maxL := 1) (ret := (some .int)) (by decide) rfl ?_
  intro p e s m args below meth c s₁ B hml hv
  obtain ⟨rfl, hSt, hP⟩ := hv
  have hC : Cx p m c cX4_fault 1 s _ RX4 base D cI cJ tS := ⟨⟨B.exec, B.bytes, hml, findClass_of_methodNamed B.named, fun w hw => atoms_spec (ws := Cond.code yX4_fault cX4_fault 1 (some .int) :: wsL_law) B.pre w (List.mem_cons_of_mem _ hw)⟩, hSt⟩
  have hl := lv_entry ([.ref (base + a0)]) (n := 1) (Nat.le_of_ble_eq_true rfl)
  rw [lg_entry_eq]
  generalize (lg_sl ([.ref (base + a0)]) ++ List.replicate (1 - (lg_sl ([.ref (base + a0)])).length) Slot.unset).toArray = ls at hl ⊢
  exact X4_fault_k0 hC B.returns B.notSynchronized h hP va_S.rf hl
-- ===== X5_faultOf
set_option maxRecDepth 100000 in
set_option maxHeartbeats 4000000 in
theorem X5_faultOf_k143 (hC : Cx p m c cX5_faultOf 7 s args RX5 base D cI cJ tS) (hr : meth.sig.returnType = (some .int)) (hlocks : meth.locks = false) {n : Nat} (ih : (∀ {a0 : Nat} {i1 : Int32} {i2 : Int32} {i3 : Int32} {σ : Sg} {r : Int32} {τ : Sg} {H : Heap} {locs : List Loc} {ls : Array Slot}, X5_faultOf_run n a0 i1 i2 i3 σ = some (r, τ) → Dy base D cI cJ σ H → va_S (fun q => base ≤ q) s.heap H locs → lv_has ls 7 [(0, .ref (base + a0)), (1, .int i1), (2, .int i2), (3, .int i3)] → W p l e (rmD 1 0 0) s m args below meth c H locs 0 0 (MQ below (QwI base D cI cJ r τ) args s 0 0 (fun q => base ≤ q)) (F0 m 6 ls []))) {a0 : Nat} {i2 : Int32} {i3 : Int32} {i6 : Int32} {σ : Sg} {r : Int32} {τ : Sg} {H : Heap} {locs : List Loc} {ls : Array Slot} (h : X5_faultOf_b143 n (X5_faultOf_run n) a0 i2 i3 i6 σ = some (r, τ)) : Dy base D cI cJ σ H → va_S (fun q => base ≤ q) s.heap H locs → lv_has ls 7 [(0, .ref (base + a0)), (2, .int i2), (3, .int i3), (6, .int i6)] → W p l e (rmD 1 0 0) s m args below meth c H locs 0 0 (MQ below (QwI base D cI cJ r τ) args s 0 0 (fun q => base ≤ q)) (F0 m 143 ls []) := by
  intro hP hS hl
  obtain ⟨hx, hb, hml, hown, hts⟩ := hC.1
  unfold X5_faultOf_b143 at h
  refine lv_iload hx hb dX5_faultOf_143 (lv_at hl 3 rfl) ?_
  refine lv_if_ge (tgt := 150) hx hb dX5_faultOf_145 (by decide) (fun c_1 => ?_) (fun c_1 => ?_)
  · rw [if_pos c_1] at h
    refine lv_iload hx hb dX5_faultOf_150 (lv_at hl 3 rfl) ?_
    refine lv_istore_n (lv' := [(1, .int i6), (0, .ref (base + a0)), (2, .int i2), (3, .int i3), (6, .int i6)]) hx hb dX5_faultOf_152 rfl hl (by decide) rfl (fun ls hl => ?_)
    obtain ⟨i3_2, hi3_2, h⟩ := obn h
    refine lv_iinc (v := i3_2) (lv' := [(3, .int i3_2), (1, .int i6), (0, .ref (base + a0)), (2, .int i2), (6, .int i6)]) hx hb dX5_faultOf_153 hl (k := 3) rfl (Option.some.inj hi3_2) (by decide) rfl (fun ls hl => ?_)
    refine lv_goto (tgt := 6) hx hb dX5_faultOf_156 (by decide) ?_
    exact ih h hP hS (lv_sub hl [2, 1, 3, 0] rfl)
  · rw [if_neg c_1] at h
    refine lv_iload_n hx hb dX5_faultOf_148 rfl (lv_at hl 2 rfl) ?_
    obtain ⟨rfl, rfl⟩ := Prod.mk.inj (Option.some.inj h)
    exact w_iret hC hr hlocks hP hS dX5_faultOf_149
set_option maxRecDepth 100000 in
set_option maxHeartbeats 4000000 in
theorem X5_faultOf_k93 (hC : Cx p m c cX5_faultOf 7 s args RX5 base D cI cJ tS) (hr : meth.sig.returnType = (some .int)) (hlocks : meth.locks = false) {n : Nat} (ih : (∀ {a0 : Nat} {i1 : Int32} {i2 : Int32} {i3 : Int32} {σ : Sg} {r : Int32} {τ : Sg} {H : Heap} {locs : List Loc} {ls : Array Slot}, X5_faultOf_run n a0 i1 i2 i3 σ = some (r, τ) → Dy base D cI cJ σ H → va_S (fun q => base ≤ q) s.heap H locs → lv_has ls 7 [(0, .ref (base + a0)), (1, .int i1), (2, .int i2), (3, .int i3)] → W p l e (rmD 1 0 0) s m args below meth c H locs 0 0 (MQ below (QwI base D cI cJ r τ) args s 0 0 (fun q => base ≤ q)) (F0 m 6 ls []))) {a0 : Nat} {i2 : Int32} {i3 : Int32} {σ : Sg} {r : Int32} {τ : Sg} {H : Heap} {locs : List Loc} {ls : Array Slot} (h : X5_faultOf_b93 n (X5_faultOf_run n) a0 i2 i3 σ = some (r, τ)) : Dy base D cI cJ σ H → va_S (fun q => base ≤ q) s.heap H locs → lv_has ls 7 [(0, .ref (base + a0)), (2, .int i2), (3, .int i3)] → W p l e (rmD 1 0 0) s m args below meth c H locs 0 0 (MQ below (QwI base D cI cJ r τ) args s 0 0 (fun q => base ≤ q)) (F0 m 93 ls []) := by
  intro hP hS hl
  obtain ⟨hx, hb, hml, hown, hts⟩ := hC.1
  unfold X5_faultOf_b93 at h
  refine lv_iconst (v := 2) hx hb dX5_faultOf_93 (by decide) ?_
  refine lv_istore (lv' := [(6, .int 2), (0, .ref (base + a0)), (2, .int i2), (3, .int i3)]) hx hb dX5_faultOf_94 hl (by decide) rfl (fun ls hl => ?_)
  refine lv_goto (tgt := 143) hx hb dX5_faultOf_96 (by decide) ?_
  exact X5_faultOf_k143 hC hr hlocks ih h hP hS (lv_sub hl [1, 2, 3, 0] rfl)
set_option maxRecDepth 100000 in
set_option maxHeartbeats 4000000 in
theorem X5_faultOf_k121 (hC : Cx p m c cX5_faultOf 7 s args RX5 base D cI cJ tS) (hr : meth.sig.returnType = (some .int)) (hlocks : meth.locks = false) {n : Nat} (ih : (∀ {a0 : Nat} {i1 : Int32} {i2 : Int32} {i3 : Int32} {σ : Sg} {r : Int32} {τ : Sg} {H : Heap} {locs : List Loc} {ls : Array Slot}, X5_faultOf_run n a0 i1 i2 i3 σ = some (r, τ) → Dy base D cI cJ σ H → va_S (fun q => base ≤ q) s.heap H locs → lv_has ls 7 [(0, .ref (base + a0)), (1, .int i1), (2, .int i2), (3, .int i3)] → W p l e (rmD 1 0 0) s m args below meth c H locs 0 0 (MQ below (QwI base D cI cJ r τ) args s 0 0 (fun q => base ≤ q)) (F0 m 6 ls []))) {a0 : Nat} {i1 : Int32} {i2 : Int32} {i3 : Int32} {i4 : Int32} {i6 : Int32} {σ : Sg} {r : Int32} {τ : Sg} {H : Heap} {locs : List Loc} {ls : Array Slot} (h : X5_faultOf_b121 n (X5_faultOf_run n) a0 i1 i2 i3 i4 i6 σ = some (r, τ)) : Dy base D cI cJ σ H → va_S (fun q => base ≤ q) s.heap H locs → lv_has ls 7 [(0, .ref (base + a0)), (1, .int i1), (2, .int i2), (3, .int i3), (4, .int i4), (6, .int i6)] → W p l e (rmD 1 0 0) s m args below meth c H locs 0 0 (MQ below (QwI base D cI cJ r τ) args s 0 0 (fun q => base ≤ q)) (F0 m 121 ls []) := by
  intro hP hS hl
  obtain ⟨hx, hb, hml, hown, hts⟩ := hC.1
  unfold X5_faultOf_b121 at h
  refine lv_iload_n hx hb dX5_faultOf_121 rfl (lv_at hl 1 rfl) ?_
  refine lv_iconst (v := 2) hx hb dX5_faultOf_122 (by decide) ?_
  refine lv_icmp_le (tgt := 143) hx hb dX5_faultOf_123 (by decide) (fun c_3 => ?_) (fun c_3 => ?_)
  · rw [if_pos c_3] at h
    exact X5_faultOf_k143 hC hr hlocks ih h hP hS (lv_sub hl [0, 2, 3, 5] rfl)
  · rw [if_neg c_3] at h
    refine lv_iload hx hb dX5_faultOf_126 (lv_at hl 4 rfl) ?_
    refine lv_bipush (v := 59) hx hb dX5_faultOf_128 (by decide) ?_
    refine lv_icmp_ne (tgt := 143) hx hb dX5_faultOf_130 (by decide) (fun c_4 => ?_) (fun c_4 => ?_)
    · rw [if_neg c_4] at h
      exact X5_faultOf_k143 hC hr hlocks ih h hP hS (lv_sub hl [0, 2, 3, 5] rfl)
    · rw [if_pos c_4] at h
      refine lv_iload_n hx hb dX5_faultOf_133 rfl (lv_at hl 2 rfl) ?_
      refine lv_sipush (v := 1023) hx hb dX5_faultOf_134 (by decide) ?_
      refine lv_icmp_eq (tgt := 143) hx hb dX5_faultOf_137 (by decide) (fun c_5 => ?_) (fun c_5 => ?_)
      · rw [if_pos c_5] at h
        exact X5_faultOf_k143 hC hr hlocks ih h hP hS (lv_sub hl [0, 2, 3, 5] rfl)
      · rw [if_neg c_5] at h
        refine lv_iconst (v := 0) hx hb dX5_faultOf_140 (by decide) ?_
        refine lv_istore (lv' := [(6, .int 0), (0, .ref (base + a0)), (1, .int i1), (2, .int i2), (3, .int i3), (4, .int i4)]) hx hb dX5_faultOf_141 hl (by decide) rfl (fun ls hl => ?_)
        exact X5_faultOf_k143 hC hr hlocks ih h hP hS (lv_sub hl [1, 3, 4, 0] rfl)
set_option maxRecDepth 100000 in
set_option maxHeartbeats 4000000 in
theorem X5_faultOf_k99 (hC : Cx p m c cX5_faultOf 7 s args RX5 base D cI cJ tS) (hr : meth.sig.returnType = (some .int)) (hlocks : meth.locks = false) {n : Nat} (ih : (∀ {a0 : Nat} {i1 : Int32} {i2 : Int32} {i3 : Int32} {σ : Sg} {r : Int32} {τ : Sg} {H : Heap} {locs : List Loc} {ls : Array Slot}, X5_faultOf_run n a0 i1 i2 i3 σ = some (r, τ) → Dy base D cI cJ σ H → va_S (fun q => base ≤ q) s.heap H locs → lv_has ls 7 [(0, .ref (base + a0)), (1, .int i1), (2, .int i2), (3, .int i3)] → W p l e (rmD 1 0 0) s m args below meth c H locs 0 0 (MQ below (QwI base D cI cJ r τ) args s 0 0 (fun q => base ≤ q)) (F0 m 6 ls []))) {a0 : Nat} {i1 : Int32} {i2 : Int32} {i3 : Int32} {i4 : Int32} {i5 : Int32} {i6 : Int32} {σ : Sg} {r : Int32} {τ : Sg} {H : Heap} {locs : List Loc} {ls : Array Slot} (h : X5_faultOf_b99 n (X5_faultOf_run n) a0 i1 i2 i3 i4 i5 i6 σ = some (r, τ)) : Dy base D cI cJ σ H → va_S (fun q => base ≤ q) s.heap H locs → lv_has ls 7 [(0, .ref (base + a0)), (1, .int i1), (2, .int i2), (3, .int i3), (4, .int i4), (5, .int i5), (6, .int i6)] → W p l e (rmD 1 0 0) s m args below meth c H locs 0 0 (MQ below (QwI base D cI cJ r τ) args s 0 0 (fun q => base ≤ q)) (F0 m 99 ls []) := by
  intro hP hS hl
  obtain ⟨hx, hb, hml, hown, hts⟩ := hC.1
  unfold X5_faultOf_b99 at h
  refine lv_iload_n hx hb dX5_faultOf_99 rfl (lv_at hl 1 rfl) ?_
  refine lv_iconst (v := 2) hx hb dX5_faultOf_100 (by decide) ?_
  refine lv_iconst (v := 4) hx hb dX5_faultOf_101 (by decide) ?_
  obtain ⟨w_6, hw_6, h⟩ := obn h
  refine k_I (r_stat (As := [.int i1, .int 2, .int 4]) (rest := []) hC hP hS (c_X5_in (l := l) (base := base) (D := D) (cI := cI) (cJ := cJ) (tS := tS) hw_6) wl_111 wl_112 wl_113 wl_110 rfl rfl hd_X5_in ⟨Nat.le_of_ble_eq_true rfl, Nat.le_of_ble_eq_true rfl⟩ rfl hl.1 rfl (Nat.le_of_ble_eq_true rfl) dX5_faultOf_102 ⟨Nat.le_of_ble_eq_true rfl, Nat.le_of_ble_eq_true rfl⟩) hS (fun H locs hP hS => ?_)
  refine lv_if_eq (tgt := 121) hx hb dX5_faultOf_105 (by decide) (fun c_7 => ?_) (fun c_7 => ?_)
  · rw [if_pos c_7] at h
    exact X5_faultOf_k121 hC hr hlocks ih h hP hS (lv_sub hl [0, 1, 2, 3, 4, 6] rfl)
  · rw [if_neg c_7] at h
    refine lv_iload hx hb dX5_faultOf_108 (lv_at hl 5 rfl) ?_
    refine lv_if_eq (tgt := 121) hx hb dX5_faultOf_110 (by decide) (fun c_8 => ?_) (fun c_8 => ?_)
    · rw [if_pos c_8] at h
      exact X5_faultOf_k121 hC hr hlocks ih h hP hS (lv_sub hl [0, 1, 2, 3, 4, 6] rfl)
    · rw [if_neg c_8] at h
      refine lv_iload_n hx hb dX5_faultOf_113 rfl (lv_at hl 1 rfl) ?_
      refine lv_iconst (v := 1) hx hb dX5_faultOf_114 (by decide) ?_
      refine lv_iadd hx hb dX5_faultOf_115 ?_
      obtain ⟨i6_9, hi6_9, h⟩ := obn h
      refine w_eqi (Option.some.inj hi6_9) ?_
      refine lv_istore (lv' := [(6, .int i6_9), (0, .ref (base + a0)), (1, .int i1), (2, .int i2), (3, .int i3), (4, .int i4), (5, .int i5)]) hx hb dX5_faultOf_116 hl (by decide) rfl (fun ls hl => ?_)
      refine lv_goto (tgt := 143) hx hb dX5_faultOf_118 (by decide) ?_
      exact X5_faultOf_k143 hC hr hlocks ih h hP hS (lv_sub hl [1, 3, 4, 0] rfl)
set_option maxRecDepth 100000 in
set_option maxHeartbeats 4000000 in
theorem X5_faultOf_k74 (hC : Cx p m c cX5_faultOf 7 s args RX5 base D cI cJ tS) (hr : meth.sig.returnType = (some .int)) (hlocks : meth.locks = false) {n : Nat} (ih : (∀ {a0 : Nat} {i1 : Int32} {i2 : Int32} {i3 : Int32} {σ : Sg} {r : Int32} {τ : Sg} {H : Heap} {locs : List Loc} {ls : Array Slot}, X5_faultOf_run n a0 i1 i2 i3 σ = some (r, τ) → Dy base D cI cJ σ H → va_S (fun q => base ≤ q) s.heap H locs → lv_has ls 7 [(0, .ref (base + a0)), (1, .int i1), (2, .int i2), (3, .int i3)] → W p l e (rmD 1 0 0) s m args below meth c H locs 0 0 (MQ below (QwI base D cI cJ r τ) args s 0 0 (fun q => base ≤ q)) (F0 m 6 ls []))) {a0 : Nat} {i1 : Int32} {i2 : Int32} {i3 : Int32} {i4 : Int32} {i5 : Int32} {i6 : Int32} {σ : Sg} {r : Int32} {τ : Sg} {H : Heap} {locs : List Loc} {ls : Array Slot} (h : X5_faultOf_b74 n (X5_faultOf_run n) a0 i1 i2 i3 i4 i5 i6 σ = some (r, τ)) : Dy base D cI cJ σ H → va_S (fun q => base ≤ q) s.heap H locs → lv_has ls 7 [(0, .ref (base + a0)), (1, .int i1), (2, .int i2), (3, .int i3), (4, .int i4), (5, .int i5), (6, .int i6)] → W p l e (rmD 1 0 0) s m args below meth c H locs 0 0 (MQ below (QwI base D cI cJ r τ) args s 0 0 (fun q => base ≤ q)) (F0 m 74 ls []) := by
  intro hP hS hl
  obtain ⟨hx, hb, hml, hown, hts⟩ := hC.1
  unfold X5_faultOf_b74 at h
  refine lv_iload_n hx hb dX5_faultOf_74 rfl (lv_at hl 1 rfl) ?_
  refine lv_iconst (v := 1) hx hb dX5_faultOf_75 (by decide) ?_
  refine lv_icmp_ne (tgt := 99) hx hb dX5_faultOf_76 (by decide) (fun c_10 => ?_) (fun c_10 => ?_)
  · rw [if_neg c_10] at h
    exact X5_faultOf_k99 hC hr hlocks ih h hP hS (lv_sub hl [0, 1, 2, 3, 4, 5, 6] rfl)
  · rw [if_pos c_10] at h
    refine lv_iload hx hb dX5_faultOf_79 (lv_at hl 4 rfl) ?_
    refine lv_bipush (v := 99) hx hb dX5_faultOf_81 (by decide) ?_
    refine lv_icmp_eq (tgt := 93) hx hb dX5_faultOf_83 (by decide) (fun c_11 => ?_) (fun c_11 => ?_)
    · rw [if_pos c_11] at h
      exact X5_faultOf_k93 hC hr hlocks ih h hP hS (lv_sub hl [0, 2, 3] rfl)
    · rw [if_neg c_11] at h
      refine lv_iload hx hb dX5_faultOf_86 (lv_at hl 4 rfl) ?_
      refine lv_bipush (v := 103) hx hb dX5_faultOf_88 (by decide) ?_
      refine lv_icmp_ne (tgt := 99) hx hb dX5_faultOf_90 (by decide) (fun c_12 => ?_) (fun c_12 => ?_)
      · rw [if_neg c_12] at h
        exact X5_faultOf_k99 hC hr hlocks ih h hP hS (lv_sub hl [0, 1, 2, 3, 4, 5, 6] rfl)
      · rw [if_pos c_12] at h
        exact X5_faultOf_k93 hC hr hlocks ih h hP hS (lv_sub hl [0, 2, 3] rfl)
set_option maxRecDepth 100000 in
set_option maxHeartbeats 4000000 in
theorem X5_faultOf_k6 (hC : Cx p m c cX5_faultOf 7 s args RX5 base D cI cJ tS) (hr : meth.sig.returnType = (some .int)) (hlocks : meth.locks = false) {n : Nat} (ih : (∀ {a0 : Nat} {i1 : Int32} {i2 : Int32} {i3 : Int32} {σ : Sg} {r : Int32} {τ : Sg} {H : Heap} {locs : List Loc} {ls : Array Slot}, X5_faultOf_run n a0 i1 i2 i3 σ = some (r, τ) → Dy base D cI cJ σ H → va_S (fun q => base ≤ q) s.heap H locs → lv_has ls 7 [(0, .ref (base + a0)), (1, .int i1), (2, .int i2), (3, .int i3)] → W p l e (rmD 1 0 0) s m args below meth c H locs 0 0 (MQ below (QwI base D cI cJ r τ) args s 0 0 (fun q => base ≤ q)) (F0 m 6 ls []))) {a0 : Nat} {i1 : Int32} {i2 : Int32} {i3 : Int32} {σ : Sg} {r : Int32} {τ : Sg} {H : Heap} {locs : List Loc} {ls : Array Slot} (h : X5_faultOf_b6 n (X5_faultOf_run n) a0 i1 i2 i3 σ = some (r, τ)) : Dy base D cI cJ σ H → va_S (fun q => base ≤ q) s.heap H locs → lv_has ls 7 [(0, .ref (base + a0)), (1, .int i1), (2, .int i2), (3, .int i3)] → W p l e (rmD 1 0 0) s m args below meth c H locs 0 0 (MQ below (QwI base D cI cJ r τ) args s 0 0 (fun q => base ≤ q)) (F0 m 6 ls []) := by
  intro hP hS hl
  obtain ⟨hx, hb, hml, hown, hts⟩ := hC.1
  unfold X5_faultOf_b6 at h
  refine lv_iload_n hx hb dX5_faultOf_6 rfl (lv_at hl 3 rfl) ?_
  refine lv_aload_n hx hb dX5_faultOf_7 rfl (lv_at hl 0 rfl) ?_
  obtain ⟨v_13, hv_13, h⟩ := obn h
  refine w_getI (ci := 5) (j := 12) hC hP rfl inlX5 (by decide) (by decide) rfl hv_13 wl_289 dX5_faultOf_8 ?_
  refine lv_icmp_ge (tgt := 159) hx hb dX5_faultOf_11 (by decide) (fun c_14 => ?_) (fun c_14 => ?_)
  · rw [if_pos c_14] at h
    refine lv_iload_n hx hb dX5_faultOf_159 rfl (lv_at hl 1 rfl) ?_
    refine lv_iconst (v := 2) hx hb dX5_faultOf_160 (by decide) ?_
    refine lv_icmp_le (tgt := 169) hx hb dX5_faultOf_161 (by decide) (fun c_15 => ?_) (fun c_15 => ?_)
    · rw [if_pos c_15] at h
      refine lv_aload_n hx hb dX5_faultOf_169 rfl (lv_at hl 0 rfl) ?_
      obtain ⟨v_16, hv_16, h⟩ := obn h
      refine w_getI (ci := 5) (j := 12) hC hP rfl inlX5 (by decide) (by decide) rfl hv_16 wl_289 dX5_faultOf_170 ?_
      obtain ⟨rfl, rfl⟩ := Prod.mk.inj (Option.some.inj h)
      exact w_iret hC hr hlocks hP hS dX5_faultOf_173
    · rw [if_neg c_15] at h
      refine lv_bipush (v := (-6)) hx hb dX5_faultOf_164 (by decide) ?_
      refine lv_goto (tgt := 173) hx hb dX5_faultOf_166 (by decide) ?_
      obtain ⟨rfl, rfl⟩ := Prod.mk.inj (Option.some.inj h)
      exact w_iret hC hr hlocks hP hS dX5_faultOf_173
  · rw [if_neg c_14] at h
    refine lv_aload_n hx hb dX5_faultOf_14 rfl (lv_at hl 0 rfl) ?_
    obtain ⟨q_17, hq_17, h⟩ := obn h
    refine w_getR (ci := 5) (j := 13) hC hP rfl inlX5 (by decide) (by decide) rfl hq_17 wl_75 dX5_faultOf_15 ?_
    refine lv_iload_n hx hb dX5_faultOf_18 rfl (lv_at hl 3 rfl) ?_
    obtain ⟨v_18, hv_18, h⟩ := obn h
    refine w_iald hC hP hv_18 dX5_faultOf_19 ?_
    refine lv_istore (lv' := [(4, .int v_18), (0, .ref (base + a0)), (1, .int i1), (2, .int i2), (3, .int i3)]) hx hb dX5_faultOf_20 hl (by decide) rfl (fun ls hl => ?_)
    refine lv_iload hx hb dX5_faultOf_22 (lv_at hl 0 rfl) ?_
    refine lv_bipush (v := 48) hx hb dX5_faultOf_24 (by decide) ?_
    refine lv_bipush (v := 57) hx hb dX5_faultOf_26 (by decide) ?_
    obtain ⟨w_19, hw_19, h⟩ := obn h
    refine k_I (r_stat (As := [.int v_18, .int 48, .int 57]) (rest := []) hC hP hS (c_X5_in (l := l) (base := base) (D := D) (cI := cI) (cJ := cJ) (tS := tS) hw_19) wl_111 wl_112 wl_113 wl_110 rfl rfl hd_X5_in ⟨Nat.le_of_ble_eq_true rfl, Nat.le_of_ble_eq_true rfl⟩ rfl hl.1 rfl (Nat.le_of_ble_eq_true rfl) dX5_faultOf_28 ⟨Nat.le_of_ble_eq_true rfl, Nat.le_of_ble_eq_true rfl⟩) hS (fun H locs hP hS => ?_)
    refine lv_istore (lv' := [(5, .int w_19.1), (4, .int v_18), (0, .ref (base + a0)), (1, .int i1), (2, .int i2), (3, .int i3)]) hx hb dX5_faultOf_31 hl (by decide) rfl (fun ls hl => ?_)
    refine lv_bipush (v := (-6)) hx hb dX5_faultOf_33 (by decide) ?_
    refine lv_istore (lv' := [(6, .int (-6)), (5, .int w_19.1), (4, .int v_18), (0, .ref (base + a0)), (1, .int i1), (2, .int i2), (3, .int i3)]) hx hb dX5_faultOf_35 hl (by decide) rfl (fun ls hl => ?_)
    refine lv_iload_n hx hb dX5_faultOf_37 rfl (lv_at hl 4 rfl) ?_
    refine lv_if_ne (tgt := 74) hx hb dX5_faultOf_38 (by decide) (fun c_20 => ?_) (fun c_20 => ?_)
    · rw [if_neg c_20] at h
      exact X5_faultOf_k74 hC hr hlocks ih h hP hS (lv_sub hl [3, 4, 5, 6, 2, 1, 0] rfl)
    · rw [if_pos c_20] at h
      refine lv_iload hx hb dX5_faultOf_41 (lv_at hl 1 rfl) ?_
      refine lv_if_eq (tgt := 74) hx hb dX5_faultOf_43 (by decide) (fun c_21 => ?_) (fun c_21 => ?_)
      · rw [if_pos c_21] at h
        exact X5_faultOf_k74 hC hr hlocks ih h hP hS (lv_sub hl [3, 4, 5, 6, 2, 1, 0] rfl)
      · rw [if_neg c_21] at h
        refine lv_iload_n hx hb dX5_faultOf_46 rfl (lv_at hl 5 rfl) ?_
        refine lv_iload hx hb dX5_faultOf_47 (lv_at hl 2 rfl) ?_
        refine lv_bipush (v := 48) hx hb dX5_faultOf_49 (by decide) ?_
        refine lv_isub hx hb dX5_faultOf_51 ?_
        refine lv_ishr hx hb dX5_faultOf_52 ?_
        refine lv_iconst (v := 1) hx hb dX5_faultOf_53 (by decide) ?_
        refine lv_iand hx hb dX5_faultOf_54 ?_
        refine lv_if_ne (tgt := 74) hx hb dX5_faultOf_55 (by decide) (fun c_22 => ?_) (fun c_22 => ?_)
        · rw [if_neg c_22] at h
          exact X5_faultOf_k74 hC hr hlocks ih h hP hS (lv_sub hl [3, 4, 5, 6, 2, 1, 0] rfl)
        · rw [if_pos c_22] at h
          refine lv_iload_n hx hb dX5_faultOf_58 rfl (lv_at hl 5 rfl) ?_
          refine lv_iconst (v := 1) hx hb dX5_faultOf_59 (by decide) ?_
          refine lv_iload hx hb dX5_faultOf_60 (lv_at hl 2 rfl) ?_
          refine lv_bipush (v := 48) hx hb dX5_faultOf_62 (by decide) ?_
          refine lv_isub hx hb dX5_faultOf_64 ?_
          refine lv_ishl hx hb dX5_faultOf_65 ?_
          refine lv_ior hx hb dX5_faultOf_66 ?_
          obtain ⟨i2_23, hi2_23, h⟩ := obn h
          refine w_eqi (Option.some.inj hi2_23) ?_
          refine lv_istore_n (lv' := [(2, .int i2_23), (6, .int (-6)), (5, .int w_19.1), (4, .int v_18), (0, .ref (base + a0)), (1, .int i1), (3, .int i3)]) hx hb dX5_faultOf_67 rfl hl (by decide) rfl (fun ls hl => ?_)
          refine lv_iconst (v := 1) hx hb dX5_faultOf_68 (by decide) ?_
          refine lv_istore (lv' := [(6, .int 1), (2, .int i2_23), (5, .int w_19.1), (4, .int v_18), (0, .ref (base + a0)), (1, .int i1), (3, .int i3)]) hx hb dX5_faultOf_69 hl (by decide) rfl (fun ls hl => ?_)
          refine lv_goto (tgt := 143) hx hb dX5_faultOf_71 (by decide) ?_
          exact X5_faultOf_k143 hC hr hlocks ih h hP hS (lv_sub hl [4, 1, 6, 0] rfl)
set_option maxRecDepth 100000 in
set_option maxHeartbeats 4000000 in
theorem X5_faultOf_k0 (hC : Cx p m c cX5_faultOf 7 s args RX5 base D cI cJ tS) (hr : meth.sig.returnType = (some .int)) (hlocks : meth.locks = false) {n : Nat} (ih : (∀ {a0 : Nat} {i1 : Int32} {i2 : Int32} {i3 : Int32} {σ : Sg} {r : Int32} {τ : Sg} {H : Heap} {locs : List Loc} {ls : Array Slot}, X5_faultOf_run n a0 i1 i2 i3 σ = some (r, τ) → Dy base D cI cJ σ H → va_S (fun q => base ≤ q) s.heap H locs → lv_has ls 7 [(0, .ref (base + a0)), (1, .int i1), (2, .int i2), (3, .int i3)] → W p l e (rmD 1 0 0) s m args below meth c H locs 0 0 (MQ below (QwI base D cI cJ r τ) args s 0 0 (fun q => base ≤ q)) (F0 m 6 ls []))) {a0 : Nat} {σ : Sg} {r : Int32} {τ : Sg} {H : Heap} {locs : List Loc} {ls : Array Slot} (h : X5_faultOf_b0 n (X5_faultOf_run n) a0 σ = some (r, τ)) : Dy base D cI cJ σ H → va_S (fun q => base ≤ q) s.heap H locs → lv_has ls 7 [(0, .ref (base + a0))] → W p l e (rmD 1 0 0) s m args below meth c H locs 0 0 (MQ below (QwI base D cI cJ r τ) args s 0 0 (fun q => base ≤ q)) (F0 m 0 ls []) := by
  intro hP hS hl
  obtain ⟨hx, hb, hml, hown, hts⟩ := hC.1
  unfold X5_faultOf_b0 at h
  refine lv_iconst (v := 0) hx hb dX5_faultOf_0 (by decide) ?_
  refine lv_istore_n (lv' := [(1, .int 0), (0, .ref (base + a0))]) hx hb dX5_faultOf_1 rfl hl (by decide) rfl (fun ls hl => ?_)
  refine lv_iconst (v := 0) hx hb dX5_faultOf_2 (by decide) ?_
  refine lv_istore_n (lv' := [(2, .int 0), (1, .int 0), (0, .ref (base + a0))]) hx hb dX5_faultOf_3 rfl hl (by decide) rfl (fun ls hl => ?_)
  refine lv_iconst (v := 0) hx hb dX5_faultOf_4 (by decide) ?_
  refine lv_istore_n (lv' := [(3, .int 0), (2, .int 0), (1, .int 0), (0, .ref (base + a0))]) hx hb dX5_faultOf_5 rfl hl (by decide) rfl (fun ls hl => ?_)
  exact ih h hP hS (lv_sub hl [3, 2, 1, 0] rfl)
set_option maxRecDepth 100000 in
set_option maxHeartbeats 4000000 in
theorem X5_faultOf_all (hC : Cx p m c cX5_faultOf 7 s args RX5 base D cI cJ tS) (hr : meth.sig.returnType = (some .int)) (hlocks : meth.locks = false) : ∀ n : Nat, (∀ {a0 : Nat} {i1 : Int32} {i2 : Int32} {i3 : Int32} {σ : Sg} {r : Int32} {τ : Sg} {H : Heap} {locs : List Loc} {ls : Array Slot}, X5_faultOf_run n a0 i1 i2 i3 σ = some (r, τ) → Dy base D cI cJ σ H → va_S (fun q => base ≤ q) s.heap H locs → lv_has ls 7 [(0, .ref (base + a0)), (1, .int i1), (2, .int i2), (3, .int i3)] → W p l e (rmD 1 0 0) s m args below meth c H locs 0 0 (MQ below (QwI base D cI cJ r τ) args s 0 0 (fun q => base ≤ q)) (F0 m 6 ls [])) := by
  intro n
  induction n with
  | zero => exact fun h => (by cases h)
  | succ n ih => exact fun h => X5_faultOf_k6 hC hr hlocks ih h
set_option maxRecDepth 100000 in
set_option maxHeartbeats 4000000 in
theorem c_X5_faultOf {l : Launch} {base : Nat} {D : va_G} {cI cJ : ClassId} {tS : Nat} {n : Nat} {a0 : Nat} {σ : Sg} {r : Int32} {τ : Sg} (h : f_X5_faultOf n a0 σ = some (r, τ)) : Met l yX5_faultOf (.code yX5_faultOf cX5_faultOf 7 (some .int) :: wsL_law) (rmD 1 0 0) (Pw base D cI cJ tS σ [.ref (base + a0)]) (QwI base D cI cJ r τ) 0 0 (fun q => base ≤ q) := by
  refine Met.ofW (cc := cX5_faultOf) (maxL := 7) (ret := (some .int)) (by decide) rfl ?_
  intro p e s m args below meth c s₁ B hml hv
  obtain ⟨rfl, hSt, hP⟩ := hv
  have hC : Cx p m c cX5_faultOf 7 s _ RX5 base D cI cJ tS := ⟨⟨B.exec, B.bytes, hml, findClass_of_methodNamed B.named, fun w hw => atoms_spec (ws := Cond.code yX5_faultOf cX5_faultOf 7 (some .int) :: wsL_law) B.pre w (List.mem_cons_of_mem _ hw)⟩, hSt⟩
  have hl := lv_entry ([.ref (base + a0)]) (n := 7) (Nat.le_of_ble_eq_true rfl)
  rw [lg_entry_eq]
  generalize (lg_sl ([.ref (base + a0)]) ++ List.replicate (7 - (lg_sl ([.ref (base + a0)])).length) Slot.unset).toArray = ls at hl ⊢
  exact X5_faultOf_k0 hC B.returns B.notSynchronized (X5_faultOf_all hC B.returns B.notSynchronized n) h hP va_S.rf hl
-- ===== X5_fault
set_option maxRecDepth 100000 in
set_option maxHeartbeats 4000000 in
theorem X5_fault_k0 (hC : Cx p m c cX5_fault 1 s args RX5 base D cI cJ tS) (hr : meth.sig.returnType = (some .int)) (hlocks : meth.locks = false) {n : Nat} {a0 : Nat} {σ : Sg} {r : Int32} {τ : Sg} {H : Heap} {locs : List Loc} {ls : Array Slot} (h : f_X5_fault n a0 σ = some (r, τ)) : Dy base D cI cJ σ H → va_S (fun q => base ≤ q) s.heap H locs → lv_has ls 1 [(0, .ref (base + a0))] → W p l e (rmD 2 0 0) s m args below meth c H locs 0 0 (MQ below (QwI base D cI cJ r τ) args s 0 0 (fun q => base ≤ q)) (F0 m 0 ls []) := by
  intro hP hS hl
  obtain ⟨hx, hb, hml, hown, hts⟩ := hC.1
  unfold f_X5_fault at h
  refine lv_aload_n hx hb dX5_fault_0 rfl (lv_at hl 0 rfl) ?_
  obtain ⟨u_1, hu_1, h⟩ := obn h
  obtain ⟨w_2, hw_2, h⟩ := obn h
  refine k_I (r_virt (As := []) (rest := []) hC hP hS (ci := 5) rfl (by decide) hu_1 (c_X5_faultOf (l := l) (base := base) (D := D) (cI := cI) (cJ := cJ) (tS := tS) hw_2) wl_329 wl_330 wl_331 wl_113 wl_328 rfl rfl hd_X5_faultOf ⟨Nat.le_of_ble_eq_true rfl, Nat.le_of_ble_eq_true rfl⟩ rfl hl.1 rfl (Nat.le_of_ble_eq_true rfl) dX5_fault_1 ⟨Nat.le_of_ble_eq_true rfl, Nat.le_of_ble_eq_true rfl⟩) hS (fun H locs hP hS => ?_)
  obtain ⟨rfl, rfl⟩ := Prod.mk.inj (Option.some.inj h)
  exact w_iret hC hr hlocks hP hS dX5_fault_4
set_option maxRecDepth 100000 in
set_option maxHeartbeats 4000000 in
theorem c_X5_fault {l : Launch} {base : Nat} {D : va_G} {cI cJ : ClassId} {tS : Nat} {n : Nat} {a0 : Nat} {σ : Sg} {r : Int32} {τ : Sg} (h : f_X5_fault n a0 σ = some (r, τ)) : Met l yX5_fault (.code yX5_fault cX5_fault 1 (some .int) :: wsL_law) (rmD 2 0 0) (Pw base D cI cJ tS σ [.ref (base + a0)]) (QwI base D cI cJ r τ) 0 0 (fun q => base ≤ q) := by
  refine Met.ofW (cc := cX5_fault) (maxL := 1) (ret := (some .int)) (by decide) rfl ?_
  intro p e s m args below meth c s₁ B hml hv
  obtain ⟨rfl, hSt, hP⟩ := hv
  have hC : Cx p m c cX5_fault 1 s _ RX5 base D cI cJ tS := ⟨⟨B.exec, B.bytes, hml, findClass_of_methodNamed B.named, fun w hw => atoms_spec (ws := Cond.code yX5_fault cX5_fault 1 (some .int) :: wsL_law) B.pre w (List.mem_cons_of_mem _ hw)⟩, hSt⟩
  have hl := lv_entry ([.ref (base + a0)]) (n := 1) (Nat.le_of_ble_eq_true rfl)
  rw [lg_entry_eq]
  generalize (lg_sl ([.ref (base + a0)]) ++ List.replicate (1 - (lg_sl ([.ref (base + a0)])).length) Slot.unset).toArray = ls at hl ⊢
  exact X5_fault_k0 hC B.returns B.notSynchronized h hP va_S.rf hl
-- ===== X4_rule
set_option maxRecDepth 100000 in
set_option maxHeartbeats 4000000 in
theorem X4_rule_k0 (hC : Cx p m c cX4_rule 2 s args RX4 base D cI cJ tS) (hr : meth.sig.returnType = (some .int)) (hlocks : meth.locks = false) {n : Nat} {a0 : Nat} {σ : Sg} {r : Int32} {τ : Sg} {H : Heap} {locs : List Loc} {ls : Array Slot} (h : f_X4_rule n a0 σ = some (r, τ)) : Dy base D cI cJ σ H → va_S (fun q => base ≤ q) s.heap H locs → lv_has ls 2 [(0, .ref (base + a0))] → W p l e (rmD 4 0 0) s m args below meth c H locs 0 0 (MQ below (QwI base D cI cJ r τ) args s 0 0 (fun q => base ≤ q)) (F0 m 0 ls []) := by
  intro hP hS hl
  obtain ⟨hx, hb, hml, hown, hts⟩ := hC.1
  unfold f_X4_rule at h
  refine lv_aload_n hx hb dX4_rule_0 rfl (lv_at hl 0 rfl) ?_
  obtain ⟨q_1, hq_1, h⟩ := obn h
  refine w_getR (ci := 4) (j := 1) hC hP rfl inlX4 (by decide) (by decide) rfl hq_1 wl_49 dX4_rule_1 ?_
  refine lv_aload_n hx hb dX4_rule_4 rfl (lv_at hl 0 rfl) ?_
  obtain ⟨q_2, hq_2, h⟩ := obn h
  refine w_getR (ci := 4) (j := 5) hC hP rfl inlX4 (by decide) (by decide) rfl hq_2 wl_63 dX4_rule_5 ?_
  obtain ⟨u_3, hu_3, h⟩ := obn h
  obtain ⟨w_4, hw_4, h⟩ := obn h
  refine k_I (r_virt (As := [.ref (base + q_2)]) (rest := []) hC hP hS (ci := 3) rfl (by decide) hu_3 (c_X3_readInto (l := l) (base := base) (D := D) (cI := cI) (cJ := cJ) (tS := tS) hw_4) wl_325 wl_326 wl_327 wl_46 wl_324 rfl rfl hd_X3_readInto ⟨Nat.le_of_ble_eq_true rfl, Nat.le_of_ble_eq_true rfl⟩ rfl hl.1 rfl (Nat.le_of_ble_eq_true rfl) dX4_rule_8 ⟨Nat.le_of_ble_eq_true rfl, Nat.le_of_ble_eq_true rfl⟩) hS (fun H locs hP hS => ?_)
  refine lv_bipush (v := (-6)) hx hb dX4_rule_11 (by decide) ?_
  refine lv_icmp_eq (tgt := 19) hx hb dX4_rule_13 (by decide) (fun c_5 => ?_) (fun c_5 => ?_)
  · rw [if_pos c_5] at h
    refine lv_aload_n hx hb dX4_rule_19 rfl (lv_at hl 0 rfl) ?_
    obtain ⟨u_6, hu_6, h⟩ := obn h
    obtain ⟨w_7, hw_7, h⟩ := obn h
    refine k_V (r_virt (As := []) (rest := []) hC hP hS (ci := 4) rfl (by decide) hu_6 (c_X4_forgetCourse (l := l) (base := base) (D := D) (cI := cI) (cJ := cJ) (tS := tS) hw_7) wl_103 wl_104 wl_105 wl_98 wl_102 rfl rfl hd_X4_forgetCourse ⟨Nat.le_of_ble_eq_true rfl, Nat.le_of_ble_eq_true rfl⟩ rfl hl.1 rfl (Nat.le_of_ble_eq_true rfl) dX4_rule_20 ⟨Nat.le_of_ble_eq_true rfl, Nat.le_of_ble_eq_true rfl⟩) hS (fun H locs hP hS => ?_)
    refine lv_aload_n hx hb dX4_rule_23 rfl (lv_at hl 0 rfl) ?_
    obtain ⟨q_8, hq_8, h⟩ := obn h
    refine w_getR (ci := 4) (j := 4) hC hP rfl inlX4 (by decide) (by decide) rfl hq_8 wl_62 dX4_rule_24 ?_
    refine lv_astore_n (lv' := [(1, .ref (base + q_8)), (0, .ref (base + a0))]) hx hb dX4_rule_27 rfl hl (by decide) rfl (fun ls hl => ?_)
    refine lv_aload_n hx hb dX4_rule_28 rfl (lv_at hl 1 rfl) ?_
    refine lv_aload_n hx hb dX4_rule_29 rfl (lv_at hl 1 rfl) ?_
    obtain ⟨q_9, hq_9, h⟩ := obn h
    refine w_getR (ci := 4) (j := 5) hC hP rfl inlX4 (by decide) (by decide) rfl hq_9 wl_63 dX4_rule_30 ?_
    obtain ⟨s_10, hs_10, h⟩ := obn h
    refine w_putR (ci := 4) (j := 4) hC hP hS rfl inlX4 tyX4 tyX4_ok nmX4 (by decide) (by decide) rfl rfl (fun _ => rfl) (fun _ => rfl) hs_10 wl_62 dX4_rule_33 (fun H locs hP hS => ?_)
    refine lv_aload_n hx hb dX4_rule_36 rfl (lv_at hl 1 rfl) ?_
    refine lv_aload_n hx hb dX4_rule_37 rfl (lv_at hl 0 rfl) ?_
    obtain ⟨s_11, hs_11, h⟩ := obn h
    refine w_putR (ci := 4) (j := 5) hC hP hS rfl inlX4 tyX4 tyX4_ok nmX4 (by decide) (by decide) rfl rfl (fun _ => rfl) (fun _ => rfl) hs_11 wl_63 dX4_rule_38 (fun H locs hP hS => ?_)
    refine lv_aload_n hx hb dX4_rule_41 rfl (lv_at hl 1 rfl) ?_
    obtain ⟨q_12, hq_12, h⟩ := obn h
    refine w_getR (ci := 4) (j := 1) hC hP rfl inlX4 (by decide) (by decide) rfl hq_12 wl_49 dX4_rule_42 ?_
    refine lv_iconst (v := 0) hx hb dX4_rule_45 (by decide) ?_
    obtain ⟨s_13, hs_13, h⟩ := obn h
    refine w_putI (ci := 3) (j := 1) hC hP hS rfl inlX3 tyX3 tyX3_ok nmX3 (by decide) (by decide) rfl rfl rfl rfl hs_13 wl_284 dX4_rule_46 (fun H locs hP hS => ?_)
    refine lv_aload_n hx hb dX4_rule_49 rfl (lv_at hl 1 rfl) ?_
    obtain ⟨q_14, hq_14, h⟩ := obn h
    refine w_getR (ci := 4) (j := 4) hC hP rfl inlX4 (by decide) (by decide) rfl hq_14 wl_62 dX4_rule_50 ?_
    obtain ⟨v_15, hv_15, h⟩ := obn h
    refine w_getI (ci := 2) (j := 2) hC hP rfl inlX2 (by decide) (by decide) rfl hv_15 wl_332 dX4_rule_53 ?_
    obtain ⟨rfl, rfl⟩ := Prod.mk.inj (Option.some.inj h)
    exact w_iret hC hr hlocks hP hS dX4_rule_56
  · rw [if_neg c_5] at h
    refine lv_bipush (v := (-5)) hx hb dX4_rule_16 (by decide) ?_
    obtain ⟨rfl, rfl⟩ := Prod.mk.inj (Option.some.inj h)
    exact w_iret hC hr hlocks hP hS dX4_rule_18
set_option maxRecDepth 100000 in
set_option maxHeartbeats 4000000 in
theorem c_X4_rule {l : Launch} {base : Nat} {D : va_G} {cI cJ : ClassId} {tS : Nat} {n : Nat} {a0 : Nat} {σ : Sg} {r : Int32} {τ : Sg} (h : f_X4_rule n a0 σ = some (r, τ)) : Met l yX4_rule (.code yX4_rule cX4_rule 2 (some .int) :: wsL_law) (rmD 4 0 0) (Pw base D cI cJ tS σ [.ref (base + a0)]) (QwI base D cI cJ r τ) 0 0 (fun q => base ≤ q) := by
  refine Met.ofW (cc := cX4_rule) (maxL := 2) (ret := (some .int)) (by decide) rfl ?_
  intro p e s m args below meth c s₁ B hml hv
  obtain ⟨rfl, hSt, hP⟩ := hv
  have hC : Cx p m c cX4_rule 2 s _ RX4 base D cI cJ tS := ⟨⟨B.exec, B.bytes, hml, findClass_of_methodNamed B.named, fun w hw => atoms_spec (ws := Cond.code yX4_rule cX4_rule 2 (some .int) :: wsL_law) B.pre w (List.mem_cons_of_mem _ hw)⟩, hSt⟩
  have hl := lv_entry ([.ref (base + a0)]) (n := 2) (Nat.le_of_ble_eq_true rfl)
  rw [lg_entry_eq]
  generalize (lg_sl ([.ref (base + a0)]) ++ List.replicate (2 - (lg_sl ([.ref (base + a0)])).length) Slot.unset).toArray = ls at hl ⊢
  exact X4_rule_k0 hC B.returns B.notSynchronized h hP va_S.rf hl
end
