section
variable {p : Program} {l : Launch} {e : Env} {s : State} {m : MethodId} {args : Array Value} {below : List Frame} {meth : Method} {c : Code} {base : Nat} {D : va_G} {cI cJ : ClassId} {tS : Nat}
-- ===== X4_best
set_option maxRecDepth 100000 in
set_option maxHeartbeats 4000000 in
theorem X4_best_k9 (hC : Cx p m c cX4_best 2 s args RX4 base D cI cJ tS) (hr : meth.sig.returnType = (some .int)) (hlocks : meth.locks = false) {n : Nat} {σ : Sg} {r : Int32} {τ : Sg} {H : Heap} {locs : List Loc} {ls : Array Slot} (h : X4_best_b9 n σ = some (r, τ)) : Dy base D cI cJ σ H → va_S (fun q => base ≤ q) s.heap H locs → lv_has ls 2 [] → W p l e (rmD 7 0 0) s m args below meth c H locs 0 0 (MQ below (QwI base D cI cJ r τ) args s 0 0 (fun q => base ≤ q)) (F0 m 9 ls []) := by
  intro hP hS hl
  obtain ⟨hx, hb, hml, hown, hts⟩ := hC.1
  unfold X4_best_b9 at h
  refine lv_bipush (v := (-2)) hx hb dX4_best_9 (by decide) ?_
  obtain ⟨rfl, rfl⟩ := Prod.mk.inj (Option.some.inj h)
  exact w_iret hC hr hlocks hP hS dX4_best_11
set_option maxRecDepth 100000 in
set_option maxHeartbeats 4000000 in
theorem X4_best_k42 (hC : Cx p m c cX4_best 2 s args RX4 base D cI cJ tS) (hr : meth.sig.returnType = (some .int)) (hlocks : meth.locks = false) {n : Nat} {a0 : Nat} {i1 : Int32} {σ : Sg} {r : Int32} {τ : Sg} {H : Heap} {locs : List Loc} {ls : Array Slot} (h : X4_best_b42 n a0 i1 σ = some (r, τ)) : Dy base D cI cJ σ H → va_S (fun q => base ≤ q) s.heap H locs → lv_has ls 2 [(0, .ref (base + a0)), (1, .int i1)] → W p l e (rmD 7 0 0) s m args below meth c H locs 0 0 (MQ below (QwI base D cI cJ r τ) args s 0 0 (fun q => base ≤ q)) (F0 m 42 ls []) := by
  intro hP hS hl
  obtain ⟨hx, hb, hml, hown, hts⟩ := hC.1
  unfold X4_best_b42 at h
  refine lv_iload_n hx hb dX4_best_42 rfl (lv_at hl 1 rfl) ?_
  refine lv_if_ne (tgt := 53) hx hb dX4_best_43 (by decide) (fun c_1 => ?_) (fun c_1 => ?_)
  · rw [if_neg c_1] at h
    refine lv_aload_n hx hb dX4_best_53 rfl (lv_at hl 0 rfl) ?_
    obtain ⟨v_2, hv_2, h⟩ := obn h
    refine w_getI (ci := 4) (j := 9) hC hP rfl inlX4 (by decide) (by decide) rfl hv_2 wl_430 dX4_best_54 ?_
    obtain ⟨rfl, rfl⟩ := Prod.mk.inj (Option.some.inj h)
    exact w_iret hC hr hlocks hP hS dX4_best_57
  · rw [if_pos c_1] at h
    refine lv_aload_n hx hb dX4_best_46 rfl (lv_at hl 0 rfl) ?_
    obtain ⟨v_3, hv_3, h⟩ := obn h
    refine w_getI (ci := 4) (j := 8) hC hP rfl inlX4 (by decide) (by decide) rfl hv_3 wl_429 dX4_best_47 ?_
    refine lv_goto (tgt := 57) hx hb dX4_best_50 (by decide) ?_
    obtain ⟨rfl, rfl⟩ := Prod.mk.inj (Option.some.inj h)
    exact w_iret hC hr hlocks hP hS dX4_best_57
set_option maxRecDepth 100000 in
set_option maxHeartbeats 4000000 in
theorem X4_best_k0 (hC : Cx p m c cX4_best 2 s args RX4 base D cI cJ tS) (hr : meth.sig.returnType = (some .int)) (hlocks : meth.locks = false) {n : Nat} {a0 : Nat} {i1 : Int32} {σ : Sg} {r : Int32} {τ : Sg} {H : Heap} {locs : List Loc} {ls : Array Slot} (h : f_X4_best n a0 i1 σ = some (r, τ)) : Dy base D cI cJ σ H → va_S (fun q => base ≤ q) s.heap H locs → lv_has ls 2 [(0, .ref (base + a0)), (1, .int i1)] → W p l e (rmD 7 0 0) s m args below meth c H locs 0 0 (MQ below (QwI base D cI cJ r τ) args s 0 0 (fun q => base ≤ q)) (F0 m 0 ls []) := by
  intro hP hS hl
  obtain ⟨hx, hb, hml, hown, hts⟩ := hC.1
  unfold f_X4_best at h
  refine lv_iload_n hx hb dX4_best_0 rfl (lv_at hl 1 rfl) ?_
  refine lv_if_lt (tgt := 9) hx hb dX4_best_1 (by decide) (fun c_4 => ?_) (fun c_4 => ?_)
  · rw [if_pos c_4] at h
    exact X4_best_k9 hC hr hlocks h hP hS (lv_sub hl [] rfl)
  · rw [if_neg c_4] at h
    refine lv_iload_n hx hb dX4_best_4 rfl (lv_at hl 1 rfl) ?_
    refine lv_iconst (v := 1) hx hb dX4_best_5 (by decide) ?_
    refine lv_icmp_le (tgt := 12) hx hb dX4_best_6 (by decide) (fun c_5 => ?_) (fun c_5 => ?_)
    · rw [if_pos c_5] at h
      refine lv_aload_n hx hb dX4_best_12 rfl (lv_at hl 0 rfl) ?_
      obtain ⟨q_6, hq_6, h⟩ := obn h
      refine w_getR (ci := 4) (j := 0) hC hP rfl inlX4 (by decide) (by decide) rfl hq_6 wl_43 dX4_best_13 ?_
      obtain ⟨v_7, hv_7, h⟩ := obn h
      refine w_getI (ci := 1) (j := 7) hC hP rfl inlX1 (by decide) (by decide) rfl hv_7 wl_122 dX4_best_16 ?_
      refine lv_iconst (v := 1) hx hb dX4_best_19 (by decide) ?_
      refine lv_icmp_ge (tgt := 26) hx hb dX4_best_20 (by decide) (fun c_8 => ?_) (fun c_8 => ?_)
      · rw [if_pos c_8] at h
        refine lv_aload_n hx hb dX4_best_26 rfl (lv_at hl 0 rfl) ?_
        obtain ⟨v_9, hv_9, h⟩ := obn h
        refine w_getI (ci := 4) (j := 7) hC hP rfl inlX4 (by decide) (by decide) rfl hv_9 wl_94 dX4_best_27 ?_
        refine lv_if_ne (tgt := 42) hx hb dX4_best_30 (by decide) (fun c_10 => ?_) (fun c_10 => ?_)
        · rw [if_neg c_10] at h
          exact X4_best_k42 hC hr hlocks h hP hS (lv_sub hl [0, 1] rfl)
        · rw [if_pos c_10] at h
          refine lv_aload_n hx hb dX4_best_33 rfl (lv_at hl 0 rfl) ?_
          obtain ⟨u_11, hu_11, h⟩ := obn h
          obtain ⟨w_12, hw_12, h⟩ := obn h
          refine k_V (r_virt (As := []) (rest := []) hC hP hS (ci := 4) rfl (by decide) hu_11 (c_X4_findBest (l := l) (base := base) (D := D) (cI := cI) (cJ := cJ) (tS := tS) hw_12) wl_437 wl_438 wl_439 wl_98 wl_436 rfl rfl hd_X4_findBest ⟨Nat.le_of_ble_eq_true rfl, Nat.le_of_ble_eq_true rfl⟩ rfl hl.1 rfl (Nat.le_of_ble_eq_true rfl) dX4_best_34 ⟨Nat.le_of_ble_eq_true rfl, Nat.le_of_ble_eq_true rfl⟩) hS (fun H locs hP hS => ?_)
          refine lv_aload_n hx hb dX4_best_37 rfl (lv_at hl 0 rfl) ?_
          refine lv_iconst (v := 1) hx hb dX4_best_38 (by decide) ?_
          obtain ⟨s_13, hs_13, h⟩ := obn h
          refine w_putI (ci := 4) (j := 7) hC hP hS rfl inlX4 tyX4 tyX4_ok nmX4 (by decide) (by decide) rfl rfl rfl rfl hs_13 wl_94 dX4_best_39 (fun H locs hP hS => ?_)
          exact X4_best_k42 hC hr hlocks h hP hS (lv_sub hl [0, 1] rfl)
      · rw [if_neg c_8] at h
        refine lv_bipush (v := (-3)) hx hb dX4_best_23 (by decide) ?_
        obtain ⟨rfl, rfl⟩ := Prod.mk.inj (Option.some.inj h)
        exact w_iret hC hr hlocks hP hS dX4_best_25
    · rw [if_neg c_5] at h
      exact X4_best_k9 hC hr hlocks h hP hS (lv_sub hl [] rfl)
set_option maxRecDepth 100000 in
set_option maxHeartbeats 4000000 in
theorem c_X4_best {l : Launch} {base : Nat} {D : va_G} {cI cJ : ClassId} {tS : Nat} {n : Nat} {a0 : Nat} {i1 : Int32} {σ : Sg} {r : Int32} {τ : Sg} (h : f_X4_best n a0 i1 σ = some (r, τ)) : Met l yX4_best (.code yX4_best cX4_best 2 (some .int) :: wsL_law) (rmD 7 0 0) (Pw base D cI cJ tS σ [.ref (base + a0), .int i1]) (QwI base D cI cJ r τ) 0 0 (fun q => base ≤ q) := by
  refine Met.ofW (cc := cX4_best) (maxL := 2) (ret := (some .int)) (by decide) rfl ?_
  intro p e s m args below meth c s₁ B hml hv
  obtain ⟨rfl, hSt, hP⟩ := hv
  have hC : Cx p m c cX4_best 2 s _ RX4 base D cI cJ tS := ⟨⟨B.exec, B.bytes, hml, findClass_of_methodNamed B.named, fun w hw => atoms_spec (ws := Cond.code yX4_best cX4_best 2 (some .int) :: wsL_law) B.pre w (List.mem_cons_of_mem _ hw)⟩, hSt⟩
  have hl := lv_entry ([.ref (base + a0), .int i1]) (n := 2) (Nat.le_of_ble_eq_true rfl)
  rw [lg_entry_eq]
  generalize (lg_sl ([.ref (base + a0), .int i1]) ++ List.replicate (2 - (lg_sl ([.ref (base + a0), .int i1])).length) Slot.unset).toArray = ls at hl ⊢
  exact X4_best_k0 hC B.returns B.notSynchronized h hP va_S.rf hl
-- ===== X5_best
set_option maxRecDepth 100000 in
set_option maxHeartbeats 4000000 in
theorem X5_best_k24 (hC : Cx p m c cX5_best 7 s args RX5 base D cI cJ tS) (hr : meth.sig.returnType = (some .int)) (hlocks : meth.locks = false) {n : Nat} (ih : (∀ {a0 : Nat} {i1 : Int32} {i2 : Int32} {i3 : Int32} {i4 : Int32} {i5 : Int32} {σ : Sg} {r : Int32} {τ : Sg} {H : Heap} {locs : List Loc} {ls : Array Slot}, X5_best_run n 24 a0 i1 i2 i3 i4 i5 σ = some (r, τ) → Dy base D cI cJ σ H → va_S (fun q => base ≤ q) s.heap H locs → lv_has ls 7 [(0, .ref (base + a0)), (1, .int i1), (2, .int i2)] → W p l e (rmD 3 0 0) s m args below meth c H locs 0 0 (MQ below (QwI base D cI cJ r τ) args s 0 0 (fun q => base ≤ q)) (F0 m 24 ls [])) ∧ (∀ {a0 : Nat} {i1 : Int32} {i2 : Int32} {i3 : Int32} {i4 : Int32} {i5 : Int32} {σ : Sg} {r : Int32} {τ : Sg} {H : Heap} {locs : List Loc} {ls : Array Slot}, X5_best_run n 75 a0 i1 i2 i3 i4 i5 σ = some (r, τ) → Dy base D cI cJ σ H → va_S (fun q => base ≤ q) s.heap H locs → lv_has ls 7 [(0, .ref (base + a0)), (1, .int i1), (2, .int i2), (3, .int i3), (4, .int i4)] → W p l e (rmD 3 0 0) s m args below meth c H locs 0 0 (MQ below (QwI base D cI cJ r τ) args s 0 0 (fun q => base ≤ q)) (F0 m 75 ls [])) ∧ (∀ {a0 : Nat} {i1 : Int32} {i2 : Int32} {i3 : Int32} {i4 : Int32} {i5 : Int32} {σ : Sg} {r : Int32} {τ : Sg} {H : Heap} {locs : List Loc} {ls : Array Slot}, X5_best_run n 85 a0 i1 i2 i3 i4 i5 σ = some (r, τ) → Dy base D cI cJ σ H → va_S (fun q => base ≤ q) s.heap H locs → lv_has ls 7 [(0, .ref (base + a0)), (1, .int i1), (2, .int i2), (3, .int i3), (4, .int i4), (5, .int i5)] → W p l e (rmD 3 0 0) s m args below meth c H locs 0 0 (MQ below (QwI base D cI cJ r τ) args s 0 0 (fun q => base ≤ q)) (F0 m 85 ls [])) ∧ (∀ {a0 : Nat} {i1 : Int32} {i2 : Int32} {i3 : Int32} {i4 : Int32} {i5 : Int32} {σ : Sg} {r : Int32} {τ : Sg} {H : Heap} {locs : List Loc} {ls : Array Slot}, X5_best_run n 182 a0 i1 i2 i3 i4 i5 σ = some (r, τ) → Dy base D cI cJ σ H → va_S (fun q => base ≤ q) s.heap H locs → lv_has ls 7 [(0, .ref (base + a0)), (1, .int i1), (2, .int i2), (4, .int i4)] → W p l e (rmD 3 0 0) s m args below meth c H locs 0 0 (MQ below (QwI base D cI cJ r τ) args s 0 0 (fun q => base ≤ q)) (F0 m 182 ls []))) {a0 : Nat} {i1 : Int32} {i2 : Int32} {σ : Sg} {r : Int32} {τ : Sg} {H : Heap} {locs : List Loc} {ls : Array Slot} (h : X5_best_b24 n (X5_best_run n) a0 i1 i2 σ = some (r, τ)) : Dy base D cI cJ σ H → va_S (fun q => base ≤ q) s.heap H locs → lv_has ls 7 [(0, .ref (base + a0)), (1, .int i1), (2, .int i2)] → W p l e (rmD 3 0 0) s m args below meth c H locs 0 0 (MQ below (QwI base D cI cJ r τ) args s 0 0 (fun q => base ≤ q)) (F0 m 24 ls []) := by
  intro hP hS hl
  obtain ⟨hx, hb, hml, hown, hts⟩ := hC.1
  unfold X5_best_b24 at h
  refine lv_iload_n hx hb dX5_best_24 rfl (lv_at hl 2 rfl) ?_
  refine lv_bipush (v := 10) hx hb dX5_best_25 (by decide) ?_
  refine lv_icmp_ge (tgt := 67) hx hb dX5_best_27 (by decide) (fun c_1 => ?_) (fun c_1 => ?_)
  · rw [if_pos c_1] at h
    refine lv_bipush (v := (-6)) hx hb dX5_best_67 (by decide) ?_
    refine lv_istore_n (lv' := [(2, .int (-6)), (0, .ref (base + a0)), (1, .int i1)]) hx hb dX5_best_69 rfl hl (by decide) rfl (fun ls hl => ?_)
    refine lv_iconst (v := 0) hx hb dX5_best_70 (by decide) ?_
    refine lv_istore_n (lv' := [(3, .int 0), (2, .int (-6)), (0, .ref (base + a0)), (1, .int i1)]) hx hb dX5_best_71 rfl hl (by decide) rfl (fun ls hl => ?_)
    refine lv_iconst (v := 0) hx hb dX5_best_72 (by decide) ?_
    refine lv_istore (lv' := [(4, .int 0), (3, .int 0), (2, .int (-6)), (0, .ref (base + a0)), (1, .int i1)]) hx hb dX5_best_73 hl (by decide) rfl (fun ls hl => ?_)
    exact ih.2.1 h hP hS (lv_sub hl [3, 4, 2, 1, 0] rfl)
  · rw [if_neg c_1] at h
    refine lv_aload_n hx hb dX5_best_30 rfl (lv_at hl 0 rfl) ?_
    obtain ⟨q_2, hq_2, h⟩ := obn h
    refine w_getR (ci := 5) (j := 35) hC hP rfl inlX5 (by decide) (by decide) rfl hq_2 wl_91 dX5_best_31 ?_
    refine lv_iload_n hx hb dX5_best_34 rfl (lv_at hl 2 rfl) ?_
    refine lv_aload_n hx hb dX5_best_35 rfl (lv_at hl 0 rfl) ?_
    obtain ⟨q_3, hq_3, h⟩ := obn h
    refine w_getR (ci := 5) (j := 15) hC hP rfl inlX5 (by decide) (by decide) rfl hq_3 wl_76 dX5_best_36 ?_
    refine lv_iload_n hx hb dX5_best_39 rfl (lv_at hl 2 rfl) ?_
    obtain ⟨v_4, hv_4, h⟩ := obn h
    refine w_iald hC hP hv_4 dX5_best_40 ?_
    obtain ⟨s_5, hs_5, h⟩ := obn h
    refine w_iast hC hP hS hs_5 dX5_best_41 (fun H locs hP hS => ?_)
    refine lv_aload_n hx hb dX5_best_42 rfl (lv_at hl 0 rfl) ?_
    obtain ⟨q_6, hq_6, h⟩ := obn h
    refine w_getR (ci := 5) (j := 36) hC hP rfl inlX5 (by decide) (by decide) rfl hq_6 wl_92 dX5_best_43 ?_
    refine lv_iload_n hx hb dX5_best_46 rfl (lv_at hl 2 rfl) ?_
    refine lv_aload_n hx hb dX5_best_47 rfl (lv_at hl 0 rfl) ?_
    obtain ⟨q_7, hq_7, h⟩ := obn h
    refine w_getR (ci := 5) (j := 16) hC hP rfl inlX5 (by decide) (by decide) rfl hq_7 wl_77 dX5_best_48 ?_
    refine lv_iload_n hx hb dX5_best_51 rfl (lv_at hl 2 rfl) ?_
    obtain ⟨v_8, hv_8, h⟩ := obn h
    refine w_iald hC hP hv_8 dX5_best_52 ?_
    obtain ⟨s_9, hs_9, h⟩ := obn h
    refine w_iast hC hP hS hs_9 dX5_best_53 (fun H locs hP hS => ?_)
    refine lv_aload_n hx hb dX5_best_54 rfl (lv_at hl 0 rfl) ?_
    obtain ⟨q_10, hq_10, h⟩ := obn h
    refine w_getR (ci := 5) (j := 15) hC hP rfl inlX5 (by decide) (by decide) rfl hq_10 wl_76 dX5_best_55 ?_
    refine lv_iload_n hx hb dX5_best_58 rfl (lv_at hl 2 rfl) ?_
    refine lv_iconst (v := 0) hx hb dX5_best_59 (by decide) ?_
    obtain ⟨s_11, hs_11, h⟩ := obn h
    refine w_iast hC hP hS hs_11 dX5_best_60 (fun H locs hP hS => ?_)
    obtain ⟨i2_12, hi2_12, h⟩ := obn h
    refine lv_iinc (v := i2_12) (lv' := [(2, .int i2_12), (0, .ref (base + a0)), (1, .int i1)]) hx hb dX5_best_61 hl (k := 2) rfl (Option.some.inj hi2_12) (by decide) rfl (fun ls hl => ?_)
    refine lv_goto (tgt := 24) hx hb dX5_best_64 (by decide) ?_
    exact ih.1 h hP hS (lv_sub hl [1, 2, 0] rfl)
set_option maxRecDepth 100000 in
set_option maxHeartbeats 4000000 in
theorem X5_best_k75 (hC : Cx p m c cX5_best 7 s args RX5 base D cI cJ tS) (hr : meth.sig.returnType = (some .int)) (hlocks : meth.locks = false) {n : Nat} (ih : (∀ {a0 : Nat} {i1 : Int32} {i2 : Int32} {i3 : Int32} {i4 : Int32} {i5 : Int32} {σ : Sg} {r : Int32} {τ : Sg} {H : Heap} {locs : List Loc} {ls : Array Slot}, X5_best_run n 24 a0 i1 i2 i3 i4 i5 σ = some (r, τ) → Dy base D cI cJ σ H → va_S (fun q => base ≤ q) s.heap H locs → lv_has ls 7 [(0, .ref (base + a0)), (1, .int i1), (2, .int i2)] → W p l e (rmD 3 0 0) s m args below meth c H locs 0 0 (MQ below (QwI base D cI cJ r τ) args s 0 0 (fun q => base ≤ q)) (F0 m 24 ls [])) ∧ (∀ {a0 : Nat} {i1 : Int32} {i2 : Int32} {i3 : Int32} {i4 : Int32} {i5 : Int32} {σ : Sg} {r : Int32} {τ : Sg} {H : Heap} {locs : List Loc} {ls : Array Slot}, X5_best_run n 75 a0 i1 i2 i3 i4 i5 σ = some (r, τ) → Dy base D cI cJ σ H → va_S (fun q => base ≤ q) s.heap H locs → lv_has ls 7 [(0, .ref (base + a0)), (1, .int i1), (2, .int i2), (3, .int i3), (4, .int i4)] → W p l e (rmD 3 0 0) s m args below meth c H locs 0 0 (MQ below (QwI base D cI cJ r τ) args s 0 0 (fun q => base ≤ q)) (F0 m 75 ls [])) ∧ (∀ {a0 : Nat} {i1 : Int32} {i2 : Int32} {i3 : Int32} {i4 : Int32} {i5 : Int32} {σ : Sg} {r : Int32} {τ : Sg} {H : Heap} {locs : List Loc} {ls : Array Slot}, X5_best_run n 85 a0 i1 i2 i3 i4 i5 σ = some (r, τ) → Dy base D cI cJ σ H → va_S (fun q => base ≤ q) s.heap H locs → lv_has ls 7 [(0, .ref (base + a0)), (1, .int i1), (2, .int i2), (3, .int i3), (4, .int i4), (5, .int i5)] → W p l e (rmD 3 0 0) s m args below meth c H locs 0 0 (MQ below (QwI base D cI cJ r τ) args s 0 0 (fun q => base ≤ q)) (F0 m 85 ls [])) ∧ (∀ {a0 : Nat} {i1 : Int32} {i2 : Int32} {i3 : Int32} {i4 : Int32} {i5 : Int32} {σ : Sg} {r : Int32} {τ : Sg} {H : Heap} {locs : List Loc} {ls : Array Slot}, X5_best_run n 182 a0 i1 i2 i3 i4 i5 σ = some (r, τ) → Dy base D cI cJ σ H → va_S (fun q => base ≤ q) s.heap H locs → lv_has ls 7 [(0, .ref (base + a0)), (1, .int i1), (2, .int i2), (4, .int i4)] → W p l e (rmD 3 0 0) s m args below meth c H locs 0 0 (MQ below (QwI base D cI cJ r τ) args s 0 0 (fun q => base ≤ q)) (F0 m 182 ls []))) {a0 : Nat} {i1 : Int32} {i2 : Int32} {i3 : Int32} {i4 : Int32} {σ : Sg} {r : Int32} {τ : Sg} {H : Heap} {locs : List Loc} {ls : Array Slot} (h : X5_best_b75 n (X5_best_run n) a0 i1 i2 i3 i4 σ = some (r, τ)) : Dy base D cI cJ σ H → va_S (fun q => base ≤ q) s.heap H locs → lv_has ls 7 [(0, .ref (base + a0)), (1, .int i1), (2, .int i2), (3, .int i3), (4, .int i4)] → W p l e (rmD 3 0 0) s m args below meth c H locs 0 0 (MQ below (QwI base D cI cJ r τ) args s 0 0 (fun q => base ≤ q)) (F0 m 75 ls []) := by
  intro hP hS hl
  obtain ⟨hx, hb, hml, hown, hts⟩ := hC.1
  unfold X5_best_b75 at h
  refine lv_iload hx hb dX5_best_75 (lv_at hl 4 rfl) ?_
  refine lv_bipush (v := 9) hx hb dX5_best_77 (by decide) ?_
  refine lv_icmp_ge (tgt := 179) hx hb dX5_best_79 (by decide) (fun c_13 => ?_) (fun c_13 => ?_)
  · rw [if_pos c_13] at h
    refine lv_iconst (v := 0) hx hb dX5_best_179 (by decide) ?_
    refine lv_istore (lv' := [(4, .int 0), (0, .ref (base + a0)), (1, .int i1), (2, .int i2), (3, .int i3)]) hx hb dX5_best_180 hl (by decide) rfl (fun ls hl => ?_)
    exact ih.2.2.2 h hP hS (lv_sub hl [1, 2, 3, 0] rfl)
  · rw [if_neg c_13] at h
    refine lv_iconst (v := 0) hx hb dX5_best_82 (by decide) ?_
    refine lv_istore (lv' := [(5, .int 0), (0, .ref (base + a0)), (1, .int i1), (2, .int i2), (3, .int i3), (4, .int i4)]) hx hb dX5_best_83 hl (by decide) rfl (fun ls hl => ?_)
    exact ih.2.2.1 h hP hS (lv_sub hl [1, 2, 3, 4, 5, 0] rfl)
set_option maxRecDepth 100000 in
set_option maxHeartbeats 4000000 in
theorem X5_best_k159 (hC : Cx p m c cX5_best 7 s args RX5 base D cI cJ tS) (hr : meth.sig.returnType = (some .int)) (hlocks : meth.locks = false) {n : Nat} (ih : (∀ {a0 : Nat} {i1 : Int32} {i2 : Int32} {i3 : Int32} {i4 : Int32} {i5 : Int32} {σ : Sg} {r : Int32} {τ : Sg} {H : Heap} {locs : List Loc} {ls : Array Slot}, X5_best_run n 24 a0 i1 i2 i3 i4 i5 σ = some (r, τ) → Dy base D cI cJ σ H → va_S (fun q => base ≤ q) s.heap H locs → lv_has ls 7 [(0, .ref (base + a0)), (1, .int i1), (2, .int i2)] → W p l e (rmD 3 0 0) s m args below meth c H locs 0 0 (MQ below (QwI base D cI cJ r τ) args s 0 0 (fun q => base ≤ q)) (F0 m 24 ls [])) ∧ (∀ {a0 : Nat} {i1 : Int32} {i2 : Int32} {i3 : Int32} {i4 : Int32} {i5 : Int32} {σ : Sg} {r : Int32} {τ : Sg} {H : Heap} {locs : List Loc} {ls : Array Slot}, X5_best_run n 75 a0 i1 i2 i3 i4 i5 σ = some (r, τ) → Dy base D cI cJ σ H → va_S (fun q => base ≤ q) s.heap H locs → lv_has ls 7 [(0, .ref (base + a0)), (1, .int i1), (2, .int i2), (3, .int i3), (4, .int i4)] → W p l e (rmD 3 0 0) s m args below meth c H locs 0 0 (MQ below (QwI base D cI cJ r τ) args s 0 0 (fun q => base ≤ q)) (F0 m 75 ls [])) ∧ (∀ {a0 : Nat} {i1 : Int32} {i2 : Int32} {i3 : Int32} {i4 : Int32} {i5 : Int32} {σ : Sg} {r : Int32} {τ : Sg} {H : Heap} {locs : List Loc} {ls : Array Slot}, X5_best_run n 85 a0 i1 i2 i3 i4 i5 σ = some (r, τ) → Dy base D cI cJ σ H → va_S (fun q => base ≤ q) s.heap H locs → lv_has ls 7 [(0, .ref (base + a0)), (1, .int i1), (2, .int i2), (3, .int i3), (4, .int i4), (5, .int i5)] → W p l e (rmD 3 0 0) s m args below meth c H locs 0 0 (MQ below (QwI base D cI cJ r τ) args s 0 0 (fun q => base ≤ q)) (F0 m 85 ls [])) ∧ (∀ {a0 : Nat} {i1 : Int32} {i2 : Int32} {i3 : Int32} {i4 : Int32} {i5 : Int32} {σ : Sg} {r : Int32} {τ : Sg} {H : Heap} {locs : List Loc} {ls : Array Slot}, X5_best_run n 182 a0 i1 i2 i3 i4 i5 σ = some (r, τ) → Dy base D cI cJ σ H → va_S (fun q => base ≤ q) s.heap H locs → lv_has ls 7 [(0, .ref (base + a0)), (1, .int i1), (2, .int i2), (4, .int i4)] → W p l e (rmD 3 0 0) s m args below meth c H locs 0 0 (MQ below (QwI base D cI cJ r τ) args s 0 0 (fun q => base ≤ q)) (F0 m 182 ls []))) {a0 : Nat} {i1 : Int32} {i2 : Int32} {i3 : Int32} {i4 : Int32} {i5 : Int32} {σ : Sg} {r : Int32} {τ : Sg} {H : Heap} {locs : List Loc} {ls : Array Slot} (h : X5_best_b159 n (X5_best_run n) a0 i1 i2 i3 i4 i5 σ = some (r, τ)) : Dy base D cI cJ σ H → va_S (fun q => base ≤ q) s.heap H locs → lv_has ls 7 [(0, .ref (base + a0)), (1, .int i1), (2, .int i2), (3, .int i3), (4, .int i4), (5, .int i5)] → W p l e (rmD 3 0 0) s m args below meth c H locs 0 0 (MQ below (QwI base D cI cJ r τ) args s 0 0 (fun q => base ≤ q)) (F0 m 159 ls []) := by
  intro hP hS hl
  obtain ⟨hx, hb, hml, hown, hts⟩ := hC.1
  unfold X5_best_b159 at h
  obtain ⟨i5_14, hi5_14, h⟩ := obn h
  refine lv_iinc (v := i5_14) (lv' := [(5, .int i5_14), (0, .ref (base + a0)), (1, .int i1), (2, .int i2), (3, .int i3), (4, .int i4)]) hx hb dX5_best_159 hl (k := 5) rfl (Option.some.inj hi5_14) (by decide) rfl (fun ls hl => ?_)
  refine lv_goto (tgt := 85) hx hb dX5_best_162 (by decide) ?_
  exact ih.2.2.1 h hP hS (lv_sub hl [1, 2, 3, 4, 5, 0] rfl)
set_option maxRecDepth 100000 in
set_option maxHeartbeats 4000000 in
theorem X5_best_k146 (hC : Cx p m c cX5_best 7 s args RX5 base D cI cJ tS) (hr : meth.sig.returnType = (some .int)) (hlocks : meth.locks = false) {n : Nat} (ih : (∀ {a0 : Nat} {i1 : Int32} {i2 : Int32} {i3 : Int32} {i4 : Int32} {i5 : Int32} {σ : Sg} {r : Int32} {τ : Sg} {H : Heap} {locs : List Loc} {ls : Array Slot}, X5_best_run n 24 a0 i1 i2 i3 i4 i5 σ = some (r, τ) → Dy base D cI cJ σ H → va_S (fun q => base ≤ q) s.heap H locs → lv_has ls 7 [(0, .ref (base + a0)), (1, .int i1), (2, .int i2)] → W p l e (rmD 3 0 0) s m args below meth c H locs 0 0 (MQ below (QwI base D cI cJ r τ) args s 0 0 (fun q => base ≤ q)) (F0 m 24 ls [])) ∧ (∀ {a0 : Nat} {i1 : Int32} {i2 : Int32} {i3 : Int32} {i4 : Int32} {i5 : Int32} {σ : Sg} {r : Int32} {τ : Sg} {H : Heap} {locs : List Loc} {ls : Array Slot}, X5_best_run n 75 a0 i1 i2 i3 i4 i5 σ = some (r, τ) → Dy base D cI cJ σ H → va_S (fun q => base ≤ q) s.heap H locs → lv_has ls 7 [(0, .ref (base + a0)), (1, .int i1), (2, .int i2), (3, .int i3), (4, .int i4)] → W p l e (rmD 3 0 0) s m args below meth c H locs 0 0 (MQ below (QwI base D cI cJ r τ) args s 0 0 (fun q => base ≤ q)) (F0 m 75 ls [])) ∧ (∀ {a0 : Nat} {i1 : Int32} {i2 : Int32} {i3 : Int32} {i4 : Int32} {i5 : Int32} {σ : Sg} {r : Int32} {τ : Sg} {H : Heap} {locs : List Loc} {ls : Array Slot}, X5_best_run n 85 a0 i1 i2 i3 i4 i5 σ = some (r, τ) → Dy base D cI cJ σ H → va_S (fun q => base ≤ q) s.heap H locs → lv_has ls 7 [(0, .ref (base + a0)), (1, .int i1), (2, .int i2), (3, .int i3), (4, .int i4), (5, .int i5)] → W p l e (rmD 3 0 0) s m args below meth c H locs 0 0 (MQ below (QwI base D cI cJ r τ) args s 0 0 (fun q => base ≤ q)) (F0 m 85 ls [])) ∧ (∀ {a0 : Nat} {i1 : Int32} {i2 : Int32} {i3 : Int32} {i4 : Int32} {i5 : Int32} {σ : Sg} {r : Int32} {τ : Sg} {H : Heap} {locs : List Loc} {ls : Array Slot}, X5_best_run n 182 a0 i1 i2 i3 i4 i5 σ = some (r, τ) → Dy base D cI cJ σ H → va_S (fun q => base ≤ q) s.heap H locs → lv_has ls 7 [(0, .ref (base + a0)), (1, .int i1), (2, .int i2), (4, .int i4)] → W p l e (rmD 3 0 0) s m args below meth c H locs 0 0 (MQ below (QwI base D cI cJ r τ) args s 0 0 (fun q => base ≤ q)) (F0 m 182 ls []))) {a0 : Nat} {i1 : Int32} {i4 : Int32} {i5 : Int32} {i6 : Int32} {σ : Sg} {r : Int32} {τ : Sg} {H : Heap} {locs : List Loc} {ls : Array Slot} (h : X5_best_b146 n (X5_best_run n) a0 i1 i4 i5 i6 σ = some (r, τ)) : Dy base D cI cJ σ H → va_S (fun q => base ≤ q) s.heap H locs → lv_has ls 7 [(0, .ref (base + a0)), (1, .int i1), (4, .int i4), (5, .int i5), (6, .int i6)] → W p l e (rmD 3 0 0) s m args below meth c H locs 0 0 (MQ below (QwI base D cI cJ r τ) args s 0 0 (fun q => base ≤ q)) (F0 m 146 ls []) := by
  intro hP hS hl
  obtain ⟨hx, hb, hml, hown, hts⟩ := hC.1
  unfold X5_best_b146 at h
  refine lv_sipush (v := 1000) hx hb dX5_best_146 (by decide) ?_
  refine lv_iload hx hb dX5_best_149 (lv_at hl 2 rfl) ?_
  refine lv_imul hx hb dX5_best_151 ?_
  refine lv_iload hx hb dX5_best_152 (lv_at hl 3 rfl) ?_
  refine lv_iadd hx hb dX5_best_154 ?_
  obtain ⟨i2_15, hi2_15, h⟩ := obn h
  refine w_eqi (Option.some.inj hi2_15) ?_
  refine lv_istore_n (lv' := [(2, .int i2_15), (0, .ref (base + a0)), (1, .int i1), (4, .int i4), (5, .int i5), (6, .int i6)]) hx hb dX5_best_155 rfl hl (by decide) rfl (fun ls hl => ?_)
  refine lv_iload hx hb dX5_best_156 (lv_at hl 5 rfl) ?_
  refine lv_istore_n (lv' := [(3, .int i6), (2, .int i2_15), (0, .ref (base + a0)), (1, .int i1), (4, .int i4), (5, .int i5), (6, .int i6)]) hx hb dX5_best_158 rfl hl (by decide) rfl (fun ls hl => ?_)
  exact X5_best_k159 hC hr hlocks ih h hP hS (lv_sub hl [2, 3, 1, 0, 4, 5] rfl)
set_option maxRecDepth 100000 in
set_option maxHeartbeats 4000000 in
theorem X5_best_k85 (hC : Cx p m c cX5_best 7 s args RX5 base D cI cJ tS) (hr : meth.sig.returnType = (some .int)) (hlocks : meth.locks = false) {n : Nat} (ih : (∀ {a0 : Nat} {i1 : Int32} {i2 : Int32} {i3 : Int32} {i4 : Int32} {i5 : Int32} {σ : Sg} {r : Int32} {τ : Sg} {H : Heap} {locs : List Loc} {ls : Array Slot}, X5_best_run n 24 a0 i1 i2 i3 i4 i5 σ = some (r, τ) → Dy base D cI cJ σ H → va_S (fun q => base ≤ q) s.heap H locs → lv_has ls 7 [(0, .ref (base + a0)), (1, .int i1), (2, .int i2)] → W p l e (rmD 3 0 0) s m args below meth c H locs 0 0 (MQ below (QwI base D cI cJ r τ) args s 0 0 (fun q => base ≤ q)) (F0 m 24 ls [])) ∧ (∀ {a0 : Nat} {i1 : Int32} {i2 : Int32} {i3 : Int32} {i4 : Int32} {i5 : Int32} {σ : Sg} {r : Int32} {τ : Sg} {H : Heap} {locs : List Loc} {ls : Array Slot}, X5_best_run n 75 a0 i1 i2 i3 i4 i5 σ = some (r, τ) → Dy base D cI cJ σ H → va_S (fun q => base ≤ q) s.heap H locs → lv_has ls 7 [(0, .ref (base + a0)), (1, .int i1), (2, .int i2), (3, .int i3), (4, .int i4)] → W p l e (rmD 3 0 0) s m args below meth c H locs 0 0 (MQ below (QwI base D cI cJ r τ) args s 0 0 (fun q => base ≤ q)) (F0 m 75 ls [])) ∧ (∀ {a0 : Nat} {i1 : Int32} {i2 : Int32} {i3 : Int32} {i4 : Int32} {i5 : Int32} {σ : Sg} {r : Int32} {τ : Sg} {H : Heap} {locs : List Loc} {ls : Array Slot}, X5_best_run n 85 a0 i1 i2 i3 i4 i5 σ = some (r, τ) → Dy base D cI cJ σ H → va_S (fun q => base ≤ q) s.heap H locs → lv_has ls 7 [(0, .ref (base + a0)), (1, .int i1), (2, .int i2), (3, .int i3), (4, .int i4), (5, .int i5)] → W p l e (rmD 3 0 0) s m args below meth c H locs 0 0 (MQ below (QwI base D cI cJ r τ) args s 0 0 (fun q => base ≤ q)) (F0 m 85 ls [])) ∧ (∀ {a0 : Nat} {i1 : Int32} {i2 : Int32} {i3 : Int32} {i4 : Int32} {i5 : Int32} {σ : Sg} {r : Int32} {τ : Sg} {H : Heap} {locs : List Loc} {ls : Array Slot}, X5_best_run n 182 a0 i1 i2 i3 i4 i5 σ = some (r, τ) → Dy base D cI cJ σ H → va_S (fun q => base ≤ q) s.heap H locs → lv_has ls 7 [(0, .ref (base + a0)), (1, .int i1), (2, .int i2), (4, .int i4)] → W p l e (rmD 3 0 0) s m args below meth c H locs 0 0 (MQ below (QwI base D cI cJ r τ) args s 0 0 (fun q => base ≤ q)) (F0 m 182 ls []))) {a0 : Nat} {i1 : Int32} {i2 : Int32} {i3 : Int32} {i4 : Int32} {i5 : Int32} {σ : Sg} {r : Int32} {τ : Sg} {H : Heap} {locs : List Loc} {ls : Array Slot} (h : X5_best_b85 n (X5_best_run n) a0 i1 i2 i3 i4 i5 σ = some (r, τ)) : Dy base D cI cJ σ H → va_S (fun q => base ≤ q) s.heap H locs → lv_has ls 7 [(0, .ref (base + a0)), (1, .int i1), (2, .int i2), (3, .int i3), (4, .int i4), (5, .int i5)] → W p l e (rmD 3 0 0) s m args below meth c H locs 0 0 (MQ below (QwI base D cI cJ r τ) args s 0 0 (fun q => base ≤ q)) (F0 m 85 ls []) := by
  intro hP hS hl
  obtain ⟨hx, hb, hml, hown, hts⟩ := hC.1
  unfold X5_best_b85 at h
  refine lv_iload hx hb dX5_best_85 (lv_at hl 5 rfl) ?_
  refine lv_sipush (v := 600) hx hb dX5_best_87 (by decide) ?_
  refine lv_icmp_gt (tgt := 165) hx hb dX5_best_90 (by decide) (fun c_16 => ?_) (fun c_16 => ?_)
  · rw [if_pos c_16] at h
    refine lv_aload_n hx hb dX5_best_165 rfl (lv_at hl 0 rfl) ?_
    obtain ⟨q_17, hq_17, h⟩ := obn h
    refine w_getR (ci := 5) (j := 15) hC hP rfl inlX5 (by decide) (by decide) rfl hq_17 wl_76 dX5_best_166 ?_
    refine lv_iload hx hb dX5_best_169 (lv_at hl 4 rfl) ?_
    refine lv_iconst (v := 0) hx hb dX5_best_171 (by decide) ?_
    obtain ⟨s_18, hs_18, h⟩ := obn h
    refine w_iast hC hP hS hs_18 dX5_best_172 (fun H locs hP hS => ?_)
    obtain ⟨i4_19, hi4_19, h⟩ := obn h
    refine lv_iinc (v := i4_19) (lv' := [(4, .int i4_19), (0, .ref (base + a0)), (1, .int i1), (2, .int i2), (3, .int i3), (5, .int i5)]) hx hb dX5_best_173 hl (k := 4) rfl (Option.some.inj hi4_19) (by decide) rfl (fun ls hl => ?_)
    refine lv_goto (tgt := 75) hx hb dX5_best_176 (by decide) ?_
    exact ih.2.1 h hP hS (lv_sub hl [1, 2, 3, 4, 0] rfl)
  · rw [if_neg c_16] at h
    refine lv_aload_n hx hb dX5_best_93 rfl (lv_at hl 0 rfl) ?_
    obtain ⟨q_20, hq_20, h⟩ := obn h
    refine w_getR (ci := 5) (j := 15) hC hP rfl inlX5 (by decide) (by decide) rfl hq_20 wl_76 dX5_best_94 ?_
    refine lv_iload hx hb dX5_best_97 (lv_at hl 4 rfl) ?_
    refine lv_iconst (v := 2) hx hb dX5_best_99 (by decide) ?_
    obtain ⟨s_21, hs_21, h⟩ := obn h
    refine w_iast hC hP hS hs_21 dX5_best_100 (fun H locs hP hS => ?_)
    refine lv_aload_n hx hb dX5_best_101 rfl (lv_at hl 0 rfl) ?_
    obtain ⟨q_22, hq_22, h⟩ := obn h
    refine w_getR (ci := 5) (j := 16) hC hP rfl inlX5 (by decide) (by decide) rfl hq_22 wl_77 dX5_best_102 ?_
    refine lv_iload hx hb dX5_best_105 (lv_at hl 4 rfl) ?_
    refine lv_iload hx hb dX5_best_107 (lv_at hl 5 rfl) ?_
    obtain ⟨s_23, hs_23, h⟩ := obn h
    refine w_iast hC hP hS hs_23 dX5_best_109 (fun H locs hP hS => ?_)
    refine lv_aload_n hx hb dX5_best_110 rfl (lv_at hl 0 rfl) ?_
    refine lv_bipush (v := (-6)) hx hb dX5_best_111 (by decide) ?_
    obtain ⟨u_24, hu_24, h⟩ := obn h
    obtain ⟨w_25, hw_25, h⟩ := obn h
    refine k_V (r_virt (As := [.int (-6)]) (rest := []) hC hP hS (ci := 5) rfl (by decide) hu_24 (c_X5_lay (l := l) (base := base) (D := D) (cI := cI) (cJ := cJ) (tS := tS) hw_25) wl_280 wl_281 wl_282 wl_113 wl_279 rfl rfl hd_X5_lay ⟨Nat.le_of_ble_eq_true rfl, Nat.le_of_ble_eq_true rfl⟩ rfl hl.1 rfl (Nat.le_of_ble_eq_true rfl) dX5_best_113 ⟨Nat.le_of_ble_eq_true rfl, Nat.le_of_ble_eq_true rfl⟩) hS (fun H locs hP hS => ?_)
    refine lv_aload_n hx hb dX5_best_116 rfl (lv_at hl 0 rfl) ?_
    obtain ⟨u_26, hu_26, h⟩ := obn h
    obtain ⟨w_27, hw_27, h⟩ := obn h
    refine k_I (r_virt (As := []) (rest := []) hC hP hS (ci := 5) rfl (by decide) hu_26 (c_X5_allWaited (l := l) (base := base) (D := D) (cI := cI) (cJ := cJ) (tS := tS) hw_27) wl_409 wl_410 wl_411 wl_113 wl_408 rfl rfl hd_X5_allWaited ⟨Nat.le_of_ble_eq_true rfl, Nat.le_of_ble_eq_true rfl⟩ rfl hl.1 rfl (Nat.le_of_ble_eq_true rfl) dX5_best_117 ⟨Nat.le_of_ble_eq_true rfl, Nat.le_of_ble_eq_true rfl⟩) hS (fun H locs hP hS => ?_)
    refine lv_aload_n hx hb dX5_best_120 rfl (lv_at hl 0 rfl) ?_
    obtain ⟨v_28, hv_28, h⟩ := obn h
    refine w_getI (ci := 5) (j := 29) hC hP rfl inlX5 (by decide) (by decide) rfl hv_28 wl_257 dX5_best_121 ?_
    refine lv_iadd hx hb dX5_best_124 ?_
    refine lv_sipush (v := 1000) hx hb dX5_best_125 (by decide) ?_
    refine lv_aload_n hx hb dX5_best_128 rfl (lv_at hl 0 rfl) ?_
    obtain ⟨v_29, hv_29, h⟩ := obn h
    refine w_getI (ci := 5) (j := 30) hC hP rfl inlX5 (by decide) (by decide) rfl hv_29 wl_256 dX5_best_129 ?_
    refine lv_imul hx hb dX5_best_132 ?_
    refine lv_iadd hx hb dX5_best_133 ?_
    obtain ⟨i6_30, hi6_30, h⟩ := obn h
    refine w_eqi (Option.some.inj hi6_30) ?_
    refine lv_istore (lv' := [(6, .int i6_30), (0, .ref (base + a0)), (1, .int i1), (2, .int i2), (3, .int i3), (4, .int i4), (5, .int i5)]) hx hb dX5_best_134 hl (by decide) rfl (fun ls hl => ?_)
    refine lv_iload_n hx hb dX5_best_136 rfl (lv_at hl 3 rfl) ?_
    refine lv_if_lt (tgt := 146) hx hb dX5_best_137 (by decide) (fun c_31 => ?_) (fun c_31 => ?_)
    · rw [if_pos c_31] at h
      exact X5_best_k146 hC hr hlocks ih h hP hS (lv_sub hl [1, 2, 5, 6, 0] rfl)
    · rw [if_neg c_31] at h
      refine lv_iload hx hb dX5_best_140 (lv_at hl 0 rfl) ?_
      refine lv_iload_n hx hb dX5_best_142 rfl (lv_at hl 4 rfl) ?_
      refine lv_icmp_ge (tgt := 159) hx hb dX5_best_143 (by decide) (fun c_32 => ?_) (fun c_32 => ?_)
      · rw [if_pos c_32] at h
        exact X5_best_k159 hC hr hlocks ih h hP hS (lv_sub hl [1, 2, 3, 4, 5, 6] rfl)
      · rw [if_neg c_32] at h
        exact X5_best_k146 hC hr hlocks ih h hP hS (lv_sub hl [1, 2, 5, 6, 0] rfl)
set_option maxRecDepth 100000 in
set_option maxHeartbeats 4000000 in
theorem X5_best_k182 (hC : Cx p m c cX5_best 7 s args RX5 base D cI cJ tS) (hr : meth.sig.returnType = (some .int)) (hlocks : meth.locks = false) {n : Nat} (ih : (∀ {a0 : Nat} {i1 : Int32} {i2 : Int32} {i3 : Int32} {i4 : Int32} {i5 : Int32} {σ : Sg} {r : Int32} {τ : Sg} {H : Heap} {locs : List Loc} {ls : Array Slot}, X5_best_run n 24 a0 i1 i2 i3 i4 i5 σ = some (r, τ) → Dy base D cI cJ σ H → va_S (fun q => base ≤ q) s.heap H locs → lv_has ls 7 [(0, .ref (base + a0)), (1, .int i1), (2, .int i2)] → W p l e (rmD 3 0 0) s m args below meth c H locs 0 0 (MQ below (QwI base D cI cJ r τ) args s 0 0 (fun q => base ≤ q)) (F0 m 24 ls [])) ∧ (∀ {a0 : Nat} {i1 : Int32} {i2 : Int32} {i3 : Int32} {i4 : Int32} {i5 : Int32} {σ : Sg} {r : Int32} {τ : Sg} {H : Heap} {locs : List Loc} {ls : Array Slot}, X5_best_run n 75 a0 i1 i2 i3 i4 i5 σ = some (r, τ) → Dy base D cI cJ σ H → va_S (fun q => base ≤ q) s.heap H locs → lv_has ls 7 [(0, .ref (base + a0)), (1, .int i1), (2, .int i2), (3, .int i3), (4, .int i4)] → W p l e (rmD 3 0 0) s m args below meth c H locs 0 0 (MQ below (QwI base D cI cJ r τ) args s 0 0 (fun q => base ≤ q)) (F0 m 75 ls [])) ∧ (∀ {a0 : Nat} {i1 : Int32} {i2 : Int32} {i3 : Int32} {i4 : Int32} {i5 : Int32} {σ : Sg} {r : Int32} {τ : Sg} {H : Heap} {locs : List Loc} {ls : Array Slot}, X5_best_run n 85 a0 i1 i2 i3 i4 i5 σ = some (r, τ) → Dy base D cI cJ σ H → va_S (fun q => base ≤ q) s.heap H locs → lv_has ls 7 [(0, .ref (base + a0)), (1, .int i1), (2, .int i2), (3, .int i3), (4, .int i4), (5, .int i5)] → W p l e (rmD 3 0 0) s m args below meth c H locs 0 0 (MQ below (QwI base D cI cJ r τ) args s 0 0 (fun q => base ≤ q)) (F0 m 85 ls [])) ∧ (∀ {a0 : Nat} {i1 : Int32} {i2 : Int32} {i3 : Int32} {i4 : Int32} {i5 : Int32} {σ : Sg} {r : Int32} {τ : Sg} {H : Heap} {locs : List Loc} {ls : Array Slot}, X5_best_run n 182 a0 i1 i2 i3 i4 i5 σ = some (r, τ) → Dy base D cI cJ σ H → va_S (fun q => base ≤ q) s.heap H locs → lv_has ls 7 [(0, .ref (base + a0)), (1, .int i1), (2, .int i2), (4, .int i4)] → W p l e (rmD 3 0 0) s m args below meth c H locs 0 0 (MQ below (QwI base D cI cJ r τ) args s 0 0 (fun q => base ≤ q)) (F0 m 182 ls []))) {a0 : Nat} {i1 : Int32} {i2 : Int32} {i4 : Int32} {σ : Sg} {r : Int32} {τ : Sg} {H : Heap} {locs : List Loc} {ls : Array Slot} (h : X5_best_b182 n (X5_best_run n) a0 i1 i2 i4 σ = some (r, τ)) : Dy base D cI cJ σ H → va_S (fun q => base ≤ q) s.heap H locs → lv_has ls 7 [(0, .ref (base + a0)), (1, .int i1), (2, .int i2), (4, .int i4)] → W p l e (rmD 3 0 0) s m args below meth c H locs 0 0 (MQ below (QwI base D cI cJ r τ) args s 0 0 (fun q => base ≤ q)) (F0 m 182 ls []) := by
  intro hP hS hl
  obtain ⟨hx, hb, hml, hown, hts⟩ := hC.1
  unfold X5_best_b182 at h
  refine lv_iload hx hb dX5_best_182 (lv_at hl 3 rfl) ?_
  refine lv_bipush (v := 10) hx hb dX5_best_184 (by decide) ?_
  refine lv_icmp_ge (tgt := 223) hx hb dX5_best_186 (by decide) (fun c_33 => ?_) (fun c_33 => ?_)
  · rw [if_pos c_33] at h
    refine lv_iload_n hx hb dX5_best_223 rfl (lv_at hl 1 rfl) ?_
    refine lv_if_ne (tgt := 235) hx hb dX5_best_224 (by decide) (fun c_34 => ?_) (fun c_34 => ?_)
    · rw [if_neg c_34] at h
      refine lv_iload_n hx hb dX5_best_235 rfl (lv_at hl 2 rfl) ?_
      refine lv_sipush (v := 1000) hx hb dX5_best_236 (by decide) ?_
      obtain ⟨u_35, hu_35, h⟩ := obn h
      refine lv_irem hx hb dX5_best_239 (ifn hu_35).1 ?_
      obtain ⟨rfl, rfl⟩ := Prod.mk.inj (Option.some.inj h)
      exact w_iret hC hr hlocks hP hS dX5_best_240
    · rw [if_pos c_34] at h
      refine lv_iload_n hx hb dX5_best_227 rfl (lv_at hl 2 rfl) ?_
      refine lv_sipush (v := 1000) hx hb dX5_best_228 (by decide) ?_
      obtain ⟨u_36, hu_36, h⟩ := obn h
      refine lv_idiv hx hb dX5_best_231 (ifn hu_36).1 ?_
      refine lv_goto (tgt := 240) hx hb dX5_best_232 (by decide) ?_
      obtain ⟨rfl, rfl⟩ := Prod.mk.inj (Option.some.inj h)
      exact w_iret hC hr hlocks hP hS dX5_best_240
  · rw [if_neg c_33] at h
    refine lv_aload_n hx hb dX5_best_189 rfl (lv_at hl 0 rfl) ?_
    obtain ⟨q_37, hq_37, h⟩ := obn h
    refine w_getR (ci := 5) (j := 15) hC hP rfl inlX5 (by decide) (by decide) rfl hq_37 wl_76 dX5_best_190 ?_
    refine lv_iload hx hb dX5_best_193 (lv_at hl 3 rfl) ?_
    refine lv_aload_n hx hb dX5_best_195 rfl (lv_at hl 0 rfl) ?_
    obtain ⟨q_38, hq_38, h⟩ := obn h
    refine w_getR (ci := 5) (j := 35) hC hP rfl inlX5 (by decide) (by decide) rfl hq_38 wl_91 dX5_best_196 ?_
    refine lv_iload hx hb dX5_best_199 (lv_at hl 3 rfl) ?_
    obtain ⟨v_39, hv_39, h⟩ := obn h
    refine w_iald hC hP hv_39 dX5_best_201 ?_
    obtain ⟨s_40, hs_40, h⟩ := obn h
    refine w_iast hC hP hS hs_40 dX5_best_202 (fun H locs hP hS => ?_)
    refine lv_aload_n hx hb dX5_best_203 rfl (lv_at hl 0 rfl) ?_
    obtain ⟨q_41, hq_41, h⟩ := obn h
    refine w_getR (ci := 5) (j := 16) hC hP rfl inlX5 (by decide) (by decide) rfl hq_41 wl_77 dX5_best_204 ?_
    refine lv_iload hx hb dX5_best_207 (lv_at hl 3 rfl) ?_
    refine lv_aload_n hx hb dX5_best_209 rfl (lv_at hl 0 rfl) ?_
    obtain ⟨q_42, hq_42, h⟩ := obn h
    refine w_getR (ci := 5) (j := 36) hC hP rfl inlX5 (by decide) (by decide) rfl hq_42 wl_92 dX5_best_210 ?_
    refine lv_iload hx hb dX5_best_213 (lv_at hl 3 rfl) ?_
    obtain ⟨v_43, hv_43, h⟩ := obn h
    refine w_iald hC hP hv_43 dX5_best_215 ?_
    obtain ⟨s_44, hs_44, h⟩ := obn h
    refine w_iast hC hP hS hs_44 dX5_best_216 (fun H locs hP hS => ?_)
    obtain ⟨i4_45, hi4_45, h⟩ := obn h
    refine lv_iinc (v := i4_45) (lv' := [(4, .int i4_45), (0, .ref (base + a0)), (1, .int i1), (2, .int i2)]) hx hb dX5_best_217 hl (k := 3) rfl (Option.some.inj hi4_45) (by decide) rfl (fun ls hl => ?_)
    refine lv_goto (tgt := 182) hx hb dX5_best_220 (by decide) ?_
    exact ih.2.2.2 h hP hS (lv_sub hl [1, 2, 3, 0] rfl)
set_option maxRecDepth 100000 in
set_option maxHeartbeats 4000000 in
theorem X5_best_k0 (hC : Cx p m c cX5_best 7 s args RX5 base D cI cJ tS) (hr : meth.sig.returnType = (some .int)) (hlocks : meth.locks = false) {n : Nat} (ih : (∀ {a0 : Nat} {i1 : Int32} {i2 : Int32} {i3 : Int32} {i4 : Int32} {i5 : Int32} {σ : Sg} {r : Int32} {τ : Sg} {H : Heap} {locs : List Loc} {ls : Array Slot}, X5_best_run n 24 a0 i1 i2 i3 i4 i5 σ = some (r, τ) → Dy base D cI cJ σ H → va_S (fun q => base ≤ q) s.heap H locs → lv_has ls 7 [(0, .ref (base + a0)), (1, .int i1), (2, .int i2)] → W p l e (rmD 3 0 0) s m args below meth c H locs 0 0 (MQ below (QwI base D cI cJ r τ) args s 0 0 (fun q => base ≤ q)) (F0 m 24 ls [])) ∧ (∀ {a0 : Nat} {i1 : Int32} {i2 : Int32} {i3 : Int32} {i4 : Int32} {i5 : Int32} {σ : Sg} {r : Int32} {τ : Sg} {H : Heap} {locs : List Loc} {ls : Array Slot}, X5_best_run n 75 a0 i1 i2 i3 i4 i5 σ = some (r, τ) → Dy base D cI cJ σ H → va_S (fun q => base ≤ q) s.heap H locs → lv_has ls 7 [(0, .ref (base + a0)), (1, .int i1), (2, .int i2), (3, .int i3), (4, .int i4)] → W p l e (rmD 3 0 0) s m args below meth c H locs 0 0 (MQ below (QwI base D cI cJ r τ) args s 0 0 (fun q => base ≤ q)) (F0 m 75 ls [])) ∧ (∀ {a0 : Nat} {i1 : Int32} {i2 : Int32} {i3 : Int32} {i4 : Int32} {i5 : Int32} {σ : Sg} {r : Int32} {τ : Sg} {H : Heap} {locs : List Loc} {ls : Array Slot}, X5_best_run n 85 a0 i1 i2 i3 i4 i5 σ = some (r, τ) → Dy base D cI cJ σ H → va_S (fun q => base ≤ q) s.heap H locs → lv_has ls 7 [(0, .ref (base + a0)), (1, .int i1), (2, .int i2), (3, .int i3), (4, .int i4), (5, .int i5)] → W p l e (rmD 3 0 0) s m args below meth c H locs 0 0 (MQ below (QwI base D cI cJ r τ) args s 0 0 (fun q => base ≤ q)) (F0 m 85 ls [])) ∧ (∀ {a0 : Nat} {i1 : Int32} {i2 : Int32} {i3 : Int32} {i4 : Int32} {i5 : Int32} {σ : Sg} {r : Int32} {τ : Sg} {H : Heap} {locs : List Loc} {ls : Array Slot}, X5_best_run n 182 a0 i1 i2 i3 i4 i5 σ = some (r, τ) → Dy base D cI cJ σ H → va_S (fun q => base ≤ q) s.heap H locs → lv_has ls 7 [(0, .ref (base + a0)), (1, .int i1), (2, .int i2), (4, .int i4)] → W p l e (rmD 3 0 0) s m args below meth c H locs 0 0 (MQ below (QwI base D cI cJ r τ) args s 0 0 (fun q => base ≤ q)) (F0 m 182 ls []))) {a0 : Nat} {i1 : Int32} {σ : Sg} {r : Int32} {τ : Sg} {H : Heap} {locs : List Loc} {ls : Array Slot} (h : X5_best_b0 n (X5_best_run n) a0 i1 σ = some (r, τ)) : Dy base D cI cJ σ H → va_S (fun q => base ≤ q) s.heap H locs → lv_has ls 7 [(0, .ref (base + a0)), (1, .int i1)] → W p l e (rmD 3 0 0) s m args below meth c H locs 0 0 (MQ below (QwI base D cI cJ r τ) args s 0 0 (fun q => base ≤ q)) (F0 m 0 ls []) := by
  intro hP hS hl
  obtain ⟨hx, hb, hml, hown, hts⟩ := hC.1
  unfold X5_best_b0 at h
  refine lv_iload_n hx hb dX5_best_0 rfl (lv_at hl 1 rfl) ?_
  refine lv_iconst (v := 0) hx hb dX5_best_1 (by decide) ?_
  refine lv_iconst (v := 1) hx hb dX5_best_2 (by decide) ?_
  obtain ⟨w_46, hw_46, h⟩ := obn h
  refine k_I (r_stat (As := [.int i1, .int 0, .int 1]) (rest := []) hC hP hS (c_X5_in (l := l) (base := base) (D := D) (cI := cI) (cJ := cJ) (tS := tS) hw_46) wl_111 wl_112 wl_113 wl_110 rfl rfl hd_X5_in ⟨Nat.le_of_ble_eq_true rfl, Nat.le_of_ble_eq_true rfl⟩ rfl hl.1 rfl (Nat.le_of_ble_eq_true rfl) dX5_best_3 ⟨Nat.le_of_ble_eq_true rfl, Nat.le_of_ble_eq_true rfl⟩) hS (fun H locs hP hS => ?_)
  refine lv_if_ne (tgt := 12) hx hb dX5_best_6 (by decide) (fun c_47 => ?_) (fun c_47 => ?_)
  · rw [if_neg c_47] at h
    refine lv_aload_n hx hb dX5_best_12 rfl (lv_at hl 0 rfl) ?_
    obtain ⟨v_48, hv_48, h⟩ := obn h
    refine w_getI (ci := 5) (j := 3) hC hP rfl inlX5 (by decide) (by decide) rfl hv_48 wl_127 dX5_best_13 ?_
    refine lv_if_ne (tgt := 22) hx hb dX5_best_16 (by decide) (fun c_49 => ?_) (fun c_49 => ?_)
    · rw [if_neg c_49] at h
      refine lv_iconst (v := 0) hx hb dX5_best_22 (by decide) ?_
      refine lv_istore_n (lv' := [(2, .int 0), (0, .ref (base + a0)), (1, .int i1)]) hx hb dX5_best_23 rfl hl (by decide) rfl (fun ls hl => ?_)
      exact ih.1 h hP hS (lv_sub hl [1, 2, 0] rfl)
    · rw [if_pos c_49] at h
      refine lv_bipush (v := (-3)) hx hb dX5_best_19 (by decide) ?_
      obtain ⟨rfl, rfl⟩ := Prod.mk.inj (Option.some.inj h)
      exact w_iret hC hr hlocks hP hS dX5_best_21
  · rw [if_pos c_47] at h
    refine lv_bipush (v := (-2)) hx hb dX5_best_9 (by decide) ?_
    obtain ⟨rfl, rfl⟩ := Prod.mk.inj (Option.some.inj h)
    exact w_iret hC hr hlocks hP hS dX5_best_11
set_option maxRecDepth 100000 in
set_option maxHeartbeats 4000000 in
theorem X5_best_all (hC : Cx p m c cX5_best 7 s args RX5 base D cI cJ tS) (hr : meth.sig.returnType = (some .int)) (hlocks : meth.locks = false) : ∀ n : Nat, (∀ {a0 : Nat} {i1 : Int32} {i2 : Int32} {i3 : Int32} {i4 : Int32} {i5 : Int32} {σ : Sg} {r : Int32} {τ : Sg} {H : Heap} {locs : List Loc} {ls : Array Slot}, X5_best_run n 24 a0 i1 i2 i3 i4 i5 σ = some (r, τ) → Dy base D cI cJ σ H → va_S (fun q => base ≤ q) s.heap H locs → lv_has ls 7 [(0, .ref (base + a0)), (1, .int i1), (2, .int i2)] → W p l e (rmD 3 0 0) s m args below meth c H locs 0 0 (MQ below (QwI base D cI cJ r τ) args s 0 0 (fun q => base ≤ q)) (F0 m 24 ls [])) ∧ (∀ {a0 : Nat} {i1 : Int32} {i2 : Int32} {i3 : Int32} {i4 : Int32} {i5 : Int32} {σ : Sg} {r : Int32} {τ : Sg} {H : Heap} {locs : List Loc} {ls : Array Slot}, X5_best_run n 75 a0 i1 i2 i3 i4 i5 σ = some (r, τ) → Dy base D cI cJ σ H → va_S (fun q => base ≤ q) s.heap H locs → lv_has ls 7 [(0, .ref (base + a0)), (1, .int i1), (2, .int i2), (3, .int i3), (4, .int i4)] → W p l e (rmD 3 0 0) s m args below meth c H locs 0 0 (MQ below (QwI base D cI cJ r τ) args s 0 0 (fun q => base ≤ q)) (F0 m 75 ls [])) ∧ (∀ {a0 : Nat} {i1 : Int32} {i2 : Int32} {i3 : Int32} {i4 : Int32} {i5 : Int32} {σ : Sg} {r : Int32} {τ : Sg} {H : Heap} {locs : List Loc} {ls : Array Slot}, X5_best_run n 85 a0 i1 i2 i3 i4 i5 σ = some (r, τ) → Dy base D cI cJ σ H → va_S (fun q => base ≤ q) s.heap H locs → lv_has ls 7 [(0, .ref (base + a0)), (1, .int i1), (2, .int i2), (3, .int i3), (4, .int i4), (5, .int i5)] → W p l e (rmD 3 0 0) s m args below meth c H locs 0 0 (MQ below (QwI base D cI cJ r τ) args s 0 0 (fun q => base ≤ q)) (F0 m 85 ls [])) ∧ (∀ {a0 : Nat} {i1 : Int32} {i2 : Int32} {i3 : Int32} {i4 : Int32} {i5 : Int32} {σ : Sg} {r : Int32} {τ : Sg} {H : Heap} {locs : List Loc} {ls : Array Slot}, X5_best_run n 182 a0 i1 i2 i3 i4 i5 σ = some (r, τ) → Dy base D cI cJ σ H → va_S (fun q => base ≤ q) s.heap H locs → lv_has ls 7 [(0, .ref (base + a0)), (1, .int i1), (2, .int i2), (4, .int i4)] → W p l e (rmD 3 0 0) s m args below meth c H locs 0 0 (MQ below (QwI base D cI cJ r τ) args s 0 0 (fun q => base ≤ q)) (F0 m 182 ls [])) := by
  intro n
  induction n with
  | zero => exact ⟨fun h => (by cases h), fun h => (by cases h), fun h => (by cases h), fun h => (by cases h)⟩
  | succ n ih => exact ⟨fun h => X5_best_k24 hC hr hlocks ih h, fun h => X5_best_k75 hC hr hlocks ih h, fun h => X5_best_k85 hC hr hlocks ih h, fun h => X5_best_k182 hC hr hlocks ih h⟩
set_option maxRecDepth 100000 in
set_option maxHeartbeats 4000000 in
theorem c_X5_best {l : Launch} {base : Nat} {D : va_G} {cI cJ : ClassId} {tS : Nat} {n : Nat} {a0 : Nat} {i1 : Int32} {σ : Sg} {r : Int32} {τ : Sg} (h : f_X5_best n a0 i1 σ = some (r, τ)) : Met l yX5_best (.code yX5_best cX5_best 7 (some .int) :: wsL_law) (rmD 3 0 0) (Pw base D cI cJ tS σ [.ref (base + a0), .int i1]) (QwI base D cI cJ r τ) 0 0 (fun q => base ≤ q) := by
  refine Met.ofW (cc := cX5_best) (maxL := 7) (ret := (some .int)) (by decide) rfl ?_
  intro p e s m args below meth c s₁ B hml hv
  obtain ⟨rfl, hSt, hP⟩ := hv
  have hC : Cx p m c cX5_best 7 s _ RX5 base D cI cJ tS := ⟨⟨B.exec, B.bytes, hml, findClass_of_methodNamed B.named, fun w hw => atoms_spec (ws := Cond.code yX5_best cX5_best 7 (some .int) :: wsL_law) B.pre w (List.mem_cons_of_mem _ hw)⟩, hSt⟩
  have hl := lv_entry ([.ref (base + a0), .int i1]) (n := 7) (Nat.le_of_ble_eq_true rfl)
  rw [lg_entry_eq]
  generalize (lg_sl ([.ref (base + a0), .int i1]) ++ List.replicate (7 - (lg_sl ([.ref (base + a0), .int i1])).length) Slot.unset).toArray = ls at hl ⊢
  exact X5_best_k0 hC B.returns B.notSynchronized (X5_best_all hC B.returns B.notSynchronized n) h hP va_S.rf hl
-- ===== X4_told
set_option maxRecDepth 100000 in
set_option maxHeartbeats 4000000 in
theorem X4_told_k89 (hC : Cx p m c cX4_told 2 s args RX4 base D cI cJ tS) (hr : meth.sig.returnType = (some .int)) (hlocks : meth.locks = false) {n : Nat} {σ : Sg} {r : Int32} {τ : Sg} {H : Heap} {locs : List Loc} {ls : Array Slot} (h : X4_told_b89 n σ = some (r, τ)) : Dy base D cI cJ σ H → va_S (fun q => base ≤ q) s.heap H locs → lv_has ls 2 [] → W p l e (rmD 0 0 0) s m args below meth c H locs 0 0 (MQ below (QwI base D cI cJ r τ) args s 0 0 (fun q => base ≤ q)) (F0 m 89 ls []) := by
  intro hP hS hl
  obtain ⟨hx, hb, hml, hown, hts⟩ := hC.1
  unfold X4_told_b89 at h
  refine lv_bipush (v := (-2)) hx hb dX4_told_89 (by decide) ?_
  obtain ⟨rfl, rfl⟩ := Prod.mk.inj (Option.some.inj h)
  exact w_iret hC hr hlocks hP hS dX4_told_91
set_option maxRecDepth 100000 in
set_option maxHeartbeats 4000000 in
theorem X4_told_k0 (hC : Cx p m c cX4_told 2 s args RX4 base D cI cJ tS) (hr : meth.sig.returnType = (some .int)) (hlocks : meth.locks = false) {n : Nat} {a0 : Nat} {i1 : Int32} {σ : Sg} {r : Int32} {τ : Sg} {H : Heap} {locs : List Loc} {ls : Array Slot} (h : f_X4_told n a0 i1 σ = some (r, τ)) : Dy base D cI cJ σ H → va_S (fun q => base ≤ q) s.heap H locs → lv_has ls 2 [(0, .ref (base + a0)), (1, .int i1)] → W p l e (rmD 0 0 0) s m args below meth c H locs 0 0 (MQ below (QwI base D cI cJ r τ) args s 0 0 (fun q => base ≤ q)) (F0 m 0 ls []) := by
  intro hP hS hl
  obtain ⟨hx, hb, hml, hown, hts⟩ := hC.1
  unfold f_X4_told at h
  refine lv_iload_n hx hb dX4_told_0 rfl (lv_at hl 1 rfl) ?_
  obtain ⟨x_1, hx_1, h⟩ := obn h
  refine w_eqi (Option.some.inj hx_1) ?_
  by_cases c_4 : x_1 = 0
  · rw [if_pos c_4] at h
    refine lv_tableIn (off := 31) (tgt := 32) hx hb dX4_told_1 (by rw [c_4]; decide) (by rw [c_4]; decide) (by rw [c_4]; rfl) (by decide) ?_
    refine lv_aload_n hx hb dX4_told_32 rfl (lv_at hl 0 rfl) ?_
    obtain ⟨q_2, hq_2, h⟩ := obn h
    refine w_getR (ci := 4) (j := 0) hC hP rfl inlX4 (by decide) (by decide) rfl hq_2 wl_43 dX4_told_33 ?_
    obtain ⟨v_3, hv_3, h⟩ := obn h
    refine w_getI (ci := 1) (j := 7) hC hP rfl inlX1 (by decide) (by decide) rfl hv_3 wl_122 dX4_told_36 ?_
    obtain ⟨rfl, rfl⟩ := Prod.mk.inj (Option.some.inj h)
    exact w_iret hC hr hlocks hP hS dX4_told_39
  rw [if_neg c_4] at h
  by_cases c_7 : x_1 = 1
  · rw [if_pos c_7] at h
    refine lv_tableIn (off := 39) (tgt := 40) hx hb dX4_told_1 (by rw [c_7]; decide) (by rw [c_7]; decide) (by rw [c_7]; rfl) (by decide) ?_
    refine lv_aload_n hx hb dX4_told_40 rfl (lv_at hl 0 rfl) ?_
    obtain ⟨q_5, hq_5, h⟩ := obn h
    refine w_getR (ci := 4) (j := 0) hC hP rfl inlX4 (by decide) (by decide) rfl hq_5 wl_43 dX4_told_41 ?_
    obtain ⟨v_6, hv_6, h⟩ := obn h
    refine w_getI (ci := 1) (j := 11) hC hP rfl inlX1 (by decide) (by decide) rfl hv_6 wl_135 dX4_told_44 ?_
    obtain ⟨rfl, rfl⟩ := Prod.mk.inj (Option.some.inj h)
    exact w_iret hC hr hlocks hP hS dX4_told_47
  rw [if_neg c_7] at h
  by_cases c_10 : x_1 = 2
  · rw [if_pos c_10] at h
    refine lv_tableIn (off := 47) (tgt := 48) hx hb dX4_told_1 (by rw [c_10]; decide) (by rw [c_10]; decide) (by rw [c_10]; rfl) (by decide) ?_
    refine lv_aload_n hx hb dX4_told_48 rfl (lv_at hl 0 rfl) ?_
    obtain ⟨q_8, hq_8, h⟩ := obn h
    refine w_getR (ci := 4) (j := 1) hC hP rfl inlX4 (by decide) (by decide) rfl hq_8 wl_49 dX4_told_49 ?_
    obtain ⟨v_9, hv_9, h⟩ := obn h
    refine w_getI (ci := 3) (j := 1) hC hP rfl inlX3 (by decide) (by decide) rfl hv_9 wl_284 dX4_told_52 ?_
    obtain ⟨rfl, rfl⟩ := Prod.mk.inj (Option.some.inj h)
    exact w_iret hC hr hlocks hP hS dX4_told_55
  rw [if_neg c_10] at h
  by_cases c_13 : x_1 = 3
  · rw [if_pos c_13] at h
    refine lv_tableIn (off := 55) (tgt := 56) hx hb dX4_told_1 (by rw [c_13]; decide) (by rw [c_13]; decide) (by rw [c_13]; rfl) (by decide) ?_
    refine lv_aload_n hx hb dX4_told_56 rfl (lv_at hl 0 rfl) ?_
    obtain ⟨q_11, hq_11, h⟩ := obn h
    refine w_getR (ci := 4) (j := 4) hC hP rfl inlX4 (by decide) (by decide) rfl hq_11 wl_62 dX4_told_57 ?_
    obtain ⟨v_12, hv_12, h⟩ := obn h
    refine w_getI (ci := 2) (j := 2) hC hP rfl inlX2 (by decide) (by decide) rfl hv_12 wl_332 dX4_told_60 ?_
    obtain ⟨rfl, rfl⟩ := Prod.mk.inj (Option.some.inj h)
    exact w_iret hC hr hlocks hP hS dX4_told_63
  rw [if_neg c_13] at h
  have hnt : x_1.toInt < 0 ∨ 3 < x_1.toInt := by
    have nc_4 := lv_neT (a := 0) c_4 (by decide)
    have nc_7 := lv_neT (a := 1) c_7 (by decide)
    have nc_10 := lv_neT (a := 2) c_10 (by decide)
    have nc_13 := lv_neT (a := 3) c_13 (by decide)
    omega
  refine lv_tableOut (tgt := 64) hx hb dX4_told_1 hnt (by decide) ?_
  refine lv_iload_n hx hb dX4_told_64 rfl (lv_at hl 1 rfl) ?_
  refine lv_iconst (v := 4) hx hb dX4_told_65 (by decide) ?_
  refine lv_icmp_lt (tgt := 89) hx hb dX4_told_66 (by decide) (fun c_14 => ?_) (fun c_14 => ?_)
  · rw [if_pos c_14] at h
    exact X4_told_k89 hC hr hlocks h hP hS (lv_sub hl [] rfl)
  · rw [if_neg c_14] at h
    refine lv_iload_n hx hb dX4_told_69 rfl (lv_at hl 1 rfl) ?_
    refine lv_bipush (v := 9) hx hb dX4_told_70 (by decide) ?_
    refine lv_icmp_ge (tgt := 89) hx hb dX4_told_72 (by decide) (fun c_15 => ?_) (fun c_15 => ?_)
    · rw [if_pos c_15] at h
      exact X4_told_k89 hC hr hlocks h hP hS (lv_sub hl [] rfl)
    · rw [if_neg c_15] at h
      refine lv_aload_n hx hb dX4_told_75 rfl (lv_at hl 0 rfl) ?_
      obtain ⟨q_16, hq_16, h⟩ := obn h
      refine w_getR (ci := 4) (j := 0) hC hP rfl inlX4 (by decide) (by decide) rfl hq_16 wl_43 dX4_told_76 ?_
      obtain ⟨q_17, hq_17, h⟩ := obn h
      refine w_getR (ci := 1) (j := 3) hC hP rfl inlX1 (by decide) (by decide) rfl hq_17 wl_129 dX4_told_79 ?_
      refine lv_iload_n hx hb dX4_told_82 rfl (lv_at hl 1 rfl) ?_
      refine lv_iconst (v := 4) hx hb dX4_told_83 (by decide) ?_
      refine lv_isub hx hb dX4_told_84 ?_
      obtain ⟨v_18, hv_18, h⟩ := obn h
      refine w_iald hC hP hv_18 dX4_told_85 ?_
      refine lv_goto (tgt := 91) hx hb dX4_told_86 (by decide) ?_
      obtain ⟨rfl, rfl⟩ := Prod.mk.inj (Option.some.inj h)
      exact w_iret hC hr hlocks hP hS dX4_told_91
set_option maxRecDepth 100000 in
set_option maxHeartbeats 4000000 in
theorem c_X4_told {l : Launch} {base : Nat} {D : va_G} {cI cJ : ClassId} {tS : Nat} {n : Nat} {a0 : Nat} {i1 : Int32} {σ : Sg} {r : Int32} {τ : Sg} (h : f_X4_told n a0 i1 σ = some (r, τ)) : Met l yX4_told (.code yX4_told cX4_told 2 (some .int) :: wsL_law) (rmD 0 0 0) (Pw base D cI cJ tS σ [.ref (base + a0), .int i1]) (QwI base D cI cJ r τ) 0 0 (fun q => base ≤ q) := by
  refine Met.ofW (cc := cX4_told) (maxL := 2) (ret := (some .int)) (by decide) rfl ?_
  intro p e s m args below meth c s₁ B hml hv
  obtain ⟨rfl, hSt, hP⟩ := hv
  have hC : Cx p m c cX4_told 2 s _ RX4 base D cI cJ tS := ⟨⟨B.exec, B.bytes, hml, findClass_of_methodNamed B.named, fun w hw => atoms_spec (ws := Cond.code yX4_told cX4_told 2 (some .int) :: wsL_law) B.pre w (List.mem_cons_of_mem _ hw)⟩, hSt⟩
  have hl := lv_entry ([.ref (base + a0), .int i1]) (n := 2) (Nat.le_of_ble_eq_true rfl)
  rw [lg_entry_eq]
  generalize (lg_sl ([.ref (base + a0), .int i1]) ++ List.replicate (2 - (lg_sl ([.ref (base + a0), .int i1])).length) Slot.unset).toArray = ls at hl ⊢
  exact X4_told_k0 hC B.returns B.notSynchronized h hP va_S.rf hl
-- ===== X5_told
set_option maxRecDepth 100000 in
set_option maxHeartbeats 4000000 in
theorem X5_told_k0 (hC : Cx p m c cX5_told 2 s args RX5 base D cI cJ tS) (hr : meth.sig.returnType = (some .int)) (hlocks : meth.locks = false) {n : Nat} {a0 : Nat} {i1 : Int32} {σ : Sg} {r : Int32} {τ : Sg} {H : Heap} {locs : List Loc} {ls : Array Slot} (h : f_X5_told n a0 i1 σ = some (r, τ)) : Dy base D cI cJ σ H → va_S (fun q => base ≤ q) s.heap H locs → lv_has ls 2 [(0, .ref (base + a0)), (1, .int i1)] → W p l e (rmD 1 0 0) s m args below meth c H locs 0 0 (MQ below (QwI base D cI cJ r τ) args s 0 0 (fun q => base ≤ q)) (F0 m 0 ls []) := by
  intro hP hS hl
  obtain ⟨hx, hb, hml, hown, hts⟩ := hC.1
  unfold f_X5_told at h
  refine lv_iload_n hx hb dX5_told_0 rfl (lv_at hl 1 rfl) ?_
  refine lv_if_ne (tgt := 11) hx hb dX5_told_1 (by decide) (fun c_1 => ?_) (fun c_1 => ?_)
  · rw [if_neg c_1] at h
    refine lv_iload_n hx hb dX5_told_11 rfl (lv_at hl 1 rfl) ?_
    refine lv_iconst (v := 1) hx hb dX5_told_12 (by decide) ?_
    refine lv_icmp_ne (tgt := 23) hx hb dX5_told_13 (by decide) (fun c_2 => ?_) (fun c_2 => ?_)
    · rw [if_neg c_2] at h
      refine lv_iload_n hx hb dX5_told_23 rfl (lv_at hl 1 rfl) ?_
      refine lv_iconst (v := 2) hx hb dX5_told_24 (by decide) ?_
      refine lv_icmp_ne (tgt := 35) hx hb dX5_told_25 (by decide) (fun c_3 => ?_) (fun c_3 => ?_)
      · rw [if_neg c_3] at h
        refine lv_iload_n hx hb dX5_told_35 rfl (lv_at hl 1 rfl) ?_
        refine lv_iconst (v := 3) hx hb dX5_told_36 (by decide) ?_
        refine lv_icmp_ne (tgt := 47) hx hb dX5_told_37 (by decide) (fun c_4 => ?_) (fun c_4 => ?_)
        · rw [if_neg c_4] at h
          refine lv_iload_n hx hb dX5_told_47 rfl (lv_at hl 1 rfl) ?_
          refine lv_iconst (v := 4) hx hb dX5_told_48 (by decide) ?_
          refine lv_bipush (v := 8) hx hb dX5_told_49 (by decide) ?_
          obtain ⟨w_5, hw_5, h⟩ := obn h
          refine k_I (r_stat (As := [.int i1, .int 4, .int 8]) (rest := []) hC hP hS (c_X5_in (l := l) (base := base) (D := D) (cI := cI) (cJ := cJ) (tS := tS) hw_5) wl_111 wl_112 wl_113 wl_110 rfl rfl hd_X5_in ⟨Nat.le_of_ble_eq_true rfl, Nat.le_of_ble_eq_true rfl⟩ rfl hl.1 rfl (Nat.le_of_ble_eq_true rfl) dX5_told_51 ⟨Nat.le_of_ble_eq_true rfl, Nat.le_of_ble_eq_true rfl⟩) hS (fun H locs hP hS => ?_)
          refine lv_if_eq (tgt := 68) hx hb dX5_told_54 (by decide) (fun c_6 => ?_) (fun c_6 => ?_)
          · rw [if_pos c_6] at h
            refine lv_bipush (v := (-2)) hx hb dX5_told_68 (by decide) ?_
            obtain ⟨rfl, rfl⟩ := Prod.mk.inj (Option.some.inj h)
            exact w_iret hC hr hlocks hP hS dX5_told_70
          · rw [if_neg c_6] at h
            refine lv_aload_n hx hb dX5_told_57 rfl (lv_at hl 0 rfl) ?_
            obtain ⟨q_7, hq_7, h⟩ := obn h
            refine w_getR (ci := 5) (j := 7) hC hP rfl inlX5 (by decide) (by decide) rfl hq_7 wl_64 dX5_told_58 ?_
            refine lv_iload_n hx hb dX5_told_61 rfl (lv_at hl 1 rfl) ?_
            refine lv_iconst (v := 4) hx hb dX5_told_62 (by decide) ?_
            refine lv_isub hx hb dX5_told_63 ?_
            obtain ⟨v_8, hv_8, h⟩ := obn h
            refine w_iald hC hP hv_8 dX5_told_64 ?_
            refine lv_goto (tgt := 70) hx hb dX5_told_65 (by decide) ?_
            obtain ⟨rfl, rfl⟩ := Prod.mk.inj (Option.some.inj h)
            exact w_iret hC hr hlocks hP hS dX5_told_70
        · rw [if_pos c_4] at h
          refine lv_aload_n hx hb dX5_told_40 rfl (lv_at hl 0 rfl) ?_
          obtain ⟨v_9, hv_9, h⟩ := obn h
          refine w_getI (ci := 5) (j := 14) hC hP rfl inlX5 (by decide) (by decide) rfl hv_9 wl_333 dX5_told_41 ?_
          refine lv_goto (tgt := 70) hx hb dX5_told_44 (by decide) ?_
          obtain ⟨rfl, rfl⟩ := Prod.mk.inj (Option.some.inj h)
          exact w_iret hC hr hlocks hP hS dX5_told_70
      · rw [if_pos c_3] at h
        refine lv_aload_n hx hb dX5_told_28 rfl (lv_at hl 0 rfl) ?_
        obtain ⟨v_10, hv_10, h⟩ := obn h
        refine w_getI (ci := 5) (j := 12) hC hP rfl inlX5 (by decide) (by decide) rfl hv_10 wl_289 dX5_told_29 ?_
        refine lv_goto (tgt := 70) hx hb dX5_told_32 (by decide) ?_
        obtain ⟨rfl, rfl⟩ := Prod.mk.inj (Option.some.inj h)
        exact w_iret hC hr hlocks hP hS dX5_told_70
    · rw [if_pos c_2] at h
      refine lv_aload_n hx hb dX5_told_16 rfl (lv_at hl 0 rfl) ?_
      obtain ⟨v_11, hv_11, h⟩ := obn h
      refine w_getI (ci := 5) (j := 8) hC hP rfl inlX5 (by decide) (by decide) rfl hv_11 wl_144 dX5_told_17 ?_
      refine lv_goto (tgt := 70) hx hb dX5_told_20 (by decide) ?_
      obtain ⟨rfl, rfl⟩ := Prod.mk.inj (Option.some.inj h)
      exact w_iret hC hr hlocks hP hS dX5_told_70
  · rw [if_pos c_1] at h
    refine lv_aload_n hx hb dX5_told_4 rfl (lv_at hl 0 rfl) ?_
    obtain ⟨v_12, hv_12, h⟩ := obn h
    refine w_getI (ci := 5) (j := 3) hC hP rfl inlX5 (by decide) (by decide) rfl hv_12 wl_127 dX5_told_5 ?_
    refine lv_goto (tgt := 70) hx hb dX5_told_8 (by decide) ?_
    obtain ⟨rfl, rfl⟩ := Prod.mk.inj (Option.some.inj h)
    exact w_iret hC hr hlocks hP hS dX5_told_70
set_option maxRecDepth 100000 in
set_option maxHeartbeats 4000000 in
theorem c_X5_told {l : Launch} {base : Nat} {D : va_G} {cI cJ : ClassId} {tS : Nat} {n : Nat} {a0 : Nat} {i1 : Int32} {σ : Sg} {r : Int32} {τ : Sg} (h : f_X5_told n a0 i1 σ = some (r, τ)) : Met l yX5_told (.code yX5_told cX5_told 2 (some .int) :: wsL_law) (rmD 1 0 0) (Pw base D cI cJ tS σ [.ref (base + a0), .int i1]) (QwI base D cI cJ r τ) 0 0 (fun q => base ≤ q) := by
  refine Met.ofW (cc := cX5_told) (maxL := 2) (ret := (some .int)) (by decide) rfl ?_
  intro p e s m args below meth c s₁ B hml hv
  obtain ⟨rfl, hSt, hP⟩ := hv
  have hC : Cx p m c cX5_told 2 s _ RX5 base D cI cJ tS := ⟨⟨B.exec, B.bytes, hml, findClass_of_methodNamed B.named, fun w hw => atoms_spec (ws := Cond.code yX5_told cX5_told 2 (some .int) :: wsL_law) B.pre w (List.mem_cons_of_mem _ hw)⟩, hSt⟩
  have hl := lv_entry ([.ref (base + a0), .int i1]) (n := 2) (Nat.le_of_ble_eq_true rfl)
  rw [lg_entry_eq]
  generalize (lg_sl ([.ref (base + a0), .int i1]) ++ List.replicate (2 - (lg_sl ([.ref (base + a0), .int i1])).length) Slot.unset).toArray = ls at hl ⊢
  exact X5_told_k0 hC B.returns B.notSynchronized h hP va_S.rf hl
end
