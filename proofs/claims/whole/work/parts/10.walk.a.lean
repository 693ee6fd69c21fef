section
variable {p : Program} {l : Launch} {e : Env} {s : State} {m : MethodId} {args : Array Value} {below : List Frame} {meth : Method} {c : Code} {base : Nat} {D : va_G} {cI cJ : ClassId} {tS : Nat}
-- ===== J7_fill_53178
set_option maxRecDepth 100000 in
set_option maxHeartbeats 4000000 in
theorem J7_fill_53178_k5 (hC : Cx p m c cJ7_fill_53178 4 s args RJ7 base D cI cJ tS) (hr : meth.sig.returnType = none) (hlocks : meth.locks = false) {n : Nat} (ih : (∀ {a0 : Nat} {i1 : Int32} {i2 : Int32} {i3 : Int32} {σ : Sg} {τ : Sg} {H : Heap} {locs : List Loc} {ls : Array Slot}, J7_fill_53178_run n a0 i1 i2 i3 σ = some τ → Dy base D cI cJ σ H → va_S (fun q => base ≤ q) s.heap H locs → lv_has ls 4 [(0, .ref (base + a0)), (1, .int i1), (2, .int i2), (3, .int i3)] → W p l e (rmD 0 0 0) s m args below meth c H locs 0 0 (MQ below (QwV base D cI cJ τ) args s 0 0 (fun q => base ≤ q)) (F0 m 5 ls []))) {a0 : Nat} {i1 : Int32} {i2 : Int32} {i3 : Int32} {σ : Sg} {τ : Sg} {H : Heap} {locs : List Loc} {ls : Array Slot} (h : J7_fill_53178_b5 n (J7_fill_53178_run n) a0 i1 i2 i3 σ = some τ) : Dy base D cI cJ σ H → va_S (fun q => base ≤ q) s.heap H locs → lv_has ls 4 [(0, .ref (base + a0)), (1, .int i1), (2, .int i2), (3, .int i3)] → W p l e (rmD 0 0 0) s m args below meth c H locs 0 0 (MQ below (QwV base D cI cJ τ) args s 0 0 (fun q => base ≤ q)) (F0 m 5 ls []) := by
  intro hP hS hl
  obtain ⟨hx, hb, hml, hown, hts⟩ := hC.1
  unfold J7_fill_53178_b5 at h
  refine lv_iload_n hx hb dJ7_fill_53178_5 rfl (lv_at hl 2 rfl) ?_
  refine lv_iload_n hx hb dJ7_fill_53178_6 rfl (lv_at hl 3 rfl) ?_
  refine lv_icmp_ge (tgt := 20) hx hb dJ7_fill_53178_7 (by decide) (fun c_1 => ?_) (fun c_1 => ?_)
  · rw [if_pos c_1] at h
    obtain rfl := Option.some.inj h
    exact w_vret hC hr hlocks hP hS dJ7_fill_53178_20
  · rw [if_neg c_1] at h
    refine lv_aload_n hx hb dJ7_fill_53178_10 rfl (lv_at hl 0 rfl) ?_
    refine lv_iload_n hx hb dJ7_fill_53178_11 rfl (lv_at hl 2 rfl) ?_
    refine lv_iload_n hx hb dJ7_fill_53178_12 rfl (lv_at hl 1 rfl) ?_
    obtain ⟨s_2, hs_2, h⟩ := obn h
    refine w_iast hC hP hS hs_2 dJ7_fill_53178_13 (fun H locs hP hS => ?_)
    obtain ⟨i2_3, hi2_3, h⟩ := obn h
    refine lv_iinc (v := i2_3) (lv' := [(2, .int i2_3), (0, .ref (base + a0)), (1, .int i1), (3, .int i3)]) hx hb dJ7_fill_53178_14 hl (k := 2) rfl (Option.some.inj hi2_3) (by decide) rfl (fun ls hl => ?_)
    refine lv_goto (tgt := 5) hx hb dJ7_fill_53178_17 (by decide) ?_
    exact ih h hP hS (lv_sub hl [1, 2, 0, 3] rfl)
set_option maxRecDepth 100000 in
set_option maxHeartbeats 4000000 in
theorem J7_fill_53178_k0 (hC : Cx p m c cJ7_fill_53178 4 s args RJ7 base D cI cJ tS) (hr : meth.sig.returnType = none) (hlocks : meth.locks = false) {n : Nat} (ih : (∀ {a0 : Nat} {i1 : Int32} {i2 : Int32} {i3 : Int32} {σ : Sg} {τ : Sg} {H : Heap} {locs : List Loc} {ls : Array Slot}, J7_fill_53178_run n a0 i1 i2 i3 σ = some τ → Dy base D cI cJ σ H → va_S (fun q => base ≤ q) s.heap H locs → lv_has ls 4 [(0, .ref (base + a0)), (1, .int i1), (2, .int i2), (3, .int i3)] → W p l e (rmD 0 0 0) s m args below meth c H locs 0 0 (MQ below (QwV base D cI cJ τ) args s 0 0 (fun q => base ≤ q)) (F0 m 5 ls []))) {a0 : Nat} {i1 : Int32} {σ : Sg} {τ : Sg} {H : Heap} {locs : List Loc} {ls : Array Slot} (h : J7_fill_53178_b0 n (J7_fill_53178_run n) a0 i1 σ = some τ) : Dy base D cI cJ σ H → va_S (fun q => base ≤ q) s.heap H locs → lv_has ls 4 [(0, .ref (base + a0)), (1, .int i1)] → W p l e (rmD 0 0 0) s m args below meth c H locs 0 0 (MQ below (QwV base D cI cJ τ) args s 0 0 (fun q => base ≤ q)) (F0 m 0 ls []) := by
  intro hP hS hl
  obtain ⟨hx, hb, hml, hown, hts⟩ := hC.1
  unfold J7_fill_53178_b0 at h
  refine lv_iconst (v := 0) hx hb dJ7_fill_53178_0 (by decide) ?_
  refine lv_istore_n (lv' := [(2, .int 0), (0, .ref (base + a0)), (1, .int i1)]) hx hb dJ7_fill_53178_1 rfl hl (by decide) rfl (fun ls hl => ?_)
  refine lv_aload_n hx hb dJ7_fill_53178_2 rfl (lv_at hl 1 rfl) ?_
  obtain ⟨v_4, hv_4, h⟩ := obn h
  refine w_alen hC hP hv_4 dJ7_fill_53178_3 ?_
  refine lv_istore_n (lv' := [(3, .int v_4), (2, .int 0), (0, .ref (base + a0)), (1, .int i1)]) hx hb dJ7_fill_53178_4 rfl hl (by decide) rfl (fun ls hl => ?_)
  exact ih h hP hS (lv_sub hl [2, 3, 1, 0] rfl)
set_option maxRecDepth 100000 in
set_option maxHeartbeats 4000000 in
theorem J7_fill_53178_all (hC : Cx p m c cJ7_fill_53178 4 s args RJ7 base D cI cJ tS) (hr : meth.sig.returnType = none) (hlocks : meth.locks = false) : ∀ n : Nat, (∀ {a0 : Nat} {i1 : Int32} {i2 : Int32} {i3 : Int32} {σ : Sg} {τ : Sg} {H : Heap} {locs : List Loc} {ls : Array Slot}, J7_fill_53178_run n a0 i1 i2 i3 σ = some τ → Dy base D cI cJ σ H → va_S (fun q => base ≤ q) s.heap H locs → lv_has ls 4 [(0, .ref (base + a0)), (1, .int i1), (2, .int i2), (3, .int i3)] → W p l e (rmD 0 0 0) s m args below meth c H locs 0 0 (MQ below (QwV base D cI cJ τ) args s 0 0 (fun q => base ≤ q)) (F0 m 5 ls [])) := by
  intro n
  induction n with
  | zero => exact fun h => (by cases h)
  | succ n ih => exact fun h => J7_fill_53178_k5 hC hr hlocks ih h
set_option maxRecDepth 100000 in
set_option maxHeartbeats 4000000 in
theorem c_J7_fill_53178 {l : Launch} {base : Nat} {D : va_G} {cI cJ : ClassId} {tS : Nat} {n : Nat} {a0 : Nat} {i1 : Int32} {σ : Sg} {τ : Sg} (h : f_J7_fill_53178 n a0 i1 σ = some τ) : Met l yJ7_fill_53178 (.code yJ7_fill_53178 cJ7_fill_53178 4 none :: wsL_law) (rmD 0 0 0) (Pw base D cI cJ tS σ [.ref (base + a0), .int i1]) (QwV base D cI cJ τ) 0 0 (fun q => base ≤ q) := by
  refine Met.ofW (cc := cJ7_fill_53178) (maxL := 4) (ret := none) (by decide) rfl ?_
  intro p e s m args below meth c s₁ B hml hv
  obtain ⟨rfl, hSt, hP⟩ := hv
  have hC : Cx p m c cJ7_fill_53178 4 s _ RJ7 base D cI cJ tS := ⟨⟨B.exec, B.bytes, hml, findClass_of_methodNamed B.named, fun w hw => atoms_spec (ws := Cond.code yJ7_fill_53178 cJ7_fill_53178 4 none :: wsL_law) B.pre w (List.mem_cons_of_mem _ hw)⟩, hSt⟩
  have hl := lv_entry ([.ref (base + a0), .int i1]) (n := 4) (Nat.le_of_ble_eq_true rfl)
  rw [lg_entry_eq]
  generalize (lg_sl ([.ref (base + a0), .int i1]) ++ List.replicate (4 - (lg_sl ([.ref (base + a0), .int i1])).length) Slot.unset).toArray = ls at hl ⊢
  exact J7_fill_53178_k0 hC B.returns B.notSynchronized (J7_fill_53178_all hC B.returns B.notSynchronized n) h hP va_S.rf hl
-- ===== X1_init
set_option maxRecDepth 100000 in
set_option maxHeartbeats 4000000 in
theorem X1_init_k0 (hC : Cx p m c cX1_init 1 s args RX1 base D cI cJ tS) (hr : meth.sig.returnType = none) (hlocks : meth.locks = false) (hin : meth.name = "<init>") {n : Nat} {a0 : Nat} {σ : Sg} {τ : Sg} {H : Heap} {locs : List Loc} {ls : Array Slot} (h : f_X1_init n a0 σ = some τ) : Dy base D cI cJ σ H → va_S (fun q => base ≤ q) s.heap H locs → lv_has ls 1 [(0, .ref (base + a0))] → W p l e (rmD 1 10 89) s m args below meth c H locs 0 0 (MQ below (QwV base D cI cJ τ) args s 10 89 (fun q => base ≤ q)) (F0 m 0 ls []) := by
  intro hP hS hl
  obtain ⟨hx, hb, hml, hown, hts⟩ := hC.1
  unfold f_X1_init at h
  refine lv_aload_n hx hb dX1_init_0 rfl (lv_at hl 0 rfl) ?_
  refine W.objInit hx hb hown (hts _ wl_0) (hts _ wl_1) (hts _ wl_2) rfl (hl.1.trans hml.symm) rfl dX1_init_1 (Nat.le_of_ble_eq_true rfl) (Nat.le_of_ble_eq_true rfl) ?_
  refine W.eq (g2 := F0 m 4 ls []) rfl ?_
  refine lv_aload_n hx hb dX1_init_4 rfl (lv_at hl 0 rfl) ?_
  refine lv_bipush (v := 10) hx hb dX1_init_5 (by decide) ?_
  obtain ⟨w_1, hw_1, h⟩ := obn h
  refine w_newI (N := 10) hC hP hS (by decide) (by decide) wl_3 (Nat.le_of_ble_eq_true rfl) (Nat.le_of_ble_eq_true rfl) hw_1 dX1_init_7 (fun H hP hS => ?_)
  obtain ⟨s_2, hs_2, h⟩ := obn h
  refine w_putF (ci := 1) (j := 0) hC hP hS hin rfl inlX1 tyX1 tyX1_ok nmX1 (by decide) (by decide) rfl rfl rfl (fun _ => rfl) (fun _ => rfl) hs_2 wl_4 dX1_init_9 (fun H locs hP hS => ?_)
  refine lv_aload_n hx hb dX1_init_12 rfl (lv_at hl 0 rfl) ?_
  refine lv_bipush (v := 10) hx hb dX1_init_13 (by decide) ?_
  obtain ⟨w_3, hw_3, h⟩ := obn h
  refine w_newI (N := 10) hC hP hS (by decide) (by decide) wl_3 (Nat.le_of_ble_eq_true rfl) (Nat.le_of_ble_eq_true rfl) hw_3 dX1_init_15 (fun H hP hS => ?_)
  obtain ⟨s_4, hs_4, h⟩ := obn h
  refine w_putF (ci := 1) (j := 1) hC hP hS hin rfl inlX1 tyX1 tyX1_ok nmX1 (by decide) (by decide) rfl rfl rfl (fun _ => rfl) (fun _ => rfl) hs_4 wl_5 dX1_init_17 (fun H locs hP hS => ?_)
  refine lv_aload_n hx hb dX1_init_20 rfl (lv_at hl 0 rfl) ?_
  refine lv_bipush (v := 10) hx hb dX1_init_21 (by decide) ?_
  obtain ⟨w_5, hw_5, h⟩ := obn h
  refine w_newI (N := 10) hC hP hS (by decide) (by decide) wl_3 (Nat.le_of_ble_eq_true rfl) (Nat.le_of_ble_eq_true rfl) hw_5 dX1_init_23 (fun H hP hS => ?_)
  obtain ⟨s_6, hs_6, h⟩ := obn h
  refine w_putF (ci := 1) (j := 2) hC hP hS hin rfl inlX1 tyX1 tyX1_ok nmX1 (by decide) (by decide) rfl rfl rfl (fun _ => rfl) (fun _ => rfl) hs_6 wl_6 dX1_init_25 (fun H locs hP hS => ?_)
  refine lv_aload_n hx hb dX1_init_28 rfl (lv_at hl 0 rfl) ?_
  refine lv_iconst (v := 5) hx hb dX1_init_29 (by decide) ?_
  obtain ⟨w_7, hw_7, h⟩ := obn h
  refine w_newI (N := 5) hC hP hS (by decide) (by decide) wl_3 (Nat.le_of_ble_eq_true rfl) (Nat.le_of_ble_eq_true rfl) hw_7 dX1_init_30 (fun H hP hS => ?_)
  refine lv_dup hx hb dX1_init_32 rfl ?_
  refine lv_iconst (v := 0) hx hb dX1_init_33 (by decide) ?_
  refine lv_bipush (v := 8) hx hb dX1_init_34 (by decide) ?_
  obtain ⟨s_8, hs_8, h⟩ := obn h
  refine w_iast hC hP hS hs_8 dX1_init_36 (fun H locs hP hS => ?_)
  refine lv_dup hx hb dX1_init_37 rfl ?_
  refine lv_iconst (v := 1) hx hb dX1_init_38 (by decide) ?_
  refine lv_iconst (v := 2) hx hb dX1_init_39 (by decide) ?_
  obtain ⟨s_9, hs_9, h⟩ := obn h
  refine w_iast hC hP hS hs_9 dX1_init_40 (fun H locs hP hS => ?_)
  refine lv_dup hx hb dX1_init_41 rfl ?_
  refine lv_iconst (v := 2) hx hb dX1_init_42 (by decide) ?_
  refine lv_iconst (v := 1) hx hb dX1_init_43 (by decide) ?_
  obtain ⟨s_10, hs_10, h⟩ := obn h
  refine w_iast hC hP hS hs_10 dX1_init_44 (fun H locs hP hS => ?_)
  refine lv_dup hx hb dX1_init_45 rfl ?_
  refine lv_iconst (v := 3) hx hb dX1_init_46 (by decide) ?_
  refine lv_iconst (v := 0) hx hb dX1_init_47 (by decide) ?_
  obtain ⟨s_11, hs_11, h⟩ := obn h
  refine w_iast hC hP hS hs_11 dX1_init_48 (fun H locs hP hS => ?_)
  refine lv_dup hx hb dX1_init_49 rfl ?_
  refine lv_iconst (v := 4) hx hb dX1_init_50 (by decide) ?_
  refine lv_bipush (v := 30) hx hb dX1_init_51 (by decide) ?_
  obtain ⟨s_12, hs_12, h⟩ := obn h
  refine w_iast hC hP hS hs_12 dX1_init_53 (fun H locs hP hS => ?_)
  obtain ⟨s_13, hs_13, h⟩ := obn h
  refine w_putF (ci := 1) (j := 3) hC hP hS hin rfl inlX1 tyX1 tyX1_ok nmX1 (by decide) (by decide) rfl rfl rfl (fun _ => rfl) (fun _ => rfl) hs_13 wl_7 dX1_init_54 (fun H locs hP hS => ?_)
  refine lv_aload_n hx hb dX1_init_57 rfl (lv_at hl 0 rfl) ?_
  refine lv_bipush (v := 8) hx hb dX1_init_58 (by decide) ?_
  obtain ⟨w_14, hw_14, h⟩ := obn h
  refine w_newI (N := 8) hC hP hS (by decide) (by decide) wl_3 (Nat.le_of_ble_eq_true rfl) (Nat.le_of_ble_eq_true rfl) hw_14 dX1_init_60 (fun H hP hS => ?_)
  obtain ⟨s_15, hs_15, h⟩ := obn h
  refine w_putF (ci := 1) (j := 4) hC hP hS hin rfl inlX1 tyX1 tyX1_ok nmX1 (by decide) (by decide) rfl rfl rfl (fun _ => rfl) (fun _ => rfl) hs_15 wl_8 dX1_init_62 (fun H locs hP hS => ?_)
  refine lv_aload_n hx hb dX1_init_65 rfl (lv_at hl 0 rfl) ?_
  refine lv_bipush (v := 8) hx hb dX1_init_66 (by decide) ?_
  obtain ⟨w_16, hw_16, h⟩ := obn h
  refine w_newI (N := 8) hC hP hS (by decide) (by decide) wl_3 (Nat.le_of_ble_eq_true rfl) (Nat.le_of_ble_eq_true rfl) hw_16 dX1_init_68 (fun H hP hS => ?_)
  obtain ⟨s_17, hs_17, h⟩ := obn h
  refine w_putF (ci := 1) (j := 5) hC hP hS hin rfl inlX1 tyX1 tyX1_ok nmX1 (by decide) (by decide) rfl rfl rfl (fun _ => rfl) (fun _ => rfl) hs_17 wl_9 dX1_init_70 (fun H locs hP hS => ?_)
  refine lv_aload_n hx hb dX1_init_73 rfl (lv_at hl 0 rfl) ?_
  refine lv_bipush (v := 8) hx hb dX1_init_74 (by decide) ?_
  obtain ⟨w_18, hw_18, h⟩ := obn h
  refine w_newI (N := 8) hC hP hS (by decide) (by decide) wl_3 (Nat.le_of_ble_eq_true rfl) (Nat.le_of_ble_eq_true rfl) hw_18 dX1_init_76 (fun H hP hS => ?_)
  obtain ⟨s_19, hs_19, h⟩ := obn h
  refine w_putF (ci := 1) (j := 6) hC hP hS hin rfl inlX1 tyX1 tyX1_ok nmX1 (by decide) (by decide) rfl rfl rfl (fun _ => rfl) (fun _ => rfl) hs_19 wl_10 dX1_init_78 (fun H locs hP hS => ?_)
  refine lv_aload_n hx hb dX1_init_81 rfl (lv_at hl 0 rfl) ?_
  refine lv_bipush (v := 10) hx hb dX1_init_82 (by decide) ?_
  obtain ⟨w_20, hw_20, h⟩ := obn h
  refine w_newI (N := 10) hC hP hS (by decide) (by decide) wl_3 (Nat.le_of_ble_eq_true rfl) (Nat.le_of_ble_eq_true rfl) hw_20 dX1_init_84 (fun H hP hS => ?_)
  obtain ⟨s_21, hs_21, h⟩ := obn h
  refine w_putF (ci := 1) (j := 8) hC hP hS hin rfl inlX1 tyX1 tyX1_ok nmX1 (by decide) (by decide) rfl rfl rfl (fun _ => rfl) (fun _ => rfl) hs_21 wl_11 dX1_init_86 (fun H locs hP hS => ?_)
  refine lv_aload_n hx hb dX1_init_89 rfl (lv_at hl 0 rfl) ?_
  refine lv_bipush (v := 10) hx hb dX1_init_90 (by decide) ?_
  obtain ⟨w_22, hw_22, h⟩ := obn h
  refine w_newI (N := 10) hC hP hS (by decide) (by decide) wl_3 (Nat.le_of_ble_eq_true rfl) (Nat.le_of_ble_eq_true rfl) hw_22 dX1_init_92 (fun H hP hS => ?_)
  obtain ⟨s_23, hs_23, h⟩ := obn h
  refine w_putF (ci := 1) (j := 9) hC hP hS hin rfl inlX1 tyX1 tyX1_ok nmX1 (by decide) (by decide) rfl rfl rfl (fun _ => rfl) (fun _ => rfl) hs_23 wl_12 dX1_init_94 (fun H locs hP hS => ?_)
  refine lv_aload_n hx hb dX1_init_97 rfl (lv_at hl 0 rfl) ?_
  refine lv_bipush (v := 10) hx hb dX1_init_98 (by decide) ?_
  obtain ⟨w_24, hw_24, h⟩ := obn h
  refine w_newI (N := 10) hC hP hS (by decide) (by decide) wl_3 (Nat.le_of_ble_eq_true rfl) (Nat.le_of_ble_eq_true rfl) hw_24 dX1_init_100 (fun H hP hS => ?_)
  obtain ⟨s_25, hs_25, h⟩ := obn h
  refine w_putF (ci := 1) (j := 10) hC hP hS hin rfl inlX1 tyX1 tyX1_ok nmX1 (by decide) (by decide) rfl rfl rfl (fun _ => rfl) (fun _ => rfl) hs_25 wl_13 dX1_init_102 (fun H locs hP hS => ?_)
  refine lv_aload_n hx hb dX1_init_105 rfl (lv_at hl 0 rfl) ?_
  obtain ⟨q_26, hq_26, h⟩ := obn h
  refine w_getR (ci := 1) (j := 0) hC hP rfl inlX1 (by decide) (by decide) rfl hq_26 wl_4 dX1_init_106 ?_
  refine lv_bipush (v := 120) hx hb dX1_init_109 (by decide) ?_
  obtain ⟨w_27, hw_27, h⟩ := obn h
  refine k_V (r_stat (As := [.ref (base + q_26), .int 120]) (rest := []) hC hP hS (c_J7_fill_53178 (l := l) (base := base) (D := D) (cI := cI) (cJ := cJ) (tS := tS) hw_27) wl_15 wl_16 wl_17 wl_14 rfl rfl hd_J7_fill_53178 ⟨Nat.le_of_ble_eq_true rfl, Nat.le_of_ble_eq_true rfl⟩ rfl hl.1 rfl (Nat.le_of_ble_eq_true rfl) dX1_init_111 ⟨Nat.le_of_ble_eq_true rfl, Nat.le_of_ble_eq_true rfl⟩) hS (fun H locs hP hS => ?_)
  refine lv_aload_n hx hb dX1_init_114 rfl (lv_at hl 0 rfl) ?_
  obtain ⟨q_28, hq_28, h⟩ := obn h
  refine w_getR (ci := 1) (j := 2) hC hP rfl inlX1 (by decide) (by decide) rfl hq_28 wl_6 dX1_init_115 ?_
  refine lv_iconst (v := 3) hx hb dX1_init_118 (by decide) ?_
  obtain ⟨w_29, hw_29, h⟩ := obn h
  refine k_V (r_stat (As := [.ref (base + q_28), .int 3]) (rest := []) hC hP hS (c_J7_fill_53178 (l := l) (base := base) (D := D) (cI := cI) (cJ := cJ) (tS := tS) hw_29) wl_15 wl_16 wl_17 wl_14 rfl rfl hd_J7_fill_53178 ⟨Nat.le_of_ble_eq_true rfl, Nat.le_of_ble_eq_true rfl⟩ rfl hl.1 rfl (Nat.le_of_ble_eq_true rfl) dX1_init_119 ⟨Nat.le_of_ble_eq_true rfl, Nat.le_of_ble_eq_true rfl⟩) hS (fun H locs hP hS => ?_)
  obtain rfl := Option.some.inj h
  exact w_vret hC hr hlocks hP hS dX1_init_122
set_option maxRecDepth 100000 in
set_option maxHeartbeats 4000000 in
theorem c_X1_init {l : Launch} {base : Nat} {D : va_G} {cI cJ : ClassId} {tS : Nat} {n : Nat} {a0 : Nat} {σ : Sg} {τ : Sg} (h : f_X1_init n a0 σ = some τ) : Met l yX1_init (.code yX1_init cX1_init 1 none :: wsL_law) (rmD 1 10 89) (Pw base D cI cJ tS σ [.ref (base + a0)]) (QwV base D cI cJ τ) 10 89 (fun q => base ≤ q) := by
  refine Met.ofW (cc := cX1_init) (maxL := 1) (ret := none) (by decide) rfl ?_
  intro p e s m args below meth c s₁ B hml hv
  obtain ⟨rfl, hSt, hP⟩ := hv
  have hC : Cx p m c cX1_init 1 s _ RX1 base D cI cJ tS := ⟨⟨B.exec, B.bytes, hml, findClass_of_methodNamed B.named, fun w hw => atoms_spec (ws := Cond.code yX1_init cX1_init 1 none :: wsL_law) B.pre w (List.mem_cons_of_mem _ hw)⟩, hSt⟩
  have hl := lv_entry ([.ref (base + a0)]) (n := 1) (Nat.le_of_ble_eq_true rfl)
  rw [lg_entry_eq]
  generalize (lg_sl ([.ref (base + a0)]) ++ List.replicate (1 - (lg_sl ([.ref (base + a0)])).length) Slot.unset).toArray = ls at hl ⊢
  exact X1_init_k0 hC B.returns B.notSynchronized (name_of_methodNamed B.named B.method).1 h hP va_S.rf hl
-- ===== X3_init
set_option maxRecDepth 100000 in
set_option maxHeartbeats 4000000 in
theorem X3_init_k0 (hC : Cx p m c cX3_init 1 s args RX3 base D cI cJ tS) (hr : meth.sig.returnType = none) (hlocks : meth.locks = false) (hin : meth.name = "<init>") {n : Nat} {a0 : Nat} {σ : Sg} {τ : Sg} {H : Heap} {locs : List Loc} {ls : Array Slot} (h : f_X3_init n a0 σ = some τ) : Dy base D cI cJ σ H → va_S (fun q => base ≤ q) s.heap H locs → lv_has ls 1 [(0, .ref (base + a0))] → W p l e (rmD 1 1 40) s m args below meth c H locs 0 0 (MQ below (QwV base D cI cJ τ) args s 1 40 (fun q => base ≤ q)) (F0 m 0 ls []) := by
  intro hP hS hl
  obtain ⟨hx, hb, hml, hown, hts⟩ := hC.1
  unfold f_X3_init at h
  refine lv_aload_n hx hb dX3_init_0 rfl (lv_at hl 0 rfl) ?_
  refine W.objInit hx hb hown (hts _ wl_18) (hts _ wl_1) (hts _ wl_2) rfl (hl.1.trans hml.symm) rfl dX3_init_1 (Nat.le_of_ble_eq_true rfl) (Nat.le_of_ble_eq_true rfl) ?_
  refine W.eq (g2 := F0 m 4 ls []) rfl ?_
  refine lv_aload_n hx hb dX3_init_4 rfl (lv_at hl 0 rfl) ?_
  refine lv_bipush (v := 40) hx hb dX3_init_5 (by decide) ?_
  obtain ⟨w_1, hw_1, h⟩ := obn h
  refine w_newI (N := 40) hC hP hS (by decide) (by decide) wl_3 (Nat.le_of_ble_eq_true rfl) (Nat.le_of_ble_eq_true rfl) hw_1 dX3_init_7 (fun H hP hS => ?_)
  obtain ⟨s_2, hs_2, h⟩ := obn h
  refine w_putF (ci := 3) (j := 0) hC hP hS hin rfl inlX3 tyX3 tyX3_ok nmX3 (by decide) (by decide) rfl rfl rfl (fun _ => rfl) (fun _ => rfl) hs_2 wl_19 dX3_init_9 (fun H locs hP hS => ?_)
  obtain rfl := Option.some.inj h
  exact w_vret hC hr hlocks hP hS dX3_init_12
set_option maxRecDepth 100000 in
set_option maxHeartbeats 4000000 in
theorem c_X3_init {l : Launch} {base : Nat} {D : va_G} {cI cJ : ClassId} {tS : Nat} {n : Nat} {a0 : Nat} {σ : Sg} {τ : Sg} (h : f_X3_init n a0 σ = some τ) : Met l yX3_init (.code yX3_init cX3_init 1 none :: wsL_law) (rmD 1 1 40) (Pw base D cI cJ tS σ [.ref (base + a0)]) (QwV base D cI cJ τ) 1 40 (fun q => base ≤ q) := by
  refine Met.ofW (cc := cX3_init) (maxL := 1) (ret := none) (by decide) rfl ?_
  intro p e s m args below meth c s₁ B hml hv
  obtain ⟨rfl, hSt, hP⟩ := hv
  have hC : Cx p m c cX3_init 1 s _ RX3 base D cI cJ tS := ⟨⟨B.exec, B.bytes, hml, findClass_of_methodNamed B.named, fun w hw => atoms_spec (ws := Cond.code yX3_init cX3_init 1 none :: wsL_law) B.pre w (List.mem_cons_of_mem _ hw)⟩, hSt⟩
  have hl := lv_entry ([.ref (base + a0)]) (n := 1) (Nat.le_of_ble_eq_true rfl)
  rw [lg_entry_eq]
  generalize (lg_sl ([.ref (base + a0)]) ++ List.replicate (1 - (lg_sl ([.ref (base + a0)])).length) Slot.unset).toArray = ls at hl ⊢
  exact X3_init_k0 hC B.returns B.notSynchronized (name_of_methodNamed B.named B.method).1 h hP va_S.rf hl
-- ===== X0_init
set_option maxRecDepth 100000 in
set_option maxHeartbeats 4000000 in
theorem X0_init_k0 (hC : Cx p m c cX0_init 1 s args RX0 base D cI cJ tS) (hr : meth.sig.returnType = none) (hlocks : meth.locks = false) (hin : meth.name = "<init>") {n : Nat} {a0 : Nat} {σ : Sg} {τ : Sg} {H : Heap} {locs : List Loc} {ls : Array Slot} (h : f_X0_init n a0 σ = some τ) : Dy base D cI cJ σ H → va_S (fun q => base ≤ q) s.heap H locs → lv_has ls 1 [(0, .ref (base + a0))] → W p l e (rmD 1 11 598) s m args below meth c H locs 0 0 (MQ below (QwV base D cI cJ τ) args s 11 598 (fun q => base ≤ q)) (F0 m 0 ls []) := by
  intro hP hS hl
  obtain ⟨hx, hb, hml, hown, hts⟩ := hC.1
  unfold f_X0_init at h
  refine lv_aload_n hx hb dX0_init_0 rfl (lv_at hl 0 rfl) ?_
  refine W.objInit hx hb hown (hts _ wl_20) (hts _ wl_1) (hts _ wl_2) rfl (hl.1.trans hml.symm) rfl dX0_init_1 (Nat.le_of_ble_eq_true rfl) (Nat.le_of_ble_eq_true rfl) ?_
  refine W.eq (g2 := F0 m 4 ls []) rfl ?_
  refine lv_aload_n hx hb dX0_init_4 rfl (lv_at hl 0 rfl) ?_
  refine lv_bipush (v := 80) hx hb dX0_init_5 (by decide) ?_
  obtain ⟨w_1, hw_1, h⟩ := obn h
  refine w_newI (N := 80) hC hP hS (by decide) (by decide) wl_3 (Nat.le_of_ble_eq_true rfl) (Nat.le_of_ble_eq_true rfl) hw_1 dX0_init_7 (fun H hP hS => ?_)
  obtain ⟨s_2, hs_2, h⟩ := obn h
  refine w_putF (ci := 0) (j := 0) hC hP hS hin rfl inlX0 tyX0 tyX0_ok nmX0 (by decide) (by decide) rfl rfl rfl (fun _ => rfl) (fun _ => rfl) hs_2 wl_21 dX0_init_9 (fun H locs hP hS => ?_)
  refine lv_aload_n hx hb dX0_init_12 rfl (lv_at hl 0 rfl) ?_
  refine lv_bipush (v := 80) hx hb dX0_init_13 (by decide) ?_
  obtain ⟨w_3, hw_3, h⟩ := obn h
  refine w_newI (N := 80) hC hP hS (by decide) (by decide) wl_3 (Nat.le_of_ble_eq_true rfl) (Nat.le_of_ble_eq_true rfl) hw_3 dX0_init_15 (fun H hP hS => ?_)
  obtain ⟨s_4, hs_4, h⟩ := obn h
  refine w_putF (ci := 0) (j := 1) hC hP hS hin rfl inlX0 tyX0 tyX0_ok nmX0 (by decide) (by decide) rfl rfl rfl (fun _ => rfl) (fun _ => rfl) hs_4 wl_22 dX0_init_17 (fun H locs hP hS => ?_)
  refine lv_aload_n hx hb dX0_init_20 rfl (lv_at hl 0 rfl) ?_
  refine lv_bipush (v := 80) hx hb dX0_init_21 (by decide) ?_
  obtain ⟨w_5, hw_5, h⟩ := obn h
  refine w_newI (N := 80) hC hP hS (by decide) (by decide) wl_3 (Nat.le_of_ble_eq_true rfl) (Nat.le_of_ble_eq_true rfl) hw_5 dX0_init_23 (fun H hP hS => ?_)
  obtain ⟨s_6, hs_6, h⟩ := obn h
  refine w_putF (ci := 0) (j := 2) hC hP hS hin rfl inlX0 tyX0 tyX0_ok nmX0 (by decide) (by decide) rfl rfl rfl (fun _ => rfl) (fun _ => rfl) hs_6 wl_23 dX0_init_25 (fun H locs hP hS => ?_)
  refine lv_aload_n hx hb dX0_init_28 rfl (lv_at hl 0 rfl) ?_
  refine lv_bipush (v := 80) hx hb dX0_init_29 (by decide) ?_
  obtain ⟨w_7, hw_7, h⟩ := obn h
  refine w_newI (N := 80) hC hP hS (by decide) (by decide) wl_3 (Nat.le_of_ble_eq_true rfl) (Nat.le_of_ble_eq_true rfl) hw_7 dX0_init_31 (fun H hP hS => ?_)
  obtain ⟨s_8, hs_8, h⟩ := obn h
  refine w_putF (ci := 0) (j := 3) hC hP hS hin rfl inlX0 tyX0 tyX0_ok nmX0 (by decide) (by decide) rfl rfl rfl (fun _ => rfl) (fun _ => rfl) hs_8 wl_24 dX0_init_33 (fun H locs hP hS => ?_)
  refine lv_aload_n hx hb dX0_init_36 rfl (lv_at hl 0 rfl) ?_
  refine lv_bipush (v := 80) hx hb dX0_init_37 (by decide) ?_
  obtain ⟨w_9, hw_9, h⟩ := obn h
  refine w_newI (N := 80) hC hP hS (by decide) (by decide) wl_3 (Nat.le_of_ble_eq_true rfl) (Nat.le_of_ble_eq_true rfl) hw_9 dX0_init_39 (fun H hP hS => ?_)
  obtain ⟨s_10, hs_10, h⟩ := obn h
  refine w_putF (ci := 0) (j := 4) hC hP hS hin rfl inlX0 tyX0 tyX0_ok nmX0 (by decide) (by decide) rfl rfl rfl (fun _ => rfl) (fun _ => rfl) hs_10 wl_25 dX0_init_41 (fun H locs hP hS => ?_)
  refine lv_aload_n hx hb dX0_init_44 rfl (lv_at hl 0 rfl) ?_
  refine lv_bipush (v := 80) hx hb dX0_init_45 (by decide) ?_
  obtain ⟨w_11, hw_11, h⟩ := obn h
  refine w_newI (N := 80) hC hP hS (by decide) (by decide) wl_3 (Nat.le_of_ble_eq_true rfl) (Nat.le_of_ble_eq_true rfl) hw_11 dX0_init_47 (fun H hP hS => ?_)
  obtain ⟨s_12, hs_12, h⟩ := obn h
  refine w_putF (ci := 0) (j := 5) hC hP hS hin rfl inlX0 tyX0 tyX0_ok nmX0 (by decide) (by decide) rfl rfl rfl (fun _ => rfl) (fun _ => rfl) hs_12 wl_26 dX0_init_49 (fun H locs hP hS => ?_)
  refine lv_aload_n hx hb dX0_init_52 rfl (lv_at hl 0 rfl) ?_
  refine lv_bipush (v := 80) hx hb dX0_init_53 (by decide) ?_
  obtain ⟨w_13, hw_13, h⟩ := obn h
  refine w_newI (N := 80) hC hP hS (by decide) (by decide) wl_3 (Nat.le_of_ble_eq_true rfl) (Nat.le_of_ble_eq_true rfl) hw_13 dX0_init_55 (fun H hP hS => ?_)
  obtain ⟨s_14, hs_14, h⟩ := obn h
  refine w_putF (ci := 0) (j := 6) hC hP hS hin rfl inlX0 tyX0 tyX0_ok nmX0 (by decide) (by decide) rfl rfl rfl (fun _ => rfl) (fun _ => rfl) hs_14 wl_27 dX0_init_57 (fun H locs hP hS => ?_)
  refine lv_aload_n hx hb dX0_init_60 rfl (lv_at hl 0 rfl) ?_
  refine lv_bipush (v := 10) hx hb dX0_init_61 (by decide) ?_
  obtain ⟨w_15, hw_15, h⟩ := obn h
  refine w_newI (N := 10) hC hP hS (by decide) (by decide) wl_3 (Nat.le_of_ble_eq_true rfl) (Nat.le_of_ble_eq_true rfl) hw_15 dX0_init_63 (fun H hP hS => ?_)
  obtain ⟨s_16, hs_16, h⟩ := obn h
  refine w_putF (ci := 0) (j := 7) hC hP hS hin rfl inlX0 tyX0 tyX0_ok nmX0 (by decide) (by decide) rfl rfl rfl (fun _ => rfl) (fun _ => rfl) hs_16 wl_28 dX0_init_65 (fun H locs hP hS => ?_)
  refine lv_aload_n hx hb dX0_init_68 rfl (lv_at hl 0 rfl) ?_
  refine lv_bipush (v := 10) hx hb dX0_init_69 (by decide) ?_
  obtain ⟨w_17, hw_17, h⟩ := obn h
  refine w_newJ (N := 10) hC hP hS (by decide) (by decide) wl_29 (Nat.le_of_ble_eq_true rfl) (Nat.le_of_ble_eq_true rfl) hw_17 dX0_init_71 (fun H hP hS => ?_)
  obtain ⟨s_18, hs_18, h⟩ := obn h
  refine w_putF (ci := 0) (j := 8) hC hP hS hin rfl inlX0 tyX0 tyX0_ok nmX0 (by decide) (by decide) rfl rfl rfl (fun _ => rfl) (fun _ => rfl) hs_18 wl_30 dX0_init_73 (fun H locs hP hS => ?_)
  refine lv_aload_n hx hb dX0_init_76 rfl (lv_at hl 0 rfl) ?_
  refine lv_bipush (v := 10) hx hb dX0_init_77 (by decide) ?_
  obtain ⟨w_19, hw_19, h⟩ := obn h
  refine w_newI (N := 10) hC hP hS (by decide) (by decide) wl_3 (Nat.le_of_ble_eq_true rfl) (Nat.le_of_ble_eq_true rfl) hw_19 dX0_init_79 (fun H hP hS => ?_)
  obtain ⟨s_20, hs_20, h⟩ := obn h
  refine w_putF (ci := 0) (j := 9) hC hP hS hin rfl inlX0 tyX0 tyX0_ok nmX0 (by decide) (by decide) rfl rfl rfl (fun _ => rfl) (fun _ => rfl) hs_20 wl_31 dX0_init_81 (fun H locs hP hS => ?_)
  refine lv_aload_n hx hb dX0_init_84 rfl (lv_at hl 0 rfl) ?_
  refine lv_bipush (v := 8) hx hb dX0_init_85 (by decide) ?_
  obtain ⟨w_21, hw_21, h⟩ := obn h
  refine w_newI (N := 8) hC hP hS (by decide) (by decide) wl_3 (Nat.le_of_ble_eq_true rfl) (Nat.le_of_ble_eq_true rfl) hw_21 dX0_init_87 (fun H hP hS => ?_)
  obtain ⟨s_22, hs_22, h⟩ := obn h
  refine w_putF (ci := 0) (j := 12) hC hP hS hin rfl inlX0 tyX0 tyX0_ok nmX0 (by decide) (by decide) rfl rfl rfl (fun _ => rfl) (fun _ => rfl) hs_22 wl_32 dX0_init_89 (fun H locs hP hS => ?_)
  obtain rfl := Option.some.inj h
  exact w_vret hC hr hlocks hP hS dX0_init_92
set_option maxRecDepth 100000 in
set_option maxHeartbeats 4000000 in
theorem c_X0_init {l : Launch} {base : Nat} {D : va_G} {cI cJ : ClassId} {tS : Nat} {n : Nat} {a0 : Nat} {σ : Sg} {τ : Sg} (h : f_X0_init n a0 σ = some τ) : Met l yX0_init (.code yX0_init cX0_init 1 none :: wsL_law) (rmD 1 11 598) (Pw base D cI cJ tS σ [.ref (base + a0)]) (QwV base D cI cJ τ) 11 598 (fun q => base ≤ q) := by
  refine Met.ofW (cc := cX0_init) (maxL := 1) (ret := none) (by decide) rfl ?_
  intro p e s m args below meth c s₁ B hml hv
  obtain ⟨rfl, hSt, hP⟩ := hv
  have hC : Cx p m c cX0_init 1 s _ RX0 base D cI cJ tS := ⟨⟨B.exec, B.bytes, hml, findClass_of_methodNamed B.named, fun w hw => atoms_spec (ws := Cond.code yX0_init cX0_init 1 none :: wsL_law) B.pre w (List.mem_cons_of_mem _ hw)⟩, hSt⟩
  have hl := lv_entry ([.ref (base + a0)]) (n := 1) (Nat.le_of_ble_eq_true rfl)
  rw [lg_entry_eq]
  generalize (lg_sl ([.ref (base + a0)]) ++ List.replicate (1 - (lg_sl ([.ref (base + a0)])).length) Slot.unset).toArray = ls at hl ⊢
  exact X0_init_k0 hC B.returns B.notSynchronized (name_of_methodNamed B.named B.method).1 h hP va_S.rf hl
-- ===== X2_init
set_option maxRecDepth 100000 in
set_option maxHeartbeats 4000000 in
theorem X2_init_k0 (hC : Cx p m c cX2_init 1 s args RX2 base D cI cJ tS) (hr : meth.sig.returnType = none) (hlocks : meth.locks = false) (hin : meth.name = "<init>") {n : Nat} {a0 : Nat} {σ : Sg} {τ : Sg} {H : Heap} {locs : List Loc} {ls : Array Slot} (h : f_X2_init n a0 σ = some τ) : Dy base D cI cJ σ H → va_S (fun q => base ≤ q) s.heap H locs → lv_has ls 1 [(0, .ref (base + a0))] → W p l e (rmD 1 2 20) s m args below meth c H locs 0 0 (MQ below (QwV base D cI cJ τ) args s 2 20 (fun q => base ≤ q)) (F0 m 0 ls []) := by
  intro hP hS hl
  obtain ⟨hx, hb, hml, hown, hts⟩ := hC.1
  unfold f_X2_init at h
  refine lv_aload_n hx hb dX2_init_0 rfl (lv_at hl 0 rfl) ?_
  refine W.objInit hx hb hown (hts _ wl_33) (hts _ wl_1) (hts _ wl_2) rfl (hl.1.trans hml.symm) rfl dX2_init_1 (Nat.le_of_ble_eq_true rfl) (Nat.le_of_ble_eq_true rfl) ?_
  refine W.eq (g2 := F0 m 4 ls []) rfl ?_
  refine lv_aload_n hx hb dX2_init_4 rfl (lv_at hl 0 rfl) ?_
  refine lv_bipush (v := 10) hx hb dX2_init_5 (by decide) ?_
  obtain ⟨w_1, hw_1, h⟩ := obn h
  refine w_newI (N := 10) hC hP hS (by decide) (by decide) wl_3 (Nat.le_of_ble_eq_true rfl) (Nat.le_of_ble_eq_true rfl) hw_1 dX2_init_7 (fun H hP hS => ?_)
  obtain ⟨s_2, hs_2, h⟩ := obn h
  refine w_putF (ci := 2) (j := 0) hC hP hS hin rfl inlX2 tyX2 tyX2_ok nmX2 (by decide) (by decide) rfl rfl rfl (fun _ => rfl) (fun _ => rfl) hs_2 wl_34 dX2_init_9 (fun H locs hP hS => ?_)
  refine lv_aload_n hx hb dX2_init_12 rfl (lv_at hl 0 rfl) ?_
  refine lv_bipush (v := 10) hx hb dX2_init_13 (by decide) ?_
  obtain ⟨w_3, hw_3, h⟩ := obn h
  refine w_newI (N := 10) hC hP hS (by decide) (by decide) wl_3 (Nat.le_of_ble_eq_true rfl) (Nat.le_of_ble_eq_true rfl) hw_3 dX2_init_15 (fun H hP hS => ?_)
  obtain ⟨s_4, hs_4, h⟩ := obn h
  refine w_putF (ci := 2) (j := 1) hC hP hS hin rfl inlX2 tyX2 tyX2_ok nmX2 (by decide) (by decide) rfl rfl rfl (fun _ => rfl) (fun _ => rfl) hs_4 wl_35 dX2_init_17 (fun H locs hP hS => ?_)
  obtain rfl := Option.some.inj h
  exact w_vret hC hr hlocks hP hS dX2_init_20
set_option maxRecDepth 100000 in
set_option maxHeartbeats 4000000 in
theorem c_X2_init {l : Launch} {base : Nat} {D : va_G} {cI cJ : ClassId} {tS : Nat} {n : Nat} {a0 : Nat} {σ : Sg} {τ : Sg} (h : f_X2_init n a0 σ = some τ) : Met l yX2_init (.code yX2_init cX2_init 1 none :: wsL_law) (rmD 1 2 20) (Pw base D cI cJ tS σ [.ref (base + a0)]) (QwV base D cI cJ τ) 2 20 (fun q => base ≤ q) := by
  refine Met.ofW (cc := cX2_init) (maxL := 1) (ret := none) (by decide) rfl ?_
  intro p e s m args below meth c s₁ B hml hv
  obtain ⟨rfl, hSt, hP⟩ := hv
  have hC : Cx p m c cX2_init 1 s _ RX2 base D cI cJ tS := ⟨⟨B.exec, B.bytes, hml, findClass_of_methodNamed B.named, fun w hw => atoms_spec (ws := Cond.code yX2_init cX2_init 1 none :: wsL_law) B.pre w (List.mem_cons_of_mem _ hw)⟩, hSt⟩
  have hl := lv_entry ([.ref (base + a0)]) (n := 1) (Nat.le_of_ble_eq_true rfl)
  rw [lg_entry_eq]
  generalize (lg_sl ([.ref (base + a0)]) ++ List.replicate (1 - (lg_sl ([.ref (base + a0)])).length) Slot.unset).toArray = ls at hl ⊢
  exact X2_init_k0 hC B.returns B.notSynchronized (name_of_methodNamed B.named B.method).1 h hP va_S.rf hl
-- ===== X4_init
set_option maxRecDepth 100000 in
set_option maxHeartbeats 4000000 in
theorem X4_init_k0 (hC : Cx p m c cX4_init 1 s args RX4 base D cI cJ tS) (hr : meth.sig.returnType = none) (hlocks : meth.locks = false) (hin : meth.name = "<init>") {n : Nat} {a0 : Nat} {σ : Sg} {τ : Sg} {H : Heap} {locs : List Loc} {ls : Array Slot} (h : f_X4_init n a0 σ = some τ) : Dy base D cI cJ σ H → va_S (fun q => base ≤ q) s.heap H locs → lv_has ls 1 [(0, .ref (base + a0))] → W p l e (rmD 2 43 1417) s m args below meth c H locs 0 0 (MQ below (QwV base D cI cJ τ) args s 43 1417 (fun q => base ≤ q)) (F0 m 0 ls []) := by
  intro hP hS hl
  obtain ⟨hx, hb, hml, hown, hts⟩ := hC.1
  unfold f_X4_init at h
  refine lv_aload_n hx hb dX4_init_0 rfl (lv_at hl 0 rfl) ?_
  refine W.objInit hx hb hown (hts _ wl_36) (hts _ wl_1) (hts _ wl_2) rfl (hl.1.trans hml.symm) rfl dX4_init_1 (Nat.le_of_ble_eq_true rfl) (Nat.le_of_ble_eq_true rfl) ?_
  refine W.eq (g2 := F0 m 4 ls []) rfl ?_
  refine lv_aload_n hx hb dX4_init_4 rfl (lv_at hl 0 rfl) ?_
  obtain ⟨w_1, hw_1, h⟩ := obn h
  refine w_new (ci := 1) hC hP hS rfl inlX1 tyX1 tyX1_ok (by decide) dflX1 wl_37 wl_38 wl_39 (Nat.le_of_ble_eq_true rfl) (Nat.le_of_ble_eq_true rfl) hw_1 dX4_init_5 (fun H hP hS => ?_)
  refine lv_dup hx hb dX4_init_8 rfl ?_
  obtain ⟨w_2, hw_2, h⟩ := obn h
  refine k_V (r_ctor (As := []) (rest := [.ref (base + w_1.1), .ref (base + a0)]) hC hP hS (c_X1_init (l := l) (base := base) (D := D) (cI := cI) (cJ := cJ) (tS := tS) hw_2) wl_41 wl_42 wl_39 wl_40 rfl rfl rfl hd_X1_init ⟨Nat.le_of_ble_eq_true rfl, Nat.le_of_ble_eq_true rfl⟩ rfl hl.1 rfl (Nat.le_of_ble_eq_true rfl) dX4_init_9 ⟨Nat.le_of_ble_eq_true rfl, Nat.le_of_ble_eq_true rfl⟩) hS (fun H locs hP hS => ?_)
  obtain ⟨s_3, hs_3, h⟩ := obn h
  refine w_putF (ci := 4) (j := 0) hC hP hS hin rfl inlX4 tyX4 tyX4_ok nmX4 (by decide) (by decide) rfl rfl rfl (fun _ => rfl) (fun _ => rfl) hs_3 wl_43 dX4_init_12 (fun H locs hP hS => ?_)
  refine lv_aload_n hx hb dX4_init_15 rfl (lv_at hl 0 rfl) ?_
  obtain ⟨w_4, hw_4, h⟩ := obn h
  refine w_new (ci := 3) hC hP hS rfl inlX3 tyX3 tyX3_ok (by decide) dflX3 wl_44 wl_45 wl_46 (Nat.le_of_ble_eq_true rfl) (Nat.le_of_ble_eq_true rfl) hw_4 dX4_init_16 (fun H hP hS => ?_)
  refine lv_dup hx hb dX4_init_19 rfl ?_
  obtain ⟨w_5, hw_5, h⟩ := obn h
  refine k_V (r_ctorN (As := []) (rest := [.ref (base + w_4.1), .ref (base + a0)]) hC hP hS (c_X3_init (l := l) (base := base) (D := D) (cI := cI) (cJ := cJ) (tS := tS) hw_5) hC.2.2.1.1 wl_48 wl_46 wl_47 rfl rfl rfl hd_X3_init ⟨Nat.le_of_ble_eq_true rfl, Nat.le_of_ble_eq_true rfl⟩ rfl hl.1 rfl (Nat.le_of_ble_eq_true rfl) dX4_init_20 ⟨Nat.le_of_ble_eq_true rfl, Nat.le_of_ble_eq_true rfl⟩) hS (fun H locs hP hS => ?_)
  obtain ⟨s_6, hs_6, h⟩ := obn h
  refine w_putF (ci := 4) (j := 1) hC hP hS hin rfl inlX4 tyX4 tyX4_ok nmX4 (by decide) (by decide) rfl rfl rfl (fun _ => rfl) (fun _ => rfl) hs_6 wl_49 dX4_init_23 (fun H locs hP hS => ?_)
  refine lv_aload_n hx hb dX4_init_26 rfl (lv_at hl 0 rfl) ?_
  obtain ⟨w_7, hw_7, h⟩ := obn h
  refine w_new (ci := 0) hC hP hS rfl inlX0 tyX0 tyX0_ok (by decide) dflX0 wl_50 wl_51 wl_52 (Nat.le_of_ble_eq_true rfl) (Nat.le_of_ble_eq_true rfl) hw_7 dX4_init_27 (fun H hP hS => ?_)
  refine lv_dup hx hb dX4_init_30 rfl ?_
  obtain ⟨w_8, hw_8, h⟩ := obn h
  refine k_V (r_ctorN (As := []) (rest := [.ref (base + w_7.1), .ref (base + a0)]) hC hP hS (c_X0_init (l := l) (base := base) (D := D) (cI := cI) (cJ := cJ) (tS := tS) hw_8) hC.2.2.1.2.1 wl_54 wl_52 wl_53 rfl rfl rfl hd_X0_init ⟨Nat.le_of_ble_eq_true rfl, Nat.le_of_ble_eq_true rfl⟩ rfl hl.1 rfl (Nat.le_of_ble_eq_true rfl) dX4_init_31 ⟨Nat.le_of_ble_eq_true rfl, Nat.le_of_ble_eq_true rfl⟩) hS (fun H locs hP hS => ?_)
  obtain ⟨s_9, hs_9, h⟩ := obn h
  refine w_putF (ci := 4) (j := 2) hC hP hS hin rfl inlX4 tyX4 tyX4_ok nmX4 (by decide) (by decide) rfl rfl rfl (fun _ => rfl) (fun _ => rfl) hs_9 wl_55 dX4_init_34 (fun H locs hP hS => ?_)
  refine lv_aload_n hx hb dX4_init_37 rfl (lv_at hl 0 rfl) ?_
  obtain ⟨w_10, hw_10, h⟩ := obn h
  refine w_new (ci := 0) hC hP hS rfl inlX0 tyX0 tyX0_ok (by decide) dflX0 wl_50 wl_51 wl_52 (Nat.le_of_ble_eq_true rfl) (Nat.le_of_ble_eq_true rfl) hw_10 dX4_init_38 (fun H hP hS => ?_)
  refine lv_dup hx hb dX4_init_41 rfl ?_
  obtain ⟨w_11, hw_11, h⟩ := obn h
  refine k_V (r_ctorN (As := []) (rest := [.ref (base + w_10.1), .ref (base + a0)]) hC hP hS (c_X0_init (l := l) (base := base) (D := D) (cI := cI) (cJ := cJ) (tS := tS) hw_11) hC.2.2.1.2.1 wl_54 wl_52 wl_53 rfl rfl rfl hd_X0_init ⟨Nat.le_of_ble_eq_true rfl, Nat.le_of_ble_eq_true rfl⟩ rfl hl.1 rfl (Nat.le_of_ble_eq_true rfl) dX4_init_42 ⟨Nat.le_of_ble_eq_true rfl, Nat.le_of_ble_eq_true rfl⟩) hS (fun H locs hP hS => ?_)
  obtain ⟨s_12, hs_12, h⟩ := obn h
  refine w_putF (ci := 4) (j := 3) hC hP hS hin rfl inlX4 tyX4 tyX4_ok nmX4 (by decide) (by decide) rfl rfl rfl (fun _ => rfl) (fun _ => rfl) hs_12 wl_56 dX4_init_45 (fun H locs hP hS => ?_)
  refine lv_aload_n hx hb dX4_init_48 rfl (lv_at hl 0 rfl) ?_
  obtain ⟨w_13, hw_13, h⟩ := obn h
  refine w_new (ci := 2) hC hP hS rfl inlX2 tyX2 tyX2_ok (by decide) dflX2 wl_57 wl_58 wl_59 (Nat.le_of_ble_eq_true rfl) (Nat.le_of_ble_eq_true rfl) hw_13 dX4_init_49 (fun H hP hS => ?_)
  refine lv_dup hx hb dX4_init_52 rfl ?_
  obtain ⟨w_14, hw_14, h⟩ := obn h
  refine k_V (r_ctorN (As := []) (rest := [.ref (base + w_13.1), .ref (base + a0)]) hC hP hS (c_X2_init (l := l) (base := base) (D := D) (cI := cI) (cJ := cJ) (tS := tS) hw_14) hC.2.2.1.2.2.1 wl_61 wl_59 wl_60 rfl rfl rfl hd_X2_init ⟨Nat.le_of_ble_eq_true rfl, Nat.le_of_ble_eq_true rfl⟩ rfl hl.1 rfl (Nat.le_of_ble_eq_true rfl) dX4_init_53 ⟨Nat.le_of_ble_eq_true rfl, Nat.le_of_ble_eq_true rfl⟩) hS (fun H locs hP hS => ?_)
  obtain ⟨s_15, hs_15, h⟩ := obn h
  refine w_putR (ci := 4) (j := 4) hC hP hS rfl inlX4 tyX4 tyX4_ok nmX4 (by decide) (by decide) rfl rfl (fun _ => rfl) (fun _ => rfl) hs_15 wl_62 dX4_init_56 (fun H locs hP hS => ?_)
  refine lv_aload_n hx hb dX4_init_59 rfl (lv_at hl 0 rfl) ?_
  obtain ⟨w_16, hw_16, h⟩ := obn h
  refine w_new (ci := 2) hC hP hS rfl inlX2 tyX2 tyX2_ok (by decide) dflX2 wl_57 wl_58 wl_59 (Nat.le_of_ble_eq_true rfl) (Nat.le_of_ble_eq_true rfl) hw_16 dX4_init_60 (fun H hP hS => ?_)
  refine lv_dup hx hb dX4_init_63 rfl ?_
  obtain ⟨w_17, hw_17, h⟩ := obn h
  refine k_V (r_ctorN (As := []) (rest := [.ref (base + w_16.1), .ref (base + a0)]) hC hP hS (c_X2_init (l := l) (base := base) (D := D) (cI := cI) (cJ := cJ) (tS := tS) hw_17) hC.2.2.1.2.2.1 wl_61 wl_59 wl_60 rfl rfl rfl hd_X2_init ⟨Nat.le_of_ble_eq_true rfl, Nat.le_of_ble_eq_true rfl⟩ rfl hl.1 rfl (Nat.le_of_ble_eq_true rfl) dX4_init_64 ⟨Nat.le_of_ble_eq_true rfl, Nat.le_of_ble_eq_true rfl⟩) hS (fun H locs hP hS => ?_)
  obtain ⟨s_18, hs_18, h⟩ := obn h
  refine w_putR (ci := 4) (j := 5) hC hP hS rfl inlX4 tyX4 tyX4_ok nmX4 (by decide) (by decide) rfl rfl (fun _ => rfl) (fun _ => rfl) hs_18 wl_63 dX4_init_67 (fun H locs hP hS => ?_)
  obtain rfl := Option.some.inj h
  exact w_vret hC hr hlocks hP hS dX4_init_70
set_option maxRecDepth 100000 in
set_option maxHeartbeats 4000000 in
theorem c_X4_init {l : Launch} {base : Nat} {D : va_G} {cI cJ : ClassId} {tS : Nat} {n : Nat} {a0 : Nat} {σ : Sg} {τ : Sg} (h : f_X4_init n a0 σ = some τ) : Met l yX4_init (.code yX4_init cX4_init 1 none :: wsL_law) (rmD 2 43 1417) (Pw base D cI cJ tS σ [.ref (base + a0)]) (QwV base D cI cJ τ) 43 1417 (fun q => base ≤ q) := by
  refine Met.ofW (cc := cX4_init) (maxL := 1) (ret := none) (by decide) rfl ?_
  intro p e s m args below meth c s₁ B hml hv
  obtain ⟨rfl, hSt, hP⟩ := hv
  have hC : Cx p m c cX4_init 1 s _ RX4 base D cI cJ tS := ⟨⟨B.exec, B.bytes, hml, findClass_of_methodNamed B.named, fun w hw => atoms_spec (ws := Cond.code yX4_init cX4_init 1 none :: wsL_law) B.pre w (List.mem_cons_of_mem _ hw)⟩, hSt⟩
  have hl := lv_entry ([.ref (base + a0)]) (n := 1) (Nat.le_of_ble_eq_true rfl)
  rw [lg_entry_eq]
  generalize (lg_sl ([.ref (base + a0)]) ++ List.replicate (1 - (lg_sl ([.ref (base + a0)])).length) Slot.unset).toArray = ls at hl ⊢
  exact X4_init_k0 hC B.returns B.notSynchronized (name_of_methodNamed B.named B.method).1 h hP va_S.rf hl
-- ===== X5_init
set_option maxRecDepth 100000 in
set_option maxHeartbeats 4000000 in
theorem X5_init_k229 (hC : Cx p m c cX5_init 2 s args RX5 base D cI cJ tS) (hr : meth.sig.returnType = none) (hlocks : meth.locks = false) (hin : meth.name = "<init>") {n : Nat} (ih : (∀ {a0 : Nat} {i1 : Int32} {σ : Sg} {τ : Sg} {H : Heap} {locs : List Loc} {ls : Array Slot}, X5_init_run n a0 i1 σ = some τ → Dy base D cI cJ σ H → va_S (fun q => base ≤ q) s.heap H locs → lv_has ls 2 [(0, .ref (base + a0)), (1, .int i1)] → W p l e (rmD 1 28 852) s m args below meth c H locs 28 852 (MQ below (QwV base D cI cJ τ) args s 28 852 (fun q => base ≤ q)) (F0 m 229 ls []))) {a0 : Nat} {i1 : Int32} {σ : Sg} {τ : Sg} {H : Heap} {locs : List Loc} {ls : Array Slot} (h : X5_init_b229 n (X5_init_run n) a0 i1 σ = some τ) : Dy base D cI cJ σ H → va_S (fun q => base ≤ q) s.heap H locs → lv_has ls 2 [(0, .ref (base + a0)), (1, .int i1)] → W p l e (rmD 1 28 852) s m args below meth c H locs 28 852 (MQ below (QwV base D cI cJ τ) args s 28 852 (fun q => base ≤ q)) (F0 m 229 ls []) := by
  intro hP hS hl
  obtain ⟨hx, hb, hml, hown, hts⟩ := hC.1
  unfold X5_init_b229 at h
  refine lv_iload_n hx hb dX5_init_229 rfl (lv_at hl 1 rfl) ?_
  refine lv_bipush (v := 9) hx hb dX5_init_230 (by decide) ?_
  refine lv_icmp_ge (tgt := 256) hx hb dX5_init_232 (by decide) (fun c_1 => ?_) (fun c_1 => ?_)
  · rw [if_pos c_1] at h
    refine lv_aload_n hx hb dX5_init_256 rfl (lv_at hl 0 rfl) ?_
    obtain ⟨q_2, hq_2, h⟩ := obn h
    refine w_getR (ci := 5) (j := 7) hC hP rfl inlX5 (by decide) (by decide) rfl hq_2 wl_64 dX5_init_257 ?_
    refine lv_iconst (v := 0) hx hb dX5_init_260 (by decide) ?_
    refine lv_bipush (v := 8) hx hb dX5_init_261 (by decide) ?_
    obtain ⟨s_3, hs_3, h⟩ := obn h
    refine w_iast hC hP hS hs_3 dX5_init_263 (fun H locs hP hS => ?_)
    refine lv_aload_n hx hb dX5_init_264 rfl (lv_at hl 0 rfl) ?_
    obtain ⟨q_4, hq_4, h⟩ := obn h
    refine w_getR (ci := 5) (j := 7) hC hP rfl inlX5 (by decide) (by decide) rfl hq_4 wl_64 dX5_init_265 ?_
    refine lv_iconst (v := 1) hx hb dX5_init_268 (by decide) ?_
    refine lv_iconst (v := 2) hx hb dX5_init_269 (by decide) ?_
    obtain ⟨s_5, hs_5, h⟩ := obn h
    refine w_iast hC hP hS hs_5 dX5_init_270 (fun H locs hP hS => ?_)
    refine lv_aload_n hx hb dX5_init_271 rfl (lv_at hl 0 rfl) ?_
    obtain ⟨q_6, hq_6, h⟩ := obn h
    refine w_getR (ci := 5) (j := 7) hC hP rfl inlX5 (by decide) (by decide) rfl hq_6 wl_64 dX5_init_272 ?_
    refine lv_iconst (v := 2) hx hb dX5_init_275 (by decide) ?_
    refine lv_iconst (v := 1) hx hb dX5_init_276 (by decide) ?_
    obtain ⟨s_7, hs_7, h⟩ := obn h
    refine w_iast hC hP hS hs_7 dX5_init_277 (fun H locs hP hS => ?_)
    refine lv_aload_n hx hb dX5_init_278 rfl (lv_at hl 0 rfl) ?_
    obtain ⟨q_8, hq_8, h⟩ := obn h
    refine w_getR (ci := 5) (j := 7) hC hP rfl inlX5 (by decide) (by decide) rfl hq_8 wl_64 dX5_init_279 ?_
    refine lv_iconst (v := 4) hx hb dX5_init_282 (by decide) ?_
    refine lv_bipush (v := 30) hx hb dX5_init_283 (by decide) ?_
    obtain ⟨s_9, hs_9, h⟩ := obn h
    refine w_iast hC hP hS hs_9 dX5_init_285 (fun H locs hP hS => ?_)
    obtain rfl := Option.some.inj h
    exact w_vret hC hr hlocks hP hS dX5_init_286
  · rw [if_neg c_1] at h
    refine lv_aload_n hx hb dX5_init_235 rfl (lv_at hl 0 rfl) ?_
    obtain ⟨q_10, hq_10, h⟩ := obn h
    refine w_getR (ci := 5) (j := 0) hC hP rfl inlX5 (by decide) (by decide) rfl hq_10 wl_65 dX5_init_236 ?_
    refine lv_iload_n hx hb dX5_init_239 rfl (lv_at hl 1 rfl) ?_
    refine lv_bipush (v := 120) hx hb dX5_init_240 (by decide) ?_
    obtain ⟨s_11, hs_11, h⟩ := obn h
    refine w_iast hC hP hS hs_11 dX5_init_242 (fun H locs hP hS => ?_)
    refine lv_aload_n hx hb dX5_init_243 rfl (lv_at hl 0 rfl) ?_
    obtain ⟨q_12, hq_12, h⟩ := obn h
    refine w_getR (ci := 5) (j := 2) hC hP rfl inlX5 (by decide) (by decide) rfl hq_12 wl_66 dX5_init_244 ?_
    refine lv_iload_n hx hb dX5_init_247 rfl (lv_at hl 1 rfl) ?_
    refine lv_iconst (v := 3) hx hb dX5_init_248 (by decide) ?_
    obtain ⟨s_13, hs_13, h⟩ := obn h
    refine w_iast hC hP hS hs_13 dX5_init_249 (fun H locs hP hS => ?_)
    obtain ⟨i1_14, hi1_14, h⟩ := obn h
    refine lv_iinc (v := i1_14) (lv' := [(1, .int i1_14), (0, .ref (base + a0))]) hx hb dX5_init_250 hl (k := 1) rfl (Option.some.inj hi1_14) (by decide) rfl (fun ls hl => ?_)
    refine lv_goto (tgt := 229) hx hb dX5_init_253 (by decide) ?_
    exact ih h hP hS (lv_sub hl [1, 0] rfl)
set_option maxRecDepth 100000 in
set_option maxHeartbeats 4000000 in
theorem X5_init_k0 (hC : Cx p m c cX5_init 2 s args RX5 base D cI cJ tS) (hr : meth.sig.returnType = none) (hlocks : meth.locks = false) (hin : meth.name = "<init>") {n : Nat} (ih : (∀ {a0 : Nat} {i1 : Int32} {σ : Sg} {τ : Sg} {H : Heap} {locs : List Loc} {ls : Array Slot}, X5_init_run n a0 i1 σ = some τ → Dy base D cI cJ σ H → va_S (fun q => base ≤ q) s.heap H locs → lv_has ls 2 [(0, .ref (base + a0)), (1, .int i1)] → W p l e (rmD 1 28 852) s m args below meth c H locs 28 852 (MQ below (QwV base D cI cJ τ) args s 28 852 (fun q => base ≤ q)) (F0 m 229 ls []))) {a0 : Nat} {σ : Sg} {τ : Sg} {H : Heap} {locs : List Loc} {ls : Array Slot} (h : X5_init_b0 n (X5_init_run n) a0 σ = some τ) : Dy base D cI cJ σ H → va_S (fun q => base ≤ q) s.heap H locs → lv_has ls 2 [(0, .ref (base + a0))] → W p l e (rmD 1 28 852) s m args below meth c H locs 0 0 (MQ below (QwV base D cI cJ τ) args s 28 852 (fun q => base ≤ q)) (F0 m 0 ls []) := by
  intro hP hS hl
  obtain ⟨hx, hb, hml, hown, hts⟩ := hC.1
  unfold X5_init_b0 at h
  refine lv_aload_n hx hb dX5_init_0 rfl (lv_at hl 0 rfl) ?_
  refine W.objInit hx hb hown (hts _ wl_67) (hts _ wl_1) (hts _ wl_2) rfl (hl.1.trans hml.symm) rfl dX5_init_1 (Nat.le_of_ble_eq_true rfl) (Nat.le_of_ble_eq_true rfl) ?_
  refine W.eq (g2 := F0 m 4 ls []) rfl ?_
  refine lv_aload_n hx hb dX5_init_4 rfl (lv_at hl 0 rfl) ?_
  refine lv_bipush (v := 9) hx hb dX5_init_5 (by decide) ?_
  obtain ⟨w_15, hw_15, h⟩ := obn h
  refine w_newI (N := 9) hC hP hS (by decide) (by decide) wl_3 (Nat.le_of_ble_eq_true rfl) (Nat.le_of_ble_eq_true rfl) hw_15 dX5_init_7 (fun H hP hS => ?_)
  obtain ⟨s_16, hs_16, h⟩ := obn h
  refine w_putF (ci := 5) (j := 0) hC hP hS hin rfl inlX5 tyX5 tyX5_ok nmX5 (by decide) (by decide) rfl rfl rfl (fun _ => rfl) (fun _ => rfl) hs_16 wl_65 dX5_init_9 (fun H locs hP hS => ?_)
  refine lv_aload_n hx hb dX5_init_12 rfl (lv_at hl 0 rfl) ?_
  refine lv_bipush (v := 9) hx hb dX5_init_13 (by decide) ?_
  obtain ⟨w_17, hw_17, h⟩ := obn h
  refine w_newI (N := 9) hC hP hS (by decide) (by decide) wl_3 (Nat.le_of_ble_eq_true rfl) (Nat.le_of_ble_eq_true rfl) hw_17 dX5_init_15 (fun H hP hS => ?_)
  obtain ⟨s_18, hs_18, h⟩ := obn h
  refine w_putF (ci := 5) (j := 1) hC hP hS hin rfl inlX5 tyX5 tyX5_ok nmX5 (by decide) (by decide) rfl rfl rfl (fun _ => rfl) (fun _ => rfl) hs_18 wl_68 dX5_init_17 (fun H locs hP hS => ?_)
  refine lv_aload_n hx hb dX5_init_20 rfl (lv_at hl 0 rfl) ?_
  refine lv_bipush (v := 9) hx hb dX5_init_21 (by decide) ?_
  obtain ⟨w_19, hw_19, h⟩ := obn h
  refine w_newI (N := 9) hC hP hS (by decide) (by decide) wl_3 (Nat.le_of_ble_eq_true rfl) (Nat.le_of_ble_eq_true rfl) hw_19 dX5_init_23 (fun H hP hS => ?_)
  obtain ⟨s_20, hs_20, h⟩ := obn h
  refine w_putF (ci := 5) (j := 2) hC hP hS hin rfl inlX5 tyX5 tyX5_ok nmX5 (by decide) (by decide) rfl rfl rfl (fun _ => rfl) (fun _ => rfl) hs_20 wl_66 dX5_init_25 (fun H locs hP hS => ?_)
  refine lv_aload_n hx hb dX5_init_28 rfl (lv_at hl 0 rfl) ?_
  refine lv_bipush (v := 8) hx hb dX5_init_29 (by decide) ?_
  obtain ⟨w_21, hw_21, h⟩ := obn h
  refine w_newI (N := 8) hC hP hS (by decide) (by decide) wl_3 (Nat.le_of_ble_eq_true rfl) (Nat.le_of_ble_eq_true rfl) hw_21 dX5_init_31 (fun H hP hS => ?_)
  obtain ⟨s_22, hs_22, h⟩ := obn h
  refine w_putF (ci := 5) (j := 4) hC hP hS hin rfl inlX5 tyX5 tyX5_ok nmX5 (by decide) (by decide) rfl rfl rfl (fun _ => rfl) (fun _ => rfl) hs_22 wl_69 dX5_init_33 (fun H locs hP hS => ?_)
  refine lv_aload_n hx hb dX5_init_36 rfl (lv_at hl 0 rfl) ?_
  refine lv_bipush (v := 8) hx hb dX5_init_37 (by decide) ?_
  obtain ⟨w_23, hw_23, h⟩ := obn h
  refine w_newI (N := 8) hC hP hS (by decide) (by decide) wl_3 (Nat.le_of_ble_eq_true rfl) (Nat.le_of_ble_eq_true rfl) hw_23 dX5_init_39 (fun H hP hS => ?_)
  obtain ⟨s_24, hs_24, h⟩ := obn h
  refine w_putF (ci := 5) (j := 5) hC hP hS hin rfl inlX5 tyX5 tyX5_ok nmX5 (by decide) (by decide) rfl rfl rfl (fun _ => rfl) (fun _ => rfl) hs_24 wl_70 dX5_init_41 (fun H locs hP hS => ?_)
  refine lv_aload_n hx hb dX5_init_44 rfl (lv_at hl 0 rfl) ?_
  refine lv_bipush (v := 8) hx hb dX5_init_45 (by decide) ?_
  obtain ⟨w_25, hw_25, h⟩ := obn h
  refine w_newI (N := 8) hC hP hS (by decide) (by decide) wl_3 (Nat.le_of_ble_eq_true rfl) (Nat.le_of_ble_eq_true rfl) hw_25 dX5_init_47 (fun H hP hS => ?_)
  obtain ⟨s_26, hs_26, h⟩ := obn h
  refine w_putF (ci := 5) (j := 6) hC hP hS hin rfl inlX5 tyX5 tyX5_ok nmX5 (by decide) (by decide) rfl rfl rfl (fun _ => rfl) (fun _ => rfl) hs_26 wl_71 dX5_init_49 (fun H locs hP hS => ?_)
  refine lv_aload_n hx hb dX5_init_52 rfl (lv_at hl 0 rfl) ?_
  refine lv_iconst (v := 5) hx hb dX5_init_53 (by decide) ?_
  obtain ⟨w_27, hw_27, h⟩ := obn h
  refine w_newI (N := 5) hC hP hS (by decide) (by decide) wl_3 (Nat.le_of_ble_eq_true rfl) (Nat.le_of_ble_eq_true rfl) hw_27 dX5_init_54 (fun H hP hS => ?_)
  obtain ⟨s_28, hs_28, h⟩ := obn h
  refine w_putF (ci := 5) (j := 7) hC hP hS hin rfl inlX5 tyX5 tyX5_ok nmX5 (by decide) (by decide) rfl rfl rfl (fun _ => rfl) (fun _ => rfl) hs_28 wl_64 dX5_init_56 (fun H locs hP hS => ?_)
  refine lv_aload_n hx hb dX5_init_59 rfl (lv_at hl 0 rfl) ?_
  refine lv_bipush (v := 11) hx hb dX5_init_60 (by decide) ?_
  obtain ⟨w_29, hw_29, h⟩ := obn h
  refine w_newI (N := 11) hC hP hS (by decide) (by decide) wl_3 (Nat.le_of_ble_eq_true rfl) (Nat.le_of_ble_eq_true rfl) hw_29 dX5_init_62 (fun H hP hS => ?_)
  obtain ⟨s_30, hs_30, h⟩ := obn h
  refine w_putF (ci := 5) (j := 9) hC hP hS hin rfl inlX5 tyX5 tyX5_ok nmX5 (by decide) (by decide) rfl rfl rfl (fun _ => rfl) (fun _ => rfl) hs_30 wl_72 dX5_init_64 (fun H locs hP hS => ?_)
  refine lv_aload_n hx hb dX5_init_67 rfl (lv_at hl 0 rfl) ?_
  refine lv_bipush (v := 11) hx hb dX5_init_68 (by decide) ?_
  obtain ⟨w_31, hw_31, h⟩ := obn h
  refine w_newI (N := 11) hC hP hS (by decide) (by decide) wl_3 (Nat.le_of_ble_eq_true rfl) (Nat.le_of_ble_eq_true rfl) hw_31 dX5_init_70 (fun H hP hS => ?_)
  obtain ⟨s_32, hs_32, h⟩ := obn h
  refine w_putF (ci := 5) (j := 10) hC hP hS hin rfl inlX5 tyX5 tyX5_ok nmX5 (by decide) (by decide) rfl rfl rfl (fun _ => rfl) (fun _ => rfl) hs_32 wl_73 dX5_init_72 (fun H locs hP hS => ?_)
  refine lv_aload_n hx hb dX5_init_75 rfl (lv_at hl 0 rfl) ?_
  refine lv_bipush (v := 11) hx hb dX5_init_76 (by decide) ?_
  obtain ⟨w_33, hw_33, h⟩ := obn h
  refine w_newI (N := 11) hC hP hS (by decide) (by decide) wl_3 (Nat.le_of_ble_eq_true rfl) (Nat.le_of_ble_eq_true rfl) hw_33 dX5_init_78 (fun H hP hS => ?_)
  obtain ⟨s_34, hs_34, h⟩ := obn h
  refine w_putF (ci := 5) (j := 11) hC hP hS hin rfl inlX5 tyX5 tyX5_ok nmX5 (by decide) (by decide) rfl rfl rfl (fun _ => rfl) (fun _ => rfl) hs_34 wl_74 dX5_init_80 (fun H locs hP hS => ?_)
  refine lv_aload_n hx hb dX5_init_83 rfl (lv_at hl 0 rfl) ?_
  refine lv_bipush (v := 40) hx hb dX5_init_84 (by decide) ?_
  obtain ⟨w_35, hw_35, h⟩ := obn h
  refine w_newI (N := 40) hC hP hS (by decide) (by decide) wl_3 (Nat.le_of_ble_eq_true rfl) (Nat.le_of_ble_eq_true rfl) hw_35 dX5_init_86 (fun H hP hS => ?_)
  obtain ⟨s_36, hs_36, h⟩ := obn h
  refine w_putF (ci := 5) (j := 13) hC hP hS hin rfl inlX5 tyX5 tyX5_ok nmX5 (by decide) (by decide) rfl rfl rfl (fun _ => rfl) (fun _ => rfl) hs_36 wl_75 dX5_init_88 (fun H locs hP hS => ?_)
  refine lv_aload_n hx hb dX5_init_91 rfl (lv_at hl 0 rfl) ?_
  refine lv_bipush (v := 10) hx hb dX5_init_92 (by decide) ?_
  obtain ⟨w_37, hw_37, h⟩ := obn h
  refine w_newI (N := 10) hC hP hS (by decide) (by decide) wl_3 (Nat.le_of_ble_eq_true rfl) (Nat.le_of_ble_eq_true rfl) hw_37 dX5_init_94 (fun H hP hS => ?_)
  obtain ⟨s_38, hs_38, h⟩ := obn h
  refine w_putF (ci := 5) (j := 15) hC hP hS hin rfl inlX5 tyX5 tyX5_ok nmX5 (by decide) (by decide) rfl rfl rfl (fun _ => rfl) (fun _ => rfl) hs_38 wl_76 dX5_init_96 (fun H locs hP hS => ?_)
  refine lv_aload_n hx hb dX5_init_99 rfl (lv_at hl 0 rfl) ?_
  refine lv_bipush (v := 10) hx hb dX5_init_100 (by decide) ?_
  obtain ⟨w_39, hw_39, h⟩ := obn h
  refine w_newI (N := 10) hC hP hS (by decide) (by decide) wl_3 (Nat.le_of_ble_eq_true rfl) (Nat.le_of_ble_eq_true rfl) hw_39 dX5_init_102 (fun H hP hS => ?_)
  obtain ⟨s_40, hs_40, h⟩ := obn h
  refine w_putF (ci := 5) (j := 16) hC hP hS hin rfl inlX5 tyX5 tyX5_ok nmX5 (by decide) (by decide) rfl rfl rfl (fun _ => rfl) (fun _ => rfl) hs_40 wl_77 dX5_init_104 (fun H locs hP hS => ?_)
  refine lv_aload_n hx hb dX5_init_107 rfl (lv_at hl 0 rfl) ?_
  refine lv_bipush (v := 80) hx hb dX5_init_108 (by decide) ?_
  obtain ⟨w_41, hw_41, h⟩ := obn h
  refine w_newI (N := 80) hC hP hS (by decide) (by decide) wl_3 (Nat.le_of_ble_eq_true rfl) (Nat.le_of_ble_eq_true rfl) hw_41 dX5_init_110 (fun H hP hS => ?_)
  obtain ⟨s_42, hs_42, h⟩ := obn h
  refine w_putF (ci := 5) (j := 17) hC hP hS hin rfl inlX5 tyX5 tyX5_ok nmX5 (by decide) (by decide) rfl rfl rfl (fun _ => rfl) (fun _ => rfl) hs_42 wl_78 dX5_init_112 (fun H locs hP hS => ?_)
  refine lv_aload_n hx hb dX5_init_115 rfl (lv_at hl 0 rfl) ?_
  refine lv_bipush (v := 80) hx hb dX5_init_116 (by decide) ?_
  obtain ⟨w_43, hw_43, h⟩ := obn h
  refine w_newI (N := 80) hC hP hS (by decide) (by decide) wl_3 (Nat.le_of_ble_eq_true rfl) (Nat.le_of_ble_eq_true rfl) hw_43 dX5_init_118 (fun H hP hS => ?_)
  obtain ⟨s_44, hs_44, h⟩ := obn h
  refine w_putF (ci := 5) (j := 18) hC hP hS hin rfl inlX5 tyX5 tyX5_ok nmX5 (by decide) (by decide) rfl rfl rfl (fun _ => rfl) (fun _ => rfl) hs_44 wl_79 dX5_init_120 (fun H locs hP hS => ?_)
  refine lv_aload_n hx hb dX5_init_123 rfl (lv_at hl 0 rfl) ?_
  refine lv_bipush (v := 80) hx hb dX5_init_124 (by decide) ?_
  obtain ⟨w_45, hw_45, h⟩ := obn h
  refine w_newI (N := 80) hC hP hS (by decide) (by decide) wl_3 (Nat.le_of_ble_eq_true rfl) (Nat.le_of_ble_eq_true rfl) hw_45 dX5_init_126 (fun H hP hS => ?_)
  obtain ⟨s_46, hs_46, h⟩ := obn h
  refine w_putF (ci := 5) (j := 19) hC hP hS hin rfl inlX5 tyX5 tyX5_ok nmX5 (by decide) (by decide) rfl rfl rfl (fun _ => rfl) (fun _ => rfl) hs_46 wl_80 dX5_init_128 (fun H locs hP hS => ?_)
  refine lv_aload_n hx hb dX5_init_131 rfl (lv_at hl 0 rfl) ?_
  refine lv_bipush (v := 80) hx hb dX5_init_132 (by decide) ?_
  obtain ⟨w_47, hw_47, h⟩ := obn h
  refine w_newI (N := 80) hC hP hS (by decide) (by decide) wl_3 (Nat.le_of_ble_eq_true rfl) (Nat.le_of_ble_eq_true rfl) hw_47 dX5_init_134 (fun H hP hS => ?_)
  obtain ⟨s_48, hs_48, h⟩ := obn h
  refine w_putF (ci := 5) (j := 20) hC hP hS hin rfl inlX5 tyX5 tyX5_ok nmX5 (by decide) (by decide) rfl rfl rfl (fun _ => rfl) (fun _ => rfl) hs_48 wl_81 dX5_init_136 (fun H locs hP hS => ?_)
  refine lv_aload_n hx hb dX5_init_139 rfl (lv_at hl 0 rfl) ?_
  refine lv_bipush (v := 80) hx hb dX5_init_140 (by decide) ?_
  obtain ⟨w_49, hw_49, h⟩ := obn h
  refine w_newI (N := 80) hC hP hS (by decide) (by decide) wl_3 (Nat.le_of_ble_eq_true rfl) (Nat.le_of_ble_eq_true rfl) hw_49 dX5_init_142 (fun H hP hS => ?_)
  obtain ⟨s_50, hs_50, h⟩ := obn h
  refine w_putF (ci := 5) (j := 21) hC hP hS hin rfl inlX5 tyX5 tyX5_ok nmX5 (by decide) (by decide) rfl rfl rfl (fun _ => rfl) (fun _ => rfl) hs_50 wl_82 dX5_init_144 (fun H locs hP hS => ?_)
  refine lv_aload_n hx hb dX5_init_147 rfl (lv_at hl 0 rfl) ?_
  refine lv_bipush (v := 80) hx hb dX5_init_148 (by decide) ?_
  obtain ⟨w_51, hw_51, h⟩ := obn h
  refine w_newI (N := 80) hC hP hS (by decide) (by decide) wl_3 (Nat.le_of_ble_eq_true rfl) (Nat.le_of_ble_eq_true rfl) hw_51 dX5_init_150 (fun H hP hS => ?_)
  obtain ⟨s_52, hs_52, h⟩ := obn h
  refine w_putF (ci := 5) (j := 22) hC hP hS hin rfl inlX5 tyX5 tyX5_ok nmX5 (by decide) (by decide) rfl rfl rfl (fun _ => rfl) (fun _ => rfl) hs_52 wl_83 dX5_init_152 (fun H locs hP hS => ?_)
  refine lv_aload_n hx hb dX5_init_155 rfl (lv_at hl 0 rfl) ?_
  refine lv_bipush (v := 80) hx hb dX5_init_156 (by decide) ?_
  obtain ⟨w_53, hw_53, h⟩ := obn h
  refine w_newI (N := 80) hC hP hS (by decide) (by decide) wl_3 (Nat.le_of_ble_eq_true rfl) (Nat.le_of_ble_eq_true rfl) hw_53 dX5_init_158 (fun H hP hS => ?_)
  obtain ⟨s_54, hs_54, h⟩ := obn h
  refine w_putF (ci := 5) (j := 23) hC hP hS hin rfl inlX5 tyX5 tyX5_ok nmX5 (by decide) (by decide) rfl rfl rfl (fun _ => rfl) (fun _ => rfl) hs_54 wl_84 dX5_init_160 (fun H locs hP hS => ?_)
  refine lv_aload_n hx hb dX5_init_163 rfl (lv_at hl 0 rfl) ?_
  refine lv_bipush (v := 80) hx hb dX5_init_164 (by decide) ?_
  obtain ⟨w_55, hw_55, h⟩ := obn h
  refine w_newI (N := 80) hC hP hS (by decide) (by decide) wl_3 (Nat.le_of_ble_eq_true rfl) (Nat.le_of_ble_eq_true rfl) hw_55 dX5_init_166 (fun H hP hS => ?_)
  obtain ⟨s_56, hs_56, h⟩ := obn h
  refine w_putF (ci := 5) (j := 24) hC hP hS hin rfl inlX5 tyX5 tyX5_ok nmX5 (by decide) (by decide) rfl rfl rfl (fun _ => rfl) (fun _ => rfl) hs_56 wl_85 dX5_init_168 (fun H locs hP hS => ?_)
  refine lv_aload_n hx hb dX5_init_171 rfl (lv_at hl 0 rfl) ?_
  refine lv_bipush (v := 9) hx hb dX5_init_172 (by decide) ?_
  obtain ⟨w_57, hw_57, h⟩ := obn h
  refine w_newI (N := 9) hC hP hS (by decide) (by decide) wl_3 (Nat.le_of_ble_eq_true rfl) (Nat.le_of_ble_eq_true rfl) hw_57 dX5_init_174 (fun H hP hS => ?_)
  obtain ⟨s_58, hs_58, h⟩ := obn h
  refine w_putF (ci := 5) (j := 25) hC hP hS hin rfl inlX5 tyX5 tyX5_ok nmX5 (by decide) (by decide) rfl rfl rfl (fun _ => rfl) (fun _ => rfl) hs_58 wl_86 dX5_init_176 (fun H locs hP hS => ?_)
  refine lv_aload_n hx hb dX5_init_179 rfl (lv_at hl 0 rfl) ?_
  refine lv_bipush (v := 9) hx hb dX5_init_180 (by decide) ?_
  obtain ⟨w_59, hw_59, h⟩ := obn h
  refine w_newI (N := 9) hC hP hS (by decide) (by decide) wl_3 (Nat.le_of_ble_eq_true rfl) (Nat.le_of_ble_eq_true rfl) hw_59 dX5_init_182 (fun H hP hS => ?_)
  obtain ⟨s_60, hs_60, h⟩ := obn h
  refine w_putF (ci := 5) (j := 26) hC hP hS hin rfl inlX5 tyX5 tyX5_ok nmX5 (by decide) (by decide) rfl rfl rfl (fun _ => rfl) (fun _ => rfl) hs_60 wl_87 dX5_init_184 (fun H locs hP hS => ?_)
  refine lv_aload_n hx hb dX5_init_187 rfl (lv_at hl 0 rfl) ?_
  refine lv_bipush (v := 9) hx hb dX5_init_188 (by decide) ?_
  obtain ⟨w_61, hw_61, h⟩ := obn h
  refine w_newI (N := 9) hC hP hS (by decide) (by decide) wl_3 (Nat.le_of_ble_eq_true rfl) (Nat.le_of_ble_eq_true rfl) hw_61 dX5_init_190 (fun H hP hS => ?_)
  obtain ⟨s_62, hs_62, h⟩ := obn h
  refine w_putF (ci := 5) (j := 27) hC hP hS hin rfl inlX5 tyX5 tyX5_ok nmX5 (by decide) (by decide) rfl rfl rfl (fun _ => rfl) (fun _ => rfl) hs_62 wl_88 dX5_init_192 (fun H locs hP hS => ?_)
  refine lv_aload_n hx hb dX5_init_195 rfl (lv_at hl 0 rfl) ?_
  refine lv_bipush (v := 8) hx hb dX5_init_196 (by decide) ?_
  obtain ⟨w_63, hw_63, h⟩ := obn h
  refine w_newI (N := 8) hC hP hS (by decide) (by decide) wl_3 (Nat.le_of_ble_eq_true rfl) (Nat.le_of_ble_eq_true rfl) hw_63 dX5_init_198 (fun H hP hS => ?_)
  obtain ⟨s_64, hs_64, h⟩ := obn h
  refine w_putF (ci := 5) (j := 28) hC hP hS hin rfl inlX5 tyX5 tyX5_ok nmX5 (by decide) (by decide) rfl rfl rfl (fun _ => rfl) (fun _ => rfl) hs_64 wl_89 dX5_init_200 (fun H locs hP hS => ?_)
  refine lv_aload_n hx hb dX5_init_203 rfl (lv_at hl 0 rfl) ?_
  refine lv_bipush (v := 8) hx hb dX5_init_204 (by decide) ?_
  obtain ⟨w_65, hw_65, h⟩ := obn h
  refine w_newI (N := 8) hC hP hS (by decide) (by decide) wl_3 (Nat.le_of_ble_eq_true rfl) (Nat.le_of_ble_eq_true rfl) hw_65 dX5_init_206 (fun H hP hS => ?_)
  obtain ⟨s_66, hs_66, h⟩ := obn h
  refine w_putF (ci := 5) (j := 33) hC hP hS hin rfl inlX5 tyX5 tyX5_ok nmX5 (by decide) (by decide) rfl rfl rfl (fun _ => rfl) (fun _ => rfl) hs_66 wl_90 dX5_init_208 (fun H locs hP hS => ?_)
  refine lv_aload_n hx hb dX5_init_211 rfl (lv_at hl 0 rfl) ?_
  refine lv_bipush (v := 10) hx hb dX5_init_212 (by decide) ?_
  obtain ⟨w_67, hw_67, h⟩ := obn h
  refine w_newI (N := 10) hC hP hS (by decide) (by decide) wl_3 (Nat.le_of_ble_eq_true rfl) (Nat.le_of_ble_eq_true rfl) hw_67 dX5_init_214 (fun H hP hS => ?_)
  obtain ⟨s_68, hs_68, h⟩ := obn h
  refine w_putF (ci := 5) (j := 35) hC hP hS hin rfl inlX5 tyX5 tyX5_ok nmX5 (by decide) (by decide) rfl rfl rfl (fun _ => rfl) (fun _ => rfl) hs_68 wl_91 dX5_init_216 (fun H locs hP hS => ?_)
  refine lv_aload_n hx hb dX5_init_219 rfl (lv_at hl 0 rfl) ?_
  refine lv_bipush (v := 10) hx hb dX5_init_220 (by decide) ?_
  obtain ⟨w_69, hw_69, h⟩ := obn h
  refine w_newI (N := 10) hC hP hS (by decide) (by decide) wl_3 (Nat.le_of_ble_eq_true rfl) (Nat.le_of_ble_eq_true rfl) hw_69 dX5_init_222 (fun H hP hS => ?_)
  obtain ⟨s_70, hs_70, h⟩ := obn h
  refine w_putF (ci := 5) (j := 36) hC hP hS hin rfl inlX5 tyX5 tyX5_ok nmX5 (by decide) (by decide) rfl rfl rfl (fun _ => rfl) (fun _ => rfl) hs_70 wl_92 dX5_init_224 (fun H locs hP hS => ?_)
  refine lv_iconst (v := 0) hx hb dX5_init_227 (by decide) ?_
  refine lv_istore_n (lv' := [(1, .int 0), (0, .ref (base + a0))]) hx hb dX5_init_228 rfl hl (by decide) rfl (fun ls hl => ?_)
  exact ih h hP hS (lv_sub hl [1, 0] rfl)
set_option maxRecDepth 100000 in
set_option maxHeartbeats 4000000 in
theorem X5_init_all (hC : Cx p m c cX5_init 2 s args RX5 base D cI cJ tS) (hr : meth.sig.returnType = none) (hlocks : meth.locks = false) (hin : meth.name = "<init>") : ∀ n : Nat, (∀ {a0 : Nat} {i1 : Int32} {σ : Sg} {τ : Sg} {H : Heap} {locs : List Loc} {ls : Array Slot}, X5_init_run n a0 i1 σ = some τ → Dy base D cI cJ σ H → va_S (fun q => base ≤ q) s.heap H locs → lv_has ls 2 [(0, .ref (base + a0)), (1, .int i1)] → W p l e (rmD 1 28 852) s m args below meth c H locs 28 852 (MQ below (QwV base D cI cJ τ) args s 28 852 (fun q => base ≤ q)) (F0 m 229 ls [])) := by
  intro n
  induction n with
  | zero => exact fun h => (by cases h)
  | succ n ih => exact fun h => X5_init_k229 hC hr hlocks hin ih h
set_option maxRecDepth 100000 in
set_option maxHeartbeats 4000000 in
theorem c_X5_init {l : Launch} {base : Nat} {D : va_G} {cI cJ : ClassId} {tS : Nat} {n : Nat} {a0 : Nat} {σ : Sg} {τ : Sg} (h : f_X5_init n a0 σ = some τ) : Met l yX5_init (.code yX5_init cX5_init 2 none :: wsL_law) (rmD 1 28 852) (Pw base D cI cJ tS σ [.ref (base + a0)]) (QwV base D cI cJ τ) 28 852 (fun q => base ≤ q) := by
  refine Met.ofW (cc := cX5_init) (maxL := 2) (ret := none) (by decide) rfl ?_
  intro p e s m args below meth c s₁ B hml hv
  obtain ⟨rfl, hSt, hP⟩ := hv
  have hC : Cx p m c cX5_init 2 s _ RX5 base D cI cJ tS := ⟨⟨B.exec, B.bytes, hml, findClass_of_methodNamed B.named, fun w hw => atoms_spec (ws := Cond.code yX5_init cX5_init 2 none :: wsL_law) B.pre w (List.mem_cons_of_mem _ hw)⟩, hSt⟩
  have hl := lv_entry ([.ref (base + a0)]) (n := 2) (Nat.le_of_ble_eq_true rfl)
  rw [lg_entry_eq]
  generalize (lg_sl ([.ref (base + a0)]) ++ List.replicate (2 - (lg_sl ([.ref (base + a0)])).length) Slot.unset).toArray = ls at hl ⊢
  exact X5_init_k0 hC B.returns B.notSynchronized (name_of_methodNamed B.named B.method).1 (X5_init_all hC B.returns B.notSynchronized (name_of_methodNamed B.named B.method).1 n) h hP va_S.rf hl
-- ===== X4_isGoingStop
set_option maxRecDepth 100000 in
set_option maxHeartbeats 4000000 in
theorem X4_isGoingStop_k14 (hC : Cx p m c cX4_isGoingStop 1 s args RX4 base D cI cJ tS) (hr : meth.sig.returnType = (some .boolean)) (hlocks : meth.locks = false) {n : Nat} {σ : Sg} {r : Int32} {τ : Sg} {H : Heap} {locs : List Loc} {ls : Array Slot} (h : X4_isGoingStop_b14 n σ = some (r, τ)) : Dy base D cI cJ σ H → va_S (fun q => base ≤ q) s.heap H locs → lv_has ls 1 [] → W p l e (rmD 0 0 0) s m args below meth c H locs 0 0 (MQ below (QwI base D cI cJ r τ) args s 0 0 (fun q => base ≤ q)) (F0 m 14 ls []) := by
  intro hP hS hl
  obtain ⟨hx, hb, hml, hown, hts⟩ := hC.1
  unfold X4_isGoingStop_b14 at h
  refine lv_iconst (v := 0) hx hb dX4_isGoingStop_14 (by decide) ?_
  exact w_zret hC hr hlocks hP hS h dX4_isGoingStop_15
set_option maxRecDepth 100000 in
set_option maxHeartbeats 4000000 in
theorem X4_isGoingStop_k0 (hC : Cx p m c cX4_isGoingStop 1 s args RX4 base D cI cJ tS) (hr : meth.sig.returnType = (some .boolean)) (hlocks : meth.locks = false) {n : Nat} {i0 : Int32} {σ : Sg} {r : Int32} {τ : Sg} {H : Heap} {locs : List Loc} {ls : Array Slot} (h : f_X4_isGoingStop n i0 σ = some (r, τ)) : Dy base D cI cJ σ H → va_S (fun q => base ≤ q) s.heap H locs → lv_has ls 1 [(0, .int i0)] → W p l e (rmD 0 0 0) s m args below meth c H locs 0 0 (MQ below (QwI base D cI cJ r τ) args s 0 0 (fun q => base ≤ q)) (F0 m 0 ls []) := by
  intro hP hS hl
  obtain ⟨hx, hb, hml, hown, hts⟩ := hC.1
  unfold f_X4_isGoingStop at h
  refine lv_iload_n hx hb dX4_isGoingStop_0 rfl (lv_at hl 0 rfl) ?_
  refine lv_if_lt (tgt := 14) hx hb dX4_isGoingStop_1 (by decide) (fun c_1 => ?_) (fun c_1 => ?_)
  · rw [if_pos c_1] at h
    exact X4_isGoingStop_k14 hC hr hlocks h hP hS (lv_sub hl [] rfl)
  · rw [if_neg c_1] at h
    refine lv_iload_n hx hb dX4_isGoingStop_4 rfl (lv_at hl 0 rfl) ?_
    refine lv_bipush (v := 9) hx hb dX4_isGoingStop_5 (by decide) ?_
    refine lv_icmp_ge (tgt := 14) hx hb dX4_isGoingStop_7 (by decide) (fun c_2 => ?_) (fun c_2 => ?_)
    · rw [if_pos c_2] at h
      exact X4_isGoingStop_k14 hC hr hlocks h hP hS (lv_sub hl [] rfl)
    · rw [if_neg c_2] at h
      refine lv_iconst (v := 1) hx hb dX4_isGoingStop_10 (by decide) ?_
      refine lv_goto (tgt := 15) hx hb dX4_isGoingStop_11 (by decide) ?_
      exact w_zret hC hr hlocks hP hS h dX4_isGoingStop_15
set_option maxRecDepth 100000 in
set_option maxHeartbeats 4000000 in
theorem c_X4_isGoingStop {l : Launch} {base : Nat} {D : va_G} {cI cJ : ClassId} {tS : Nat} {n : Nat} {i0 : Int32} {σ : Sg} {r : Int32} {τ : Sg} (h : f_X4_isGoingStop n i0 σ = some (r, τ)) : Met l yX4_isGoingStop (.code yX4_isGoingStop cX4_isGoingStop 1 (some .boolean) :: wsL_law) (rmD 0 0 0) (Pw base D cI cJ tS σ [.int i0]) (QwI base D cI cJ r τ) 0 0 (fun q => base ≤ q) := by
  refine Met.ofW (cc := cX4_isGoingStop) (maxL := 1) (ret := (some .boolean)) (by decide) rfl ?_
  intro p e s m args below meth c s₁ B hml hv
  obtain ⟨rfl, hSt, hP⟩ := hv
  have hC : Cx p m c cX4_isGoingStop 1 s _ RX4 base D cI cJ tS := ⟨⟨B.exec, B.bytes, hml, findClass_of_methodNamed B.named, fun w hw => atoms_spec (ws := Cond.code yX4_isGoingStop cX4_isGoingStop 1 (some .boolean) :: wsL_law) B.pre w (List.mem_cons_of_mem _ hw)⟩, hSt⟩
  have hl := lv_entry ([.int i0]) (n := 1) (Nat.le_of_ble_eq_true rfl)
  rw [lg_entry_eq]
  generalize (lg_sl ([.int i0]) ++ List.replicate (1 - (lg_sl ([.int i0])).length) Slot.unset).toArray = ls at hl ⊢
  exact X4_isGoingStop_k0 hC B.returns B.notSynchronized h hP va_S.rf hl
-- ===== X1_allowsAtStop
set_option maxRecDepth 100000 in
set_option maxHeartbeats 4000000 in
theorem X1_allowsAtStop_k45 (hC : Cx p m c cX1_allowsAtStop 2 s args RX1 base D cI cJ tS) (hr : meth.sig.returnType = (some .boolean)) (hlocks : meth.locks = false) {n : Nat} {σ : Sg} {r : Int32} {τ : Sg} {H : Heap} {locs : List Loc} {ls : Array Slot} (h : X1_allowsAtStop_b45 n σ = some (r, τ)) : Dy base D cI cJ σ H → va_S (fun q => base ≤ q) s.heap H locs → lv_has ls 2 [] → W p l e (rmD 0 0 0) s m args below meth c H locs 0 0 (MQ below (QwI base D cI cJ r τ) args s 0 0 (fun q => base ≤ q)) (F0 m 45 ls []) := by
  intro hP hS hl
  obtain ⟨hx, hb, hml, hown, hts⟩ := hC.1
  unfold X1_allowsAtStop_b45 at h
  refine lv_iconst (v := 0) hx hb dX1_allowsAtStop_45 (by decide) ?_
  exact w_zret hC hr hlocks hP hS h dX1_allowsAtStop_46
set_option maxRecDepth 100000 in
set_option maxHeartbeats 4000000 in
theorem X1_allowsAtStop_k64 (hC : Cx p m c cX1_allowsAtStop 2 s args RX1 base D cI cJ tS) (hr : meth.sig.returnType = (some .boolean)) (hlocks : meth.locks = false) {n : Nat} {σ : Sg} {r : Int32} {τ : Sg} {H : Heap} {locs : List Loc} {ls : Array Slot} (h : X1_allowsAtStop_b64 n σ = some (r, τ)) : Dy base D cI cJ σ H → va_S (fun q => base ≤ q) s.heap H locs → lv_has ls 2 [] → W p l e (rmD 0 0 0) s m args below meth c H locs 0 0 (MQ below (QwI base D cI cJ r τ) args s 0 0 (fun q => base ≤ q)) (F0 m 64 ls []) := by
  intro hP hS hl
  obtain ⟨hx, hb, hml, hown, hts⟩ := hC.1
  unfold X1_allowsAtStop_b64 at h
  refine lv_iconst (v := 1) hx hb dX1_allowsAtStop_64 (by decide) ?_
  refine lv_goto (tgt := 69) hx hb dX1_allowsAtStop_65 (by decide) ?_
  exact w_zret hC hr hlocks hP hS h dX1_allowsAtStop_69
set_option maxRecDepth 100000 in
set_option maxHeartbeats 4000000 in
theorem X1_allowsAtStop_k68 (hC : Cx p m c cX1_allowsAtStop 2 s args RX1 base D cI cJ tS) (hr : meth.sig.returnType = (some .boolean)) (hlocks : meth.locks = false) {n : Nat} {σ : Sg} {r : Int32} {τ : Sg} {H : Heap} {locs : List Loc} {ls : Array Slot} (h : X1_allowsAtStop_b68 n σ = some (r, τ)) : Dy base D cI cJ σ H → va_S (fun q => base ≤ q) s.heap H locs → lv_has ls 2 [] → W p l e (rmD 0 0 0) s m args below meth c H locs 0 0 (MQ below (QwI base D cI cJ r τ) args s 0 0 (fun q => base ≤ q)) (F0 m 68 ls []) := by
  intro hP hS hl
  obtain ⟨hx, hb, hml, hown, hts⟩ := hC.1
  unfold X1_allowsAtStop_b68 at h
  refine lv_iconst (v := 0) hx hb dX1_allowsAtStop_68 (by decide) ?_
  exact w_zret hC hr hlocks hP hS h dX1_allowsAtStop_69
set_option maxRecDepth 100000 in
set_option maxHeartbeats 4000000 in
theorem X1_allowsAtStop_k85 (hC : Cx p m c cX1_allowsAtStop 2 s args RX1 base D cI cJ tS) (hr : meth.sig.returnType = (some .boolean)) (hlocks : meth.locks = false) {n : Nat} {σ : Sg} {r : Int32} {τ : Sg} {H : Heap} {locs : List Loc} {ls : Array Slot} (h : X1_allowsAtStop_b85 n σ = some (r, τ)) : Dy base D cI cJ σ H → va_S (fun q => base ≤ q) s.heap H locs → lv_has ls 2 [] → W p l e (rmD 0 0 0) s m args below meth c H locs 0 0 (MQ below (QwI base D cI cJ r τ) args s 0 0 (fun q => base ≤ q)) (F0 m 85 ls []) := by
  intro hP hS hl
  obtain ⟨hx, hb, hml, hown, hts⟩ := hC.1
  unfold X1_allowsAtStop_b85 at h
  refine lv_iconst (v := 0) hx hb dX1_allowsAtStop_85 (by decide) ?_
  exact w_zret hC hr hlocks hP hS h dX1_allowsAtStop_86
set_option maxRecDepth 100000 in
set_option maxHeartbeats 4000000 in
theorem X1_allowsAtStop_k0 (hC : Cx p m c cX1_allowsAtStop 2 s args RX1 base D cI cJ tS) (hr : meth.sig.returnType = (some .boolean)) (hlocks : meth.locks = false) {n : Nat} {i0 : Int32} {i1 : Int32} {σ : Sg} {r : Int32} {τ : Sg} {H : Heap} {locs : List Loc} {ls : Array Slot} (h : f_X1_allowsAtStop n i0 i1 σ = some (r, τ)) : Dy base D cI cJ σ H → va_S (fun q => base ≤ q) s.heap H locs → lv_has ls 2 [(0, .int i0), (1, .int i1)] → W p l e (rmD 0 0 0) s m args below meth c H locs 0 0 (MQ below (QwI base D cI cJ r τ) args s 0 0 (fun q => base ≤ q)) (F0 m 0 ls []) := by
  intro hP hS hl
  obtain ⟨hx, hb, hml, hown, hts⟩ := hC.1
  unfold f_X1_allowsAtStop at h
  refine lv_iload_n hx hb dX1_allowsAtStop_0 rfl (lv_at hl 0 rfl) ?_
  obtain ⟨x_1, hx_1, h⟩ := obn h
  refine w_eqi (Option.some.inj hx_1) ?_
  by_cases c_4 : x_1 = 0
  · rw [if_pos c_4] at h
    refine lv_tableIn (off := 27) (tgt := 28) hx hb dX1_allowsAtStop_1 (by rw [c_4]; decide) (by rw [c_4]; decide) (by rw [c_4]; rfl) (by decide) ?_
    refine lv_iload_n hx hb dX1_allowsAtStop_28 rfl (lv_at hl 1 rfl) ?_
    refine lv_bipush (v := 10) hx hb dX1_allowsAtStop_29 (by decide) ?_
    refine lv_icmp_lt (tgt := 45) hx hb dX1_allowsAtStop_31 (by decide) (fun c_2 => ?_) (fun c_2 => ?_)
    · rw [if_pos c_2] at h
      exact X1_allowsAtStop_k45 hC hr hlocks h hP hS (lv_sub hl [] rfl)
    · rw [if_neg c_2] at h
      refine lv_iload_n hx hb dX1_allowsAtStop_34 rfl (lv_at hl 1 rfl) ?_
      refine lv_sipush (v := 900) hx hb dX1_allowsAtStop_35 (by decide) ?_
      refine lv_icmp_gt (tgt := 45) hx hb dX1_allowsAtStop_38 (by decide) (fun c_3 => ?_) (fun c_3 => ?_)
      · rw [if_pos c_3] at h
        exact X1_allowsAtStop_k45 hC hr hlocks h hP hS (lv_sub hl [] rfl)
      · rw [if_neg c_3] at h
        refine lv_iconst (v := 1) hx hb dX1_allowsAtStop_41 (by decide) ?_
        refine lv_goto (tgt := 46) hx hb dX1_allowsAtStop_42 (by decide) ?_
        exact w_zret hC hr hlocks hP hS h dX1_allowsAtStop_46
  rw [if_neg c_4] at h
  by_cases c_8 : x_1 = 1
  · rw [if_pos c_8] at h
    refine lv_tableIn (off := 46) (tgt := 47) hx hb dX1_allowsAtStop_1 (by rw [c_8]; decide) (by rw [c_8]; decide) (by rw [c_8]; rfl) (by decide) ?_
    refine lv_iload_n hx hb dX1_allowsAtStop_47 rfl (lv_at hl 1 rfl) ?_
    refine lv_if_eq (tgt := 64) hx hb dX1_allowsAtStop_48 (by decide) (fun c_5 => ?_) (fun c_5 => ?_)
    · rw [if_pos c_5] at h
      exact X1_allowsAtStop_k64 hC hr hlocks h hP hS (lv_sub hl [] rfl)
    · rw [if_neg c_5] at h
      refine lv_iload_n hx hb dX1_allowsAtStop_51 rfl (lv_at hl 1 rfl) ?_
      refine lv_bipush (v := 10) hx hb dX1_allowsAtStop_52 (by decide) ?_
      refine lv_icmp_lt (tgt := 68) hx hb dX1_allowsAtStop_54 (by decide) (fun c_6 => ?_) (fun c_6 => ?_)
      · rw [if_pos c_6] at h
        exact X1_allowsAtStop_k68 hC hr hlocks h hP hS (lv_sub hl [] rfl)
      · rw [if_neg c_6] at h
        refine lv_iload_n hx hb dX1_allowsAtStop_57 rfl (lv_at hl 1 rfl) ?_
        refine lv_sipush (v := 900) hx hb dX1_allowsAtStop_58 (by decide) ?_
        refine lv_icmp_gt (tgt := 68) hx hb dX1_allowsAtStop_61 (by decide) (fun c_7 => ?_) (fun c_7 => ?_)
        · rw [if_pos c_7] at h
          exact X1_allowsAtStop_k68 hC hr hlocks h hP hS (lv_sub hl [] rfl)
        · rw [if_neg c_7] at h
          exact X1_allowsAtStop_k64 hC hr hlocks h hP hS (lv_sub hl [] rfl)
  rw [if_neg c_8] at h
  by_cases c_11 : x_1 = 2
  · rw [if_pos c_11] at h
    refine lv_tableIn (off := 69) (tgt := 70) hx hb dX1_allowsAtStop_1 (by rw [c_11]; decide) (by rw [c_11]; decide) (by rw [c_11]; rfl) (by decide) ?_
    refine lv_iload_n hx hb dX1_allowsAtStop_70 rfl (lv_at hl 1 rfl) ?_
    refine lv_iconst (v := 1) hx hb dX1_allowsAtStop_71 (by decide) ?_
    refine lv_icmp_lt (tgt := 85) hx hb dX1_allowsAtStop_72 (by decide) (fun c_9 => ?_) (fun c_9 => ?_)
    · rw [if_pos c_9] at h
      exact X1_allowsAtStop_k85 hC hr hlocks h hP hS (lv_sub hl [] rfl)
    · rw [if_neg c_9] at h
      refine lv_iload_n hx hb dX1_allowsAtStop_75 rfl (lv_at hl 1 rfl) ?_
      refine lv_bipush (v := 9) hx hb dX1_allowsAtStop_76 (by decide) ?_
      refine lv_icmp_gt (tgt := 85) hx hb dX1_allowsAtStop_78 (by decide) (fun c_10 => ?_) (fun c_10 => ?_)
      · rw [if_pos c_10] at h
        exact X1_allowsAtStop_k85 hC hr hlocks h hP hS (lv_sub hl [] rfl)
      · rw [if_neg c_10] at h
        refine lv_iconst (v := 1) hx hb dX1_allowsAtStop_81 (by decide) ?_
        refine lv_goto (tgt := 86) hx hb dX1_allowsAtStop_82 (by decide) ?_
        exact w_zret hC hr hlocks hP hS h dX1_allowsAtStop_86
  rw [if_neg c_11] at h
  have hnt : x_1.toInt < 0 ∨ 2 < x_1.toInt := by
    have nc_4 := lv_neT (a := 0) c_4 (by decide)
    have nc_8 := lv_neT (a := 1) c_8 (by decide)
    have nc_11 := lv_neT (a := 2) c_11 (by decide)
    omega
  refine lv_tableOut (tgt := 87) hx hb dX1_allowsAtStop_1 hnt (by decide) ?_
  refine lv_iconst (v := 0) hx hb dX1_allowsAtStop_87 (by decide) ?_
  exact w_zret hC hr hlocks hP hS h dX1_allowsAtStop_88
set_option maxRecDepth 100000 in
set_option maxHeartbeats 4000000 in
theorem c_X1_allowsAtStop {l : Launch} {base : Nat} {D : va_G} {cI cJ : ClassId} {tS : Nat} {n : Nat} {i0 : Int32} {i1 : Int32} {σ : Sg} {r : Int32} {τ : Sg} (h : f_X1_allowsAtStop n i0 i1 σ = some (r, τ)) : Met l yX1_allowsAtStop (.code yX1_allowsAtStop cX1_allowsAtStop 2 (some .boolean) :: wsL_law) (rmD 0 0 0) (Pw base D cI cJ tS σ [.int i0, .int i1]) (QwI base D cI cJ r τ) 0 0 (fun q => base ≤ q) := by
  refine Met.ofW (cc := cX1_allowsAtStop) (maxL := 2) (ret := (some .boolean)) (by decide) rfl ?_
  intro p e s m args below meth c s₁ B hml hv
  obtain ⟨rfl, hSt, hP⟩ := hv
  have hC : Cx p m c cX1_allowsAtStop 2 s _ RX1 base D cI cJ tS := ⟨⟨B.exec, B.bytes, hml, findClass_of_methodNamed B.named, fun w hw => atoms_spec (ws := Cond.code yX1_allowsAtStop cX1_allowsAtStop 2 (some .boolean) :: wsL_law) B.pre w (List.mem_cons_of_mem _ hw)⟩, hSt⟩
  have hl := lv_entry ([.int i0, .int i1]) (n := 2) (Nat.le_of_ble_eq_true rfl)
  rw [lg_entry_eq]
  generalize (lg_sl ([.int i0, .int i1]) ++ List.replicate (2 - (lg_sl ([.int i0, .int i1])).length) Slot.unset).toArray = ls at hl ⊢
  exact X1_allowsAtStop_k0 hC B.returns B.notSynchronized h hP va_S.rf hl
end
