section
variable {p : Program} {l : Launch} {e : Env} {s : State} {m : MethodId} {args : Array Value} {below : List Frame} {meth : Method} {c : Code} {base : Nat} {D : va_G} {cI cJ : ClassId} {tS : Nat}
-- ===== X0_playStop
set_option maxRecDepth 100000 in
set_option maxHeartbeats 4000000 in
theorem X0_playStop_k22 (hC : Cx p m c cX0_playStop 6 s args RX0 base D cI cJ tS) (hr : meth.sig.returnType = none) (hlocks : meth.locks = false) {n : Nat} (ih : (∀ {a0 : Nat} {a1 : Nat} {a2 : Nat} {i3 : Int32} {i4 : Int32} {i5 : Int32} {σ : Sg} {τ : Sg} {H : Heap} {locs : List Loc} {ls : Array Slot}, X0_playStop_run n a0 a1 a2 i3 i4 i5 σ = some τ → Dy base D cI cJ σ H → va_S (fun q => base ≤ q) s.heap H locs → lv_has ls 6 [(0, .ref (base + a0)), (1, .ref (base + a1)), (2, .ref (base + a2)), (3, .int i3), (4, .int i4), (5, .int i5)] → W p l e (rmD 4 0 0) s m args below meth c H locs 0 0 (MQ below (QwV base D cI cJ τ) args s 0 0 (fun q => base ≤ q)) (F0 m 22 ls []))) {a0 : Nat} {a1 : Nat} {a2 : Nat} {i3 : Int32} {i4 : Int32} {i5 : Int32} {σ : Sg} {τ : Sg} {H : Heap} {locs : List Loc} {ls : Array Slot} (h : X0_playStop_b22 n (X0_playStop_run n) a0 a1 a2 i3 i4 i5 σ = some τ) : Dy base D cI cJ σ H → va_S (fun q => base ≤ q) s.heap H locs → lv_has ls 6 [(0, .ref (base + a0)), (1, .ref (base + a1)), (2, .ref (base + a2)), (3, .int i3), (4, .int i4), (5, .int i5)] → W p l e (rmD 4 0 0) s m args below meth c H locs 0 0 (MQ below (QwV base D cI cJ τ) args s 0 0 (fun q => base ≤ q)) (F0 m 22 ls []) := by
  intro hP hS hl
  obtain ⟨hx, hb, hml, hown, hts⟩ := hC.1
  unfold X0_playStop_b22 at h
  refine lv_iload hx hb dX0_playStop_22 (lv_at hl 5 rfl) ?_
  refine lv_iload hx hb dX0_playStop_24 (lv_at hl 4 rfl) ?_
  refine lv_icmp_ge (tgt := 49) hx hb dX0_playStop_26 (by decide) (fun c_1 => ?_) (fun c_1 => ?_)
  · rw [if_pos c_1] at h
    obtain rfl := Option.some.inj h
    exact w_vret hC hr hlocks hP hS dX0_playStop_49
  · rw [if_neg c_1] at h
    refine lv_aload_n hx hb dX0_playStop_29 rfl (lv_at hl 0 rfl) ?_
    refine lv_aload_n hx hb dX0_playStop_30 rfl (lv_at hl 1 rfl) ?_
    refine lv_aload_n hx hb dX0_playStop_31 rfl (lv_at hl 2 rfl) ?_
    refine lv_aload_n hx hb dX0_playStop_32 rfl (lv_at hl 0 rfl) ?_
    obtain ⟨q_2, hq_2, h⟩ := obn h
    refine w_getR (ci := 0) (j := 12) hC hP rfl inlX0 (by decide) (by decide) rfl hq_2 wl_32 dX0_playStop_33 ?_
    refine lv_iload hx hb dX0_playStop_36 (lv_at hl 5 rfl) ?_
    obtain ⟨v_3, hv_3, h⟩ := obn h
    refine w_iald hC hP hv_3 dX0_playStop_38 ?_
    refine lv_iload_n hx hb dX0_playStop_39 rfl (lv_at hl 3 rfl) ?_
    obtain ⟨u_4, hu_4, h⟩ := obn h
    obtain ⟨w_5, hw_5, h⟩ := obn h
    refine k_V (r_virt (As := [.ref (base + a1), .ref (base + a2), .int v_3, .int i3]) (rest := []) hC hP hS (ci := 0) rfl (by decide) hu_4 (c_X0_visit (l := l) (base := base) (D := D) (cI := cI) (cJ := cJ) (tS := tS) hw_5) wl_221 wl_222 wl_223 wl_52 wl_220 rfl rfl hd_X0_visit ⟨Nat.le_of_ble_eq_true rfl, Nat.le_of_ble_eq_true rfl⟩ rfl hl.1 rfl (Nat.le_of_ble_eq_true rfl) dX0_playStop_40 ⟨Nat.le_of_ble_eq_true rfl, Nat.le_of_ble_eq_true rfl⟩) hS (fun H locs hP hS => ?_)
    obtain ⟨i5_6, hi5_6, h⟩ := obn h
    refine lv_iinc (v := i5_6) (lv' := [(5, .int i5_6), (0, .ref (base + a0)), (1, .ref (base + a1)), (2, .ref (base + a2)), (3, .int i3), (4, .int i4)]) hx hb dX0_playStop_43 hl (k := 5) rfl (Option.some.inj hi5_6) (by decide) rfl (fun ls hl => ?_)
    refine lv_goto (tgt := 22) hx hb dX0_playStop_46 (by decide) ?_
    exact ih h hP hS (lv_sub hl [1, 2, 3, 4, 5, 0] rfl)
set_option maxRecDepth 100000 in
set_option maxHeartbeats 4000000 in
theorem X0_playStop_k0 (hC : Cx p m c cX0_playStop 6 s args RX0 base D cI cJ tS) (hr : meth.sig.returnType = none) (hlocks : meth.locks = false) {n : Nat} (ih : (∀ {a0 : Nat} {a1 : Nat} {a2 : Nat} {i3 : Int32} {i4 : Int32} {i5 : Int32} {σ : Sg} {τ : Sg} {H : Heap} {locs : List Loc} {ls : Array Slot}, X0_playStop_run n a0 a1 a2 i3 i4 i5 σ = some τ → Dy base D cI cJ σ H → va_S (fun q => base ≤ q) s.heap H locs → lv_has ls 6 [(0, .ref (base + a0)), (1, .ref (base + a1)), (2, .ref (base + a2)), (3, .int i3), (4, .int i4), (5, .int i5)] → W p l e (rmD 4 0 0) s m args below meth c H locs 0 0 (MQ below (QwV base D cI cJ τ) args s 0 0 (fun q => base ≤ q)) (F0 m 22 ls []))) {a0 : Nat} {a1 : Nat} {a2 : Nat} {i3 : Int32} {σ : Sg} {τ : Sg} {H : Heap} {locs : List Loc} {ls : Array Slot} (h : X0_playStop_b0 n (X0_playStop_run n) a0 a1 a2 i3 σ = some τ) : Dy base D cI cJ σ H → va_S (fun q => base ≤ q) s.heap H locs → lv_has ls 6 [(0, .ref (base + a0)), (1, .ref (base + a1)), (2, .ref (base + a2)), (3, .int i3)] → W p l e (rmD 4 0 0) s m args below meth c H locs 0 0 (MQ below (QwV base D cI cJ τ) args s 0 0 (fun q => base ≤ q)) (F0 m 0 ls []) := by
  intro hP hS hl
  obtain ⟨hx, hb, hml, hown, hts⟩ := hC.1
  unfold X0_playStop_b0 at h
  refine lv_aload_n hx hb dX0_playStop_0 rfl (lv_at hl 0 rfl) ?_
  refine lv_iconst (v := 0) hx hb dX0_playStop_1 (by decide) ?_
  obtain ⟨s_7, hs_7, h⟩ := obn h
  refine w_putI (ci := 0) (j := 13) hC hP hS rfl inlX0 tyX0 tyX0_ok nmX0 (by decide) (by decide) rfl rfl rfl rfl hs_7 wl_193 dX0_playStop_2 (fun H locs hP hS => ?_)
  refine lv_aload_n hx hb dX0_playStop_5 rfl (lv_at hl 0 rfl) ?_
  refine lv_bipush (v := (-6)) hx hb dX0_playStop_6 (by decide) ?_
  obtain ⟨s_8, hs_8, h⟩ := obn h
  refine w_putI (ci := 0) (j := 14) hC hP hS rfl inlX0 tyX0 tyX0_ok nmX0 (by decide) (by decide) rfl rfl rfl rfl hs_8 wl_185 dX0_playStop_8 (fun H locs hP hS => ?_)
  refine lv_aload_n hx hb dX0_playStop_11 rfl (lv_at hl 0 rfl) ?_
  refine lv_aload_n hx hb dX0_playStop_12 rfl (lv_at hl 1 rfl) ?_
  refine lv_iload_n hx hb dX0_playStop_13 rfl (lv_at hl 3 rfl) ?_
  obtain ⟨u_9, hu_9, h⟩ := obn h
  obtain ⟨w_10, hw_10, h⟩ := obn h
  refine k_I (r_virt (As := [.ref (base + a1), .int i3]) (rest := []) hC hP hS (ci := 0) rfl (by decide) hu_9 (c_X0_orderComing (l := l) (base := base) (D := D) (cI := cI) (cJ := cJ) (tS := tS) hw_10) wl_225 wl_226 wl_227 wl_52 wl_224 rfl rfl hd_X0_orderComing ⟨Nat.le_of_ble_eq_true rfl, Nat.le_of_ble_eq_true rfl⟩ rfl hl.1 rfl (Nat.le_of_ble_eq_true rfl) dX0_playStop_14 ⟨Nat.le_of_ble_eq_true rfl, Nat.le_of_ble_eq_true rfl⟩) hS (fun H locs hP hS => ?_)
  refine lv_istore (lv' := [(4, .int w_10.1), (0, .ref (base + a0)), (1, .ref (base + a1)), (2, .ref (base + a2)), (3, .int i3)]) hx hb dX0_playStop_17 hl (by decide) rfl (fun ls hl => ?_)
  refine lv_iconst (v := 0) hx hb dX0_playStop_19 (by decide) ?_
  refine lv_istore (lv' := [(5, .int 0), (4, .int w_10.1), (0, .ref (base + a0)), (1, .ref (base + a1)), (2, .ref (base + a2)), (3, .int i3)]) hx hb dX0_playStop_20 hl (by decide) rfl (fun ls hl => ?_)
  exact ih h hP hS (lv_sub hl [2, 3, 4, 5, 1, 0] rfl)
set_option maxRecDepth 100000 in
set_option maxHeartbeats 4000000 in
theorem X0_playStop_all (hC : Cx p m c cX0_playStop 6 s args RX0 base D cI cJ tS) (hr : meth.sig.returnType = none) (hlocks : meth.locks = false) : ∀ n : Nat, (∀ {a0 : Nat} {a1 : Nat} {a2 : Nat} {i3 : Int32} {i4 : Int32} {i5 : Int32} {σ : Sg} {τ : Sg} {H : Heap} {locs : List Loc} {ls : Array Slot}, X0_playStop_run n a0 a1 a2 i3 i4 i5 σ = some τ → Dy base D cI cJ σ H → va_S (fun q => base ≤ q) s.heap H locs → lv_has ls 6 [(0, .ref (base + a0)), (1, .ref (base + a1)), (2, .ref (base + a2)), (3, .int i3), (4, .int i4), (5, .int i5)] → W p l e (rmD 4 0 0) s m args below meth c H locs 0 0 (MQ below (QwV base D cI cJ τ) args s 0 0 (fun q => base ≤ q)) (F0 m 22 ls [])) := by
  intro n
  induction n with
  | zero => exact fun h => (by cases h)
  | succ n ih => exact fun h => X0_playStop_k22 hC hr hlocks ih h
set_option maxRecDepth 100000 in
set_option maxHeartbeats 4000000 in
theorem c_X0_playStop {l : Launch} {base : Nat} {D : va_G} {cI cJ : ClassId} {tS : Nat} {n : Nat} {a0 : Nat} {a1 : Nat} {a2 : Nat} {i3 : Int32} {σ : Sg} {τ : Sg} (h : f_X0_playStop n a0 a1 a2 i3 σ = some τ) : Met l yX0_playStop (.code yX0_playStop cX0_playStop 6 none :: wsL_law) (rmD 4 0 0) (Pw base D cI cJ tS σ [.ref (base + a0), .ref (base + a1), .ref (base + a2), .int i3]) (QwV base D cI cJ τ) 0 0 (fun q => base ≤ q) := by
  refine Met.ofW (cc := cX0_playStop) (maxL := 6) (ret := none) (by decide) rfl ?_
  intro p e s m args below meth c s₁ B hml hv
  obtain ⟨rfl, hSt, hP⟩ := hv
  have hC : Cx p m c cX0_playStop 6 s _ RX0 base D cI cJ tS := ⟨⟨B.exec, B.bytes, hml, findClass_of_methodNamed B.named, fun w hw => atoms_spec (ws := Cond.code yX0_playStop cX0_playStop 6 none :: wsL_law) B.pre w (List.mem_cons_of_mem _ hw)⟩, hSt⟩
  have hl := lv_entry ([.ref (base + a0), .ref (base + a1), .ref (base + a2), .int i3]) (n := 6) (Nat.le_of_ble_eq_true rfl)
  rw [lg_entry_eq]
  generalize (lg_sl ([.ref (base + a0), .ref (base + a1), .ref (base + a2), .int i3]) ++ List.replicate (6 - (lg_sl ([.ref (base + a0), .ref (base + a1), .ref (base + a2), .int i3])).length) Slot.unset).toArray = ls at hl ⊢
  exact X0_playStop_k0 hC B.returns B.notSynchronized (X0_playStop_all hC B.returns B.notSynchronized n) h hP va_S.rf hl
-- ===== X0_play
set_option maxRecDepth 100000 in
set_option maxHeartbeats 4000000 in
theorem X0_play_k36 (hC : Cx p m c cX0_play 4 s args RX0 base D cI cJ tS) (hr : meth.sig.returnType = none) (hlocks : meth.locks = false) {n : Nat} (ih : (∀ {a0 : Nat} {a1 : Nat} {a2 : Nat} {i3 : Int32} {σ : Sg} {τ : Sg} {H : Heap} {locs : List Loc} {ls : Array Slot}, X0_play_run n a0 a1 a2 i3 σ = some τ → Dy base D cI cJ σ H → va_S (fun q => base ≤ q) s.heap H locs → lv_has ls 4 [(0, .ref (base + a0)), (1, .ref (base + a1)), (2, .ref (base + a2)), (3, .int i3)] → W p l e (rmD 5 0 0) s m args below meth c H locs 0 0 (MQ below (QwV base D cI cJ τ) args s 0 0 (fun q => base ≤ q)) (F0 m 36 ls []))) {a0 : Nat} {a1 : Nat} {a2 : Nat} {i3 : Int32} {σ : Sg} {τ : Sg} {H : Heap} {locs : List Loc} {ls : Array Slot} (h : X0_play_b36 n (X0_play_run n) a0 a1 a2 i3 σ = some τ) : Dy base D cI cJ σ H → va_S (fun q => base ≤ q) s.heap H locs → lv_has ls 4 [(0, .ref (base + a0)), (1, .ref (base + a1)), (2, .ref (base + a2)), (3, .int i3)] → W p l e (rmD 5 0 0) s m args below meth c H locs 0 0 (MQ below (QwV base D cI cJ τ) args s 0 0 (fun q => base ≤ q)) (F0 m 36 ls []) := by
  intro hP hS hl
  obtain ⟨hx, hb, hml, hown, hts⟩ := hC.1
  unfold X0_play_b36 at h
  refine lv_iload_n hx hb dX0_play_36 rfl (lv_at hl 3 rfl) ?_
  refine lv_bipush (v := 10) hx hb dX0_play_37 (by decide) ?_
  refine lv_icmp_ge (tgt := 55) hx hb dX0_play_39 (by decide) (fun c_1 => ?_) (fun c_1 => ?_)
  · rw [if_pos c_1] at h
    obtain rfl := Option.some.inj h
    exact w_vret hC hr hlocks hP hS dX0_play_55
  · rw [if_neg c_1] at h
    refine lv_aload_n hx hb dX0_play_42 rfl (lv_at hl 0 rfl) ?_
    refine lv_aload_n hx hb dX0_play_43 rfl (lv_at hl 1 rfl) ?_
    refine lv_aload_n hx hb dX0_play_44 rfl (lv_at hl 2 rfl) ?_
    refine lv_iload_n hx hb dX0_play_45 rfl (lv_at hl 3 rfl) ?_
    obtain ⟨u_2, hu_2, h⟩ := obn h
    obtain ⟨w_3, hw_3, h⟩ := obn h
    refine k_V (r_virt (As := [.ref (base + a1), .ref (base + a2), .int i3]) (rest := []) hC hP hS (ci := 0) rfl (by decide) hu_2 (c_X0_playStop (l := l) (base := base) (D := D) (cI := cI) (cJ := cJ) (tS := tS) hw_3) wl_229 wl_230 wl_231 wl_52 wl_228 rfl rfl hd_X0_playStop ⟨Nat.le_of_ble_eq_true rfl, Nat.le_of_ble_eq_true rfl⟩ rfl hl.1 rfl (Nat.le_of_ble_eq_true rfl) dX0_play_46 ⟨Nat.le_of_ble_eq_true rfl, Nat.le_of_ble_eq_true rfl⟩) hS (fun H locs hP hS => ?_)
    obtain ⟨i3_4, hi3_4, h⟩ := obn h
    refine lv_iinc (v := i3_4) (lv' := [(3, .int i3_4), (0, .ref (base + a0)), (1, .ref (base + a1)), (2, .ref (base + a2))]) hx hb dX0_play_49 hl (k := 3) rfl (Option.some.inj hi3_4) (by decide) rfl (fun ls hl => ?_)
    refine lv_goto (tgt := 36) hx hb dX0_play_52 (by decide) ?_
    exact ih h hP hS (lv_sub hl [1, 2, 3, 0] rfl)
set_option maxRecDepth 100000 in
set_option maxHeartbeats 4000000 in
theorem X0_play_k0 (hC : Cx p m c cX0_play 4 s args RX0 base D cI cJ tS) (hr : meth.sig.returnType = none) (hlocks : meth.locks = false) {n : Nat} (ih : (∀ {a0 : Nat} {a1 : Nat} {a2 : Nat} {i3 : Int32} {σ : Sg} {τ : Sg} {H : Heap} {locs : List Loc} {ls : Array Slot}, X0_play_run n a0 a1 a2 i3 σ = some τ → Dy base D cI cJ σ H → va_S (fun q => base ≤ q) s.heap H locs → lv_has ls 4 [(0, .ref (base + a0)), (1, .ref (base + a1)), (2, .ref (base + a2)), (3, .int i3)] → W p l e (rmD 5 0 0) s m args below meth c H locs 0 0 (MQ below (QwV base D cI cJ τ) args s 0 0 (fun q => base ≤ q)) (F0 m 36 ls []))) {a0 : Nat} {a1 : Nat} {a2 : Nat} {σ : Sg} {τ : Sg} {H : Heap} {locs : List Loc} {ls : Array Slot} (h : X0_play_b0 n (X0_play_run n) a0 a1 a2 σ = some τ) : Dy base D cI cJ σ H → va_S (fun q => base ≤ q) s.heap H locs → lv_has ls 4 [(0, .ref (base + a0)), (1, .ref (base + a1)), (2, .ref (base + a2))] → W p l e (rmD 5 0 0) s m args below meth c H locs 0 0 (MQ below (QwV base D cI cJ τ) args s 0 0 (fun q => base ≤ q)) (F0 m 0 ls []) := by
  intro hP hS hl
  obtain ⟨hx, hb, hml, hown, hts⟩ := hC.1
  unfold X0_play_b0 at h
  refine lv_aload_n hx hb dX0_play_0 rfl (lv_at hl 0 rfl) ?_
  obtain ⟨q_5, hq_5, h⟩ := obn h
  refine w_getR (ci := 0) (j := 7) hC hP rfl inlX0 (by decide) (by decide) rfl hq_5 wl_28 dX0_play_1 ?_
  refine lv_iconst (v := 0) hx hb dX0_play_4 (by decide) ?_
  obtain ⟨w_6, hw_6, h⟩ := obn h
  refine k_V (r_stat (As := [.ref (base + q_5), .int 0]) (rest := []) hC hP hS (c_J7_fill_53178 (l := l) (base := base) (D := D) (cI := cI) (cJ := cJ) (tS := tS) hw_6) wl_152 wl_16 wl_17 wl_14 rfl rfl hd_J7_fill_53178 ⟨Nat.le_of_ble_eq_true rfl, Nat.le_of_ble_eq_true rfl⟩ rfl hl.1 rfl (Nat.le_of_ble_eq_true rfl) dX0_play_5 ⟨Nat.le_of_ble_eq_true rfl, Nat.le_of_ble_eq_true rfl⟩) hS (fun H locs hP hS => ?_)
  refine lv_aload_n hx hb dX0_play_8 rfl (lv_at hl 0 rfl) ?_
  obtain ⟨q_7, hq_7, h⟩ := obn h
  refine w_getR (ci := 0) (j := 8) hC hP rfl inlX0 (by decide) (by decide) rfl hq_7 wl_30 dX0_play_9 ?_
  refine lv_lconst (v := 0) hx hb dX0_play_12 (by decide) ?_
  obtain ⟨w_8, hw_8, h⟩ := obn h
  refine k_V (r_stat (As := [.ref (base + q_7), .long 0]) (rest := []) hC hP hS (c_J7_fill_d0a16 (l := l) (base := base) (D := D) (cI := cI) (cJ := cJ) (tS := tS) hw_8) wl_233 wl_234 wl_17 wl_232 rfl rfl hd_J7_fill_d0a16 ⟨Nat.le_of_ble_eq_true rfl, Nat.le_of_ble_eq_true rfl⟩ rfl hl.1 rfl (Nat.le_of_ble_eq_true rfl) dX0_play_13 ⟨Nat.le_of_ble_eq_true rfl, Nat.le_of_ble_eq_true rfl⟩) hS (fun H locs hP hS => ?_)
  refine lv_aload_n hx hb dX0_play_16 rfl (lv_at hl 0 rfl) ?_
  obtain ⟨q_9, hq_9, h⟩ := obn h
  refine w_getR (ci := 0) (j := 9) hC hP rfl inlX0 (by decide) (by decide) rfl hq_9 wl_31 dX0_play_17 ?_
  refine lv_iconst (v := 0) hx hb dX0_play_20 (by decide) ?_
  obtain ⟨w_10, hw_10, h⟩ := obn h
  refine k_V (r_stat (As := [.ref (base + q_9), .int 0]) (rest := []) hC hP hS (c_J7_fill_53178 (l := l) (base := base) (D := D) (cI := cI) (cJ := cJ) (tS := tS) hw_10) wl_152 wl_16 wl_17 wl_14 rfl rfl hd_J7_fill_53178 ⟨Nat.le_of_ble_eq_true rfl, Nat.le_of_ble_eq_true rfl⟩ rfl hl.1 rfl (Nat.le_of_ble_eq_true rfl) dX0_play_21 ⟨Nat.le_of_ble_eq_true rfl, Nat.le_of_ble_eq_true rfl⟩) hS (fun H locs hP hS => ?_)
  refine lv_aload_n hx hb dX0_play_24 rfl (lv_at hl 0 rfl) ?_
  refine lv_lconst (v := 0) hx hb dX0_play_25 (by decide) ?_
  obtain ⟨s_11, hs_11, h⟩ := obn h
  refine w_putJ (ci := 0) (j := 10) hC hP hS rfl inlX0 tyX0 tyX0_ok nmX0 (by decide) (by decide) rfl rfl rfl rfl hs_11 wl_219 dX0_play_26 (fun H locs hP hS => ?_)
  refine lv_aload_n hx hb dX0_play_29 rfl (lv_at hl 0 rfl) ?_
  refine lv_iconst (v := 0) hx hb dX0_play_30 (by decide) ?_
  obtain ⟨s_12, hs_12, h⟩ := obn h
  refine w_putI (ci := 0) (j := 11) hC hP hS rfl inlX0 tyX0 tyX0_ok nmX0 (by decide) (by decide) rfl rfl rfl rfl hs_12 wl_202 dX0_play_31 (fun H locs hP hS => ?_)
  refine lv_iconst (v := 0) hx hb dX0_play_34 (by decide) ?_
  refine lv_istore_n (lv' := [(3, .int 0), (0, .ref (base + a0)), (1, .ref (base + a1)), (2, .ref (base + a2))]) hx hb dX0_play_35 rfl hl (by decide) rfl (fun ls hl => ?_)
  exact ih h hP hS (lv_sub hl [1, 2, 3, 0] rfl)
set_option maxRecDepth 100000 in
set_option maxHeartbeats 4000000 in
theorem X0_play_all (hC : Cx p m c cX0_play 4 s args RX0 base D cI cJ tS) (hr : meth.sig.returnType = none) (hlocks : meth.locks = false) : ∀ n : Nat, (∀ {a0 : Nat} {a1 : Nat} {a2 : Nat} {i3 : Int32} {σ : Sg} {τ : Sg} {H : Heap} {locs : List Loc} {ls : Array Slot}, X0_play_run n a0 a1 a2 i3 σ = some τ → Dy base D cI cJ σ H → va_S (fun q => base ≤ q) s.heap H locs → lv_has ls 4 [(0, .ref (base + a0)), (1, .ref (base + a1)), (2, .ref (base + a2)), (3, .int i3)] → W p l e (rmD 5 0 0) s m args below meth c H locs 0 0 (MQ below (QwV base D cI cJ τ) args s 0 0 (fun q => base ≤ q)) (F0 m 36 ls [])) := by
  intro n
  induction n with
  | zero => exact fun h => (by cases h)
  | succ n ih => exact fun h => X0_play_k36 hC hr hlocks ih h
set_option maxRecDepth 100000 in
set_option maxHeartbeats 4000000 in
theorem c_X0_play {l : Launch} {base : Nat} {D : va_G} {cI cJ : ClassId} {tS : Nat} {n : Nat} {a0 : Nat} {a1 : Nat} {a2 : Nat} {σ : Sg} {τ : Sg} (h : f_X0_play n a0 a1 a2 σ = some τ) : Met l yX0_play (.code yX0_play cX0_play 4 none :: wsL_law) (rmD 5 0 0) (Pw base D cI cJ tS σ [.ref (base + a0), .ref (base + a1), .ref (base + a2)]) (QwV base D cI cJ τ) 0 0 (fun q => base ≤ q) := by
  refine Met.ofW (cc := cX0_play) (maxL := 4) (ret := none) (by decide) rfl ?_
  intro p e s m args below meth c s₁ B hml hv
  obtain ⟨rfl, hSt, hP⟩ := hv
  have hC : Cx p m c cX0_play 4 s _ RX0 base D cI cJ tS := ⟨⟨B.exec, B.bytes, hml, findClass_of_methodNamed B.named, fun w hw => atoms_spec (ws := Cond.code yX0_play cX0_play 4 none :: wsL_law) B.pre w (List.mem_cons_of_mem _ hw)⟩, hSt⟩
  have hl := lv_entry ([.ref (base + a0), .ref (base + a1), .ref (base + a2)]) (n := 4) (Nat.le_of_ble_eq_true rfl)
  rw [lg_entry_eq]
  generalize (lg_sl ([.ref (base + a0), .ref (base + a1), .ref (base + a2)]) ++ List.replicate (4 - (lg_sl ([.ref (base + a0), .ref (base + a1), .ref (base + a2)])).length) Slot.unset).toArray = ls at hl ⊢
  exact X0_play_k0 hC B.returns B.notSynchronized (X0_play_all hC B.returns B.notSynchronized n) h hP va_S.rf hl
-- ===== X4_presentCourse
set_option maxRecDepth 100000 in
set_option maxHeartbeats 4000000 in
theorem X4_presentCourse_k40 (hC : Cx p m c cX4_presentCourse 1 s args RX4 base D cI cJ tS) (hr : meth.sig.returnType = (some (.object "BusThrees$Course"))) (hlocks : meth.locks = false) {n : Nat} {a0 : Nat} {σ : Sg} {r : Nat} {τ : Sg} {H : Heap} {locs : List Loc} {ls : Array Slot} (h : X4_presentCourse_b40 n a0 σ = some (r, τ)) : Dy base D cI cJ σ H → va_S (fun q => base ≤ q) s.heap H locs → lv_has ls 1 [(0, .ref (base + a0))] → W p l e (rmD 6 0 0) s m args below meth c H locs 0 0 (MQ below (QwA base D cI cJ r τ) args s 0 0 (fun q => base ≤ q)) (F0 m 40 ls []) := by
  intro hP hS hl
  obtain ⟨hx, hb, hml, hown, hts⟩ := hC.1
  unfold X4_presentCourse_b40 at h
  refine lv_aload_n hx hb dX4_presentCourse_40 rfl (lv_at hl 0 rfl) ?_
  obtain ⟨q_1, hq_1, h⟩ := obn h
  refine w_getR (ci := 4) (j := 2) hC hP rfl inlX4 (by decide) (by decide) rfl hq_1 wl_55 dX4_presentCourse_41 ?_
  obtain ⟨rfl, rfl⟩ := Prod.mk.inj (Option.some.inj h)
  exact w_aret hC hr hlocks hP hS dX4_presentCourse_44
set_option maxRecDepth 100000 in
set_option maxHeartbeats 4000000 in
theorem X4_presentCourse_k0 (hC : Cx p m c cX4_presentCourse 1 s args RX4 base D cI cJ tS) (hr : meth.sig.returnType = (some (.object "BusThrees$Course"))) (hlocks : meth.locks = false) {n : Nat} {a0 : Nat} {σ : Sg} {r : Nat} {τ : Sg} {H : Heap} {locs : List Loc} {ls : Array Slot} (h : f_X4_presentCourse n a0 σ = some (r, τ)) : Dy base D cI cJ σ H → va_S (fun q => base ≤ q) s.heap H locs → lv_has ls 1 [(0, .ref (base + a0))] → W p l e (rmD 6 0 0) s m args below meth c H locs 0 0 (MQ below (QwA base D cI cJ r τ) args s 0 0 (fun q => base ≤ q)) (F0 m 0 ls []) := by
  intro hP hS hl
  obtain ⟨hx, hb, hml, hown, hts⟩ := hC.1
  unfold f_X4_presentCourse at h
  refine lv_aload_n hx hb dX4_presentCourse_0 rfl (lv_at hl 0 rfl) ?_
  obtain ⟨v_2, hv_2, h⟩ := obn h
  refine w_getI (ci := 4) (j := 6) hC hP rfl inlX4 (by decide) (by decide) rfl hv_2 wl_93 dX4_presentCourse_1 ?_
  refine lv_if_ne (tgt := 40) hx hb dX4_presentCourse_4 (by decide) (fun c_3 => ?_) (fun c_3 => ?_)
  · rw [if_neg c_3] at h
    exact X4_presentCourse_k40 hC hr hlocks h hP hS (lv_sub hl [0] rfl)
  · rw [if_pos c_3] at h
    refine lv_aload_n hx hb dX4_presentCourse_7 rfl (lv_at hl 0 rfl) ?_
    obtain ⟨q_4, hq_4, h⟩ := obn h
    refine w_getR (ci := 4) (j := 2) hC hP rfl inlX4 (by decide) (by decide) rfl hq_4 wl_55 dX4_presentCourse_8 ?_
    refine lv_aload_n hx hb dX4_presentCourse_11 rfl (lv_at hl 0 rfl) ?_
    obtain ⟨q_5, hq_5, h⟩ := obn h
    refine w_getR (ci := 4) (j := 0) hC hP rfl inlX4 (by decide) (by decide) rfl hq_5 wl_43 dX4_presentCourse_12 ?_
    refine lv_bipush (v := (-6)) hx hb dX4_presentCourse_15 (by decide) ?_
    obtain ⟨u_6, hu_6, h⟩ := obn h
    obtain ⟨w_7, hw_7, h⟩ := obn h
    refine k_V (r_virt (As := [.ref (base + q_5), .int (-6)]) (rest := []) hC hP hS (ci := 0) rfl (by decide) hu_6 (c_X0_layLatenesses (l := l) (base := base) (D := D) (cI := cI) (cJ := cJ) (tS := tS) hw_7) wl_236 wl_237 wl_238 wl_52 wl_235 rfl rfl hd_X0_layLatenesses ⟨Nat.le_of_ble_eq_true rfl, Nat.le_of_ble_eq_true rfl⟩ rfl hl.1 rfl (Nat.le_of_ble_eq_true rfl) dX4_presentCourse_17 ⟨Nat.le_of_ble_eq_true rfl, Nat.le_of_ble_eq_true rfl⟩) hS (fun H locs hP hS => ?_)
    refine lv_aload_n hx hb dX4_presentCourse_20 rfl (lv_at hl 0 rfl) ?_
    obtain ⟨q_8, hq_8, h⟩ := obn h
    refine w_getR (ci := 4) (j := 2) hC hP rfl inlX4 (by decide) (by decide) rfl hq_8 wl_55 dX4_presentCourse_21 ?_
    refine lv_aload_n hx hb dX4_presentCourse_24 rfl (lv_at hl 0 rfl) ?_
    obtain ⟨q_9, hq_9, h⟩ := obn h
    refine w_getR (ci := 4) (j := 0) hC hP rfl inlX4 (by decide) (by decide) rfl hq_9 wl_43 dX4_presentCourse_25 ?_
    refine lv_aload_n hx hb dX4_presentCourse_28 rfl (lv_at hl 0 rfl) ?_
    obtain ⟨q_10, hq_10, h⟩ := obn h
    refine w_getR (ci := 4) (j := 4) hC hP rfl inlX4 (by decide) (by decide) rfl hq_10 wl_62 dX4_presentCourse_29 ?_
    obtain ⟨u_11, hu_11, h⟩ := obn h
    obtain ⟨w_12, hw_12, h⟩ := obn h
    refine k_V (r_virt (As := [.ref (base + q_9), .ref (base + q_10)]) (rest := []) hC hP hS (ci := 0) rfl (by decide) hu_11 (c_X0_play (l := l) (base := base) (D := D) (cI := cI) (cJ := cJ) (tS := tS) hw_12) wl_240 wl_241 wl_242 wl_52 wl_239 rfl rfl hd_X0_play ⟨Nat.le_of_ble_eq_true rfl, Nat.le_of_ble_eq_true rfl⟩ rfl hl.1 rfl (Nat.le_of_ble_eq_true rfl) dX4_presentCourse_32 ⟨Nat.le_of_ble_eq_true rfl, Nat.le_of_ble_eq_true rfl⟩) hS (fun H locs hP hS => ?_)
    refine lv_aload_n hx hb dX4_presentCourse_35 rfl (lv_at hl 0 rfl) ?_
    refine lv_iconst (v := 1) hx hb dX4_presentCourse_36 (by decide) ?_
    obtain ⟨s_13, hs_13, h⟩ := obn h
    refine w_putI (ci := 4) (j := 6) hC hP hS rfl inlX4 tyX4 tyX4_ok nmX4 (by decide) (by decide) rfl rfl rfl rfl hs_13 wl_93 dX4_presentCourse_37 (fun H locs hP hS => ?_)
    exact X4_presentCourse_k40 hC hr hlocks h hP hS (lv_sub hl [0] rfl)
set_option maxRecDepth 100000 in
set_option maxHeartbeats 4000000 in
theorem c_X4_presentCourse {l : Launch} {base : Nat} {D : va_G} {cI cJ : ClassId} {tS : Nat} {n : Nat} {a0 : Nat} {σ : Sg} {r : Nat} {τ : Sg} (h : f_X4_presentCourse n a0 σ = some (r, τ)) : Met l yX4_presentCourse (.code yX4_presentCourse cX4_presentCourse 1 (some (.object "BusThrees$Course")) :: wsL_law) (rmD 6 0 0) (Pw base D cI cJ tS σ [.ref (base + a0)]) (QwA base D cI cJ r τ) 0 0 (fun q => base ≤ q) := by
  refine Met.ofW (cc := cX4_presentCourse) (maxL := 1) (ret := (some (.object "BusThrees$Course"))) (by decide) rfl ?_
  intro p e s m args below meth c s₁ B hml hv
  obtain ⟨rfl, hSt, hP⟩ := hv
  have hC : Cx p m c cX4_presentCourse 1 s _ RX4 base D cI cJ tS := ⟨⟨B.exec, B.bytes, hml, findClass_of_methodNamed B.named, fun w hw => atoms_spec (ws := Cond.code yX4_presentCourse cX4_presentCourse 1 (some (.object "BusThrees$Course")) :: wsL_law) B.pre w (List.mem_cons_of_mem _ hw)⟩, hSt⟩
  have hl := lv_entry ([.ref (base + a0)]) (n := 1) (Nat.le_of_ble_eq_true rfl)
  rw [lg_entry_eq]
  generalize (lg_sl ([.ref (base + a0)]) ++ List.replicate (1 - (lg_sl ([.ref (base + a0)])).length) Slot.unset).toArray = ls at hl ⊢
  exact X4_presentCourse_k0 hC B.returns B.notSynchronized h hP va_S.rf hl
-- ===== X0_tellVisit
set_option maxRecDepth 100000 in
set_option maxHeartbeats 4000000 in
theorem X0_tellVisit_k0 (hC : Cx p m c cX0_tellVisit 3 s args RX0 base D cI cJ tS) (hr : meth.sig.returnType = (some .int)) (hlocks : meth.locks = false) {n : Nat} {a0 : Nat} {i1 : Int32} {i2 : Int32} {σ : Sg} {r : Int32} {τ : Sg} {H : Heap} {locs : List Loc} {ls : Array Slot} (h : f_X0_tellVisit n a0 i1 i2 σ = some (r, τ)) : Dy base D cI cJ σ H → va_S (fun q => base ≤ q) s.heap H locs → lv_has ls 3 [(0, .ref (base + a0)), (1, .int i1), (2, .int i2)] → W p l e (rmD 0 0 0) s m args below meth c H locs 0 0 (MQ below (QwI base D cI cJ r τ) args s 0 0 (fun q => base ≤ q)) (F0 m 0 ls []) := by
  intro hP hS hl
  obtain ⟨hx, hb, hml, hown, hts⟩ := hC.1
  unfold f_X0_tellVisit at h
  refine lv_iload_n hx hb dX0_tellVisit_0 rfl (lv_at hl 2 rfl) ?_
  obtain ⟨x_1, hx_1, h⟩ := obn h
  refine w_eqi (Option.some.inj hx_1) ?_
  by_cases c_4 : x_1 = 0
  · rw [if_pos c_4] at h
    refine lv_tableIn (off := 35) (tgt := 36) hx hb dX0_tellVisit_1 (by rw [c_4]; decide) (by rw [c_4]; decide) (by rw [c_4]; rfl) (by decide) ?_
    refine lv_aload_n hx hb dX0_tellVisit_36 rfl (lv_at hl 0 rfl) ?_
    obtain ⟨q_2, hq_2, h⟩ := obn h
    refine w_getR (ci := 0) (j := 0) hC hP rfl inlX0 (by decide) (by decide) rfl hq_2 wl_21 dX0_tellVisit_37 ?_
    refine lv_iload_n hx hb dX0_tellVisit_40 rfl (lv_at hl 1 rfl) ?_
    obtain ⟨v_3, hv_3, h⟩ := obn h
    refine w_iald hC hP hv_3 dX0_tellVisit_41 ?_
    obtain ⟨rfl, rfl⟩ := Prod.mk.inj (Option.some.inj h)
    exact w_iret hC hr hlocks hP hS dX0_tellVisit_42
  rw [if_neg c_4] at h
  by_cases c_7 : x_1 = 1
  · rw [if_pos c_7] at h
    refine lv_tableIn (off := 42) (tgt := 43) hx hb dX0_tellVisit_1 (by rw [c_7]; decide) (by rw [c_7]; decide) (by rw [c_7]; rfl) (by decide) ?_
    refine lv_aload_n hx hb dX0_tellVisit_43 rfl (lv_at hl 0 rfl) ?_
    obtain ⟨q_5, hq_5, h⟩ := obn h
    refine w_getR (ci := 0) (j := 1) hC hP rfl inlX0 (by decide) (by decide) rfl hq_5 wl_22 dX0_tellVisit_44 ?_
    refine lv_iload_n hx hb dX0_tellVisit_47 rfl (lv_at hl 1 rfl) ?_
    obtain ⟨v_6, hv_6, h⟩ := obn h
    refine w_iald hC hP hv_6 dX0_tellVisit_48 ?_
    obtain ⟨rfl, rfl⟩ := Prod.mk.inj (Option.some.inj h)
    exact w_iret hC hr hlocks hP hS dX0_tellVisit_49
  rw [if_neg c_7] at h
  by_cases c_10 : x_1 = 2
  · rw [if_pos c_10] at h
    refine lv_tableIn (off := 49) (tgt := 50) hx hb dX0_tellVisit_1 (by rw [c_10]; decide) (by rw [c_10]; decide) (by rw [c_10]; rfl) (by decide) ?_
    refine lv_aload_n hx hb dX0_tellVisit_50 rfl (lv_at hl 0 rfl) ?_
    obtain ⟨q_8, hq_8, h⟩ := obn h
    refine w_getR (ci := 0) (j := 2) hC hP rfl inlX0 (by decide) (by decide) rfl hq_8 wl_23 dX0_tellVisit_51 ?_
    refine lv_iload_n hx hb dX0_tellVisit_54 rfl (lv_at hl 1 rfl) ?_
    obtain ⟨v_9, hv_9, h⟩ := obn h
    refine w_iald hC hP hv_9 dX0_tellVisit_55 ?_
    obtain ⟨rfl, rfl⟩ := Prod.mk.inj (Option.some.inj h)
    exact w_iret hC hr hlocks hP hS dX0_tellVisit_56
  rw [if_neg c_10] at h
  by_cases c_13 : x_1 = 3
  · rw [if_pos c_13] at h
    refine lv_tableIn (off := 56) (tgt := 57) hx hb dX0_tellVisit_1 (by rw [c_13]; decide) (by rw [c_13]; decide) (by rw [c_13]; rfl) (by decide) ?_
    refine lv_aload_n hx hb dX0_tellVisit_57 rfl (lv_at hl 0 rfl) ?_
    obtain ⟨q_11, hq_11, h⟩ := obn h
    refine w_getR (ci := 0) (j := 3) hC hP rfl inlX0 (by decide) (by decide) rfl hq_11 wl_24 dX0_tellVisit_58 ?_
    refine lv_iload_n hx hb dX0_tellVisit_61 rfl (lv_at hl 1 rfl) ?_
    obtain ⟨v_12, hv_12, h⟩ := obn h
    refine w_iald hC hP hv_12 dX0_tellVisit_62 ?_
    obtain ⟨rfl, rfl⟩ := Prod.mk.inj (Option.some.inj h)
    exact w_iret hC hr hlocks hP hS dX0_tellVisit_63
  rw [if_neg c_13] at h
  by_cases c_16 : x_1 = 4
  · rw [if_pos c_16] at h
    refine lv_tableIn (off := 63) (tgt := 64) hx hb dX0_tellVisit_1 (by rw [c_16]; decide) (by rw [c_16]; decide) (by rw [c_16]; rfl) (by decide) ?_
    refine lv_aload_n hx hb dX0_tellVisit_64 rfl (lv_at hl 0 rfl) ?_
    obtain ⟨q_14, hq_14, h⟩ := obn h
    refine w_getR (ci := 0) (j := 4) hC hP rfl inlX0 (by decide) (by decide) rfl hq_14 wl_25 dX0_tellVisit_65 ?_
    refine lv_iload_n hx hb dX0_tellVisit_68 rfl (lv_at hl 1 rfl) ?_
    obtain ⟨v_15, hv_15, h⟩ := obn h
    refine w_iald hC hP hv_15 dX0_tellVisit_69 ?_
    obtain ⟨rfl, rfl⟩ := Prod.mk.inj (Option.some.inj h)
    exact w_iret hC hr hlocks hP hS dX0_tellVisit_70
  rw [if_neg c_16] at h
  have hnt : x_1.toInt < 0 ∨ 4 < x_1.toInt := by
    have nc_4 := lv_neT (a := 0) c_4 (by decide)
    have nc_7 := lv_neT (a := 1) c_7 (by decide)
    have nc_10 := lv_neT (a := 2) c_10 (by decide)
    have nc_13 := lv_neT (a := 3) c_13 (by decide)
    have nc_16 := lv_neT (a := 4) c_16 (by decide)
    omega
  refine lv_tableOut (tgt := 71) hx hb dX0_tellVisit_1 hnt (by decide) ?_
  refine lv_aload_n hx hb dX0_tellVisit_71 rfl (lv_at hl 0 rfl) ?_
  obtain ⟨q_17, hq_17, h⟩ := obn h
  refine w_getR (ci := 0) (j := 5) hC hP rfl inlX0 (by decide) (by decide) rfl hq_17 wl_26 dX0_tellVisit_72 ?_
  refine lv_iload_n hx hb dX0_tellVisit_75 rfl (lv_at hl 1 rfl) ?_
  obtain ⟨v_18, hv_18, h⟩ := obn h
  refine w_iald hC hP hv_18 dX0_tellVisit_76 ?_
  obtain ⟨rfl, rfl⟩ := Prod.mk.inj (Option.some.inj h)
  exact w_iret hC hr hlocks hP hS dX0_tellVisit_77
set_option maxRecDepth 100000 in
set_option maxHeartbeats 4000000 in
theorem c_X0_tellVisit {l : Launch} {base : Nat} {D : va_G} {cI cJ : ClassId} {tS : Nat} {n : Nat} {a0 : Nat} {i1 : Int32} {i2 : Int32} {σ : Sg} {r : Int32} {τ : Sg} (h : f_X0_tellVisit n a0 i1 i2 σ = some (r, τ)) : Met l yX0_tellVisit (.code yX0_tellVisit cX0_tellVisit 3 (some .int) :: wsL_law) (rmD 0 0 0) (Pw base D cI cJ tS σ [.ref (base + a0), .int i1, .int i2]) (QwI base D cI cJ r τ) 0 0 (fun q => base ≤ q) := by
  refine Met.ofW (cc := cX0_tellVisit) (maxL := 3) (ret := (some .int)) (by decide) rfl ?_
  intro p e s m args below meth c s₁ B hml hv
  obtain ⟨rfl, hSt, hP⟩ := hv
  have hC : Cx p m c cX0_tellVisit 3 s _ RX0 base D cI cJ tS := ⟨⟨B.exec, B.bytes, hml, findClass_of_methodNamed B.named, fun w hw => atoms_spec (ws := Cond.code yX0_tellVisit cX0_tellVisit 3 (some .int) :: wsL_law) B.pre w (List.mem_cons_of_mem _ hw)⟩, hSt⟩
  have hl := lv_entry ([.ref (base + a0), .int i1, .int i2]) (n := 3) (Nat.le_of_ble_eq_true rfl)
  rw [lg_entry_eq]
  generalize (lg_sl ([.ref (base + a0), .int i1, .int i2]) ++ List.replicate (3 - (lg_sl ([.ref (base + a0), .int i1, .int i2])).length) Slot.unset).toArray = ls at hl ⊢
  exact X0_tellVisit_k0 hC B.returns B.notSynchronized h hP va_S.rf hl
-- ===== X4_at
set_option maxRecDepth 100000 in
set_option maxHeartbeats 4000000 in
theorem X4_at_k18 (hC : Cx p m c cX4_at 4 s args RX4 base D cI cJ tS) (hr : meth.sig.returnType = (some .int)) (hlocks : meth.locks = false) {n : Nat} {σ : Sg} {r : Int32} {τ : Sg} {H : Heap} {locs : List Loc} {ls : Array Slot} (h : X4_at_b18 n σ = some (r, τ)) : Dy base D cI cJ σ H → va_S (fun q => base ≤ q) s.heap H locs → lv_has ls 4 [] → W p l e (rmD 7 0 0) s m args below meth c H locs 0 0 (MQ below (QwI base D cI cJ r τ) args s 0 0 (fun q => base ≤ q)) (F0 m 18 ls []) := by
  intro hP hS hl
  obtain ⟨hx, hb, hml, hown, hts⟩ := hC.1
  unfold X4_at_b18 at h
  refine lv_iconst (v := (-1)) hx hb dX4_at_18 (by decide) ?_
  obtain ⟨rfl, rfl⟩ := Prod.mk.inj (Option.some.inj h)
  exact w_iret hC hr hlocks hP hS dX4_at_19
set_option maxRecDepth 100000 in
set_option maxHeartbeats 4000000 in
theorem X4_at_k29 (hC : Cx p m c cX4_at 4 s args RX4 base D cI cJ tS) (hr : meth.sig.returnType = (some .int)) (hlocks : meth.locks = false) {n : Nat} {σ : Sg} {r : Int32} {τ : Sg} {H : Heap} {locs : List Loc} {ls : Array Slot} (h : X4_at_b29 n σ = some (r, τ)) : Dy base D cI cJ σ H → va_S (fun q => base ≤ q) s.heap H locs → lv_has ls 4 [] → W p l e (rmD 7 0 0) s m args below meth c H locs 0 0 (MQ below (QwI base D cI cJ r τ) args s 0 0 (fun q => base ≤ q)) (F0 m 29 ls []) := by
  intro hP hS hl
  obtain ⟨hx, hb, hml, hown, hts⟩ := hC.1
  unfold X4_at_b29 at h
  refine lv_bipush (v := (-2)) hx hb dX4_at_29 (by decide) ?_
  obtain ⟨rfl, rfl⟩ := Prod.mk.inj (Option.some.inj h)
  exact w_iret hC hr hlocks hP hS dX4_at_31
set_option maxRecDepth 100000 in
set_option maxHeartbeats 4000000 in
theorem X4_at_k0 (hC : Cx p m c cX4_at 4 s args RX4 base D cI cJ tS) (hr : meth.sig.returnType = (some .int)) (hlocks : meth.locks = false) {n : Nat} {a0 : Nat} {i1 : Int32} {i2 : Int32} {i3 : Int32} {σ : Sg} {r : Int32} {τ : Sg} {H : Heap} {locs : List Loc} {ls : Array Slot} (h : f_X4_at n a0 i1 i2 i3 σ = some (r, τ)) : Dy base D cI cJ σ H → va_S (fun q => base ≤ q) s.heap H locs → lv_has ls 4 [(0, .ref (base + a0)), (1, .int i1), (2, .int i2), (3, .int i3)] → W p l e (rmD 7 0 0) s m args below meth c H locs 0 0 (MQ below (QwI base D cI cJ r τ) args s 0 0 (fun q => base ≤ q)) (F0 m 0 ls []) := by
  intro hP hS hl
  obtain ⟨hx, hb, hml, hown, hts⟩ := hC.1
  unfold f_X4_at at h
  refine lv_aload_n hx hb dX4_at_0 rfl (lv_at hl 0 rfl) ?_
  obtain ⟨q_1, hq_1, h⟩ := obn h
  refine w_getR (ci := 4) (j := 0) hC hP rfl inlX4 (by decide) (by decide) rfl hq_1 wl_43 dX4_at_1 ?_
  refine lv_iload_n hx hb dX4_at_4 rfl (lv_at hl 1 rfl) ?_
  obtain ⟨u_2, hu_2, h⟩ := obn h
  obtain ⟨w_3, hw_3, h⟩ := obn h
  refine k_I (r_virt (As := [.int i1]) (rest := []) hC hP hS (ci := 1) rfl (by decide) hu_2 (c_X1_hasBus (l := l) (base := base) (D := D) (cI := cI) (cJ := cJ) (tS := tS) hw_3) wl_132 wl_133 wl_134 wl_39 wl_131 rfl rfl hd_X1_hasBus ⟨Nat.le_of_ble_eq_true rfl, Nat.le_of_ble_eq_true rfl⟩ rfl hl.1 rfl (Nat.le_of_ble_eq_true rfl) dX4_at_5 ⟨Nat.le_of_ble_eq_true rfl, Nat.le_of_ble_eq_true rfl⟩) hS (fun H locs hP hS => ?_)
  refine lv_if_eq (tgt := 18) hx hb dX4_at_8 (by decide) (fun c_4 => ?_) (fun c_4 => ?_)
  · rw [if_pos c_4] at h
    exact X4_at_k18 hC hr hlocks h hP hS (lv_sub hl [] rfl)
  · rw [if_neg c_4] at h
    refine lv_iload_n hx hb dX4_at_11 rfl (lv_at hl 2 rfl) ?_
    obtain ⟨w_5, hw_5, h⟩ := obn h
    refine k_I (r_stat (As := [.int i2]) (rest := []) hC hP hS (c_X4_isStop (l := l) (base := base) (D := D) (cI := cI) (cJ := cJ) (tS := tS) hw_5) wl_244 wl_245 wl_98 wl_243 rfl rfl hd_X4_isStop ⟨Nat.le_of_ble_eq_true rfl, Nat.le_of_ble_eq_true rfl⟩ rfl hl.1 rfl (Nat.le_of_ble_eq_true rfl) dX4_at_12 ⟨Nat.le_of_ble_eq_true rfl, Nat.le_of_ble_eq_true rfl⟩) hS (fun H locs hP hS => ?_)
    refine lv_if_ne (tgt := 20) hx hb dX4_at_15 (by decide) (fun c_6 => ?_) (fun c_6 => ?_)
    · rw [if_neg c_6] at h
      refine lv_iload_n hx hb dX4_at_20 rfl (lv_at hl 3 rfl) ?_
      refine lv_if_lt (tgt := 29) hx hb dX4_at_21 (by decide) (fun c_7 => ?_) (fun c_7 => ?_)
      · rw [if_pos c_7] at h
        exact X4_at_k29 hC hr hlocks h hP hS (lv_sub hl [] rfl)
      · rw [if_neg c_7] at h
        refine lv_iload_n hx hb dX4_at_24 rfl (lv_at hl 3 rfl) ?_
        refine lv_iconst (v := 5) hx hb dX4_at_25 (by decide) ?_
        refine lv_icmp_le (tgt := 32) hx hb dX4_at_26 (by decide) (fun c_8 => ?_) (fun c_8 => ?_)
        · rw [if_pos c_8] at h
          refine lv_aload_n hx hb dX4_at_32 rfl (lv_at hl 0 rfl) ?_
          obtain ⟨q_9, hq_9, h⟩ := obn h
          refine w_getR (ci := 4) (j := 0) hC hP rfl inlX4 (by decide) (by decide) rfl hq_9 wl_43 dX4_at_33 ?_
          refine lv_iload_n hx hb dX4_at_36 rfl (lv_at hl 1 rfl) ?_
          refine lv_iload_n hx hb dX4_at_37 rfl (lv_at hl 2 rfl) ?_
          obtain ⟨u_10, hu_10, h⟩ := obn h
          obtain ⟨w_11, hw_11, h⟩ := obn h
          refine k_I (r_virt (As := [.int i1, .int i2]) (rest := []) hC hP hS (ci := 1) rfl (by decide) hu_10 (c_X1_comes (l := l) (base := base) (D := D) (cI := cI) (cJ := cJ) (tS := tS) hw_11) wl_246 wl_160 wl_161 wl_39 wl_158 rfl rfl hd_X1_comes ⟨Nat.le_of_ble_eq_true rfl, Nat.le_of_ble_eq_true rfl⟩ rfl hl.1 rfl (Nat.le_of_ble_eq_true rfl) dX4_at_38 ⟨Nat.le_of_ble_eq_true rfl, Nat.le_of_ble_eq_true rfl⟩) hS (fun H locs hP hS => ?_)
          refine lv_if_ne (tgt := 47) hx hb dX4_at_41 (by decide) (fun c_12 => ?_) (fun c_12 => ?_)
          · rw [if_neg c_12] at h
            refine lv_aload_n hx hb dX4_at_47 rfl (lv_at hl 0 rfl) ?_
            obtain ⟨u_13, hu_13, h⟩ := obn h
            obtain ⟨w_14, hw_14, h⟩ := obn h
            refine k_A (r_virt (As := []) (rest := []) hC hP hS (ci := 4) rfl (by decide) hu_13 (c_X4_presentCourse (l := l) (base := base) (D := D) (cI := cI) (cJ := cJ) (tS := tS) hw_14) wl_248 wl_249 wl_250 wl_98 wl_247 rfl rfl hd_X4_presentCourse ⟨Nat.le_of_ble_eq_true rfl, Nat.le_of_ble_eq_true rfl⟩ rfl hl.1 rfl (Nat.le_of_ble_eq_true rfl) dX4_at_48 ⟨Nat.le_of_ble_eq_true rfl, Nat.le_of_ble_eq_true rfl⟩) hS (fun H locs hP hS => ?_)
            refine lv_iload_n hx hb dX4_at_51 rfl (lv_at hl 1 rfl) ?_
            refine lv_iload_n hx hb dX4_at_52 rfl (lv_at hl 2 rfl) ?_
            obtain ⟨w_15, hw_15, h⟩ := obn h
            refine k_I (r_stat (As := [.int i1, .int i2]) (rest := [.ref (base + w_14.1)]) hC hP hS (c_X4_cell (l := l) (base := base) (D := D) (cI := cI) (cJ := cJ) (tS := tS) hw_15) wl_251 wl_150 wl_98 wl_149 rfl rfl hd_X4_cell ⟨Nat.le_of_ble_eq_true rfl, Nat.le_of_ble_eq_true rfl⟩ rfl hl.1 rfl (Nat.le_of_ble_eq_true rfl) dX4_at_53 ⟨Nat.le_of_ble_eq_true rfl, Nat.le_of_ble_eq_true rfl⟩) hS (fun H locs hP hS => ?_)
            refine lv_iload_n hx hb dX4_at_56 rfl (lv_at hl 3 rfl) ?_
            obtain ⟨u_16, hu_16, h⟩ := obn h
            obtain ⟨w_17, hw_17, h⟩ := obn h
            refine k_I (r_virt (As := [.int w_15.1, .int i3]) (rest := []) hC hP hS (ci := 0) rfl (by decide) hu_16 (c_X0_tellVisit (l := l) (base := base) (D := D) (cI := cI) (cJ := cJ) (tS := tS) hw_17) wl_253 wl_254 wl_255 wl_52 wl_252 rfl rfl hd_X0_tellVisit ⟨Nat.le_of_ble_eq_true rfl, Nat.le_of_ble_eq_true rfl⟩ rfl hl.1 rfl (Nat.le_of_ble_eq_true rfl) dX4_at_57 ⟨Nat.le_of_ble_eq_true rfl, Nat.le_of_ble_eq_true rfl⟩) hS (fun H locs hP hS => ?_)
            obtain ⟨rfl, rfl⟩ := Prod.mk.inj (Option.some.inj h)
            exact w_iret hC hr hlocks hP hS dX4_at_60
          · rw [if_pos c_12] at h
            refine lv_bipush (v := (-6)) hx hb dX4_at_44 (by decide) ?_
            obtain ⟨rfl, rfl⟩ := Prod.mk.inj (Option.some.inj h)
            exact w_iret hC hr hlocks hP hS dX4_at_46
        · rw [if_neg c_8] at h
          exact X4_at_k29 hC hr hlocks h hP hS (lv_sub hl [] rfl)
    · rw [if_pos c_6] at h
      exact X4_at_k18 hC hr hlocks h hP hS (lv_sub hl [] rfl)
set_option maxRecDepth 100000 in
set_option maxHeartbeats 4000000 in
theorem c_X4_at {l : Launch} {base : Nat} {D : va_G} {cI cJ : ClassId} {tS : Nat} {n : Nat} {a0 : Nat} {i1 : Int32} {i2 : Int32} {i3 : Int32} {σ : Sg} {r : Int32} {τ : Sg} (h : f_X4_at n a0 i1 i2 i3 σ = some (r, τ)) : Met l yX4_at (.code yX4_at cX4_at 4 (some .int) :: wsL_law) (rmD 7 0 0) (Pw base D cI cJ tS σ [.ref (base + a0), .int i1, .int i2, .int i3]) (QwI base D cI cJ r τ) 0 0 (fun q => base ≤ q) := by
  refine Met.ofW (cc := cX4_at) (maxL := 4) (ret := (some .int)) (by decide) rfl ?_
  intro p e s m args below meth c s₁ B hml hv
  obtain ⟨rfl, hSt, hP⟩ := hv
  have hC : Cx p m c cX4_at 4 s _ RX4 base D cI cJ tS := ⟨⟨B.exec, B.bytes, hml, findClass_of_methodNamed B.named, fun w hw => atoms_spec (ws := Cond.code yX4_at cX4_at 4 (some .int) :: wsL_law) B.pre w (List.mem_cons_of_mem _ hw)⟩, hSt⟩
  have hl := lv_entry ([.ref (base + a0), .int i1, .int i2, .int i3]) (n := 4) (Nat.le_of_ble_eq_true rfl)
  rw [lg_entry_eq]
  generalize (lg_sl ([.ref (base + a0), .int i1, .int i2, .int i3]) ++ List.replicate (4 - (lg_sl ([.ref (base + a0), .int i1, .int i2, .int i3])).length) Slot.unset).toArray = ls at hl ⊢
  exact X4_at_k0 hC B.returns B.notSynchronized h hP va_S.rf hl
-- ===== X5_layOrder
set_option maxRecDepth 100000 in
set_option maxHeartbeats 4000000 in
theorem X5_layOrder_k188 (hC : Cx p m c cX5_layOrder 7 s args RX5 base D cI cJ tS) (hr : meth.sig.returnType = (some .int)) (hlocks : meth.locks = false) {n : Nat} (ih : (∀ {a0 : Nat} {i1 : Int32} {i2 : Int32} {i3 : Int32} {i4 : Int32} {i6 : Int32} {σ : Sg} {r : Int32} {τ : Sg} {H : Heap} {locs : List Loc} {ls : Array Slot}, X5_layOrder_run n 4 a0 i1 i2 i3 i4 i6 σ = some (r, τ) → Dy base D cI cJ σ H → va_S (fun q => base ≤ q) s.heap H locs → lv_has ls 7 [(0, .ref (base + a0)), (1, .int i1), (2, .int i2), (3, .int i3)] → W p l e (rmD 0 0 0) s m args below meth c H locs 0 0 (MQ below (QwI base D cI cJ r τ) args s 0 0 (fun q => base ≤ q)) (F0 m 4 ls [])) ∧ (∀ {a0 : Nat} {i1 : Int32} {i2 : Int32} {i3 : Int32} {i4 : Int32} {i6 : Int32} {σ : Sg} {r : Int32} {τ : Sg} {H : Heap} {locs : List Loc} {ls : Array Slot}, X5_layOrder_run n 111 a0 i1 i2 i3 i4 i6 σ = some (r, τ) → Dy base D cI cJ σ H → va_S (fun q => base ≤ q) s.heap H locs → lv_has ls 7 [(0, .ref (base + a0)), (1, .int i1), (2, .int i2), (3, .int i3), (4, .int i4), (6, .int i6)] → W p l e (rmD 0 0 0) s m args below meth c H locs 0 0 (MQ below (QwI base D cI cJ r τ) args s 0 0 (fun q => base ≤ q)) (F0 m 111 ls []))) {a0 : Nat} {i1 : Int32} {i2 : Int32} {i3 : Int32} {σ : Sg} {r : Int32} {τ : Sg} {H : Heap} {locs : List Loc} {ls : Array Slot} (h : X5_layOrder_b188 n (X5_layOrder_run n) a0 i1 i2 i3 σ = some (r, τ)) : Dy base D cI cJ σ H → va_S (fun q => base ≤ q) s.heap H locs → lv_has ls 7 [(0, .ref (base + a0)), (1, .int i1), (2, .int i2), (3, .int i3)] → W p l e (rmD 0 0 0) s m args below meth c H locs 0 0 (MQ below (QwI base D cI cJ r τ) args s 0 0 (fun q => base ≤ q)) (F0 m 188 ls []) := by
  intro hP hS hl
  obtain ⟨hx, hb, hml, hown, hts⟩ := hC.1
  unfold X5_layOrder_b188 at h
  obtain ⟨i3_1, hi3_1, h⟩ := obn h
  refine lv_iinc (v := i3_1) (lv' := [(3, .int i3_1), (0, .ref (base + a0)), (1, .int i1), (2, .int i2)]) hx hb dX5_layOrder_188 hl (k := 3) rfl (Option.some.inj hi3_1) (by decide) rfl (fun ls hl => ?_)
  refine lv_goto (tgt := 4) hx hb dX5_layOrder_191 (by decide) ?_
  exact ih.1 h hP hS (lv_sub hl [1, 2, 3, 0] rfl)
set_option maxRecDepth 100000 in
set_option maxHeartbeats 4000000 in
theorem X5_layOrder_k102 (hC : Cx p m c cX5_layOrder 7 s args RX5 base D cI cJ tS) (hr : meth.sig.returnType = (some .int)) (hlocks : meth.locks = false) {n : Nat} (ih : (∀ {a0 : Nat} {i1 : Int32} {i2 : Int32} {i3 : Int32} {i4 : Int32} {i6 : Int32} {σ : Sg} {r : Int32} {τ : Sg} {H : Heap} {locs : List Loc} {ls : Array Slot}, X5_layOrder_run n 4 a0 i1 i2 i3 i4 i6 σ = some (r, τ) → Dy base D cI cJ σ H → va_S (fun q => base ≤ q) s.heap H locs → lv_has ls 7 [(0, .ref (base + a0)), (1, .int i1), (2, .int i2), (3, .int i3)] → W p l e (rmD 0 0 0) s m args below meth c H locs 0 0 (MQ below (QwI base D cI cJ r τ) args s 0 0 (fun q => base ≤ q)) (F0 m 4 ls [])) ∧ (∀ {a0 : Nat} {i1 : Int32} {i2 : Int32} {i3 : Int32} {i4 : Int32} {i6 : Int32} {σ : Sg} {r : Int32} {τ : Sg} {H : Heap} {locs : List Loc} {ls : Array Slot}, X5_layOrder_run n 111 a0 i1 i2 i3 i4 i6 σ = some (r, τ) → Dy base D cI cJ σ H → va_S (fun q => base ≤ q) s.heap H locs → lv_has ls 7 [(0, .ref (base + a0)), (1, .int i1), (2, .int i2), (3, .int i3), (4, .int i4), (6, .int i6)] → W p l e (rmD 0 0 0) s m args below meth c H locs 0 0 (MQ below (QwI base D cI cJ r τ) args s 0 0 (fun q => base ≤ q)) (F0 m 111 ls []))) {a0 : Nat} {i1 : Int32} {i2 : Int32} {i3 : Int32} {i4 : Int32} {i5 : Int32} {ta0 : Nat} {ti1 : Int32} {ti2 : Int32} {σ : Sg} {r : Int32} {τ : Sg} {H : Heap} {locs : List Loc} {ls : Array Slot} (h : X5_layOrder_b102 n (X5_layOrder_run n) a0 i1 i2 i3 i4 i5 ta0 ti1 ti2 σ = some (r, τ)) : Dy base D cI cJ σ H → va_S (fun q => base ≤ q) s.heap H locs → lv_has ls 7 [(0, .ref (base + a0)), (1, .int i1), (2, .int i2), (3, .int i3), (4, .int i4), (5, .int i5)] → W p l e (rmD 0 0 0) s m args below meth c H locs 0 0 (MQ below (QwI base D cI cJ r τ) args s 0 0 (fun q => base ≤ q)) (F0 m 102 ls [.int ti2, .int ti1, .ref (base + ta0)]) := by
  intro hP hS hl
  obtain ⟨hx, hb, hml, hown, hts⟩ := hC.1
  unfold X5_layOrder_b102 at h
  obtain ⟨s_2, hs_2, h⟩ := obn h
  refine w_iast hC hP hS hs_2 dX5_layOrder_102 (fun H locs hP hS => ?_)
  refine lv_iload hx hb dX5_layOrder_103 (lv_at hl 5 rfl) ?_
  refine lv_if_eq (tgt := 188) hx hb dX5_layOrder_105 (by decide) (fun c_3 => ?_) (fun c_3 => ?_)
  · rw [if_pos c_3] at h
    exact X5_layOrder_k188 hC hr hlocks ih h hP hS (lv_sub hl [0, 1, 2, 3] rfl)
  · rw [if_neg c_3] at h
    refine lv_iload_n hx hb dX5_layOrder_108 rfl (lv_at hl 2 rfl) ?_
    refine lv_istore (lv' := [(6, .int i2), (0, .ref (base + a0)), (1, .int i1), (2, .int i2), (3, .int i3), (4, .int i4), (5, .int i5)]) hx hb dX5_layOrder_109 hl (by decide) rfl (fun ls hl => ?_)
    exact ih.2 h hP hS (lv_sub hl [1, 2, 3, 4, 5, 0] rfl)
set_option maxRecDepth 100000 in
set_option maxHeartbeats 4000000 in
theorem X5_layOrder_k53 (hC : Cx p m c cX5_layOrder 7 s args RX5 base D cI cJ tS) (hr : meth.sig.returnType = (some .int)) (hlocks : meth.locks = false) {n : Nat} (ih : (∀ {a0 : Nat} {i1 : Int32} {i2 : Int32} {i3 : Int32} {i4 : Int32} {i6 : Int32} {σ : Sg} {r : Int32} {τ : Sg} {H : Heap} {locs : List Loc} {ls : Array Slot}, X5_layOrder_run n 4 a0 i1 i2 i3 i4 i6 σ = some (r, τ) → Dy base D cI cJ σ H → va_S (fun q => base ≤ q) s.heap H locs → lv_has ls 7 [(0, .ref (base + a0)), (1, .int i1), (2, .int i2), (3, .int i3)] → W p l e (rmD 0 0 0) s m args below meth c H locs 0 0 (MQ below (QwI base D cI cJ r τ) args s 0 0 (fun q => base ≤ q)) (F0 m 4 ls [])) ∧ (∀ {a0 : Nat} {i1 : Int32} {i2 : Int32} {i3 : Int32} {i4 : Int32} {i6 : Int32} {σ : Sg} {r : Int32} {τ : Sg} {H : Heap} {locs : List Loc} {ls : Array Slot}, X5_layOrder_run n 111 a0 i1 i2 i3 i4 i6 σ = some (r, τ) → Dy base D cI cJ σ H → va_S (fun q => base ≤ q) s.heap H locs → lv_has ls 7 [(0, .ref (base + a0)), (1, .int i1), (2, .int i2), (3, .int i3), (4, .int i4), (6, .int i6)] → W p l e (rmD 0 0 0) s m args below meth c H locs 0 0 (MQ below (QwI base D cI cJ r τ) args s 0 0 (fun q => base ≤ q)) (F0 m 111 ls []))) {a0 : Nat} {i1 : Int32} {i2 : Int32} {i3 : Int32} {i4 : Int32} {ti0 : Int32} {σ : Sg} {r : Int32} {τ : Sg} {H : Heap} {locs : List Loc} {ls : Array Slot} (h : X5_layOrder_b53 n (X5_layOrder_run n) a0 i1 i2 i3 i4 ti0 σ = some (r, τ)) : Dy base D cI cJ σ H → va_S (fun q => base ≤ q) s.heap H locs → lv_has ls 7 [(0, .ref (base + a0)), (1, .int i1), (2, .int i2), (3, .int i3), (4, .int i4)] → W p l e (rmD 0 0 0) s m args below meth c H locs 0 0 (MQ below (QwI base D cI cJ r τ) args s 0 0 (fun q => base ≤ q)) (F0 m 53 ls [.int ti0]) := by
  intro hP hS hl
  obtain ⟨hx, hb, hml, hown, hts⟩ := hC.1
  unfold X5_layOrder_b53 at h
  refine lv_istore (lv' := [(5, .int ti0), (0, .ref (base + a0)), (1, .int i1), (2, .int i2), (3, .int i3), (4, .int i4)]) hx hb dX5_layOrder_53 hl (by decide) rfl (fun ls hl => ?_)
  refine lv_aload_n hx hb dX5_layOrder_55 rfl (lv_at hl 1 rfl) ?_
  obtain ⟨q_4, hq_4, h⟩ := obn h
  refine w_getR (ci := 5) (j := 17) hC hP rfl inlX5 (by decide) (by decide) rfl hq_4 wl_78 dX5_layOrder_56 ?_
  refine lv_iload hx hb dX5_layOrder_59 (lv_at hl 5 rfl) ?_
  refine lv_iload hx hb dX5_layOrder_61 (lv_at hl 0 rfl) ?_
  refine lv_if_eq (tgt := 100) hx hb dX5_layOrder_63 (by decide) (fun c_5 => ?_) (fun c_5 => ?_)
  · rw [if_pos c_5] at h
    refine lv_bipush (v := (-6)) hx hb dX5_layOrder_100 (by decide) ?_
    exact X5_layOrder_k102 hC hr hlocks ih h hP hS (lv_sub hl [1, 2, 3, 4, 5, 0] rfl)
  · rw [if_neg c_5] at h
    refine lv_iload_n hx hb dX5_layOrder_66 rfl (lv_at hl 2 rfl) ?_
    refine lv_if_ne (tgt := 79) hx hb dX5_layOrder_67 (by decide) (fun c_6 => ?_) (fun c_6 => ?_)
    · rw [if_neg c_6] at h
      refine lv_aload_n hx hb dX5_layOrder_79 rfl (lv_at hl 1 rfl) ?_
      obtain ⟨q_7, hq_7, h⟩ := obn h
      refine w_getR (ci := 5) (j := 18) hC hP rfl inlX5 (by decide) (by decide) rfl hq_7 wl_79 dX5_layOrder_80 ?_
      refine lv_iload hx hb dX5_layOrder_83 (lv_at hl 5 rfl) ?_
      refine lv_iconst (v := 1) hx hb dX5_layOrder_85 (by decide) ?_
      refine lv_isub hx hb dX5_layOrder_86 ?_
      obtain ⟨v_8, hv_8, h⟩ := obn h
      refine w_iald hC hP hv_8 dX5_layOrder_87 ?_
      refine lv_aload_n hx hb dX5_layOrder_88 rfl (lv_at hl 1 rfl) ?_
      obtain ⟨q_9, hq_9, h⟩ := obn h
      refine w_getR (ci := 5) (j := 0) hC hP rfl inlX5 (by decide) (by decide) rfl hq_9 wl_65 dX5_layOrder_89 ?_
      refine lv_iload_n hx hb dX5_layOrder_92 rfl (lv_at hl 2 rfl) ?_
      refine lv_iconst (v := 1) hx hb dX5_layOrder_93 (by decide) ?_
      refine lv_isub hx hb dX5_layOrder_94 ?_
      obtain ⟨v_10, hv_10, h⟩ := obn h
      refine w_iald hC hP hv_10 dX5_layOrder_95 ?_
      refine lv_iadd hx hb dX5_layOrder_96 ?_
      refine lv_goto (tgt := 102) hx hb dX5_layOrder_97 (by decide) ?_
      exact X5_layOrder_k102 hC hr hlocks ih h hP hS (lv_sub hl [1, 2, 3, 4, 5, 0] rfl)
    · rw [if_pos c_6] at h
      refine lv_aload_n hx hb dX5_layOrder_70 rfl (lv_at hl 1 rfl) ?_
      obtain ⟨q_11, hq_11, h⟩ := obn h
      refine w_getR (ci := 5) (j := 4) hC hP rfl inlX5 (by decide) (by decide) rfl hq_11 wl_69 dX5_layOrder_71 ?_
      refine lv_iload_n hx hb dX5_layOrder_74 rfl (lv_at hl 4 rfl) ?_
      obtain ⟨v_12, hv_12, h⟩ := obn h
      refine w_iald hC hP hv_12 dX5_layOrder_75 ?_
      refine lv_goto (tgt := 102) hx hb dX5_layOrder_76 (by decide) ?_
      exact X5_layOrder_k102 hC hr hlocks ih h hP hS (lv_sub hl [1, 2, 3, 4, 5, 0] rfl)
set_option maxRecDepth 100000 in
set_option maxHeartbeats 4000000 in
theorem X5_layOrder_k48 (hC : Cx p m c cX5_layOrder 7 s args RX5 base D cI cJ tS) (hr : meth.sig.returnType = (some .int)) (hlocks : meth.locks = false) {n : Nat} (ih : (∀ {a0 : Nat} {i1 : Int32} {i2 : Int32} {i3 : Int32} {i4 : Int32} {i6 : Int32} {σ : Sg} {r : Int32} {τ : Sg} {H : Heap} {locs : List Loc} {ls : Array Slot}, X5_layOrder_run n 4 a0 i1 i2 i3 i4 i6 σ = some (r, τ) → Dy base D cI cJ σ H → va_S (fun q => base ≤ q) s.heap H locs → lv_has ls 7 [(0, .ref (base + a0)), (1, .int i1), (2, .int i2), (3, .int i3)] → W p l e (rmD 0 0 0) s m args below meth c H locs 0 0 (MQ below (QwI base D cI cJ r τ) args s 0 0 (fun q => base ≤ q)) (F0 m 4 ls [])) ∧ (∀ {a0 : Nat} {i1 : Int32} {i2 : Int32} {i3 : Int32} {i4 : Int32} {i6 : Int32} {σ : Sg} {r : Int32} {τ : Sg} {H : Heap} {locs : List Loc} {ls : Array Slot}, X5_layOrder_run n 111 a0 i1 i2 i3 i4 i6 σ = some (r, τ) → Dy base D cI cJ σ H → va_S (fun q => base ≤ q) s.heap H locs → lv_has ls 7 [(0, .ref (base + a0)), (1, .int i1), (2, .int i2), (3, .int i3), (4, .int i4), (6, .int i6)] → W p l e (rmD 0 0 0) s m args below meth c H locs 0 0 (MQ below (QwI base D cI cJ r τ) args s 0 0 (fun q => base ≤ q)) (F0 m 111 ls []))) {a0 : Nat} {i1 : Int32} {i2 : Int32} {i3 : Int32} {i4 : Int32} {σ : Sg} {r : Int32} {τ : Sg} {H : Heap} {locs : List Loc} {ls : Array Slot} (h : X5_layOrder_b48 n (X5_layOrder_run n) a0 i1 i2 i3 i4 σ = some (r, τ)) : Dy base D cI cJ σ H → va_S (fun q => base ≤ q) s.heap H locs → lv_has ls 7 [(0, .ref (base + a0)), (1, .int i1), (2, .int i2), (3, .int i3), (4, .int i4)] → W p l e (rmD 0 0 0) s m args below meth c H locs 0 0 (MQ below (QwI base D cI cJ r τ) args s 0 0 (fun q => base ≤ q)) (F0 m 48 ls []) := by
  intro hP hS hl
  obtain ⟨hx, hb, hml, hown, hts⟩ := hC.1
  unfold X5_layOrder_b48 at h
  refine lv_iconst (v := 1) hx hb dX5_layOrder_48 (by decide) ?_
  refine lv_goto (tgt := 53) hx hb dX5_layOrder_49 (by decide) ?_
  exact X5_layOrder_k53 hC hr hlocks ih h hP hS (lv_sub hl [0, 1, 2, 3, 4] rfl)
set_option maxRecDepth 100000 in
set_option maxHeartbeats 4000000 in
theorem X5_layOrder_k52 (hC : Cx p m c cX5_layOrder 7 s args RX5 base D cI cJ tS) (hr : meth.sig.returnType = (some .int)) (hlocks : meth.locks = false) {n : Nat} (ih : (∀ {a0 : Nat} {i1 : Int32} {i2 : Int32} {i3 : Int32} {i4 : Int32} {i6 : Int32} {σ : Sg} {r : Int32} {τ : Sg} {H : Heap} {locs : List Loc} {ls : Array Slot}, X5_layOrder_run n 4 a0 i1 i2 i3 i4 i6 σ = some (r, τ) → Dy base D cI cJ σ H → va_S (fun q => base ≤ q) s.heap H locs → lv_has ls 7 [(0, .ref (base + a0)), (1, .int i1), (2, .int i2), (3, .int i3)] → W p l e (rmD 0 0 0) s m args below meth c H locs 0 0 (MQ below (QwI base D cI cJ r τ) args s 0 0 (fun q => base ≤ q)) (F0 m 4 ls [])) ∧ (∀ {a0 : Nat} {i1 : Int32} {i2 : Int32} {i3 : Int32} {i4 : Int32} {i6 : Int32} {σ : Sg} {r : Int32} {τ : Sg} {H : Heap} {locs : List Loc} {ls : Array Slot}, X5_layOrder_run n 111 a0 i1 i2 i3 i4 i6 σ = some (r, τ) → Dy base D cI cJ σ H → va_S (fun q => base ≤ q) s.heap H locs → lv_has ls 7 [(0, .ref (base + a0)), (1, .int i1), (2, .int i2), (3, .int i3), (4, .int i4), (6, .int i6)] → W p l e (rmD 0 0 0) s m args below meth c H locs 0 0 (MQ below (QwI base D cI cJ r τ) args s 0 0 (fun q => base ≤ q)) (F0 m 111 ls []))) {a0 : Nat} {i1 : Int32} {i2 : Int32} {i3 : Int32} {i4 : Int32} {σ : Sg} {r : Int32} {τ : Sg} {H : Heap} {locs : List Loc} {ls : Array Slot} (h : X5_layOrder_b52 n (X5_layOrder_run n) a0 i1 i2 i3 i4 σ = some (r, τ)) : Dy base D cI cJ σ H → va_S (fun q => base ≤ q) s.heap H locs → lv_has ls 7 [(0, .ref (base + a0)), (1, .int i1), (2, .int i2), (3, .int i3), (4, .int i4)] → W p l e (rmD 0 0 0) s m args below meth c H locs 0 0 (MQ below (QwI base D cI cJ r τ) args s 0 0 (fun q => base ≤ q)) (F0 m 52 ls []) := by
  intro hP hS hl
  obtain ⟨hx, hb, hml, hown, hts⟩ := hC.1
  unfold X5_layOrder_b52 at h
  refine lv_iconst (v := 0) hx hb dX5_layOrder_52 (by decide) ?_
  exact X5_layOrder_k53 hC hr hlocks ih h hP hS (lv_sub hl [0, 1, 2, 3, 4] rfl)
set_option maxRecDepth 100000 in
set_option maxHeartbeats 4000000 in
theorem X5_layOrder_k4 (hC : Cx p m c cX5_layOrder 7 s args RX5 base D cI cJ tS) (hr : meth.sig.returnType = (some .int)) (hlocks : meth.locks = false) {n : Nat} (ih : (∀ {a0 : Nat} {i1 : Int32} {i2 : Int32} {i3 : Int32} {i4 : Int32} {i6 : Int32} {σ : Sg} {r : Int32} {τ : Sg} {H : Heap} {locs : List Loc} {ls : Array Slot}, X5_layOrder_run n 4 a0 i1 i2 i3 i4 i6 σ = some (r, τ) → Dy base D cI cJ σ H → va_S (fun q => base ≤ q) s.heap H locs → lv_has ls 7 [(0, .ref (base + a0)), (1, .int i1), (2, .int i2), (3, .int i3)] → W p l e (rmD 0 0 0) s m args below meth c H locs 0 0 (MQ below (QwI base D cI cJ r τ) args s 0 0 (fun q => base ≤ q)) (F0 m 4 ls [])) ∧ (∀ {a0 : Nat} {i1 : Int32} {i2 : Int32} {i3 : Int32} {i4 : Int32} {i6 : Int32} {σ : Sg} {r : Int32} {τ : Sg} {H : Heap} {locs : List Loc} {ls : Array Slot}, X5_layOrder_run n 111 a0 i1 i2 i3 i4 i6 σ = some (r, τ) → Dy base D cI cJ σ H → va_S (fun q => base ≤ q) s.heap H locs → lv_has ls 7 [(0, .ref (base + a0)), (1, .int i1), (2, .int i2), (3, .int i3), (4, .int i4), (6, .int i6)] → W p l e (rmD 0 0 0) s m args below meth c H locs 0 0 (MQ below (QwI base D cI cJ r τ) args s 0 0 (fun q => base ≤ q)) (F0 m 111 ls []))) {a0 : Nat} {i1 : Int32} {i2 : Int32} {i3 : Int32} {σ : Sg} {r : Int32} {τ : Sg} {H : Heap} {locs : List Loc} {ls : Array Slot} (h : X5_layOrder_b4 n (X5_layOrder_run n) a0 i1 i2 i3 σ = some (r, τ)) : Dy base D cI cJ σ H → va_S (fun q => base ≤ q) s.heap H locs → lv_has ls 7 [(0, .ref (base + a0)), (1, .int i1), (2, .int i2), (3, .int i3)] → W p l e (rmD 0 0 0) s m args below meth c H locs 0 0 (MQ below (QwI base D cI cJ r τ) args s 0 0 (fun q => base ≤ q)) (F0 m 4 ls []) := by
  intro hP hS hl
  obtain ⟨hx, hb, hml, hown, hts⟩ := hC.1
  unfold X5_layOrder_b4 at h
  refine lv_iload_n hx hb dX5_layOrder_4 rfl (lv_at hl 3 rfl) ?_
  refine lv_aload_n hx hb dX5_layOrder_5 rfl (lv_at hl 0 rfl) ?_
  obtain ⟨v_13, hv_13, h⟩ := obn h
  refine w_getI (ci := 5) (j := 3) hC hP rfl inlX5 (by decide) (by decide) rfl hv_13 wl_127 dX5_layOrder_6 ?_
  refine lv_icmp_ge (tgt := 194) hx hb dX5_layOrder_9 (by decide) (fun c_14 => ?_) (fun c_14 => ?_)
  · rw [if_pos c_14] at h
    refine lv_iload_n hx hb dX5_layOrder_194 rfl (lv_at hl 2 rfl) ?_
    obtain ⟨rfl, rfl⟩ := Prod.mk.inj (Option.some.inj h)
    exact w_iret hC hr hlocks hP hS dX5_layOrder_195
  · rw [if_neg c_14] at h
    refine lv_bipush (v := 10) hx hb dX5_layOrder_12 (by decide) ?_
    refine lv_iload_n hx hb dX5_layOrder_14 rfl (lv_at hl 3 rfl) ?_
    refine lv_imul hx hb dX5_layOrder_15 ?_
    refine lv_iload_n hx hb dX5_layOrder_16 rfl (lv_at hl 1 rfl) ?_
    refine lv_iadd hx hb dX5_layOrder_17 ?_
    obtain ⟨i4_15, hi4_15, h⟩ := obn h
    refine w_eqi (Option.some.inj hi4_15) ?_
    refine lv_istore (lv' := [(4, .int i4_15), (0, .ref (base + a0)), (1, .int i1), (2, .int i2), (3, .int i3)]) hx hb dX5_layOrder_18 hl (by decide) rfl (fun ls hl => ?_)
    refine lv_iload_n hx hb dX5_layOrder_20 rfl (lv_at hl 2 rfl) ?_
    refine lv_if_eq (tgt := 48) hx hb dX5_layOrder_21 (by decide) (fun c_16 => ?_) (fun c_16 => ?_)
    · rw [if_pos c_16] at h
      exact X5_layOrder_k48 hC hr hlocks ih h hP hS (lv_sub hl [1, 2, 3, 4, 0] rfl)
    · rw [if_neg c_16] at h
      refine lv_aload_n hx hb dX5_layOrder_24 rfl (lv_at hl 1 rfl) ?_
      obtain ⟨q_17, hq_17, h⟩ := obn h
      refine w_getR (ci := 5) (j := 17) hC hP rfl inlX5 (by decide) (by decide) rfl hq_17 wl_78 dX5_layOrder_25 ?_
      refine lv_iload hx hb dX5_layOrder_28 (lv_at hl 0 rfl) ?_
      refine lv_iconst (v := 1) hx hb dX5_layOrder_30 (by decide) ?_
      refine lv_isub hx hb dX5_layOrder_31 ?_
      obtain ⟨v_18, hv_18, h⟩ := obn h
      refine w_iald hC hP hv_18 dX5_layOrder_32 ?_
      refine lv_if_lt (tgt := 52) hx hb dX5_layOrder_33 (by decide) (fun c_19 => ?_) (fun c_19 => ?_)
      · rw [if_pos c_19] at h
        exact X5_layOrder_k52 hC hr hlocks ih h hP hS (lv_sub hl [1, 2, 3, 4, 0] rfl)
      · rw [if_neg c_19] at h
        refine lv_aload_n hx hb dX5_layOrder_36 rfl (lv_at hl 1 rfl) ?_
        obtain ⟨q_20, hq_20, h⟩ := obn h
        refine w_getR (ci := 5) (j := 6) hC hP rfl inlX5 (by decide) (by decide) rfl hq_20 wl_71 dX5_layOrder_37 ?_
        refine lv_iload_n hx hb dX5_layOrder_40 rfl (lv_at hl 4 rfl) ?_
        obtain ⟨v_21, hv_21, h⟩ := obn h
        refine w_iald hC hP hv_21 dX5_layOrder_41 ?_
        refine lv_iload_n hx hb dX5_layOrder_42 rfl (lv_at hl 2 rfl) ?_
        refine lv_iconst (v := 1) hx hb dX5_layOrder_43 (by decide) ?_
        refine lv_isub hx hb dX5_layOrder_44 ?_
        refine lv_icmp_le (tgt := 52) hx hb dX5_layOrder_45 (by decide) (fun c_22 => ?_) (fun c_22 => ?_)
        · rw [if_pos c_22] at h
          exact X5_layOrder_k52 hC hr hlocks ih h hP hS (lv_sub hl [1, 2, 3, 4, 0] rfl)
        · rw [if_neg c_22] at h
          exact X5_layOrder_k48 hC hr hlocks ih h hP hS (lv_sub hl [1, 2, 3, 4, 0] rfl)
set_option maxRecDepth 100000 in
set_option maxHeartbeats 4000000 in
theorem X5_layOrder_k177 (hC : Cx p m c cX5_layOrder 7 s args RX5 base D cI cJ tS) (hr : meth.sig.returnType = (some .int)) (hlocks : meth.locks = false) {n : Nat} (ih : (∀ {a0 : Nat} {i1 : Int32} {i2 : Int32} {i3 : Int32} {i4 : Int32} {i6 : Int32} {σ : Sg} {r : Int32} {τ : Sg} {H : Heap} {locs : List Loc} {ls : Array Slot}, X5_layOrder_run n 4 a0 i1 i2 i3 i4 i6 σ = some (r, τ) → Dy base D cI cJ σ H → va_S (fun q => base ≤ q) s.heap H locs → lv_has ls 7 [(0, .ref (base + a0)), (1, .int i1), (2, .int i2), (3, .int i3)] → W p l e (rmD 0 0 0) s m args below meth c H locs 0 0 (MQ below (QwI base D cI cJ r τ) args s 0 0 (fun q => base ≤ q)) (F0 m 4 ls [])) ∧ (∀ {a0 : Nat} {i1 : Int32} {i2 : Int32} {i3 : Int32} {i4 : Int32} {i6 : Int32} {σ : Sg} {r : Int32} {τ : Sg} {H : Heap} {locs : List Loc} {ls : Array Slot}, X5_layOrder_run n 111 a0 i1 i2 i3 i4 i6 σ = some (r, τ) → Dy base D cI cJ σ H → va_S (fun q => base ≤ q) s.heap H locs → lv_has ls 7 [(0, .ref (base + a0)), (1, .int i1), (2, .int i2), (3, .int i3), (4, .int i4), (6, .int i6)] → W p l e (rmD 0 0 0) s m args below meth c H locs 0 0 (MQ below (QwI base D cI cJ r τ) args s 0 0 (fun q => base ≤ q)) (F0 m 111 ls []))) {a0 : Nat} {i1 : Int32} {i2 : Int32} {i3 : Int32} {i6 : Int32} {σ : Sg} {r : Int32} {τ : Sg} {H : Heap} {locs : List Loc} {ls : Array Slot} (h : X5_layOrder_b177 n (X5_layOrder_run n) a0 i1 i2 i3 i6 σ = some (r, τ)) : Dy base D cI cJ σ H → va_S (fun q => base ≤ q) s.heap H locs → lv_has ls 7 [(0, .ref (base + a0)), (1, .int i1), (2, .int i2), (3, .int i3), (6, .int i6)] → W p l e (rmD 0 0 0) s m args below meth c H locs 0 0 (MQ below (QwI base D cI cJ r τ) args s 0 0 (fun q => base ≤ q)) (F0 m 177 ls []) := by
  intro hP hS hl
  obtain ⟨hx, hb, hml, hown, hts⟩ := hC.1
  unfold X5_layOrder_b177 at h
  refine lv_aload_n hx hb dX5_layOrder_177 rfl (lv_at hl 0 rfl) ?_
  obtain ⟨q_23, hq_23, h⟩ := obn h
  refine w_getR (ci := 5) (j := 28) hC hP rfl inlX5 (by decide) (by decide) rfl hq_23 wl_89 dX5_layOrder_178 ?_
  refine lv_iload hx hb dX5_layOrder_181 (lv_at hl 4 rfl) ?_
  refine lv_iload_n hx hb dX5_layOrder_183 rfl (lv_at hl 3 rfl) ?_
  obtain ⟨s_24, hs_24, h⟩ := obn h
  refine w_iast hC hP hS hs_24 dX5_layOrder_184 (fun H locs hP hS => ?_)
  obtain ⟨i2_25, hi2_25, h⟩ := obn h
  refine lv_iinc (v := i2_25) (lv' := [(2, .int i2_25), (0, .ref (base + a0)), (1, .int i1), (3, .int i3), (6, .int i6)]) hx hb dX5_layOrder_185 hl (k := 2) rfl (Option.some.inj hi2_25) (by decide) rfl (fun ls hl => ?_)
  exact X5_layOrder_k188 hC hr hlocks ih h hP hS (lv_sub hl [1, 2, 0, 3] rfl)
set_option maxRecDepth 100000 in
set_option maxHeartbeats 4000000 in
theorem X5_layOrder_k111 (hC : Cx p m c cX5_layOrder 7 s args RX5 base D cI cJ tS) (hr : meth.sig.returnType = (some .int)) (hlocks : meth.locks = false) {n : Nat} (ih : (∀ {a0 : Nat} {i1 : Int32} {i2 : Int32} {i3 : Int32} {i4 : Int32} {i6 : Int32} {σ : Sg} {r : Int32} {τ : Sg} {H : Heap} {locs : List Loc} {ls : Array Slot}, X5_layOrder_run n 4 a0 i1 i2 i3 i4 i6 σ = some (r, τ) → Dy base D cI cJ σ H → va_S (fun q => base ≤ q) s.heap H locs → lv_has ls 7 [(0, .ref (base + a0)), (1, .int i1), (2, .int i2), (3, .int i3)] → W p l e (rmD 0 0 0) s m args below meth c H locs 0 0 (MQ below (QwI base D cI cJ r τ) args s 0 0 (fun q => base ≤ q)) (F0 m 4 ls [])) ∧ (∀ {a0 : Nat} {i1 : Int32} {i2 : Int32} {i3 : Int32} {i4 : Int32} {i6 : Int32} {σ : Sg} {r : Int32} {τ : Sg} {H : Heap} {locs : List Loc} {ls : Array Slot}, X5_layOrder_run n 111 a0 i1 i2 i3 i4 i6 σ = some (r, τ) → Dy base D cI cJ σ H → va_S (fun q => base ≤ q) s.heap H locs → lv_has ls 7 [(0, .ref (base + a0)), (1, .int i1), (2, .int i2), (3, .int i3), (4, .int i4), (6, .int i6)] → W p l e (rmD 0 0 0) s m args below meth c H locs 0 0 (MQ below (QwI base D cI cJ r τ) args s 0 0 (fun q => base ≤ q)) (F0 m 111 ls []))) {a0 : Nat} {i1 : Int32} {i2 : Int32} {i3 : Int32} {i4 : Int32} {i6 : Int32} {σ : Sg} {r : Int32} {τ : Sg} {H : Heap} {locs : List Loc} {ls : Array Slot} (h : X5_layOrder_b111 n (X5_layOrder_run n) a0 i1 i2 i3 i4 i6 σ = some (r, τ)) : Dy base D cI cJ σ H → va_S (fun q => base ≤ q) s.heap H locs → lv_has ls 7 [(0, .ref (base + a0)), (1, .int i1), (2, .int i2), (3, .int i3), (4, .int i4), (6, .int i6)] → W p l e (rmD 0 0 0) s m args below meth c H locs 0 0 (MQ below (QwI base D cI cJ r τ) args s 0 0 (fun q => base ≤ q)) (F0 m 111 ls []) := by
  intro hP hS hl
  obtain ⟨hx, hb, hml, hown, hts⟩ := hC.1
  unfold X5_layOrder_b111 at h
  refine lv_aload_n hx hb dX5_layOrder_111 rfl (lv_at hl 0 rfl) ?_
  obtain ⟨q_26, hq_26, h⟩ := obn h
  refine w_getR (ci := 5) (j := 7) hC hP rfl inlX5 (by decide) (by decide) rfl hq_26 wl_64 dX5_layOrder_112 ?_
  refine lv_iconst (v := 3) hx hb dX5_layOrder_115 (by decide) ?_
  obtain ⟨v_27, hv_27, h⟩ := obn h
  refine w_iald hC hP hv_27 dX5_layOrder_116 ?_
  refine lv_iconst (v := 1) hx hb dX5_layOrder_117 (by decide) ?_
  refine lv_icmp_ne (tgt := 177) hx hb dX5_layOrder_118 (by decide) (fun c_28 => ?_) (fun c_28 => ?_)
  · rw [if_neg c_28] at h
    exact X5_layOrder_k177 hC hr hlocks ih h hP hS (lv_sub hl [0, 1, 2, 3, 5] rfl)
  · rw [if_pos c_28] at h
    refine lv_iload hx hb dX5_layOrder_121 (lv_at hl 5 rfl) ?_
    refine lv_if_le (tgt := 177) hx hb dX5_layOrder_123 (by decide) (fun c_29 => ?_) (fun c_29 => ?_)
    · rw [if_pos c_29] at h
      exact X5_layOrder_k177 hC hr hlocks ih h hP hS (lv_sub hl [0, 1, 2, 3, 5] rfl)
    · rw [if_neg c_29] at h
      refine lv_aload_n hx hb dX5_layOrder_126 rfl (lv_at hl 0 rfl) ?_
      obtain ⟨q_30, hq_30, h⟩ := obn h
      refine w_getR (ci := 5) (j := 17) hC hP rfl inlX5 (by decide) (by decide) rfl hq_30 wl_78 dX5_layOrder_127 ?_
      refine lv_bipush (v := 10) hx hb dX5_layOrder_130 (by decide) ?_
      refine lv_aload_n hx hb dX5_layOrder_132 rfl (lv_at hl 0 rfl) ?_
      obtain ⟨q_31, hq_31, h⟩ := obn h
      refine w_getR (ci := 5) (j := 28) hC hP rfl inlX5 (by decide) (by decide) rfl hq_31 wl_89 dX5_layOrder_133 ?_
      refine lv_iload hx hb dX5_layOrder_136 (lv_at hl 5 rfl) ?_
      refine lv_iconst (v := 1) hx hb dX5_layOrder_138 (by decide) ?_
      refine lv_isub hx hb dX5_layOrder_139 ?_
      obtain ⟨v_32, hv_32, h⟩ := obn h
      refine w_iald hC hP hv_32 dX5_layOrder_140 ?_
      refine lv_imul hx hb dX5_layOrder_141 ?_
      refine lv_iload_n hx hb dX5_layOrder_142 rfl (lv_at hl 1 rfl) ?_
      refine lv_iadd hx hb dX5_layOrder_143 ?_
      obtain ⟨v_33, hv_33, h⟩ := obn h
      refine w_iald hC hP hv_33 dX5_layOrder_144 ?_
      refine lv_aload_n hx hb dX5_layOrder_145 rfl (lv_at hl 0 rfl) ?_
      obtain ⟨q_34, hq_34, h⟩ := obn h
      refine w_getR (ci := 5) (j := 17) hC hP rfl inlX5 (by decide) (by decide) rfl hq_34 wl_78 dX5_layOrder_146 ?_
      refine lv_iload hx hb dX5_layOrder_149 (lv_at hl 4 rfl) ?_
      obtain ⟨v_35, hv_35, h⟩ := obn h
      refine w_iald hC hP hv_35 dX5_layOrder_151 ?_
      refine lv_icmp_le (tgt := 177) hx hb dX5_layOrder_152 (by decide) (fun c_36 => ?_) (fun c_36 => ?_)
      · rw [if_pos c_36] at h
        exact X5_layOrder_k177 hC hr hlocks ih h hP hS (lv_sub hl [0, 1, 2, 3, 5] rfl)
      · rw [if_neg c_36] at h
        refine lv_aload_n hx hb dX5_layOrder_155 rfl (lv_at hl 0 rfl) ?_
        obtain ⟨q_37, hq_37, h⟩ := obn h
        refine w_getR (ci := 5) (j := 28) hC hP rfl inlX5 (by decide) (by decide) rfl hq_37 wl_89 dX5_layOrder_156 ?_
        refine lv_iload hx hb dX5_layOrder_159 (lv_at hl 5 rfl) ?_
        refine lv_aload_n hx hb dX5_layOrder_161 rfl (lv_at hl 0 rfl) ?_
        obtain ⟨q_38, hq_38, h⟩ := obn h
        refine w_getR (ci := 5) (j := 28) hC hP rfl inlX5 (by decide) (by decide) rfl hq_38 wl_89 dX5_layOrder_162 ?_
        refine lv_iload hx hb dX5_layOrder_165 (lv_at hl 5 rfl) ?_
        refine lv_iconst (v := 1) hx hb dX5_layOrder_167 (by decide) ?_
        refine lv_isub hx hb dX5_layOrder_168 ?_
        obtain ⟨v_39, hv_39, h⟩ := obn h
        refine w_iald hC hP hv_39 dX5_layOrder_169 ?_
        obtain ⟨s_40, hs_40, h⟩ := obn h
        refine w_iast hC hP hS hs_40 dX5_layOrder_170 (fun H locs hP hS => ?_)
        obtain ⟨i6_41, hi6_41, h⟩ := obn h
        refine lv_iinc (v := i6_41) (lv' := [(6, .int i6_41), (0, .ref (base + a0)), (1, .int i1), (2, .int i2), (3, .int i3), (4, .int i4)]) hx hb dX5_layOrder_171 hl (k := 5) rfl (Option.some.inj hi6_41) (by decide) rfl (fun ls hl => ?_)
        refine lv_goto (tgt := 111) hx hb dX5_layOrder_174 (by decide) ?_
        exact ih.2 h hP hS (lv_sub hl [1, 2, 3, 4, 5, 0] rfl)
set_option maxRecDepth 100000 in
set_option maxHeartbeats 4000000 in
theorem X5_layOrder_k0 (hC : Cx p m c cX5_layOrder 7 s args RX5 base D cI cJ tS) (hr : meth.sig.returnType = (some .int)) (hlocks : meth.locks = false) {n : Nat} (ih : (∀ {a0 : Nat} {i1 : Int32} {i2 : Int32} {i3 : Int32} {i4 : Int32} {i6 : Int32} {σ : Sg} {r : Int32} {τ : Sg} {H : Heap} {locs : List Loc} {ls : Array Slot}, X5_layOrder_run n 4 a0 i1 i2 i3 i4 i6 σ = some (r, τ) → Dy base D cI cJ σ H → va_S (fun q => base ≤ q) s.heap H locs → lv_has ls 7 [(0, .ref (base + a0)), (1, .int i1), (2, .int i2), (3, .int i3)] → W p l e (rmD 0 0 0) s m args below meth c H locs 0 0 (MQ below (QwI base D cI cJ r τ) args s 0 0 (fun q => base ≤ q)) (F0 m 4 ls [])) ∧ (∀ {a0 : Nat} {i1 : Int32} {i2 : Int32} {i3 : Int32} {i4 : Int32} {i6 : Int32} {σ : Sg} {r : Int32} {τ : Sg} {H : Heap} {locs : List Loc} {ls : Array Slot}, X5_layOrder_run n 111 a0 i1 i2 i3 i4 i6 σ = some (r, τ) → Dy base D cI cJ σ H → va_S (fun q => base ≤ q) s.heap H locs → lv_has ls 7 [(0, .ref (base + a0)), (1, .int i1), (2, .int i2), (3, .int i3), (4, .int i4), (6, .int i6)] → W p l e (rmD 0 0 0) s m args below meth c H locs 0 0 (MQ below (QwI base D cI cJ r τ) args s 0 0 (fun q => base ≤ q)) (F0 m 111 ls []))) {a0 : Nat} {i1 : Int32} {σ : Sg} {r : Int32} {τ : Sg} {H : Heap} {locs : List Loc} {ls : Array Slot} (h : X5_layOrder_b0 n (X5_layOrder_run n) a0 i1 σ = some (r, τ)) : Dy base D cI cJ σ H → va_S (fun q => base ≤ q) s.heap H locs → lv_has ls 7 [(0, .ref (base + a0)), (1, .int i1)] → W p l e (rmD 0 0 0) s m args below meth c H locs 0 0 (MQ below (QwI base D cI cJ r τ) args s 0 0 (fun q => base ≤ q)) (F0 m 0 ls []) := by
  intro hP hS hl
  obtain ⟨hx, hb, hml, hown, hts⟩ := hC.1
  unfold X5_layOrder_b0 at h
  refine lv_iconst (v := 0) hx hb dX5_layOrder_0 (by decide) ?_
  refine lv_istore_n (lv' := [(2, .int 0), (0, .ref (base + a0)), (1, .int i1)]) hx hb dX5_layOrder_1 rfl hl (by decide) rfl (fun ls hl => ?_)
  refine lv_iconst (v := 0) hx hb dX5_layOrder_2 (by decide) ?_
  refine lv_istore_n (lv' := [(3, .int 0), (2, .int 0), (0, .ref (base + a0)), (1, .int i1)]) hx hb dX5_layOrder_3 rfl hl (by decide) rfl (fun ls hl => ?_)
  exact ih.1 h hP hS (lv_sub hl [2, 3, 1, 0] rfl)
set_option maxRecDepth 100000 in
set_option maxHeartbeats 4000000 in
theorem X5_layOrder_all (hC : Cx p m c cX5_layOrder 7 s args RX5 base D cI cJ tS) (hr : meth.sig.returnType = (some .int)) (hlocks : meth.locks = false) : ∀ n : Nat, (∀ {a0 : Nat} {i1 : Int32} {i2 : Int32} {i3 : Int32} {i4 : Int32} {i6 : Int32} {σ : Sg} {r : Int32} {τ : Sg} {H : Heap} {locs : List Loc} {ls : Array Slot}, X5_layOrder_run n 4 a0 i1 i2 i3 i4 i6 σ = some (r, τ) → Dy base D cI cJ σ H → va_S (fun q => base ≤ q) s.heap H locs → lv_has ls 7 [(0, .ref (base + a0)), (1, .int i1), (2, .int i2), (3, .int i3)] → W p l e (rmD 0 0 0) s m args below meth c H locs 0 0 (MQ below (QwI base D cI cJ r τ) args s 0 0 (fun q => base ≤ q)) (F0 m 4 ls [])) ∧ (∀ {a0 : Nat} {i1 : Int32} {i2 : Int32} {i3 : Int32} {i4 : Int32} {i6 : Int32} {σ : Sg} {r : Int32} {τ : Sg} {H : Heap} {locs : List Loc} {ls : Array Slot}, X5_layOrder_run n 111 a0 i1 i2 i3 i4 i6 σ = some (r, τ) → Dy base D cI cJ σ H → va_S (fun q => base ≤ q) s.heap H locs → lv_has ls 7 [(0, .ref (base + a0)), (1, .int i1), (2, .int i2), (3, .int i3), (4, .int i4), (6, .int i6)] → W p l e (rmD 0 0 0) s m args below meth c H locs 0 0 (MQ below (QwI base D cI cJ r τ) args s 0 0 (fun q => base ≤ q)) (F0 m 111 ls [])) := by
  intro n
  induction n with
  | zero => exact ⟨fun h => (by cases h), fun h => (by cases h)⟩
  | succ n ih => exact ⟨fun h => X5_layOrder_k4 hC hr hlocks ih h, fun h => X5_layOrder_k111 hC hr hlocks ih h⟩
set_option maxRecDepth 100000 in
set_option maxHeartbeats 4000000 in
theorem c_X5_layOrder {l : Launch} {base : Nat} {D : va_G} {cI cJ : ClassId} {tS : Nat} {n : Nat} {a0 : Nat} {i1 : Int32} {σ : Sg} {r : Int32} {τ : Sg} (h : f_X5_layOrder n a0 i1 σ = some (r, τ)) : Met l yX5_layOrder (.code yX5_layOrder cX5_layOrder 7 (some .int) :: wsL_law) (rmD 0 0 0) (Pw base D cI cJ tS σ [.ref (base + a0), .int i1]) (QwI base D cI cJ r τ) 0 0 (fun q => base ≤ q) := by
  refine Met.ofW (cc := cX5_layOrder) (maxL := 7) (ret := (some .int)) (by decide) rfl ?_
  intro p e s m args below meth c s₁ B hml hv
  obtain ⟨rfl, hSt, hP⟩ := hv
  have hC : Cx p m c cX5_layOrder 7 s _ RX5 base D cI cJ tS := ⟨⟨B.exec, B.bytes, hml, findClass_of_methodNamed B.named, fun w hw => atoms_spec (ws := Cond.code yX5_layOrder cX5_layOrder 7 (some .int) :: wsL_law) B.pre w (List.mem_cons_of_mem _ hw)⟩, hSt⟩
  have hl := lv_entry ([.ref (base + a0), .int i1]) (n := 7) (Nat.le_of_ble_eq_true rfl)
  rw [lg_entry_eq]
  generalize (lg_sl ([.ref (base + a0), .int i1]) ++ List.replicate (7 - (lg_sl ([.ref (base + a0), .int i1])).length) Slot.unset).toArray = ls at hl ⊢
  exact X5_layOrder_k0 hC B.returns B.notSynchronized (X5_layOrder_all hC B.returns B.notSynchronized n) h hP va_S.rf hl
-- ===== X5_getOff
set_option maxRecDepth 100000 in
set_option maxHeartbeats 4000000 in
theorem X5_getOff_k140 (hC : Cx p m c cX5_getOff 8 s args RX5 base D cI cJ tS) (hr : meth.sig.returnType = (some .int)) (hlocks : meth.locks = false) {n : Nat} (ih : (∀ {a0 : Nat} {i1 : Int32} {i2 : Int32} {i3 : Int32} {i4 : Int32} {i5 : Int32} {i6 : Int32} {σ : Sg} {r : Int32} {τ : Sg} {H : Heap} {locs : List Loc} {ls : Array Slot}, X5_getOff_run n a0 i1 i2 i3 i4 i5 i6 σ = some (r, τ) → Dy base D cI cJ σ H → va_S (fun q => base ≤ q) s.heap H locs → lv_has ls 8 [(0, .ref (base + a0)), (1, .int i1), (2, .int i2), (3, .int i3), (4, .int i4), (5, .int i5), (6, .int i6)] → W p l e (rmD 0 0 0) s m args below meth c H locs 0 0 (MQ below (QwI base D cI cJ r τ) args s 0 0 (fun q => base ≤ q)) (F0 m 28 ls []))) {a0 : Nat} {i1 : Int32} {i2 : Int32} {i3 : Int32} {i4 : Int32} {i5 : Int32} {i6 : Int32} {σ : Sg} {r : Int32} {τ : Sg} {H : Heap} {locs : List Loc} {ls : Array Slot} (h : X5_getOff_b140 n (X5_getOff_run n) a0 i1 i2 i3 i4 i5 i6 σ = some (r, τ)) : Dy base D cI cJ σ H → va_S (fun q => base ≤ q) s.heap H locs → lv_has ls 8 [(0, .ref (base + a0)), (1, .int i1), (2, .int i2), (3, .int i3), (4, .int i4), (5, .int i5), (6, .int i6)] → W p l e (rmD 0 0 0) s m args below meth c H locs 0 0 (MQ below (QwI base D cI cJ r τ) args s 0 0 (fun q => base ≤ q)) (F0 m 140 ls []) := by
  intro hP hS hl
  obtain ⟨hx, hb, hml, hown, hts⟩ := hC.1
  unfold X5_getOff_b140 at h
  obtain ⟨i6_1, hi6_1, h⟩ := obn h
  refine lv_iinc (v := i6_1) (lv' := [(6, .int i6_1), (0, .ref (base + a0)), (1, .int i1), (2, .int i2), (3, .int i3), (4, .int i4), (5, .int i5)]) hx hb dX5_getOff_140 hl (k := 6) rfl (Option.some.inj hi6_1) (by decide) rfl (fun ls hl => ?_)
  refine lv_goto (tgt := 28) hx hb dX5_getOff_143 (by decide) ?_
  exact ih h hP hS (lv_sub hl [1, 2, 3, 4, 5, 6, 0] rfl)
set_option maxRecDepth 100000 in
set_option maxHeartbeats 4000000 in
theorem X5_getOff_k120 (hC : Cx p m c cX5_getOff 8 s args RX5 base D cI cJ tS) (hr : meth.sig.returnType = (some .int)) (hlocks : meth.locks = false) {n : Nat} (ih : (∀ {a0 : Nat} {i1 : Int32} {i2 : Int32} {i3 : Int32} {i4 : Int32} {i5 : Int32} {i6 : Int32} {σ : Sg} {r : Int32} {τ : Sg} {H : Heap} {locs : List Loc} {ls : Array Slot}, X5_getOff_run n a0 i1 i2 i3 i4 i5 i6 σ = some (r, τ) → Dy base D cI cJ σ H → va_S (fun q => base ≤ q) s.heap H locs → lv_has ls 8 [(0, .ref (base + a0)), (1, .int i1), (2, .int i2), (3, .int i3), (4, .int i4), (5, .int i5), (6, .int i6)] → W p l e (rmD 0 0 0) s m args below meth c H locs 0 0 (MQ below (QwI base D cI cJ r τ) args s 0 0 (fun q => base ≤ q)) (F0 m 28 ls []))) {a0 : Nat} {i1 : Int32} {i2 : Int32} {i3 : Int32} {i4 : Int32} {i5 : Int32} {i6 : Int32} {i7 : Int32} {ta0 : Nat} {ti1 : Int32} {ti2 : Int32} {σ : Sg} {r : Int32} {τ : Sg} {H : Heap} {locs : List Loc} {ls : Array Slot} (h : X5_getOff_b120 n (X5_getOff_run n) a0 i1 i2 i3 i4 i5 i6 i7 ta0 ti1 ti2 σ = some (r, τ)) : Dy base D cI cJ σ H → va_S (fun q => base ≤ q) s.heap H locs → lv_has ls 8 [(0, .ref (base + a0)), (1, .int i1), (2, .int i2), (3, .int i3), (4, .int i4), (5, .int i5), (6, .int i6), (7, .int i7)] → W p l e (rmD 0 0 0) s m args below meth c H locs 0 0 (MQ below (QwI base D cI cJ r τ) args s 0 0 (fun q => base ≤ q)) (F0 m 120 ls [.int ti2, .int ti1, .ref (base + ta0)]) := by
  intro hP hS hl
  obtain ⟨hx, hb, hml, hown, hts⟩ := hC.1
  unfold X5_getOff_b120 at h
  refine lv_iadd hx hb dX5_getOff_120 ?_
  obtain ⟨s_2, hs_2, h⟩ := obn h
  refine w_putI (ci := 5) (j := 30) hC hP hS rfl inlX5 tyX5 tyX5_ok nmX5 (by decide) (by decide) rfl rfl rfl rfl hs_2 wl_256 dX5_getOff_121 (fun H locs hP hS => ?_)
  refine lv_aload_n hx hb dX5_getOff_124 rfl (lv_at hl 0 rfl) ?_
  obtain ⟨q_3, hq_3, h⟩ := obn h
  refine w_getR (ci := 5) (j := 23) hC hP rfl inlX5 (by decide) (by decide) rfl hq_3 wl_84 dX5_getOff_125 ?_
  refine lv_iload hx hb dX5_getOff_128 (lv_at hl 7 rfl) ?_
  refine lv_iconst (v := 0) hx hb dX5_getOff_130 (by decide) ?_
  obtain ⟨s_4, hs_4, h⟩ := obn h
  refine w_iast hC hP hS hs_4 dX5_getOff_131 (fun H locs hP hS => ?_)
  refine lv_aload_n hx hb dX5_getOff_132 rfl (lv_at hl 0 rfl) ?_
  obtain ⟨q_5, hq_5, h⟩ := obn h
  refine w_getR (ci := 5) (j := 24) hC hP rfl inlX5 (by decide) (by decide) rfl hq_5 wl_85 dX5_getOff_133 ?_
  refine lv_iload hx hb dX5_getOff_136 (lv_at hl 7 rfl) ?_
  refine lv_iconst (v := 0) hx hb dX5_getOff_138 (by decide) ?_
  obtain ⟨s_6, hs_6, h⟩ := obn h
  refine w_iast hC hP hS hs_6 dX5_getOff_139 (fun H locs hP hS => ?_)
  exact X5_getOff_k140 hC hr hlocks ih h hP hS (lv_sub hl [0, 1, 2, 3, 4, 5, 6] rfl)
set_option maxRecDepth 100000 in
set_option maxHeartbeats 4000000 in
theorem X5_getOff_k54 (hC : Cx p m c cX5_getOff 8 s args RX5 base D cI cJ tS) (hr : meth.sig.returnType = (some .int)) (hlocks : meth.locks = false) {n : Nat} (ih : (∀ {a0 : Nat} {i1 : Int32} {i2 : Int32} {i3 : Int32} {i4 : Int32} {i5 : Int32} {i6 : Int32} {σ : Sg} {r : Int32} {τ : Sg} {H : Heap} {locs : List Loc} {ls : Array Slot}, X5_getOff_run n a0 i1 i2 i3 i4 i5 i6 σ = some (r, τ) → Dy base D cI cJ σ H → va_S (fun q => base ≤ q) s.heap H locs → lv_has ls 8 [(0, .ref (base + a0)), (1, .int i1), (2, .int i2), (3, .int i3), (4, .int i4), (5, .int i5), (6, .int i6)] → W p l e (rmD 0 0 0) s m args below meth c H locs 0 0 (MQ below (QwI base D cI cJ r τ) args s 0 0 (fun q => base ≤ q)) (F0 m 28 ls []))) {a0 : Nat} {i1 : Int32} {i2 : Int32} {i3 : Int32} {i4 : Int32} {i5 : Int32} {i6 : Int32} {i7 : Int32} {σ : Sg} {r : Int32} {τ : Sg} {H : Heap} {locs : List Loc} {ls : Array Slot} (h : X5_getOff_b54 n (X5_getOff_run n) a0 i1 i2 i3 i4 i5 i6 i7 σ = some (r, τ)) : Dy base D cI cJ σ H → va_S (fun q => base ≤ q) s.heap H locs → lv_has ls 8 [(0, .ref (base + a0)), (1, .int i1), (2, .int i2), (3, .int i3), (4, .int i4), (5, .int i5), (6, .int i6), (7, .int i7)] → W p l e (rmD 0 0 0) s m args below meth c H locs 0 0 (MQ below (QwI base D cI cJ r τ) args s 0 0 (fun q => base ≤ q)) (F0 m 54 ls []) := by
  intro hP hS hl
  obtain ⟨hx, hb, hml, hown, hts⟩ := hC.1
  unfold X5_getOff_b54 at h
  refine lv_iload hx hb dX5_getOff_54 (lv_at hl 5 rfl) ?_
  refine lv_aload_n hx hb dX5_getOff_56 rfl (lv_at hl 0 rfl) ?_
  obtain ⟨q_7, hq_7, h⟩ := obn h
  refine w_getR (ci := 5) (j := 23) hC hP rfl inlX5 (by decide) (by decide) rfl hq_7 wl_84 dX5_getOff_57 ?_
  refine lv_iload hx hb dX5_getOff_60 (lv_at hl 7 rfl) ?_
  obtain ⟨v_8, hv_8, h⟩ := obn h
  refine w_iald hC hP hv_8 dX5_getOff_62 ?_
  refine lv_iadd hx hb dX5_getOff_63 ?_
  obtain ⟨i5_9, hi5_9, h⟩ := obn h
  refine w_eqi (Option.some.inj hi5_9) ?_
  refine lv_istore (lv' := [(5, .int i5_9), (0, .ref (base + a0)), (1, .int i1), (2, .int i2), (3, .int i3), (4, .int i4), (6, .int i6), (7, .int i7)]) hx hb dX5_getOff_64 hl (by decide) rfl (fun ls hl => ?_)
  refine lv_aload_n hx hb dX5_getOff_66 rfl (lv_at hl 1 rfl) ?_
  refine lv_dup hx hb dX5_getOff_67 rfl ?_
  obtain ⟨v_10, hv_10, h⟩ := obn h
  refine w_getI (ci := 5) (j := 29) hC hP rfl inlX5 (by decide) (by decide) rfl hv_10 wl_257 dX5_getOff_68 ?_
  refine lv_aload_n hx hb dX5_getOff_71 rfl (lv_at hl 1 rfl) ?_
  obtain ⟨q_11, hq_11, h⟩ := obn h
  refine w_getR (ci := 5) (j := 23) hC hP rfl inlX5 (by decide) (by decide) rfl hq_11 wl_84 dX5_getOff_72 ?_
  refine lv_iload hx hb dX5_getOff_75 (lv_at hl 7 rfl) ?_
  obtain ⟨v_12, hv_12, h⟩ := obn h
  refine w_iald hC hP hv_12 dX5_getOff_77 ?_
  refine lv_aload_n hx hb dX5_getOff_78 rfl (lv_at hl 1 rfl) ?_
  obtain ⟨q_13, hq_13, h⟩ := obn h
  refine w_getR (ci := 5) (j := 17) hC hP rfl inlX5 (by decide) (by decide) rfl hq_13 wl_78 dX5_getOff_79 ?_
  refine lv_iload hx hb dX5_getOff_82 (lv_at hl 5 rfl) ?_
  obtain ⟨v_14, hv_14, h⟩ := obn h
  refine w_iald hC hP hv_14 dX5_getOff_84 ?_
  refine lv_imul hx hb dX5_getOff_85 ?_
  refine lv_aload_n hx hb dX5_getOff_86 rfl (lv_at hl 1 rfl) ?_
  obtain ⟨q_15, hq_15, h⟩ := obn h
  refine w_getR (ci := 5) (j := 24) hC hP rfl inlX5 (by decide) (by decide) rfl hq_15 wl_85 dX5_getOff_87 ?_
  refine lv_iload hx hb dX5_getOff_90 (lv_at hl 7 rfl) ?_
  obtain ⟨v_16, hv_16, h⟩ := obn h
  refine w_iald hC hP hv_16 dX5_getOff_92 ?_
  refine lv_isub hx hb dX5_getOff_93 ?_
  refine lv_iadd hx hb dX5_getOff_94 ?_
  obtain ⟨s_17, hs_17, h⟩ := obn h
  refine w_putI (ci := 5) (j := 29) hC hP hS rfl inlX5 tyX5 tyX5_ok nmX5 (by decide) (by decide) rfl rfl rfl rfl hs_17 wl_257 dX5_getOff_95 (fun H locs hP hS => ?_)
  refine lv_aload_n hx hb dX5_getOff_98 rfl (lv_at hl 1 rfl) ?_
  refine lv_dup hx hb dX5_getOff_99 rfl ?_
  obtain ⟨v_18, hv_18, h⟩ := obn h
  refine w_getI (ci := 5) (j := 30) hC hP rfl inlX5 (by decide) (by decide) rfl hv_18 wl_256 dX5_getOff_100 ?_
  refine lv_iload hx hb dX5_getOff_103 (lv_at hl 6 rfl) ?_
  refine lv_iload_n hx hb dX5_getOff_105 rfl (lv_at hl 3 rfl) ?_
  refine lv_icmp_ne (tgt := 113) hx hb dX5_getOff_106 (by decide) (fun c_19 => ?_) (fun c_19 => ?_)
  · rw [if_neg c_19] at h
    refine lv_aload_n hx hb dX5_getOff_113 rfl (lv_at hl 1 rfl) ?_
    obtain ⟨q_20, hq_20, h⟩ := obn h
    refine w_getR (ci := 5) (j := 23) hC hP rfl inlX5 (by decide) (by decide) rfl hq_20 wl_84 dX5_getOff_114 ?_
    refine lv_iload hx hb dX5_getOff_117 (lv_at hl 7 rfl) ?_
    obtain ⟨v_21, hv_21, h⟩ := obn h
    refine w_iald hC hP hv_21 dX5_getOff_119 ?_
    exact X5_getOff_k120 hC hr hlocks ih h hP hS (lv_sub hl [1, 2, 3, 4, 5, 0, 6, 7] rfl)
  · rw [if_pos c_19] at h
    refine lv_iconst (v := 0) hx hb dX5_getOff_109 (by decide) ?_
    refine lv_goto (tgt := 120) hx hb dX5_getOff_110 (by decide) ?_
    exact X5_getOff_k120 hC hr hlocks ih h hP hS (lv_sub hl [1, 2, 3, 4, 5, 0, 6, 7] rfl)
set_option maxRecDepth 100000 in
set_option maxHeartbeats 4000000 in
theorem X5_getOff_k28 (hC : Cx p m c cX5_getOff 8 s args RX5 base D cI cJ tS) (hr : meth.sig.returnType = (some .int)) (hlocks : meth.locks = false) {n : Nat} (ih : (∀ {a0 : Nat} {i1 : Int32} {i2 : Int32} {i3 : Int32} {i4 : Int32} {i5 : Int32} {i6 : Int32} {σ : Sg} {r : Int32} {τ : Sg} {H : Heap} {locs : List Loc} {ls : Array Slot}, X5_getOff_run n a0 i1 i2 i3 i4 i5 i6 σ = some (r, τ) → Dy base D cI cJ σ H → va_S (fun q => base ≤ q) s.heap H locs → lv_has ls 8 [(0, .ref (base + a0)), (1, .int i1), (2, .int i2), (3, .int i3), (4, .int i4), (5, .int i5), (6, .int i6)] → W p l e (rmD 0 0 0) s m args below meth c H locs 0 0 (MQ below (QwI base D cI cJ r τ) args s 0 0 (fun q => base ≤ q)) (F0 m 28 ls []))) {a0 : Nat} {i1 : Int32} {i2 : Int32} {i3 : Int32} {i4 : Int32} {i5 : Int32} {i6 : Int32} {σ : Sg} {r : Int32} {τ : Sg} {H : Heap} {locs : List Loc} {ls : Array Slot} (h : X5_getOff_b28 n (X5_getOff_run n) a0 i1 i2 i3 i4 i5 i6 σ = some (r, τ)) : Dy base D cI cJ σ H → va_S (fun q => base ≤ q) s.heap H locs → lv_has ls 8 [(0, .ref (base + a0)), (1, .int i1), (2, .int i2), (3, .int i3), (4, .int i4), (5, .int i5), (6, .int i6)] → W p l e (rmD 0 0 0) s m args below meth c H locs 0 0 (MQ below (QwI base D cI cJ r τ) args s 0 0 (fun q => base ≤ q)) (F0 m 28 ls []) := by
  intro hP hS hl
  obtain ⟨hx, hb, hml, hown, hts⟩ := hC.1
  unfold X5_getOff_b28 at h
  refine lv_iload hx hb dX5_getOff_28 (lv_at hl 6 rfl) ?_
  refine lv_bipush (v := 10) hx hb dX5_getOff_30 (by decide) ?_
  refine lv_icmp_ge (tgt := 146) hx hb dX5_getOff_32 (by decide) (fun c_22 => ?_) (fun c_22 => ?_)
  · rw [if_pos c_22] at h
    refine lv_iload hx hb dX5_getOff_146 (lv_at hl 5 rfl) ?_
    obtain ⟨rfl, rfl⟩ := Prod.mk.inj (Option.some.inj h)
    exact w_iret hC hr hlocks hP hS dX5_getOff_148
  · rw [if_neg c_22] at h
    refine lv_bipush (v := 10) hx hb dX5_getOff_35 (by decide) ?_
    refine lv_iload_n hx hb dX5_getOff_37 rfl (lv_at hl 1 rfl) ?_
    refine lv_imul hx hb dX5_getOff_38 ?_
    refine lv_iload hx hb dX5_getOff_39 (lv_at hl 6 rfl) ?_
    refine lv_iadd hx hb dX5_getOff_41 ?_
    obtain ⟨i7_23, hi7_23, h⟩ := obn h
    refine w_eqi (Option.some.inj hi7_23) ?_
    refine lv_istore (lv' := [(7, .int i7_23), (0, .ref (base + a0)), (1, .int i1), (2, .int i2), (3, .int i3), (4, .int i4), (5, .int i5), (6, .int i6)]) hx hb dX5_getOff_42 hl (by decide) rfl (fun ls hl => ?_)
    refine lv_iload hx hb dX5_getOff_44 (lv_at hl 7 rfl) ?_
    refine lv_iload_n hx hb dX5_getOff_46 rfl (lv_at hl 3 rfl) ?_
    refine lv_icmp_eq (tgt := 54) hx hb dX5_getOff_47 (by decide) (fun c_24 => ?_) (fun c_24 => ?_)
    · rw [if_pos c_24] at h
      exact X5_getOff_k54 hC hr hlocks ih h hP hS (lv_sub hl [1, 2, 3, 4, 5, 6, 7, 0] rfl)
    · rw [if_neg c_24] at h
      refine lv_iload_n hx hb dX5_getOff_50 rfl (lv_at hl 4 rfl) ?_
      refine lv_if_eq (tgt := 140) hx hb dX5_getOff_51 (by decide) (fun c_25 => ?_) (fun c_25 => ?_)
      · rw [if_pos c_25] at h
        exact X5_getOff_k140 hC hr hlocks ih h hP hS (lv_sub hl [1, 2, 3, 4, 5, 6, 7] rfl)
      · rw [if_neg c_25] at h
        exact X5_getOff_k54 hC hr hlocks ih h hP hS (lv_sub hl [1, 2, 3, 4, 5, 6, 7, 0] rfl)
set_option maxRecDepth 100000 in
set_option maxHeartbeats 4000000 in
theorem X5_getOff_k0 (hC : Cx p m c cX5_getOff 8 s args RX5 base D cI cJ tS) (hr : meth.sig.returnType = (some .int)) (hlocks : meth.locks = false) {n : Nat} (ih : (∀ {a0 : Nat} {i1 : Int32} {i2 : Int32} {i3 : Int32} {i4 : Int32} {i5 : Int32} {i6 : Int32} {σ : Sg} {r : Int32} {τ : Sg} {H : Heap} {locs : List Loc} {ls : Array Slot}, X5_getOff_run n a0 i1 i2 i3 i4 i5 i6 σ = some (r, τ) → Dy base D cI cJ σ H → va_S (fun q => base ≤ q) s.heap H locs → lv_has ls 8 [(0, .ref (base + a0)), (1, .int i1), (2, .int i2), (3, .int i3), (4, .int i4), (5, .int i5), (6, .int i6)] → W p l e (rmD 0 0 0) s m args below meth c H locs 0 0 (MQ below (QwI base D cI cJ r τ) args s 0 0 (fun q => base ≤ q)) (F0 m 28 ls []))) {a0 : Nat} {i1 : Int32} {i2 : Int32} {i3 : Int32} {σ : Sg} {r : Int32} {τ : Sg} {H : Heap} {locs : List Loc} {ls : Array Slot} (h : X5_getOff_b0 n (X5_getOff_run n) a0 i1 i2 i3 σ = some (r, τ)) : Dy base D cI cJ σ H → va_S (fun q => base ≤ q) s.heap H locs → lv_has ls 8 [(0, .ref (base + a0)), (1, .int i1), (2, .int i2), (3, .int i3)] → W p l e (rmD 0 0 0) s m args below meth c H locs 0 0 (MQ below (QwI base D cI cJ r τ) args s 0 0 (fun q => base ≤ q)) (F0 m 0 ls []) := by
  intro hP hS hl
  obtain ⟨hx, hb, hml, hown, hts⟩ := hC.1
  unfold X5_getOff_b0 at h
  refine lv_bipush (v := 10) hx hb dX5_getOff_0 (by decide) ?_
  refine lv_iload_n hx hb dX5_getOff_2 rfl (lv_at hl 1 rfl) ?_
  refine lv_imul hx hb dX5_getOff_3 ?_
  refine lv_iload_n hx hb dX5_getOff_4 rfl (lv_at hl 2 rfl) ?_
  refine lv_iadd hx hb dX5_getOff_5 ?_
  obtain ⟨i4_26, hi4_26, h⟩ := obn h
  refine w_eqi (Option.some.inj hi4_26) ?_
  refine lv_istore (lv' := [(4, .int i4_26), (0, .ref (base + a0)), (1, .int i1), (2, .int i2), (3, .int i3)]) hx hb dX5_getOff_6 hl (by decide) rfl (fun ls hl => ?_)
  refine lv_iconst (v := 0) hx hb dX5_getOff_8 (by decide) ?_
  refine lv_istore (lv' := [(5, .int 0), (4, .int i4_26), (0, .ref (base + a0)), (1, .int i1), (2, .int i2), (3, .int i3)]) hx hb dX5_getOff_9 hl (by decide) rfl (fun ls hl => ?_)
  refine lv_aload_n hx hb dX5_getOff_11 rfl (lv_at hl 2 rfl) ?_
  obtain ⟨q_27, hq_27, h⟩ := obn h
  refine w_getR (ci := 5) (j := 20) hC hP rfl inlX5 (by decide) (by decide) rfl hq_27 wl_81 dX5_getOff_12 ?_
  refine lv_iload hx hb dX5_getOff_15 (lv_at hl 1 rfl) ?_
  refine lv_aload_n hx hb dX5_getOff_17 rfl (lv_at hl 2 rfl) ?_
  obtain ⟨q_28, hq_28, h⟩ := obn h
  refine w_getR (ci := 5) (j := 23) hC hP rfl inlX5 (by decide) (by decide) rfl hq_28 wl_84 dX5_getOff_18 ?_
  refine lv_iload hx hb dX5_getOff_21 (lv_at hl 1 rfl) ?_
  obtain ⟨v_29, hv_29, h⟩ := obn h
  refine w_iald hC hP hv_29 dX5_getOff_23 ?_
  obtain ⟨s_30, hs_30, h⟩ := obn h
  refine w_iast hC hP hS hs_30 dX5_getOff_24 (fun H locs hP hS => ?_)
  refine lv_iload_n hx hb dX5_getOff_25 rfl (lv_at hl 4 rfl) ?_
  refine lv_istore (lv' := [(6, .int i2), (5, .int 0), (4, .int i4_26), (0, .ref (base + a0)), (1, .int i1), (2, .int i2), (3, .int i3)]) hx hb dX5_getOff_26 hl (by decide) rfl (fun ls hl => ?_)
  exact ih h hP hS (lv_sub hl [3, 4, 5, 6, 2, 1, 0] rfl)
set_option maxRecDepth 100000 in
set_option maxHeartbeats 4000000 in
theorem X5_getOff_all (hC : Cx p m c cX5_getOff 8 s args RX5 base D cI cJ tS) (hr : meth.sig.returnType = (some .int)) (hlocks : meth.locks = false) : ∀ n : Nat, (∀ {a0 : Nat} {i1 : Int32} {i2 : Int32} {i3 : Int32} {i4 : Int32} {i5 : Int32} {i6 : Int32} {σ : Sg} {r : Int32} {τ : Sg} {H : Heap} {locs : List Loc} {ls : Array Slot}, X5_getOff_run n a0 i1 i2 i3 i4 i5 i6 σ = some (r, τ) → Dy base D cI cJ σ H → va_S (fun q => base ≤ q) s.heap H locs → lv_has ls 8 [(0, .ref (base + a0)), (1, .int i1), (2, .int i2), (3, .int i3), (4, .int i4), (5, .int i5), (6, .int i6)] → W p l e (rmD 0 0 0) s m args below meth c H locs 0 0 (MQ below (QwI base D cI cJ r τ) args s 0 0 (fun q => base ≤ q)) (F0 m 28 ls [])) := by
  intro n
  induction n with
  | zero => exact fun h => (by cases h)
  | succ n ih => exact fun h => X5_getOff_k28 hC hr hlocks ih h
set_option maxRecDepth 100000 in
set_option maxHeartbeats 4000000 in
theorem c_X5_getOff {l : Launch} {base : Nat} {D : va_G} {cI cJ : ClassId} {tS : Nat} {n : Nat} {a0 : Nat} {i1 : Int32} {i2 : Int32} {i3 : Int32} {σ : Sg} {r : Int32} {τ : Sg} (h : f_X5_getOff n a0 i1 i2 i3 σ = some (r, τ)) : Met l yX5_getOff (.code yX5_getOff cX5_getOff 8 (some .int) :: wsL_law) (rmD 0 0 0) (Pw base D cI cJ tS σ [.ref (base + a0), .int i1, .int i2, .int i3]) (QwI base D cI cJ r τ) 0 0 (fun q => base ≤ q) := by
  refine Met.ofW (cc := cX5_getOff) (maxL := 8) (ret := (some .int)) (by decide) rfl ?_
  intro p e s m args below meth c s₁ B hml hv
  obtain ⟨rfl, hSt, hP⟩ := hv
  have hC : Cx p m c cX5_getOff 8 s _ RX5 base D cI cJ tS := ⟨⟨B.exec, B.bytes, hml, findClass_of_methodNamed B.named, fun w hw => atoms_spec (ws := Cond.code yX5_getOff cX5_getOff 8 (some .int) :: wsL_law) B.pre w (List.mem_cons_of_mem _ hw)⟩, hSt⟩
  have hl := lv_entry ([.ref (base + a0), .int i1, .int i2, .int i3]) (n := 8) (Nat.le_of_ble_eq_true rfl)
  rw [lg_entry_eq]
  generalize (lg_sl ([.ref (base + a0), .int i1, .int i2, .int i3]) ++ List.replicate (8 - (lg_sl ([.ref (base + a0), .int i1, .int i2, .int i3])).length) Slot.unset).toArray = ls at hl ⊢
  exact X5_getOff_k0 hC B.returns B.notSynchronized (X5_getOff_all hC B.returns B.notSynchronized n) h hP va_S.rf hl
-- ===== X5_getOn
set_option maxRecDepth 100000 in
set_option maxHeartbeats 4000000 in
theorem X5_getOn_k303 (hC : Cx p m c cX5_getOn 10 s args RX5 base D cI cJ tS) (hr : meth.sig.returnType = (some .int)) (hlocks : meth.locks = false) {n : Nat} {i6 : Int32} {σ : Sg} {r : Int32} {τ : Sg} {H : Heap} {locs : List Loc} {ls : Array Slot} (h : X5_getOn_b303 n i6 σ = some (r, τ)) : Dy base D cI cJ σ H → va_S (fun q => base ≤ q) s.heap H locs → lv_has ls 10 [(6, .int i6)] → W p l e (rmD 0 0 0) s m args below meth c H locs 0 0 (MQ below (QwI base D cI cJ r τ) args s 0 0 (fun q => base ≤ q)) (F0 m 303 ls []) := by
  intro hP hS hl
  obtain ⟨hx, hb, hml, hown, hts⟩ := hC.1
  unfold X5_getOn_b303 at h
  refine lv_iload hx hb dX5_getOn_303 (lv_at hl 0 rfl) ?_
  obtain ⟨rfl, rfl⟩ := Prod.mk.inj (Option.some.inj h)
  exact w_iret hC hr hlocks hP hS dX5_getOn_305
set_option maxRecDepth 100000 in
set_option maxHeartbeats 4000000 in
theorem X5_getOn_k291 (hC : Cx p m c cX5_getOn 10 s args RX5 base D cI cJ tS) (hr : meth.sig.returnType = (some .int)) (hlocks : meth.locks = false) {n : Nat} {a0 : Nat} {i6 : Int32} {ta0 : Nat} {ti1 : Int32} {ti2 : Int32} {σ : Sg} {r : Int32} {τ : Sg} {H : Heap} {locs : List Loc} {ls : Array Slot} (h : X5_getOn_b291 n a0 i6 ta0 ti1 ti2 σ = some (r, τ)) : Dy base D cI cJ σ H → va_S (fun q => base ≤ q) s.heap H locs → lv_has ls 10 [(0, .ref (base + a0)), (6, .int i6)] → W p l e (rmD 0 0 0) s m args below meth c H locs 0 0 (MQ below (QwI base D cI cJ r τ) args s 0 0 (fun q => base ≤ q)) (F0 m 291 ls [.int ti2, .int ti1, .ref (base + ta0)]) := by
  intro hP hS hl
  obtain ⟨hx, hb, hml, hown, hts⟩ := hC.1
  unfold X5_getOn_b291 at h
  obtain ⟨s_1, hs_1, h⟩ := obn h
  refine w_iast hC hP hS hs_1 dX5_getOn_291 (fun H locs hP hS => ?_)
  refine lv_aload_n hx hb dX5_getOn_292 rfl (lv_at hl 0 rfl) ?_
  refine lv_dup hx hb dX5_getOn_293 rfl ?_
  obtain ⟨v_2, hv_2, h⟩ := obn h
  refine w_getI (ci := 5) (j := 31) hC hP rfl inlX5 (by decide) (by decide) rfl hv_2 wl_258 dX5_getOn_294 ?_
  refine lv_iload hx hb dX5_getOn_297 (lv_at hl 1 rfl) ?_
  refine lv_iadd hx hb dX5_getOn_299 ?_
  obtain ⟨s_3, hs_3, h⟩ := obn h
  refine w_putI (ci := 5) (j := 31) hC hP hS rfl inlX5 tyX5 tyX5_ok nmX5 (by decide) (by decide) rfl rfl rfl rfl hs_3 wl_258 dX5_getOn_300 (fun H locs hP hS => ?_)
  exact X5_getOn_k303 hC hr hlocks h hP hS (lv_sub hl [1] rfl)
set_option maxRecDepth 100000 in
set_option maxHeartbeats 4000000 in
theorem X5_getOn_k138 (hC : Cx p m c cX5_getOn 10 s args RX5 base D cI cJ tS) (hr : meth.sig.returnType = (some .int)) (hlocks : meth.locks = false) {n : Nat} {a0 : Nat} {i1 : Int32} {i2 : Int32} {i4 : Int32} {i6 : Int32} {ti0 : Int32} {σ : Sg} {r : Int32} {τ : Sg} {H : Heap} {locs : List Loc} {ls : Array Slot} (h : X5_getOn_b138 n a0 i1 i2 i4 i6 ti0 σ = some (r, τ)) : Dy base D cI cJ σ H → va_S (fun q => base ≤ q) s.heap H locs → lv_has ls 10 [(0, .ref (base + a0)), (1, .int i1), (2, .int i2), (4, .int i4), (6, .int i6)] → W p l e (rmD 0 0 0) s m args below meth c H locs 0 0 (MQ below (QwI base D cI cJ r τ) args s 0 0 (fun q => base ≤ q)) (F0 m 138 ls [.int ti0]) := by
  intro hP hS hl
  obtain ⟨hx, hb, hml, hown, hts⟩ := hC.1
  unfold X5_getOn_b138 at h
  refine lv_istore (lv' := [(7, .int ti0), (0, .ref (base + a0)), (1, .int i1), (2, .int i2), (4, .int i4), (6, .int i6)]) hx hb dX5_getOn_138 hl (by decide) rfl (fun ls hl => ?_)
  refine lv_aload_n hx hb dX5_getOn_140 rfl (lv_at hl 1 rfl) ?_
  obtain ⟨q_4, hq_4, h⟩ := obn h
  refine w_getR (ci := 5) (j := 23) hC hP rfl inlX5 (by decide) (by decide) rfl hq_4 wl_84 dX5_getOn_141 ?_
  refine lv_bipush (v := 10) hx hb dX5_getOn_144 (by decide) ?_
  refine lv_iload_n hx hb dX5_getOn_146 rfl (lv_at hl 2 rfl) ?_
  refine lv_imul hx hb dX5_getOn_147 ?_
  refine lv_iload hx hb dX5_getOn_148 (lv_at hl 0 rfl) ?_
  refine lv_iadd hx hb dX5_getOn_150 ?_
  refine lv_dup2_11 hx hb dX5_getOn_151 rfl rfl ?_
  obtain ⟨v_5, hv_5, h⟩ := obn h
  refine w_iald hC hP hv_5 dX5_getOn_152 ?_
  refine lv_iload hx hb dX5_getOn_153 (lv_at hl 5 rfl) ?_
  refine lv_iadd hx hb dX5_getOn_155 ?_
  obtain ⟨s_6, hs_6, h⟩ := obn h
  refine w_iast hC hP hS hs_6 dX5_getOn_156 (fun H locs hP hS => ?_)
  refine lv_aload_n hx hb dX5_getOn_157 rfl (lv_at hl 1 rfl) ?_
  obtain ⟨q_7, hq_7, h⟩ := obn h
  refine w_getR (ci := 5) (j := 24) hC hP rfl inlX5 (by decide) (by decide) rfl hq_7 wl_85 dX5_getOn_158 ?_
  refine lv_bipush (v := 10) hx hb dX5_getOn_161 (by decide) ?_
  refine lv_iload_n hx hb dX5_getOn_163 rfl (lv_at hl 2 rfl) ?_
  refine lv_imul hx hb dX5_getOn_164 ?_
  refine lv_iload hx hb dX5_getOn_165 (lv_at hl 0 rfl) ?_
  refine lv_iadd hx hb dX5_getOn_167 ?_
  refine lv_dup2_11 hx hb dX5_getOn_168 rfl rfl ?_
  obtain ⟨v_8, hv_8, h⟩ := obn h
  refine w_iald hC hP hv_8 dX5_getOn_169 ?_
  refine lv_iload hx hb dX5_getOn_170 (lv_at hl 5 rfl) ?_
  refine lv_aload_n hx hb dX5_getOn_172 rfl (lv_at hl 1 rfl) ?_
  obtain ⟨q_9, hq_9, h⟩ := obn h
  refine w_getR (ci := 5) (j := 17) hC hP rfl inlX5 (by decide) (by decide) rfl hq_9 wl_78 dX5_getOn_173 ?_
  refine lv_iload hx hb dX5_getOn_176 (lv_at hl 4 rfl) ?_
  obtain ⟨v_10, hv_10, h⟩ := obn h
  refine w_iald hC hP hv_10 dX5_getOn_178 ?_
  refine lv_imul hx hb dX5_getOn_179 ?_
  refine lv_iadd hx hb dX5_getOn_180 ?_
  obtain ⟨s_11, hs_11, h⟩ := obn h
  refine w_iast hC hP hS hs_11 dX5_getOn_181 (fun H locs hP hS => ?_)
  refine lv_iload hx hb dX5_getOn_182 (lv_at hl 5 rfl) ?_
  refine lv_aload_n hx hb dX5_getOn_184 rfl (lv_at hl 1 rfl) ?_
  obtain ⟨q_12, hq_12, h⟩ := obn h
  refine w_getR (ci := 5) (j := 17) hC hP rfl inlX5 (by decide) (by decide) rfl hq_12 wl_78 dX5_getOn_185 ?_
  refine lv_iload hx hb dX5_getOn_188 (lv_at hl 4 rfl) ?_
  obtain ⟨v_13, hv_13, h⟩ := obn h
  refine w_iald hC hP hv_13 dX5_getOn_190 ?_
  refine lv_imul hx hb dX5_getOn_191 ?_
  refine lv_aload_n hx hb dX5_getOn_192 rfl (lv_at hl 1 rfl) ?_
  obtain ⟨q_14, hq_14, h⟩ := obn h
  refine w_getR (ci := 5) (j := 1) hC hP rfl inlX5 (by decide) (by decide) rfl hq_14 wl_68 dX5_getOn_193 ?_
  refine lv_iload_n hx hb dX5_getOn_196 rfl (lv_at hl 3 rfl) ?_
  obtain ⟨v_15, hv_15, h⟩ := obn h
  refine w_iald hC hP hv_15 dX5_getOn_197 ?_
  refine lv_iload hx hb dX5_getOn_198 (lv_at hl 5 rfl) ?_
  refine lv_aload_n hx hb dX5_getOn_200 rfl (lv_at hl 1 rfl) ?_
  obtain ⟨v_16, hv_16, h⟩ := obn h
  refine w_getI (ci := 5) (j := 31) hC hP rfl inlX5 (by decide) (by decide) rfl hv_16 wl_258 dX5_getOn_201 ?_
  refine lv_imul hx hb dX5_getOn_204 ?_
  refine lv_iload hx hb dX5_getOn_205 (lv_at hl 5 rfl) ?_
  refine lv_iload hx hb dX5_getOn_207 (lv_at hl 5 rfl) ?_
  refine lv_iconst (v := 1) hx hb dX5_getOn_209 (by decide) ?_
  refine lv_iadd hx hb dX5_getOn_210 ?_
  refine lv_imul hx hb dX5_getOn_211 ?_
  refine lv_iconst (v := 2) hx hb dX5_getOn_212 (by decide) ?_
  obtain ⟨u_17, hu_17, h⟩ := obn h
  refine lv_idiv hx hb dX5_getOn_213 (ifn hu_17).1 ?_
  refine lv_iadd hx hb dX5_getOn_214 ?_
  refine lv_imul hx hb dX5_getOn_215 ?_
  refine lv_isub hx hb dX5_getOn_216 ?_
  obtain ⟨i8_18, hi8_18, h⟩ := obn h
  refine w_eqi (Option.some.inj hi8_18) ?_
  refine lv_istore (lv' := [(8, .int i8_18), (7, .int ti0), (0, .ref (base + a0)), (1, .int i1), (2, .int i2), (4, .int i4), (6, .int i6)]) hx hb dX5_getOn_217 hl (by decide) rfl (fun ls hl => ?_)
  refine lv_aload_n hx hb dX5_getOn_219 rfl (lv_at hl 2 rfl) ?_
  obtain ⟨q_19, hq_19, h⟩ := obn h
  refine w_getR (ci := 5) (j := 25) hC hP rfl inlX5 (by decide) (by decide) rfl hq_19 wl_86 dX5_getOn_220 ?_
  refine lv_iload_n hx hb dX5_getOn_223 rfl (lv_at hl 4 rfl) ?_
  refine lv_dup2_11 hx hb dX5_getOn_224 rfl rfl ?_
  obtain ⟨v_20, hv_20, h⟩ := obn h
  refine w_iald hC hP hv_20 dX5_getOn_225 ?_
  refine lv_iload hx hb dX5_getOn_226 (lv_at hl 6 rfl) ?_
  refine lv_iadd hx hb dX5_getOn_228 ?_
  obtain ⟨s_21, hs_21, h⟩ := obn h
  refine w_iast hC hP hS hs_21 dX5_getOn_229 (fun H locs hP hS => ?_)
  refine lv_aload_n hx hb dX5_getOn_230 rfl (lv_at hl 2 rfl) ?_
  obtain ⟨q_22, hq_22, h⟩ := obn h
  refine w_getR (ci := 5) (j := 26) hC hP rfl inlX5 (by decide) (by decide) rfl hq_22 wl_87 dX5_getOn_231 ?_
  refine lv_iload_n hx hb dX5_getOn_234 rfl (lv_at hl 4 rfl) ?_
  refine lv_dup2_11 hx hb dX5_getOn_235 rfl rfl ?_
  obtain ⟨v_23, hv_23, h⟩ := obn h
  refine w_iald hC hP hv_23 dX5_getOn_236 ?_
  refine lv_iload hx hb dX5_getOn_237 (lv_at hl 0 rfl) ?_
  refine lv_iadd hx hb dX5_getOn_239 ?_
  obtain ⟨s_24, hs_24, h⟩ := obn h
  refine w_iast hC hP hS hs_24 dX5_getOn_240 (fun H locs hP hS => ?_)
  refine lv_aload_n hx hb dX5_getOn_241 rfl (lv_at hl 2 rfl) ?_
  obtain ⟨q_25, hq_25, h⟩ := obn h
  refine w_getR (ci := 5) (j := 17) hC hP rfl inlX5 (by decide) (by decide) rfl hq_25 wl_78 dX5_getOn_242 ?_
  refine lv_iload hx hb dX5_getOn_245 (lv_at hl 5 rfl) ?_
  obtain ⟨v_26, hv_26, h⟩ := obn h
  refine w_iald hC hP hv_26 dX5_getOn_247 ?_
  refine lv_aload_n hx hb dX5_getOn_248 rfl (lv_at hl 2 rfl) ?_
  obtain ⟨q_27, hq_27, h⟩ := obn h
  refine w_getR (ci := 5) (j := 1) hC hP rfl inlX5 (by decide) (by decide) rfl hq_27 wl_68 dX5_getOn_249 ?_
  refine lv_iload_n hx hb dX5_getOn_252 rfl (lv_at hl 4 rfl) ?_
  obtain ⟨v_28, hv_28, h⟩ := obn h
  refine w_iald hC hP hv_28 dX5_getOn_253 ?_
  refine lv_aload_n hx hb dX5_getOn_254 rfl (lv_at hl 2 rfl) ?_
  obtain ⟨v_29, hv_29, h⟩ := obn h
  refine w_getI (ci := 5) (j := 31) hC hP rfl inlX5 (by decide) (by decide) rfl hv_29 wl_258 dX5_getOn_255 ?_
  refine lv_iconst (v := 1) hx hb dX5_getOn_258 (by decide) ?_
  refine lv_iadd hx hb dX5_getOn_259 ?_
  refine lv_imul hx hb dX5_getOn_260 ?_
  refine lv_isub hx hb dX5_getOn_261 ?_
  obtain ⟨i9_30, hi9_30, h⟩ := obn h
  refine w_eqi (Option.some.inj hi9_30) ?_
  refine lv_istore (lv' := [(9, .int i9_30), (8, .int i8_18), (7, .int ti0), (0, .ref (base + a0)), (1, .int i1), (2, .int i2), (4, .int i4), (6, .int i6)]) hx hb dX5_getOn_262 hl (by decide) rfl (fun ls hl => ?_)
  refine lv_aload_n hx hb dX5_getOn_264 rfl (lv_at hl 3 rfl) ?_
  obtain ⟨q_31, hq_31, h⟩ := obn h
  refine w_getR (ci := 5) (j := 27) hC hP rfl inlX5 (by decide) (by decide) rfl hq_31 wl_88 dX5_getOn_265 ?_
  refine lv_iload_n hx hb dX5_getOn_268 rfl (lv_at hl 5 rfl) ?_
  refine lv_iload hx hb dX5_getOn_269 (lv_at hl 0 rfl) ?_
  refine lv_aload_n hx hb dX5_getOn_271 rfl (lv_at hl 3 rfl) ?_
  obtain ⟨q_32, hq_32, h⟩ := obn h
  refine w_getR (ci := 5) (j := 27) hC hP rfl inlX5 (by decide) (by decide) rfl hq_32 wl_88 dX5_getOn_272 ?_
  refine lv_iload_n hx hb dX5_getOn_275 rfl (lv_at hl 5 rfl) ?_
  obtain ⟨v_33, hv_33, h⟩ := obn h
  refine w_iald hC hP hv_33 dX5_getOn_276 ?_
  refine lv_icmp_le (tgt := 285) hx hb dX5_getOn_277 (by decide) (fun c_34 => ?_) (fun c_34 => ?_)
  · rw [if_pos c_34] at h
    refine lv_aload_n hx hb dX5_getOn_285 rfl (lv_at hl 3 rfl) ?_
    obtain ⟨q_35, hq_35, h⟩ := obn h
    refine w_getR (ci := 5) (j := 27) hC hP rfl inlX5 (by decide) (by decide) rfl hq_35 wl_88 dX5_getOn_286 ?_
    refine lv_iload_n hx hb dX5_getOn_289 rfl (lv_at hl 5 rfl) ?_
    obtain ⟨v_36, hv_36, h⟩ := obn h
    refine w_iald hC hP hv_36 dX5_getOn_290 ?_
    exact X5_getOn_k291 hC hr hlocks h hP hS (lv_sub hl [3, 7] rfl)
  · rw [if_neg c_34] at h
    refine lv_iload hx hb dX5_getOn_280 (lv_at hl 0 rfl) ?_
    refine lv_goto (tgt := 291) hx hb dX5_getOn_282 (by decide) ?_
    exact X5_getOn_k291 hC hr hlocks h hP hS (lv_sub hl [3, 7] rfl)
set_option maxRecDepth 100000 in
set_option maxHeartbeats 4000000 in
theorem X5_getOn_k84 (hC : Cx p m c cX5_getOn 10 s args RX5 base D cI cJ tS) (hr : meth.sig.returnType = (some .int)) (hlocks : meth.locks = false) {n : Nat} {a0 : Nat} {i1 : Int32} {i2 : Int32} {i4 : Int32} {i5 : Int32} {ti0 : Int32} {σ : Sg} {r : Int32} {τ : Sg} {H : Heap} {locs : List Loc} {ls : Array Slot} (h : X5_getOn_b84 n a0 i1 i2 i4 i5 ti0 σ = some (r, τ)) : Dy base D cI cJ σ H → va_S (fun q => base ≤ q) s.heap H locs → lv_has ls 10 [(0, .ref (base + a0)), (1, .int i1), (2, .int i2), (4, .int i4), (5, .int i5)] → W p l e (rmD 0 0 0) s m args below meth c H locs 0 0 (MQ below (QwI base D cI cJ r τ) args s 0 0 (fun q => base ≤ q)) (F0 m 84 ls [.int ti0]) := by
  intro hP hS hl
  obtain ⟨hx, hb, hml, hown, hts⟩ := hC.1
  unfold X5_getOn_b84 at h
  refine lv_istore (lv' := [(6, .int ti0), (0, .ref (base + a0)), (1, .int i1), (2, .int i2), (4, .int i4), (5, .int i5)]) hx hb dX5_getOn_84 hl (by decide) rfl (fun ls hl => ?_)
  refine lv_aload_n hx hb dX5_getOn_86 rfl (lv_at hl 1 rfl) ?_
  obtain ⟨q_37, hq_37, h⟩ := obn h
  refine w_getR (ci := 5) (j := 22) hC hP rfl inlX5 (by decide) (by decide) rfl hq_37 wl_83 dX5_getOn_87 ?_
  refine lv_iload hx hb dX5_getOn_90 (lv_at hl 4 rfl) ?_
  refine lv_iload hx hb dX5_getOn_92 (lv_at hl 5 rfl) ?_
  refine lv_iload hx hb dX5_getOn_94 (lv_at hl 0 rfl) ?_
  refine lv_isub hx hb dX5_getOn_96 ?_
  obtain ⟨s_38, hs_38, h⟩ := obn h
  refine w_iast hC hP hS hs_38 dX5_getOn_97 (fun H locs hP hS => ?_)
  refine lv_aload_n hx hb dX5_getOn_98 rfl (lv_at hl 1 rfl) ?_
  obtain ⟨q_39, hq_39, h⟩ := obn h
  refine w_getR (ci := 5) (j := 19) hC hP rfl inlX5 (by decide) (by decide) rfl hq_39 wl_80 dX5_getOn_99 ?_
  refine lv_iload hx hb dX5_getOn_102 (lv_at hl 4 rfl) ?_
  refine lv_iload hx hb dX5_getOn_104 (lv_at hl 0 rfl) ?_
  obtain ⟨s_40, hs_40, h⟩ := obn h
  refine w_iast hC hP hS hs_40 dX5_getOn_106 (fun H locs hP hS => ?_)
  refine lv_iload hx hb dX5_getOn_107 (lv_at hl 0 rfl) ?_
  refine lv_if_le (tgt := 303) hx hb dX5_getOn_109 (by decide) (fun c_41 => ?_) (fun c_41 => ?_)
  · rw [if_pos c_41] at h
    exact X5_getOn_k303 hC hr hlocks h hP hS (lv_sub hl [0] rfl)
  · rw [if_neg c_41] at h
    refine lv_iload_n hx hb dX5_getOn_112 rfl (lv_at hl 3 rfl) ?_
    refine lv_aload_n hx hb dX5_getOn_113 rfl (lv_at hl 1 rfl) ?_
    obtain ⟨q_42, hq_42, h⟩ := obn h
    refine w_getR (ci := 5) (j := 2) hC hP rfl inlX5 (by decide) (by decide) rfl hq_42 wl_66 dX5_getOn_114 ?_
    refine lv_iload_n hx hb dX5_getOn_117 rfl (lv_at hl 3 rfl) ?_
    obtain ⟨v_43, hv_43, h⟩ := obn h
    refine w_iald hC hP hv_43 dX5_getOn_118 ?_
    refine lv_iadd hx hb dX5_getOn_119 ?_
    refine lv_bipush (v := 9) hx hb dX5_getOn_120 (by decide) ?_
    refine lv_icmp_le (tgt := 130) hx hb dX5_getOn_122 (by decide) (fun c_44 => ?_) (fun c_44 => ?_)
    · rw [if_pos c_44] at h
      refine lv_iload_n hx hb dX5_getOn_130 rfl (lv_at hl 3 rfl) ?_
      refine lv_aload_n hx hb dX5_getOn_131 rfl (lv_at hl 1 rfl) ?_
      obtain ⟨q_45, hq_45, h⟩ := obn h
      refine w_getR (ci := 5) (j := 2) hC hP rfl inlX5 (by decide) (by decide) rfl hq_45 wl_66 dX5_getOn_132 ?_
      refine lv_iload_n hx hb dX5_getOn_135 rfl (lv_at hl 3 rfl) ?_
      obtain ⟨v_46, hv_46, h⟩ := obn h
      refine w_iald hC hP hv_46 dX5_getOn_136 ?_
      refine lv_iadd hx hb dX5_getOn_137 ?_
      exact X5_getOn_k138 hC hr hlocks h hP hS (lv_sub hl [1, 2, 3, 4, 0] rfl)
    · rw [if_neg c_44] at h
      refine lv_bipush (v := 9) hx hb dX5_getOn_125 (by decide) ?_
      refine lv_goto (tgt := 138) hx hb dX5_getOn_127 (by decide) ?_
      exact X5_getOn_k138 hC hr hlocks h hP hS (lv_sub hl [1, 2, 3, 4, 0] rfl)
set_option maxRecDepth 100000 in
set_option maxHeartbeats 4000000 in
theorem X5_getOn_k78 (hC : Cx p m c cX5_getOn 10 s args RX5 base D cI cJ tS) (hr : meth.sig.returnType = (some .int)) (hlocks : meth.locks = false) {n : Nat} {a0 : Nat} {i1 : Int32} {i2 : Int32} {i4 : Int32} {i5 : Int32} {σ : Sg} {r : Int32} {τ : Sg} {H : Heap} {locs : List Loc} {ls : Array Slot} (h : X5_getOn_b78 n a0 i1 i2 i4 i5 σ = some (r, τ)) : Dy base D cI cJ σ H → va_S (fun q => base ≤ q) s.heap H locs → lv_has ls 10 [(0, .ref (base + a0)), (1, .int i1), (2, .int i2), (4, .int i4), (5, .int i5)] → W p l e (rmD 0 0 0) s m args below meth c H locs 0 0 (MQ below (QwI base D cI cJ r τ) args s 0 0 (fun q => base ≤ q)) (F0 m 78 ls []) := by
  intro hP hS hl
  obtain ⟨hx, hb, hml, hown, hts⟩ := hC.1
  unfold X5_getOn_b78 at h
  refine lv_iconst (v := 0) hx hb dX5_getOn_78 (by decide) ?_
  refine lv_goto (tgt := 84) hx hb dX5_getOn_79 (by decide) ?_
  exact X5_getOn_k84 hC hr hlocks h hP hS (lv_sub hl [0, 1, 2, 3, 4] rfl)
set_option maxRecDepth 100000 in
set_option maxHeartbeats 4000000 in
theorem X5_getOn_k60 (hC : Cx p m c cX5_getOn 10 s args RX5 base D cI cJ tS) (hr : meth.sig.returnType = (some .int)) (hlocks : meth.locks = false) {n : Nat} {a0 : Nat} {i1 : Int32} {i2 : Int32} {i4 : Int32} {i5 : Int32} {ti0 : Int32} {σ : Sg} {r : Int32} {τ : Sg} {H : Heap} {locs : List Loc} {ls : Array Slot} (h : X5_getOn_b60 n a0 i1 i2 i4 i5 ti0 σ = some (r, τ)) : Dy base D cI cJ σ H → va_S (fun q => base ≤ q) s.heap H locs → lv_has ls 10 [(0, .ref (base + a0)), (1, .int i1), (2, .int i2), (4, .int i4), (5, .int i5)] → W p l e (rmD 0 0 0) s m args below meth c H locs 0 0 (MQ below (QwI base D cI cJ r τ) args s 0 0 (fun q => base ≤ q)) (F0 m 60 ls [.int ti0]) := by
  intro hP hS hl
  obtain ⟨hx, hb, hml, hown, hts⟩ := hC.1
  unfold X5_getOn_b60 at h
  refine lv_istore (lv' := [(6, .int ti0), (0, .ref (base + a0)), (1, .int i1), (2, .int i2), (4, .int i4), (5, .int i5)]) hx hb dX5_getOn_60 hl (by decide) rfl (fun ls hl => ?_)
  refine lv_aload_n hx hb dX5_getOn_62 rfl (lv_at hl 1 rfl) ?_
  obtain ⟨q_47, hq_47, h⟩ := obn h
  refine w_getR (ci := 5) (j := 6) hC hP rfl inlX5 (by decide) (by decide) rfl hq_47 wl_71 dX5_getOn_63 ?_
  refine lv_iload_n hx hb dX5_getOn_66 rfl (lv_at hl 2 rfl) ?_
  obtain ⟨v_48, hv_48, h⟩ := obn h
  refine w_iald hC hP hv_48 dX5_getOn_67 ?_
  refine lv_iload_n hx hb dX5_getOn_68 rfl (lv_at hl 3 rfl) ?_
  refine lv_icmp_eq (tgt := 78) hx hb dX5_getOn_69 (by decide) (fun c_49 => ?_) (fun c_49 => ?_)
  · rw [if_pos c_49] at h
    exact X5_getOn_k78 hC hr hlocks h hP hS (lv_sub hl [1, 2, 3, 4, 5] rfl)
  · rw [if_neg c_49] at h
    refine lv_iload_n hx hb dX5_getOn_72 rfl (lv_at hl 3 rfl) ?_
    refine lv_bipush (v := 9) hx hb dX5_getOn_73 (by decide) ?_
    refine lv_icmp_ne (tgt := 82) hx hb dX5_getOn_75 (by decide) (fun c_50 => ?_) (fun c_50 => ?_)
    · rw [if_neg c_50] at h
      refine lv_iload hx hb dX5_getOn_82 (lv_at hl 0 rfl) ?_
      exact X5_getOn_k84 hC hr hlocks h hP hS (lv_sub hl [1, 2, 3, 4, 5] rfl)
    · rw [if_pos c_50] at h
      exact X5_getOn_k78 hC hr hlocks h hP hS (lv_sub hl [1, 2, 3, 4, 5] rfl)
set_option maxRecDepth 100000 in
set_option maxHeartbeats 4000000 in
theorem X5_getOn_k46 (hC : Cx p m c cX5_getOn 10 s args RX5 base D cI cJ tS) (hr : meth.sig.returnType = (some .int)) (hlocks : meth.locks = false) {n : Nat} {a0 : Nat} {i1 : Int32} {i2 : Int32} {i3 : Int32} {i4 : Int32} {ti0 : Int32} {σ : Sg} {r : Int32} {τ : Sg} {H : Heap} {locs : List Loc} {ls : Array Slot} (h : X5_getOn_b46 n a0 i1 i2 i3 i4 ti0 σ = some (r, τ)) : Dy base D cI cJ σ H → va_S (fun q => base ≤ q) s.heap H locs → lv_has ls 10 [(0, .ref (base + a0)), (1, .int i1), (2, .int i2), (3, .int i3), (4, .int i4)] → W p l e (rmD 0 0 0) s m args below meth c H locs 0 0 (MQ below (QwI base D cI cJ r τ) args s 0 0 (fun q => base ≤ q)) (F0 m 46 ls [.int ti0]) := by
  intro hP hS hl
  obtain ⟨hx, hb, hml, hown, hts⟩ := hC.1
  unfold X5_getOn_b46 at h
  refine lv_istore (lv' := [(5, .int ti0), (0, .ref (base + a0)), (1, .int i1), (2, .int i2), (3, .int i3), (4, .int i4)]) hx hb dX5_getOn_46 hl (by decide) rfl (fun ls hl => ?_)
  refine lv_iload hx hb dX5_getOn_48 (lv_at hl 0 rfl) ?_
  refine lv_iload_n hx hb dX5_getOn_50 rfl (lv_at hl 4 rfl) ?_
  refine lv_icmp_ge (tgt := 59) hx hb dX5_getOn_51 (by decide) (fun c_51 => ?_) (fun c_51 => ?_)
  · rw [if_pos c_51] at h
    refine lv_iload_n hx hb dX5_getOn_59 rfl (lv_at hl 4 rfl) ?_
    exact X5_getOn_k60 hC hr hlocks h hP hS (lv_sub hl [1, 2, 3, 5, 0] rfl)
  · rw [if_neg c_51] at h
    refine lv_iload hx hb dX5_getOn_54 (lv_at hl 0 rfl) ?_
    refine lv_goto (tgt := 60) hx hb dX5_getOn_56 (by decide) ?_
    exact X5_getOn_k60 hC hr hlocks h hP hS (lv_sub hl [1, 2, 3, 5, 0] rfl)
set_option maxRecDepth 100000 in
set_option maxHeartbeats 4000000 in
theorem X5_getOn_k23 (hC : Cx p m c cX5_getOn 10 s args RX5 base D cI cJ tS) (hr : meth.sig.returnType = (some .int)) (hlocks : meth.locks = false) {n : Nat} {a0 : Nat} {i1 : Int32} {i2 : Int32} {i3 : Int32} {i4 : Int32} {σ : Sg} {r : Int32} {τ : Sg} {H : Heap} {locs : List Loc} {ls : Array Slot} (h : X5_getOn_b23 n a0 i1 i2 i3 i4 σ = some (r, τ)) : Dy base D cI cJ σ H → va_S (fun q => base ≤ q) s.heap H locs → lv_has ls 10 [(0, .ref (base + a0)), (1, .int i1), (2, .int i2), (3, .int i3), (4, .int i4)] → W p l e (rmD 0 0 0) s m args below meth c H locs 0 0 (MQ below (QwI base D cI cJ r τ) args s 0 0 (fun q => base ≤ q)) (F0 m 23 ls []) := by
  intro hP hS hl
  obtain ⟨hx, hb, hml, hown, hts⟩ := hC.1
  unfold X5_getOn_b23 at h
  refine lv_iconst (v := 0) hx hb dX5_getOn_23 (by decide) ?_
  refine lv_goto (tgt := 46) hx hb dX5_getOn_24 (by decide) ?_
  exact X5_getOn_k46 hC hr hlocks h hP hS (lv_sub hl [0, 1, 2, 3, 4] rfl)
set_option maxRecDepth 100000 in
set_option maxHeartbeats 4000000 in
theorem X5_getOn_k0 (hC : Cx p m c cX5_getOn 10 s args RX5 base D cI cJ tS) (hr : meth.sig.returnType = (some .int)) (hlocks : meth.locks = false) {n : Nat} {a0 : Nat} {i1 : Int32} {i2 : Int32} {i3 : Int32} {σ : Sg} {r : Int32} {τ : Sg} {H : Heap} {locs : List Loc} {ls : Array Slot} (h : f_X5_getOn n a0 i1 i2 i3 σ = some (r, τ)) : Dy base D cI cJ σ H → va_S (fun q => base ≤ q) s.heap H locs → lv_has ls 10 [(0, .ref (base + a0)), (1, .int i1), (2, .int i2), (3, .int i3)] → W p l e (rmD 0 0 0) s m args below meth c H locs 0 0 (MQ below (QwI base D cI cJ r τ) args s 0 0 (fun q => base ≤ q)) (F0 m 0 ls []) := by
  intro hP hS hl
  obtain ⟨hx, hb, hml, hown, hts⟩ := hC.1
  unfold f_X5_getOn at h
  refine lv_bipush (v := 10) hx hb dX5_getOn_0 (by decide) ?_
  refine lv_iload_n hx hb dX5_getOn_2 rfl (lv_at hl 1 rfl) ?_
  refine lv_imul hx hb dX5_getOn_3 ?_
  refine lv_iload_n hx hb dX5_getOn_4 rfl (lv_at hl 2 rfl) ?_
  refine lv_iadd hx hb dX5_getOn_5 ?_
  obtain ⟨i4_52, hi4_52, h⟩ := obn h
  refine w_eqi (Option.some.inj hi4_52) ?_
  refine lv_istore (lv' := [(4, .int i4_52), (0, .ref (base + a0)), (1, .int i1), (2, .int i2), (3, .int i3)]) hx hb dX5_getOn_6 hl (by decide) rfl (fun ls hl => ?_)
  refine lv_iload_n hx hb dX5_getOn_8 rfl (lv_at hl 3 rfl) ?_
  refine lv_bipush (v := 9) hx hb dX5_getOn_9 (by decide) ?_
  refine lv_icmp_eq (tgt := 23) hx hb dX5_getOn_11 (by decide) (fun c_53 => ?_) (fun c_53 => ?_)
  · rw [if_pos c_53] at h
    exact X5_getOn_k23 hC hr hlocks h hP hS (lv_sub hl [1, 2, 3, 4, 0] rfl)
  · rw [if_neg c_53] at h
    refine lv_aload_n hx hb dX5_getOn_14 rfl (lv_at hl 1 rfl) ?_
    obtain ⟨q_54, hq_54, h⟩ := obn h
    refine w_getR (ci := 5) (j := 1) hC hP rfl inlX5 (by decide) (by decide) rfl hq_54 wl_68 dX5_getOn_15 ?_
    refine lv_iload_n hx hb dX5_getOn_18 rfl (lv_at hl 3 rfl) ?_
    obtain ⟨v_55, hv_55, h⟩ := obn h
    refine w_iald hC hP hv_55 dX5_getOn_19 ?_
    refine lv_if_ne (tgt := 27) hx hb dX5_getOn_20 (by decide) (fun c_56 => ?_) (fun c_56 => ?_)
    · rw [if_neg c_56] at h
      refine lv_aload_n hx hb dX5_getOn_27 rfl (lv_at hl 1 rfl) ?_
      obtain ⟨q_57, hq_57, h⟩ := obn h
      refine w_getR (ci := 5) (j := 17) hC hP rfl inlX5 (by decide) (by decide) rfl hq_57 wl_78 dX5_getOn_28 ?_
      refine lv_iload hx hb dX5_getOn_31 (lv_at hl 0 rfl) ?_
      obtain ⟨v_58, hv_58, h⟩ := obn h
      refine w_iald hC hP hv_58 dX5_getOn_33 ?_
      refine lv_aload_n hx hb dX5_getOn_34 rfl (lv_at hl 1 rfl) ?_
      obtain ⟨q_59, hq_59, h⟩ := obn h
      refine w_getR (ci := 5) (j := 1) hC hP rfl inlX5 (by decide) (by decide) rfl hq_59 wl_68 dX5_getOn_35 ?_
      refine lv_iload_n hx hb dX5_getOn_38 rfl (lv_at hl 3 rfl) ?_
      obtain ⟨v_60, hv_60, h⟩ := obn h
      refine w_iald hC hP hv_60 dX5_getOn_39 ?_
      obtain ⟨u_61, hu_61, h⟩ := obn h
      refine lv_idiv hx hb dX5_getOn_40 (ifn hu_61).1 ?_
      refine lv_aload_n hx hb dX5_getOn_41 rfl (lv_at hl 1 rfl) ?_
      obtain ⟨v_62, hv_62, h⟩ := obn h
      refine w_getI (ci := 5) (j := 31) hC hP rfl inlX5 (by decide) (by decide) rfl hv_62 wl_258 dX5_getOn_42 ?_
      refine lv_isub hx hb dX5_getOn_45 ?_
      exact X5_getOn_k46 hC hr hlocks h hP hS (lv_sub hl [1, 2, 3, 4, 0] rfl)
    · rw [if_pos c_56] at h
      exact X5_getOn_k23 hC hr hlocks h hP hS (lv_sub hl [1, 2, 3, 4, 0] rfl)
set_option maxRecDepth 100000 in
set_option maxHeartbeats 4000000 in
theorem c_X5_getOn {l : Launch} {base : Nat} {D : va_G} {cI cJ : ClassId} {tS : Nat} {n : Nat} {a0 : Nat} {i1 : Int32} {i2 : Int32} {i3 : Int32} {σ : Sg} {r : Int32} {τ : Sg} (h : f_X5_getOn n a0 i1 i2 i3 σ = some (r, τ)) : Met l yX5_getOn (.code yX5_getOn cX5_getOn 10 (some .int) :: wsL_law) (rmD 0 0 0) (Pw base D cI cJ tS σ [.ref (base + a0), .int i1, .int i2, .int i3]) (QwI base D cI cJ r τ) 0 0 (fun q => base ≤ q) := by
  refine Met.ofW (cc := cX5_getOn) (maxL := 10) (ret := (some .int)) (by decide) rfl ?_
  intro p e s m args below meth c s₁ B hml hv
  obtain ⟨rfl, hSt, hP⟩ := hv
  have hC : Cx p m c cX5_getOn 10 s _ RX5 base D cI cJ tS := ⟨⟨B.exec, B.bytes, hml, findClass_of_methodNamed B.named, fun w hw => atoms_spec (ws := Cond.code yX5_getOn cX5_getOn 10 (some .int) :: wsL_law) B.pre w (List.mem_cons_of_mem _ hw)⟩, hSt⟩
  have hl := lv_entry ([.ref (base + a0), .int i1, .int i2, .int i3]) (n := 10) (Nat.le_of_ble_eq_true rfl)
  rw [lg_entry_eq]
  generalize (lg_sl ([.ref (base + a0), .int i1, .int i2, .int i3]) ++ List.replicate (10 - (lg_sl ([.ref (base + a0), .int i1, .int i2, .int i3])).length) Slot.unset).toArray = ls at hl ⊢
  exact X5_getOn_k0 hC B.returns B.notSynchronized h hP va_S.rf hl
end
