section
variable {p : Program} {l : Launch} {e : Env} {s : State} {m : MethodId} {args : Array Value} {below : List Frame} {meth : Method} {c : Code} {base : Nat} {D : va_G} {cI cJ : ClassId} {tS : Nat}
-- ===== X0_stopsLeft
set_option maxRecDepth 100000 in
set_option maxHeartbeats 4000000 in
theorem X0_stopsLeft_k30 (hC : Cx p m c cX0_stopsLeft 5 s args RX0 base D cI cJ tS) (hr : meth.sig.returnType = (some .int)) (hlocks : meth.locks = false) {n : Nat} (ih : (∀ {a0 : Nat} {i1 : Int32} {i2 : Int32} {i3 : Int32} {i4 : Int32} {σ : Sg} {r : Int32} {τ : Sg} {H : Heap} {locs : List Loc} {ls : Array Slot}, X0_stopsLeft_run n a0 i1 i2 i3 i4 σ = some (r, τ) → Dy base D cI cJ σ H → va_S (fun q => base ≤ q) s.heap H locs → lv_has ls 5 [(0, .ref (base + a0)), (1, .int i1), (2, .int i2), (3, .int i3), (4, .int i4)] → W p l e (rmD 1 0 0) s m args below meth c H locs 0 0 (MQ below (QwI base D cI cJ r τ) args s 0 0 (fun q => base ≤ q)) (F0 m 3 ls []))) {i4 : Int32} {σ : Sg} {r : Int32} {τ : Sg} {H : Heap} {locs : List Loc} {ls : Array Slot} (h : X0_stopsLeft_b30 n (X0_stopsLeft_run n) i4 σ = some (r, τ)) : Dy base D cI cJ σ H → va_S (fun q => base ≤ q) s.heap H locs → lv_has ls 5 [(4, .int i4)] → W p l e (rmD 1 0 0) s m args below meth c H locs 0 0 (MQ below (QwI base D cI cJ r τ) args s 0 0 (fun q => base ≤ q)) (F0 m 30 ls []) := by
  intro hP hS hl
  obtain ⟨hx, hb, hml, hown, hts⟩ := hC.1
  unfold X0_stopsLeft_b30 at h
  refine lv_iload hx hb dX0_stopsLeft_30 (lv_at hl 0 rfl) ?_
  obtain ⟨rfl, rfl⟩ := Prod.mk.inj (Option.some.inj h)
  exact w_iret hC hr hlocks hP hS dX0_stopsLeft_32
set_option maxRecDepth 100000 in
set_option maxHeartbeats 4000000 in
theorem X0_stopsLeft_k3 (hC : Cx p m c cX0_stopsLeft 5 s args RX0 base D cI cJ tS) (hr : meth.sig.returnType = (some .int)) (hlocks : meth.locks = false) {n : Nat} (ih : (∀ {a0 : Nat} {i1 : Int32} {i2 : Int32} {i3 : Int32} {i4 : Int32} {σ : Sg} {r : Int32} {τ : Sg} {H : Heap} {locs : List Loc} {ls : Array Slot}, X0_stopsLeft_run n a0 i1 i2 i3 i4 σ = some (r, τ) → Dy base D cI cJ σ H → va_S (fun q => base ≤ q) s.heap H locs → lv_has ls 5 [(0, .ref (base + a0)), (1, .int i1), (2, .int i2), (3, .int i3), (4, .int i4)] → W p l e (rmD 1 0 0) s m args below meth c H locs 0 0 (MQ below (QwI base D cI cJ r τ) args s 0 0 (fun q => base ≤ q)) (F0 m 3 ls []))) {a0 : Nat} {i1 : Int32} {i2 : Int32} {i3 : Int32} {i4 : Int32} {σ : Sg} {r : Int32} {τ : Sg} {H : Heap} {locs : List Loc} {ls : Array Slot} (h : X0_stopsLeft_b3 n (X0_stopsLeft_run n) a0 i1 i2 i3 i4 σ = some (r, τ)) : Dy base D cI cJ σ H → va_S (fun q => base ≤ q) s.heap H locs → lv_has ls 5 [(0, .ref (base + a0)), (1, .int i1), (2, .int i2), (3, .int i3), (4, .int i4)] → W p l e (rmD 1 0 0) s m args below meth c H locs 0 0 (MQ below (QwI base D cI cJ r τ) args s 0 0 (fun q => base ≤ q)) (F0 m 3 ls []) := by
  intro hP hS hl
  obtain ⟨hx, hb, hml, hown, hts⟩ := hC.1
  unfold X0_stopsLeft_b3 at h
  refine lv_iload hx hb dX0_stopsLeft_3 (lv_at hl 4 rfl) ?_
  refine lv_iload_n hx hb dX0_stopsLeft_5 rfl (lv_at hl 2 rfl) ?_
  refine lv_icmp_ge (tgt := 30) hx hb dX0_stopsLeft_6 (by decide) (fun c_1 => ?_) (fun c_1 => ?_)
  · rw [if_pos c_1] at h
    exact X0_stopsLeft_k30 hC hr hlocks ih h hP hS (lv_sub hl [4] rfl)
  · rw [if_neg c_1] at h
    refine lv_aload_n hx hb dX0_stopsLeft_9 rfl (lv_at hl 0 rfl) ?_
    obtain ⟨q_2, hq_2, h⟩ := obn h
    refine w_getR (ci := 0) (j := 1) hC hP rfl inlX0 (by decide) (by decide) rfl hq_2 wl_22 dX0_stopsLeft_10 ?_
    refine lv_iload_n hx hb dX0_stopsLeft_13 rfl (lv_at hl 1 rfl) ?_
    refine lv_iload hx hb dX0_stopsLeft_14 (lv_at hl 4 rfl) ?_
    obtain ⟨w_3, hw_3, h⟩ := obn h
    refine k_I (r_statN (As := [.int i1, .int i4]) (rest := [.ref (base + q_2)]) hC hP hS (c_X4_cell (l := l) (base := base) (D := D) (cI := cI) (cJ := cJ) (tS := tS) hw_3) hC.2.2.1.2.2.2 wl_150 wl_98 wl_149 rfl rfl hd_X4_cell ⟨Nat.le_of_ble_eq_true rfl, Nat.le_of_ble_eq_true rfl⟩ rfl hl.1 rfl (Nat.le_of_ble_eq_true rfl) dX0_stopsLeft_16 ⟨Nat.le_of_ble_eq_true rfl, Nat.le_of_ble_eq_true rfl⟩) hS (fun H locs hP hS => ?_)
    obtain ⟨v_4, hv_4, h⟩ := obn h
    refine w_iald hC hP hv_4 dX0_stopsLeft_19 ?_
    refine lv_iload_n hx hb dX0_stopsLeft_20 rfl (lv_at hl 3 rfl) ?_
    refine lv_icmp_gt (tgt := 30) hx hb dX0_stopsLeft_21 (by decide) (fun c_5 => ?_) (fun c_5 => ?_)
    · rw [if_pos c_5] at h
      exact X0_stopsLeft_k30 hC hr hlocks ih h hP hS (lv_sub hl [4] rfl)
    · rw [if_neg c_5] at h
      obtain ⟨i4_6, hi4_6, h⟩ := obn h
      refine lv_iinc (v := i4_6) (lv' := [(4, .int i4_6), (0, .ref (base + a0)), (1, .int i1), (2, .int i2), (3, .int i3)]) hx hb dX0_stopsLeft_24 hl (k := 4) rfl (Option.some.inj hi4_6) (by decide) rfl (fun ls hl => ?_)
      refine lv_goto (tgt := 3) hx hb dX0_stopsLeft_27 (by decide) ?_
      exact ih h hP hS (lv_sub hl [1, 2, 3, 4, 0] rfl)
set_option maxRecDepth 100000 in
set_option maxHeartbeats 4000000 in
theorem X0_stopsLeft_k0 (hC : Cx p m c cX0_stopsLeft 5 s args RX0 base D cI cJ tS) (hr : meth.sig.returnType = (some .int)) (hlocks : meth.locks = false) {n : Nat} (ih : (∀ {a0 : Nat} {i1 : Int32} {i2 : Int32} {i3 : Int32} {i4 : Int32} {σ : Sg} {r : Int32} {τ : Sg} {H : Heap} {locs : List Loc} {ls : Array Slot}, X0_stopsLeft_run n a0 i1 i2 i3 i4 σ = some (r, τ) → Dy base D cI cJ σ H → va_S (fun q => base ≤ q) s.heap H locs → lv_has ls 5 [(0, .ref (base + a0)), (1, .int i1), (2, .int i2), (3, .int i3), (4, .int i4)] → W p l e (rmD 1 0 0) s m args below meth c H locs 0 0 (MQ below (QwI base D cI cJ r τ) args s 0 0 (fun q => base ≤ q)) (F0 m 3 ls []))) {a0 : Nat} {i1 : Int32} {i2 : Int32} {i3 : Int32} {σ : Sg} {r : Int32} {τ : Sg} {H : Heap} {locs : List Loc} {ls : Array Slot} (h : X0_stopsLeft_b0 n (X0_stopsLeft_run n) a0 i1 i2 i3 σ = some (r, τ)) : Dy base D cI cJ σ H → va_S (fun q => base ≤ q) s.heap H locs → lv_has ls 5 [(0, .ref (base + a0)), (1, .int i1), (2, .int i2), (3, .int i3)] → W p l e (rmD 1 0 0) s m args below meth c H locs 0 0 (MQ below (QwI base D cI cJ r τ) args s 0 0 (fun q => base ≤ q)) (F0 m 0 ls []) := by
  intro hP hS hl
  obtain ⟨hx, hb, hml, hown, hts⟩ := hC.1
  unfold X0_stopsLeft_b0 at h
  refine lv_iconst (v := 0) hx hb dX0_stopsLeft_0 (by decide) ?_
  refine lv_istore (lv' := [(4, .int 0), (0, .ref (base + a0)), (1, .int i1), (2, .int i2), (3, .int i3)]) hx hb dX0_stopsLeft_1 hl (by decide) rfl (fun ls hl => ?_)
  exact ih h hP hS (lv_sub hl [1, 2, 3, 4, 0] rfl)
set_option maxRecDepth 100000 in
set_option maxHeartbeats 4000000 in
theorem X0_stopsLeft_all (hC : Cx p m c cX0_stopsLeft 5 s args RX0 base D cI cJ tS) (hr : meth.sig.returnType = (some .int)) (hlocks : meth.locks = false) : ∀ n : Nat, (∀ {a0 : Nat} {i1 : Int32} {i2 : Int32} {i3 : Int32} {i4 : Int32} {σ : Sg} {r : Int32} {τ : Sg} {H : Heap} {locs : List Loc} {ls : Array Slot}, X0_stopsLeft_run n a0 i1 i2 i3 i4 σ = some (r, τ) → Dy base D cI cJ σ H → va_S (fun q => base ≤ q) s.heap H locs → lv_has ls 5 [(0, .ref (base + a0)), (1, .int i1), (2, .int i2), (3, .int i3), (4, .int i4)] → W p l e (rmD 1 0 0) s m args below meth c H locs 0 0 (MQ below (QwI base D cI cJ r τ) args s 0 0 (fun q => base ≤ q)) (F0 m 3 ls [])) := by
  intro n
  induction n with
  | zero => exact fun h => (by cases h)
  | succ n ih => exact fun h => X0_stopsLeft_k3 hC hr hlocks ih h
set_option maxRecDepth 100000 in
set_option maxHeartbeats 4000000 in
theorem c_X0_stopsLeft {l : Launch} {base : Nat} {D : va_G} {cI cJ : ClassId} {tS : Nat} {n : Nat} {a0 : Nat} {i1 : Int32} {i2 : Int32} {i3 : Int32} {σ : Sg} {r : Int32} {τ : Sg} (h : f_X0_stopsLeft n a0 i1 i2 i3 σ = some (r, τ)) : Met l yX0_stopsLeft (.code yX0_stopsLeft cX0_stopsLeft 5 (some .int) :: wsL_law) (rmD 1 0 0) (Pw base D cI cJ tS σ [.ref (base + a0), .int i1, .int i2, .int i3]) (QwI base D cI cJ r τ) 0 0 (fun q => base ≤ q) := by
  refine Met.ofW (cc := cX0_stopsLeft) (maxL := 5) (ret := (some .int)) (by decide) rfl ?_
  intro p e s m args below meth c s₁ B hml hv
  obtain ⟨rfl, hSt, hP⟩ := hv
  have hC : Cx p m c cX0_stopsLeft 5 s _ RX0 base D cI cJ tS := ⟨⟨B.exec, B.bytes, hml, findClass_of_methodNamed B.named, fun w hw => atoms_spec (ws := Cond.code yX0_stopsLeft cX0_stopsLeft 5 (some .int) :: wsL_law) B.pre w (List.mem_cons_of_mem _ hw)⟩, hSt⟩
  have hl := lv_entry ([.ref (base + a0), .int i1, .int i2, .int i3]) (n := 5) (Nat.le_of_ble_eq_true rfl)
  rw [lg_entry_eq]
  generalize (lg_sl ([.ref (base + a0), .int i1, .int i2, .int i3]) ++ List.replicate (5 - (lg_sl ([.ref (base + a0), .int i1, .int i2, .int i3])).length) Slot.unset).toArray = ls at hl ⊢
  exact X0_stopsLeft_k0 hC B.returns B.notSynchronized (X0_stopsLeft_all hC B.returns B.notSynchronized n) h hP va_S.rf hl
-- ===== X0_nearestBus
set_option maxRecDepth 100000 in
set_option maxHeartbeats 4000000 in
theorem X0_nearestBus_k69 (hC : Cx p m c cX0_nearestBus 8 s args RX0 base D cI cJ tS) (hr : meth.sig.returnType = (some .int)) (hlocks : meth.locks = false) {n : Nat} (ih : (∀ {a0 : Nat} {a1 : Nat} {i2 : Int32} {i3 : Int32} {i4 : Int32} {i5 : Int32} {i6 : Int32} {σ : Sg} {r : Int32} {τ : Sg} {H : Heap} {locs : List Loc} {ls : Array Slot}, X0_nearestBus_run n a0 a1 i2 i3 i4 i5 i6 σ = some (r, τ) → Dy base D cI cJ σ H → va_S (fun q => base ≤ q) s.heap H locs → lv_has ls 8 [(0, .ref (base + a0)), (1, .ref (base + a1)), (2, .int i2), (3, .int i3), (4, .int i4), (5, .int i5), (6, .int i6)] → W p l e (rmD 2 0 0) s m args below meth c H locs 0 0 (MQ below (QwI base D cI cJ r τ) args s 0 0 (fun q => base ≤ q)) (F0 m 10 ls []))) {a0 : Nat} {a1 : Nat} {i2 : Int32} {i3 : Int32} {i4 : Int32} {i5 : Int32} {i6 : Int32} {σ : Sg} {r : Int32} {τ : Sg} {H : Heap} {locs : List Loc} {ls : Array Slot} (h : X0_nearestBus_b69 n (X0_nearestBus_run n) a0 a1 i2 i3 i4 i5 i6 σ = some (r, τ)) : Dy base D cI cJ σ H → va_S (fun q => base ≤ q) s.heap H locs → lv_has ls 8 [(0, .ref (base + a0)), (1, .ref (base + a1)), (2, .int i2), (3, .int i3), (4, .int i4), (5, .int i5), (6, .int i6)] → W p l e (rmD 2 0 0) s m args below meth c H locs 0 0 (MQ below (QwI base D cI cJ r τ) args s 0 0 (fun q => base ≤ q)) (F0 m 69 ls []) := by
  intro hP hS hl
  obtain ⟨hx, hb, hml, hown, hts⟩ := hC.1
  unfold X0_nearestBus_b69 at h
  obtain ⟨i6_1, hi6_1, h⟩ := obn h
  refine lv_iinc (v := i6_1) (lv' := [(6, .int i6_1), (0, .ref (base + a0)), (1, .ref (base + a1)), (2, .int i2), (3, .int i3), (4, .int i4), (5, .int i5)]) hx hb dX0_nearestBus_69 hl (k := 6) rfl (Option.some.inj hi6_1) (by decide) rfl (fun ls hl => ?_)
  refine lv_goto (tgt := 10) hx hb dX0_nearestBus_72 (by decide) ?_
  exact ih h hP hS (lv_sub hl [1, 2, 3, 4, 5, 6, 0] rfl)
set_option maxRecDepth 100000 in
set_option maxHeartbeats 4000000 in
theorem X0_nearestBus_k10 (hC : Cx p m c cX0_nearestBus 8 s args RX0 base D cI cJ tS) (hr : meth.sig.returnType = (some .int)) (hlocks : meth.locks = false) {n : Nat} (ih : (∀ {a0 : Nat} {a1 : Nat} {i2 : Int32} {i3 : Int32} {i4 : Int32} {i5 : Int32} {i6 : Int32} {σ : Sg} {r : Int32} {τ : Sg} {H : Heap} {locs : List Loc} {ls : Array Slot}, X0_nearestBus_run n a0 a1 i2 i3 i4 i5 i6 σ = some (r, τ) → Dy base D cI cJ σ H → va_S (fun q => base ≤ q) s.heap H locs → lv_has ls 8 [(0, .ref (base + a0)), (1, .ref (base + a1)), (2, .int i2), (3, .int i3), (4, .int i4), (5, .int i5), (6, .int i6)] → W p l e (rmD 2 0 0) s m args below meth c H locs 0 0 (MQ below (QwI base D cI cJ r τ) args s 0 0 (fun q => base ≤ q)) (F0 m 10 ls []))) {a0 : Nat} {a1 : Nat} {i2 : Int32} {i3 : Int32} {i4 : Int32} {i5 : Int32} {i6 : Int32} {σ : Sg} {r : Int32} {τ : Sg} {H : Heap} {locs : List Loc} {ls : Array Slot} (h : X0_nearestBus_b10 n (X0_nearestBus_run n) a0 a1 i2 i3 i4 i5 i6 σ = some (r, τ)) : Dy base D cI cJ σ H → va_S (fun q => base ≤ q) s.heap H locs → lv_has ls 8 [(0, .ref (base + a0)), (1, .ref (base + a1)), (2, .int i2), (3, .int i3), (4, .int i4), (5, .int i5), (6, .int i6)] → W p l e (rmD 2 0 0) s m args below meth c H locs 0 0 (MQ below (QwI base D cI cJ r τ) args s 0 0 (fun q => base ≤ q)) (F0 m 10 ls []) := by
  intro hP hS hl
  obtain ⟨hx, hb, hml, hown, hts⟩ := hC.1
  unfold X0_nearestBus_b10 at h
  refine lv_iload hx hb dX0_nearestBus_10 (lv_at hl 6 rfl) ?_
  refine lv_aload_n hx hb dX0_nearestBus_12 rfl (lv_at hl 1 rfl) ?_
  obtain ⟨v_2, hv_2, h⟩ := obn h
  refine w_getI (ci := 1) (j := 7) hC hP rfl inlX1 (by decide) (by decide) rfl hv_2 wl_157 dX0_nearestBus_13 ?_
  refine lv_icmp_ge (tgt := 75) hx hb dX0_nearestBus_16 (by decide) (fun c_3 => ?_) (fun c_3 => ?_)
  · rw [if_pos c_3] at h
    refine lv_iload hx hb dX0_nearestBus_75 (lv_at hl 4 rfl) ?_
    obtain ⟨rfl, rfl⟩ := Prod.mk.inj (Option.some.inj h)
    exact w_iret hC hr hlocks hP hS dX0_nearestBus_77
  · rw [if_neg c_3] at h
    refine lv_aload_n hx hb dX0_nearestBus_19 rfl (lv_at hl 1 rfl) ?_
    refine lv_iload hx hb dX0_nearestBus_20 (lv_at hl 6 rfl) ?_
    refine lv_iload_n hx hb dX0_nearestBus_22 rfl (lv_at hl 2 rfl) ?_
    obtain ⟨u_4, hu_4, h⟩ := obn h
    obtain ⟨w_5, hw_5, h⟩ := obn h
    refine k_I (r_virt (As := [.int i6, .int i2]) (rest := []) hC hP hS (ci := 1) rfl (by decide) hu_4 (c_X1_comes (l := l) (base := base) (D := D) (cI := cI) (cJ := cJ) (tS := tS) hw_5) wl_159 wl_160 wl_161 wl_39 wl_158 rfl rfl hd_X1_comes ⟨Nat.le_of_ble_eq_true rfl, Nat.le_of_ble_eq_true rfl⟩ rfl hl.1 rfl (Nat.le_of_ble_eq_true rfl) dX0_nearestBus_23 ⟨Nat.le_of_ble_eq_true rfl, Nat.le_of_ble_eq_true rfl⟩) hS (fun H locs hP hS => ?_)
    refine lv_if_eq (tgt := 69) hx hb dX0_nearestBus_26 (by decide) (fun c_6 => ?_) (fun c_6 => ?_)
    · rw [if_pos c_6] at h
      exact X0_nearestBus_k69 hC hr hlocks ih h hP hS (lv_sub hl [0, 1, 2, 3, 4, 5, 6] rfl)
    · rw [if_neg c_6] at h
      refine lv_aload_n hx hb dX0_nearestBus_29 rfl (lv_at hl 0 rfl) ?_
      obtain ⟨q_7, hq_7, h⟩ := obn h
      refine w_getR (ci := 0) (j := 0) hC hP rfl inlX0 (by decide) (by decide) rfl hq_7 wl_21 dX0_nearestBus_30 ?_
      refine lv_iload hx hb dX0_nearestBus_33 (lv_at hl 6 rfl) ?_
      refine lv_iload_n hx hb dX0_nearestBus_35 rfl (lv_at hl 2 rfl) ?_
      obtain ⟨w_8, hw_8, h⟩ := obn h
      refine k_I (r_statN (As := [.int i6, .int i2]) (rest := [.ref (base + q_7)]) hC hP hS (c_X4_cell (l := l) (base := base) (D := D) (cI := cI) (cJ := cJ) (tS := tS) hw_8) hC.2.2.1.2.2.2 wl_150 wl_98 wl_149 rfl rfl hd_X4_cell ⟨Nat.le_of_ble_eq_true rfl, Nat.le_of_ble_eq_true rfl⟩ rfl hl.1 rfl (Nat.le_of_ble_eq_true rfl) dX0_nearestBus_36 ⟨Nat.le_of_ble_eq_true rfl, Nat.le_of_ble_eq_true rfl⟩) hS (fun H locs hP hS => ?_)
      obtain ⟨v_9, hv_9, h⟩ := obn h
      refine w_iald hC hP hv_9 dX0_nearestBus_39 ?_
      refine lv_iload_n hx hb dX0_nearestBus_40 rfl (lv_at hl 3 rfl) ?_
      refine lv_icmp_le (tgt := 69) hx hb dX0_nearestBus_41 (by decide) (fun c_10 => ?_) (fun c_10 => ?_)
      · rw [if_pos c_10] at h
        exact X0_nearestBus_k69 hC hr hlocks ih h hP hS (lv_sub hl [0, 1, 2, 3, 4, 5, 6] rfl)
      · rw [if_neg c_10] at h
        refine lv_aload_n hx hb dX0_nearestBus_44 rfl (lv_at hl 0 rfl) ?_
        refine lv_iload hx hb dX0_nearestBus_45 (lv_at hl 6 rfl) ?_
        refine lv_iload_n hx hb dX0_nearestBus_47 rfl (lv_at hl 2 rfl) ?_
        refine lv_iload_n hx hb dX0_nearestBus_48 rfl (lv_at hl 3 rfl) ?_
        obtain ⟨u_11, hu_11, h⟩ := obn h
        obtain ⟨w_12, hw_12, h⟩ := obn h
        refine k_I (r_virt (As := [.int i6, .int i2, .int i3]) (rest := []) hC hP hS (ci := 0) rfl (by decide) hu_11 (c_X0_stopsLeft (l := l) (base := base) (D := D) (cI := cI) (cJ := cJ) (tS := tS) hw_12) wl_416 wl_417 wl_418 wl_52 wl_415 rfl rfl hd_X0_stopsLeft ⟨Nat.le_of_ble_eq_true rfl, Nat.le_of_ble_eq_true rfl⟩ rfl hl.1 rfl (Nat.le_of_ble_eq_true rfl) dX0_nearestBus_49 ⟨Nat.le_of_ble_eq_true rfl, Nat.le_of_ble_eq_true rfl⟩) hS (fun H locs hP hS => ?_)
        refine lv_istore (lv' := [(7, .int w_12.1), (0, .ref (base + a0)), (1, .ref (base + a1)), (2, .int i2), (3, .int i3), (4, .int i4), (5, .int i5), (6, .int i6)]) hx hb dX0_nearestBus_52 hl (by decide) rfl (fun ls hl => ?_)
        refine lv_iload hx hb dX0_nearestBus_54 (lv_at hl 0 rfl) ?_
        refine lv_iload hx hb dX0_nearestBus_56 (lv_at hl 6 rfl) ?_
        refine lv_icmp_le (tgt := 69) hx hb dX0_nearestBus_58 (by decide) (fun c_13 => ?_) (fun c_13 => ?_)
        · rw [if_pos c_13] at h
          exact X0_nearestBus_k69 hC hr hlocks ih h hP hS (lv_sub hl [1, 2, 3, 4, 5, 6, 7] rfl)
        · rw [if_neg c_13] at h
          refine lv_iload hx hb dX0_nearestBus_61 (lv_at hl 0 rfl) ?_
          refine lv_istore (lv' := [(5, .int w_12.1), (7, .int w_12.1), (0, .ref (base + a0)), (1, .ref (base + a1)), (2, .int i2), (3, .int i3), (4, .int i4), (6, .int i6)]) hx hb dX0_nearestBus_63 hl (by decide) rfl (fun ls hl => ?_)
          refine lv_iload hx hb dX0_nearestBus_65 (lv_at hl 7 rfl) ?_
          refine lv_istore (lv' := [(4, .int i6), (5, .int w_12.1), (7, .int w_12.1), (0, .ref (base + a0)), (1, .ref (base + a1)), (2, .int i2), (3, .int i3), (6, .int i6)]) hx hb dX0_nearestBus_67 hl (by decide) rfl (fun ls hl => ?_)
          exact X0_nearestBus_k69 hC hr hlocks ih h hP hS (lv_sub hl [3, 4, 5, 6, 0, 1, 7] rfl)
set_option maxRecDepth 100000 in
set_option maxHeartbeats 4000000 in
theorem X0_nearestBus_k0 (hC : Cx p m c cX0_nearestBus 8 s args RX0 base D cI cJ tS) (hr : meth.sig.returnType = (some .int)) (hlocks : meth.locks = false) {n : Nat} (ih : (∀ {a0 : Nat} {a1 : Nat} {i2 : Int32} {i3 : Int32} {i4 : Int32} {i5 : Int32} {i6 : Int32} {σ : Sg} {r : Int32} {τ : Sg} {H : Heap} {locs : List Loc} {ls : Array Slot}, X0_nearestBus_run n a0 a1 i2 i3 i4 i5 i6 σ = some (r, τ) → Dy base D cI cJ σ H → va_S (fun q => base ≤ q) s.heap H locs → lv_has ls 8 [(0, .ref (base + a0)), (1, .ref (base + a1)), (2, .int i2), (3, .int i3), (4, .int i4), (5, .int i5), (6, .int i6)] → W p l e (rmD 2 0 0) s m args below meth c H locs 0 0 (MQ below (QwI base D cI cJ r τ) args s 0 0 (fun q => base ≤ q)) (F0 m 10 ls []))) {a0 : Nat} {a1 : Nat} {i2 : Int32} {i3 : Int32} {σ : Sg} {r : Int32} {τ : Sg} {H : Heap} {locs : List Loc} {ls : Array Slot} (h : X0_nearestBus_b0 n (X0_nearestBus_run n) a0 a1 i2 i3 σ = some (r, τ)) : Dy base D cI cJ σ H → va_S (fun q => base ≤ q) s.heap H locs → lv_has ls 8 [(0, .ref (base + a0)), (1, .ref (base + a1)), (2, .int i2), (3, .int i3)] → W p l e (rmD 2 0 0) s m args below meth c H locs 0 0 (MQ below (QwI base D cI cJ r τ) args s 0 0 (fun q => base ≤ q)) (F0 m 0 ls []) := by
  intro hP hS hl
  obtain ⟨hx, hb, hml, hown, hts⟩ := hC.1
  unfold X0_nearestBus_b0 at h
  refine lv_bipush (v := (-6)) hx hb dX0_nearestBus_0 (by decide) ?_
  refine lv_istore (lv' := [(4, .int (-6)), (0, .ref (base + a0)), (1, .ref (base + a1)), (2, .int i2), (3, .int i3)]) hx hb dX0_nearestBus_2 hl (by decide) rfl (fun ls hl => ?_)
  refine lv_iconst (v := 0) hx hb dX0_nearestBus_4 (by decide) ?_
  refine lv_istore (lv' := [(5, .int 0), (4, .int (-6)), (0, .ref (base + a0)), (1, .ref (base + a1)), (2, .int i2), (3, .int i3)]) hx hb dX0_nearestBus_5 hl (by decide) rfl (fun ls hl => ?_)
  refine lv_iconst (v := 0) hx hb dX0_nearestBus_7 (by decide) ?_
  refine lv_istore (lv' := [(6, .int 0), (5, .int 0), (4, .int (-6)), (0, .ref (base + a0)), (1, .ref (base + a1)), (2, .int i2), (3, .int i3)]) hx hb dX0_nearestBus_8 hl (by decide) rfl (fun ls hl => ?_)
  exact ih h hP hS (lv_sub hl [3, 4, 5, 6, 2, 1, 0] rfl)
set_option maxRecDepth 100000 in
set_option maxHeartbeats 4000000 in
theorem X0_nearestBus_all (hC : Cx p m c cX0_nearestBus 8 s args RX0 base D cI cJ tS) (hr : meth.sig.returnType = (some .int)) (hlocks : meth.locks = false) : ∀ n : Nat, (∀ {a0 : Nat} {a1 : Nat} {i2 : Int32} {i3 : Int32} {i4 : Int32} {i5 : Int32} {i6 : Int32} {σ : Sg} {r : Int32} {τ : Sg} {H : Heap} {locs : List Loc} {ls : Array Slot}, X0_nearestBus_run n a0 a1 i2 i3 i4 i5 i6 σ = some (r, τ) → Dy base D cI cJ σ H → va_S (fun q => base ≤ q) s.heap H locs → lv_has ls 8 [(0, .ref (base + a0)), (1, .ref (base + a1)), (2, .int i2), (3, .int i3), (4, .int i4), (5, .int i5), (6, .int i6)] → W p l e (rmD 2 0 0) s m args below meth c H locs 0 0 (MQ below (QwI base D cI cJ r τ) args s 0 0 (fun q => base ≤ q)) (F0 m 10 ls [])) := by
  intro n
  induction n with
  | zero => exact fun h => (by cases h)
  | succ n ih => exact fun h => X0_nearestBus_k10 hC hr hlocks ih h
set_option maxRecDepth 100000 in
set_option maxHeartbeats 4000000 in
theorem c_X0_nearestBus {l : Launch} {base : Nat} {D : va_G} {cI cJ : ClassId} {tS : Nat} {n : Nat} {a0 : Nat} {a1 : Nat} {i2 : Int32} {i3 : Int32} {σ : Sg} {r : Int32} {τ : Sg} (h : f_X0_nearestBus n a0 a1 i2 i3 σ = some (r, τ)) : Met l yX0_nearestBus (.code yX0_nearestBus cX0_nearestBus 8 (some .int) :: wsL_law) (rmD 2 0 0) (Pw base D cI cJ tS σ [.ref (base + a0), .ref (base + a1), .int i2, .int i3]) (QwI base D cI cJ r τ) 0 0 (fun q => base ≤ q) := by
  refine Met.ofW (cc := cX0_nearestBus) (maxL := 8) (ret := (some .int)) (by decide) rfl ?_
  intro p e s m args below meth c s₁ B hml hv
  obtain ⟨rfl, hSt, hP⟩ := hv
  have hC : Cx p m c cX0_nearestBus 8 s _ RX0 base D cI cJ tS := ⟨⟨B.exec, B.bytes, hml, findClass_of_methodNamed B.named, fun w hw => atoms_spec (ws := Cond.code yX0_nearestBus cX0_nearestBus 8 (some .int) :: wsL_law) B.pre w (List.mem_cons_of_mem _ hw)⟩, hSt⟩
  have hl := lv_entry ([.ref (base + a0), .ref (base + a1), .int i2, .int i3]) (n := 8) (Nat.le_of_ble_eq_true rfl)
  rw [lg_entry_eq]
  generalize (lg_sl ([.ref (base + a0), .ref (base + a1), .int i2, .int i3]) ++ List.replicate (8 - (lg_sl ([.ref (base + a0), .ref (base + a1), .int i2, .int i3])).length) Slot.unset).toArray = ls at hl ⊢
  exact X0_nearestBus_k0 hC B.returns B.notSynchronized (X0_nearestBus_all hC B.returns B.notSynchronized n) h hP va_S.rf hl
-- ===== X0_shownSeconds
set_option maxRecDepth 100000 in
set_option maxHeartbeats 4000000 in
theorem X0_shownSeconds_k36 (hC : Cx p m c cX0_shownSeconds 8 s args RX0 base D cI cJ tS) (hr : meth.sig.returnType = (some .int)) (hlocks : meth.locks = false) {n : Nat} (ih : (∀ {a1 : Nat} {i3 : Int32} {i4 : Int32} {i6 : Int32} {i7 : Int32} {σ : Sg} {r : Int32} {τ : Sg} {H : Heap} {locs : List Loc} {ls : Array Slot}, X0_shownSeconds_run n a1 i3 i4 i6 i7 σ = some (r, τ) → Dy base D cI cJ σ H → va_S (fun q => base ≤ q) s.heap H locs → lv_has ls 8 [(1, .ref (base + a1)), (3, .int i3), (4, .int i4), (6, .int i6), (7, .int i7)] → W p l e (rmD 2 0 0) s m args below meth c H locs 0 0 (MQ below (QwI base D cI cJ r τ) args s 0 0 (fun q => base ≤ q)) (F0 m 36 ls []))) {a1 : Nat} {i3 : Int32} {i4 : Int32} {i6 : Int32} {i7 : Int32} {σ : Sg} {r : Int32} {τ : Sg} {H : Heap} {locs : List Loc} {ls : Array Slot} (h : X0_shownSeconds_b36 n (X0_shownSeconds_run n) a1 i3 i4 i6 i7 σ = some (r, τ)) : Dy base D cI cJ σ H → va_S (fun q => base ≤ q) s.heap H locs → lv_has ls 8 [(1, .ref (base + a1)), (3, .int i3), (4, .int i4), (6, .int i6), (7, .int i7)] → W p l e (rmD 2 0 0) s m args below meth c H locs 0 0 (MQ below (QwI base D cI cJ r τ) args s 0 0 (fun q => base ≤ q)) (F0 m 36 ls []) := by
  intro hP hS hl
  obtain ⟨hx, hb, hml, hown, hts⟩ := hC.1
  unfold X0_shownSeconds_b36 at h
  refine lv_iload hx hb dX0_shownSeconds_36 (lv_at hl 4 rfl) ?_
  refine lv_iload_n hx hb dX0_shownSeconds_38 rfl (lv_at hl 1 rfl) ?_
  refine lv_icmp_ge (tgt := 60) hx hb dX0_shownSeconds_39 (by decide) (fun c_1 => ?_) (fun c_1 => ?_)
  · rw [if_pos c_1] at h
    refine lv_iload hx hb dX0_shownSeconds_60 (lv_at hl 3 rfl) ?_
    refine lv_iload hx hb dX0_shownSeconds_62 (lv_at hl 2 rfl) ?_
    refine lv_isub hx hb dX0_shownSeconds_64 ?_
    refine lv_iconst (v := 0) hx hb dX0_shownSeconds_65 (by decide) ?_
    refine va_mmax hx hb (hml.trans hl.1.symm) hown (hts _ wl_190) (hts _ wl_191) (hts _ wl_166) (hts _ wl_192) (Nat.le_of_ble_eq_true rfl) (Nat.le_of_ble_eq_true rfl) (Nat.le_of_ble_eq_true rfl) (Nat.le_of_ble_eq_true rfl) dX0_shownSeconds_66 ?_
    obtain ⟨rfl, rfl⟩ := Prod.mk.inj (Option.some.inj h)
    exact w_iret hC hr hlocks hP hS dX0_shownSeconds_69
  · rw [if_neg c_1] at h
    refine lv_iload hx hb dX0_shownSeconds_42 (lv_at hl 3 rfl) ?_
    refine lv_aload_n hx hb dX0_shownSeconds_44 rfl (lv_at hl 0 rfl) ?_
    obtain ⟨q_2, hq_2, h⟩ := obn h
    refine w_getR (ci := 1) (j := 0) hC hP rfl inlX1 (by decide) (by decide) rfl hq_2 wl_162 dX0_shownSeconds_45 ?_
    refine lv_iload hx hb dX0_shownSeconds_48 (lv_at hl 4 rfl) ?_
    obtain ⟨v_3, hv_3, h⟩ := obn h
    refine w_iald hC hP hv_3 dX0_shownSeconds_50 ?_
    refine lv_iadd hx hb dX0_shownSeconds_51 ?_
    obtain ⟨i6_4, hi6_4, h⟩ := obn h
    refine w_eqi (Option.some.inj hi6_4) ?_
    refine lv_istore (lv' := [(6, .int i6_4), (1, .ref (base + a1)), (3, .int i3), (4, .int i4), (7, .int i7)]) hx hb dX0_shownSeconds_52 hl (by decide) rfl (fun ls hl => ?_)
    obtain ⟨i7_5, hi7_5, h⟩ := obn h
    refine lv_iinc (v := i7_5) (lv' := [(7, .int i7_5), (6, .int i6_4), (1, .ref (base + a1)), (3, .int i3), (4, .int i4)]) hx hb dX0_shownSeconds_54 hl (k := 4) rfl (Option.some.inj hi7_5) (by decide) rfl (fun ls hl => ?_)
    refine lv_goto (tgt := 36) hx hb dX0_shownSeconds_57 (by decide) ?_
    exact ih h hP hS (lv_sub hl [2, 3, 4, 1, 0] rfl)
set_option maxRecDepth 100000 in
set_option maxHeartbeats 4000000 in
theorem X0_shownSeconds_k0 (hC : Cx p m c cX0_shownSeconds 8 s args RX0 base D cI cJ tS) (hr : meth.sig.returnType = (some .int)) (hlocks : meth.locks = false) {n : Nat} (ih : (∀ {a1 : Nat} {i3 : Int32} {i4 : Int32} {i6 : Int32} {i7 : Int32} {σ : Sg} {r : Int32} {τ : Sg} {H : Heap} {locs : List Loc} {ls : Array Slot}, X0_shownSeconds_run n a1 i3 i4 i6 i7 σ = some (r, τ) → Dy base D cI cJ σ H → va_S (fun q => base ≤ q) s.heap H locs → lv_has ls 8 [(1, .ref (base + a1)), (3, .int i3), (4, .int i4), (6, .int i6), (7, .int i7)] → W p l e (rmD 2 0 0) s m args below meth c H locs 0 0 (MQ below (QwI base D cI cJ r τ) args s 0 0 (fun q => base ≤ q)) (F0 m 36 ls []))) {a0 : Nat} {a1 : Nat} {i2 : Int32} {i3 : Int32} {i4 : Int32} {σ : Sg} {r : Int32} {τ : Sg} {H : Heap} {locs : List Loc} {ls : Array Slot} (h : X0_shownSeconds_b0 n (X0_shownSeconds_run n) a0 a1 i2 i3 i4 σ = some (r, τ)) : Dy base D cI cJ σ H → va_S (fun q => base ≤ q) s.heap H locs → lv_has ls 8 [(0, .ref (base + a0)), (1, .ref (base + a1)), (2, .int i2), (3, .int i3), (4, .int i4)] → W p l e (rmD 2 0 0) s m args below meth c H locs 0 0 (MQ below (QwI base D cI cJ r τ) args s 0 0 (fun q => base ≤ q)) (F0 m 0 ls []) := by
  intro hP hS hl
  obtain ⟨hx, hb, hml, hown, hts⟩ := hC.1
  unfold X0_shownSeconds_b0 at h
  refine lv_aload_n hx hb dX0_shownSeconds_0 rfl (lv_at hl 0 rfl) ?_
  refine lv_iload_n hx hb dX0_shownSeconds_1 rfl (lv_at hl 2 rfl) ?_
  refine lv_iload_n hx hb dX0_shownSeconds_2 rfl (lv_at hl 3 rfl) ?_
  refine lv_iload hx hb dX0_shownSeconds_3 (lv_at hl 4 rfl) ?_
  obtain ⟨u_6, hu_6, h⟩ := obn h
  obtain ⟨w_7, hw_7, h⟩ := obn h
  refine k_I (r_virt (As := [.int i2, .int i3, .int i4]) (rest := []) hC hP hS (ci := 0) rfl (by decide) hu_6 (c_X0_stopsLeft (l := l) (base := base) (D := D) (cI := cI) (cJ := cJ) (tS := tS) hw_7) wl_416 wl_417 wl_418 wl_52 wl_415 rfl rfl hd_X0_stopsLeft ⟨Nat.le_of_ble_eq_true rfl, Nat.le_of_ble_eq_true rfl⟩ rfl hl.1 rfl (Nat.le_of_ble_eq_true rfl) dX0_shownSeconds_5 ⟨Nat.le_of_ble_eq_true rfl, Nat.le_of_ble_eq_true rfl⟩) hS (fun H locs hP hS => ?_)
  refine lv_iconst (v := 1) hx hb dX0_shownSeconds_8 (by decide) ?_
  refine lv_isub hx hb dX0_shownSeconds_9 ?_
  obtain ⟨i5_8, hi5_8, h⟩ := obn h
  refine w_eqi (Option.some.inj hi5_8) ?_
  refine lv_istore (lv' := [(5, .int i5_8), (0, .ref (base + a0)), (1, .ref (base + a1)), (2, .int i2), (3, .int i3), (4, .int i4)]) hx hb dX0_shownSeconds_10 hl (by decide) rfl (fun ls hl => ?_)
  refine lv_iload hx hb dX0_shownSeconds_12 (lv_at hl 0 rfl) ?_
  refine lv_if_ge (tgt := 19) hx hb dX0_shownSeconds_14 (by decide) (fun c_9 => ?_) (fun c_9 => ?_)
  · rw [if_pos c_9] at h
    refine lv_aload_n hx hb dX0_shownSeconds_19 rfl (lv_at hl 1 rfl) ?_
    obtain ⟨q_10, hq_10, h⟩ := obn h
    refine w_getR (ci := 0) (j := 1) hC hP rfl inlX0 (by decide) (by decide) rfl hq_10 wl_22 dX0_shownSeconds_20 ?_
    refine lv_iload_n hx hb dX0_shownSeconds_23 rfl (lv_at hl 3 rfl) ?_
    refine lv_iload hx hb dX0_shownSeconds_24 (lv_at hl 0 rfl) ?_
    obtain ⟨w_11, hw_11, h⟩ := obn h
    refine k_I (r_statN (As := [.int i2, .int i5_8]) (rest := [.ref (base + q_10)]) hC hP hS (c_X4_cell (l := l) (base := base) (D := D) (cI := cI) (cJ := cJ) (tS := tS) hw_11) hC.2.2.1.2.2.2 wl_150 wl_98 wl_149 rfl rfl hd_X4_cell ⟨Nat.le_of_ble_eq_true rfl, Nat.le_of_ble_eq_true rfl⟩ rfl hl.1 rfl (Nat.le_of_ble_eq_true rfl) dX0_shownSeconds_26 ⟨Nat.le_of_ble_eq_true rfl, Nat.le_of_ble_eq_true rfl⟩) hS (fun H locs hP hS => ?_)
    obtain ⟨v_12, hv_12, h⟩ := obn h
    refine w_iald hC hP hv_12 dX0_shownSeconds_29 ?_
    refine lv_istore (lv' := [(6, .int v_12), (5, .int i5_8), (0, .ref (base + a0)), (1, .ref (base + a1)), (2, .int i2), (3, .int i3), (4, .int i4)]) hx hb dX0_shownSeconds_30 hl (by decide) rfl (fun ls hl => ?_)
    refine lv_iload hx hb dX0_shownSeconds_32 (lv_at hl 1 rfl) ?_
    refine lv_istore (lv' := [(7, .int i5_8), (6, .int v_12), (5, .int i5_8), (0, .ref (base + a0)), (1, .ref (base + a1)), (2, .int i2), (3, .int i3), (4, .int i4)]) hx hb dX0_shownSeconds_34 hl (by decide) rfl (fun ls hl => ?_)
    exact ih h hP hS (lv_sub hl [4, 6, 7, 1, 0] rfl)
  · rw [if_neg c_9] at h
    refine lv_iconst (v := 0) hx hb dX0_shownSeconds_17 (by decide) ?_
    obtain ⟨rfl, rfl⟩ := Prod.mk.inj (Option.some.inj h)
    exact w_iret hC hr hlocks hP hS dX0_shownSeconds_18
set_option maxRecDepth 100000 in
set_option maxHeartbeats 4000000 in
theorem X0_shownSeconds_all (hC : Cx p m c cX0_shownSeconds 8 s args RX0 base D cI cJ tS) (hr : meth.sig.returnType = (some .int)) (hlocks : meth.locks = false) : ∀ n : Nat, (∀ {a1 : Nat} {i3 : Int32} {i4 : Int32} {i6 : Int32} {i7 : Int32} {σ : Sg} {r : Int32} {τ : Sg} {H : Heap} {locs : List Loc} {ls : Array Slot}, X0_shownSeconds_run n a1 i3 i4 i6 i7 σ = some (r, τ) → Dy base D cI cJ σ H → va_S (fun q => base ≤ q) s.heap H locs → lv_has ls 8 [(1, .ref (base + a1)), (3, .int i3), (4, .int i4), (6, .int i6), (7, .int i7)] → W p l e (rmD 2 0 0) s m args below meth c H locs 0 0 (MQ below (QwI base D cI cJ r τ) args s 0 0 (fun q => base ≤ q)) (F0 m 36 ls [])) := by
  intro n
  induction n with
  | zero => exact fun h => (by cases h)
  | succ n ih => exact fun h => X0_shownSeconds_k36 hC hr hlocks ih h
set_option maxRecDepth 100000 in
set_option maxHeartbeats 4000000 in
theorem c_X0_shownSeconds {l : Launch} {base : Nat} {D : va_G} {cI cJ : ClassId} {tS : Nat} {n : Nat} {a0 : Nat} {a1 : Nat} {i2 : Int32} {i3 : Int32} {i4 : Int32} {σ : Sg} {r : Int32} {τ : Sg} (h : f_X0_shownSeconds n a0 a1 i2 i3 i4 σ = some (r, τ)) : Met l yX0_shownSeconds (.code yX0_shownSeconds cX0_shownSeconds 8 (some .int) :: wsL_law) (rmD 2 0 0) (Pw base D cI cJ tS σ [.ref (base + a0), .ref (base + a1), .int i2, .int i3, .int i4]) (QwI base D cI cJ r τ) 0 0 (fun q => base ≤ q) := by
  refine Met.ofW (cc := cX0_shownSeconds) (maxL := 8) (ret := (some .int)) (by decide) rfl ?_
  intro p e s m args below meth c s₁ B hml hv
  obtain ⟨rfl, hSt, hP⟩ := hv
  have hC : Cx p m c cX0_shownSeconds 8 s _ RX0 base D cI cJ tS := ⟨⟨B.exec, B.bytes, hml, findClass_of_methodNamed B.named, fun w hw => atoms_spec (ws := Cond.code yX0_shownSeconds cX0_shownSeconds 8 (some .int) :: wsL_law) B.pre w (List.mem_cons_of_mem _ hw)⟩, hSt⟩
  have hl := lv_entry ([.ref (base + a0), .ref (base + a1), .int i2, .int i3, .int i4]) (n := 8) (Nat.le_of_ble_eq_true rfl)
  rw [lg_entry_eq]
  generalize (lg_sl ([.ref (base + a0), .ref (base + a1), .int i2, .int i3, .int i4]) ++ List.replicate (8 - (lg_sl ([.ref (base + a0), .ref (base + a1), .int i2, .int i3, .int i4])).length) Slot.unset).toArray = ls at hl ⊢
  exact X0_shownSeconds_k0 hC B.returns B.notSynchronized (X0_shownSeconds_all hC B.returns B.notSynchronized n) h hP va_S.rf hl
-- ===== X4_board
set_option maxRecDepth 100000 in
set_option maxHeartbeats 4000000 in
theorem X4_board_k11 (hC : Cx p m c cX4_board 7 s args RX4 base D cI cJ tS) (hr : meth.sig.returnType = (some .int)) (hlocks : meth.locks = false) {n : Nat} {σ : Sg} {r : Int32} {τ : Sg} {H : Heap} {locs : List Loc} {ls : Array Slot} (h : X4_board_b11 n σ = some (r, τ)) : Dy base D cI cJ σ H → va_S (fun q => base ≤ q) s.heap H locs → lv_has ls 7 [] → W p l e (rmD 7 0 0) s m args below meth c H locs 0 0 (MQ below (QwI base D cI cJ r τ) args s 0 0 (fun q => base ≤ q)) (F0 m 11 ls []) := by
  intro hP hS hl
  obtain ⟨hx, hb, hml, hown, hts⟩ := hC.1
  unfold X4_board_b11 at h
  refine lv_iconst (v := (-1)) hx hb dX4_board_11 (by decide) ?_
  obtain ⟨rfl, rfl⟩ := Prod.mk.inj (Option.some.inj h)
  exact w_iret hC hr hlocks hP hS dX4_board_12
set_option maxRecDepth 100000 in
set_option maxHeartbeats 4000000 in
theorem X4_board_k33 (hC : Cx p m c cX4_board 7 s args RX4 base D cI cJ tS) (hr : meth.sig.returnType = (some .int)) (hlocks : meth.locks = false) {n : Nat} {σ : Sg} {r : Int32} {τ : Sg} {H : Heap} {locs : List Loc} {ls : Array Slot} (h : X4_board_b33 n σ = some (r, τ)) : Dy base D cI cJ σ H → va_S (fun q => base ≤ q) s.heap H locs → lv_has ls 7 [] → W p l e (rmD 7 0 0) s m args below meth c H locs 0 0 (MQ below (QwI base D cI cJ r τ) args s 0 0 (fun q => base ≤ q)) (F0 m 33 ls []) := by
  intro hP hS hl
  obtain ⟨hx, hb, hml, hown, hts⟩ := hC.1
  unfold X4_board_b33 at h
  refine lv_bipush (v := (-2)) hx hb dX4_board_33 (by decide) ?_
  obtain ⟨rfl, rfl⟩ := Prod.mk.inj (Option.some.inj h)
  exact w_iret hC hr hlocks hP hS dX4_board_35
set_option maxRecDepth 100000 in
set_option maxHeartbeats 4000000 in
theorem X4_board_k0 (hC : Cx p m c cX4_board 7 s args RX4 base D cI cJ tS) (hr : meth.sig.returnType = (some .int)) (hlocks : meth.locks = false) {n : Nat} {a0 : Nat} {i1 : Int32} {i2 : Int32} {i3 : Int32} {σ : Sg} {r : Int32} {τ : Sg} {H : Heap} {locs : List Loc} {ls : Array Slot} (h : f_X4_board n a0 i1 i2 i3 σ = some (r, τ)) : Dy base D cI cJ σ H → va_S (fun q => base ≤ q) s.heap H locs → lv_has ls 7 [(0, .ref (base + a0)), (1, .int i1), (2, .int i2), (3, .int i3)] → W p l e (rmD 7 0 0) s m args below meth c H locs 0 0 (MQ below (QwI base D cI cJ r τ) args s 0 0 (fun q => base ≤ q)) (F0 m 0 ls []) := by
  intro hP hS hl
  obtain ⟨hx, hb, hml, hown, hts⟩ := hC.1
  unfold f_X4_board at h
  refine lv_iload_n hx hb dX4_board_0 rfl (lv_at hl 1 rfl) ?_
  refine lv_iconst (v := 1) hx hb dX4_board_1 (by decide) ?_
  refine lv_icmp_lt (tgt := 11) hx hb dX4_board_2 (by decide) (fun c_1 => ?_) (fun c_1 => ?_)
  · rw [if_pos c_1] at h
    exact X4_board_k11 hC hr hlocks h hP hS (lv_sub hl [] rfl)
  · rw [if_neg c_1] at h
    refine lv_iload_n hx hb dX4_board_5 rfl (lv_at hl 1 rfl) ?_
    refine lv_bipush (v := 9) hx hb dX4_board_6 (by decide) ?_
    refine lv_icmp_le (tgt := 13) hx hb dX4_board_8 (by decide) (fun c_2 => ?_) (fun c_2 => ?_)
    · rw [if_pos c_2] at h
      refine lv_iload_n hx hb dX4_board_13 rfl (lv_at hl 2 rfl) ?_
      refine lv_if_lt (tgt := 33) hx hb dX4_board_14 (by decide) (fun c_3 => ?_) (fun c_3 => ?_)
      · rw [if_pos c_3] at h
        exact X4_board_k33 hC hr hlocks h hP hS (lv_sub hl [] rfl)
      · rw [if_neg c_3] at h
        refine lv_iload_n hx hb dX4_board_17 rfl (lv_at hl 2 rfl) ?_
        refine lv_sipush (v := 20000) hx hb dX4_board_18 (by decide) ?_
        refine lv_icmp_gt (tgt := 33) hx hb dX4_board_21 (by decide) (fun c_4 => ?_) (fun c_4 => ?_)
        · rw [if_pos c_4] at h
          exact X4_board_k33 hC hr hlocks h hP hS (lv_sub hl [] rfl)
        · rw [if_neg c_4] at h
          refine lv_iload_n hx hb dX4_board_24 rfl (lv_at hl 3 rfl) ?_
          refine lv_if_lt (tgt := 33) hx hb dX4_board_25 (by decide) (fun c_5 => ?_) (fun c_5 => ?_)
          · rw [if_pos c_5] at h
            exact X4_board_k33 hC hr hlocks h hP hS (lv_sub hl [] rfl)
          · rw [if_neg c_5] at h
            refine lv_iload_n hx hb dX4_board_28 rfl (lv_at hl 3 rfl) ?_
            refine lv_iconst (v := 2) hx hb dX4_board_29 (by decide) ?_
            refine lv_icmp_le (tgt := 36) hx hb dX4_board_30 (by decide) (fun c_6 => ?_) (fun c_6 => ?_)
            · rw [if_pos c_6] at h
              refine lv_aload_n hx hb dX4_board_36 rfl (lv_at hl 0 rfl) ?_
              obtain ⟨u_7, hu_7, h⟩ := obn h
              obtain ⟨w_8, hw_8, h⟩ := obn h
              refine k_A (r_virt (As := []) (rest := []) hC hP hS (ci := 4) rfl (by decide) hu_7 (c_X4_presentCourse (l := l) (base := base) (D := D) (cI := cI) (cJ := cJ) (tS := tS) hw_8) wl_248 wl_249 wl_250 wl_98 wl_247 rfl rfl hd_X4_presentCourse ⟨Nat.le_of_ble_eq_true rfl, Nat.le_of_ble_eq_true rfl⟩ rfl hl.1 rfl (Nat.le_of_ble_eq_true rfl) dX4_board_37 ⟨Nat.le_of_ble_eq_true rfl, Nat.le_of_ble_eq_true rfl⟩) hS (fun H locs hP hS => ?_)
              refine lv_astore (lv' := [(4, .ref (base + w_8.1)), (0, .ref (base + a0)), (1, .int i1), (2, .int i2), (3, .int i3)]) hx hb dX4_board_40 hl (by decide) rfl (fun ls hl => ?_)
              refine lv_aload hx hb dX4_board_42 (lv_at hl 0 rfl) ?_
              refine lv_aload_n hx hb dX4_board_44 rfl (lv_at hl 1 rfl) ?_
              obtain ⟨q_9, hq_9, h⟩ := obn h
              refine w_getR (ci := 4) (j := 0) hC hP rfl inlX4 (by decide) (by decide) rfl hq_9 wl_43 dX4_board_45 ?_
              refine lv_iload_n hx hb dX4_board_48 rfl (lv_at hl 2 rfl) ?_
              refine lv_iload_n hx hb dX4_board_49 rfl (lv_at hl 3 rfl) ?_
              obtain ⟨u_10, hu_10, h⟩ := obn h
              obtain ⟨w_11, hw_11, h⟩ := obn h
              refine k_I (r_virt (As := [.ref (base + q_9), .int i1, .int i2]) (rest := []) hC hP hS (ci := 0) rfl (by decide) hu_10 (c_X0_nearestBus (l := l) (base := base) (D := D) (cI := cI) (cJ := cJ) (tS := tS) hw_11) wl_420 wl_421 wl_422 wl_52 wl_419 rfl rfl hd_X0_nearestBus ⟨Nat.le_of_ble_eq_true rfl, Nat.le_of_ble_eq_true rfl⟩ rfl hl.1 rfl (Nat.le_of_ble_eq_true rfl) dX4_board_50 ⟨Nat.le_of_ble_eq_true rfl, Nat.le_of_ble_eq_true rfl⟩) hS (fun H locs hP hS => ?_)
              refine lv_istore (lv' := [(5, .int w_11.1), (4, .ref (base + w_8.1)), (0, .ref (base + a0)), (1, .int i1), (2, .int i2), (3, .int i3)]) hx hb dX4_board_53 hl (by decide) rfl (fun ls hl => ?_)
              refine lv_iload hx hb dX4_board_55 (lv_at hl 0 rfl) ?_
              refine lv_bipush (v := (-6)) hx hb dX4_board_57 (by decide) ?_
              refine lv_icmp_ne (tgt := 75) hx hb dX4_board_59 (by decide) (fun c_12 => ?_) (fun c_12 => ?_)
              · rw [if_neg c_12] at h
                refine lv_iload_n hx hb dX4_board_75 rfl (lv_at hl 5 rfl) ?_
                refine lv_iconst (v := 1) hx hb dX4_board_76 (by decide) ?_
                refine lv_icmp_ne (tgt := 83) hx hb dX4_board_77 (by decide) (fun c_13 => ?_) (fun c_13 => ?_)
                · rw [if_neg c_13] at h
                  refine lv_aload hx hb dX4_board_83 (lv_at hl 1 rfl) ?_
                  refine lv_aload_n hx hb dX4_board_85 rfl (lv_at hl 2 rfl) ?_
                  obtain ⟨q_14, hq_14, h⟩ := obn h
                  refine w_getR (ci := 4) (j := 0) hC hP rfl inlX4 (by decide) (by decide) rfl hq_14 wl_43 dX4_board_86 ?_
                  refine lv_iload hx hb dX4_board_89 (lv_at hl 0 rfl) ?_
                  refine lv_iload_n hx hb dX4_board_91 rfl (lv_at hl 3 rfl) ?_
                  refine lv_iload_n hx hb dX4_board_92 rfl (lv_at hl 4 rfl) ?_
                  obtain ⟨u_15, hu_15, h⟩ := obn h
                  obtain ⟨w_16, hw_16, h⟩ := obn h
                  refine k_I (r_virt (As := [.ref (base + q_14), .int w_11.1, .int i1, .int i2]) (rest := []) hC hP hS (ci := 0) rfl (by decide) hu_15 (c_X0_shownSeconds (l := l) (base := base) (D := D) (cI := cI) (cJ := cJ) (tS := tS) hw_16) wl_424 wl_425 wl_426 wl_52 wl_423 rfl rfl hd_X0_shownSeconds ⟨Nat.le_of_ble_eq_true rfl, Nat.le_of_ble_eq_true rfl⟩ rfl hl.1 rfl (Nat.le_of_ble_eq_true rfl) dX4_board_93 ⟨Nat.le_of_ble_eq_true rfl, Nat.le_of_ble_eq_true rfl⟩) hS (fun H locs hP hS => ?_)
                  refine lv_istore (lv' := [(6, .int w_16.1), (5, .int w_11.1), (4, .ref (base + w_8.1)), (0, .ref (base + a0)), (1, .int i1), (2, .int i2), (3, .int i3)]) hx hb dX4_board_96 hl (by decide) rfl (fun ls hl => ?_)
                  refine lv_iload_n hx hb dX4_board_98 rfl (lv_at hl 6 rfl) ?_
                  refine lv_if_ne (tgt := 107) hx hb dX4_board_99 (by decide) (fun c_17 => ?_) (fun c_17 => ?_)
                  · rw [if_neg c_17] at h
                    refine lv_aload hx hb dX4_board_107 (lv_at hl 2 rfl) ?_
                    obtain ⟨q_18, hq_18, h⟩ := obn h
                    refine w_getR (ci := 0) (j := 0) hC hP rfl inlX0 (by decide) (by decide) rfl hq_18 wl_427 dX4_board_109 ?_
                    refine lv_iload hx hb dX4_board_112 (lv_at hl 1 rfl) ?_
                    refine lv_iload_n hx hb dX4_board_114 rfl (lv_at hl 4 rfl) ?_
                    obtain ⟨w_19, hw_19, h⟩ := obn h
                    refine k_I (r_stat (As := [.int w_11.1, .int i1]) (rest := [.ref (base + q_18)]) hC hP hS (c_X4_cell (l := l) (base := base) (D := D) (cI := cI) (cJ := cJ) (tS := tS) hw_19) wl_251 wl_150 wl_98 wl_149 rfl rfl hd_X4_cell ⟨Nat.le_of_ble_eq_true rfl, Nat.le_of_ble_eq_true rfl⟩ rfl hl.1 rfl (Nat.le_of_ble_eq_true rfl) dX4_board_115 ⟨Nat.le_of_ble_eq_true rfl, Nat.le_of_ble_eq_true rfl⟩) hS (fun H locs hP hS => ?_)
                    obtain ⟨v_20, hv_20, h⟩ := obn h
                    refine w_iald hC hP hv_20 dX4_board_118 ?_
                    refine lv_iload_n hx hb dX4_board_119 rfl (lv_at hl 5 rfl) ?_
                    refine lv_isub hx hb dX4_board_120 ?_
                    refine lv_iload hx hb dX4_board_121 (lv_at hl 0 rfl) ?_
                    refine lv_isub hx hb dX4_board_123 ?_
                    obtain ⟨rfl, rfl⟩ := Prod.mk.inj (Option.some.inj h)
                    exact w_iret hC hr hlocks hP hS dX4_board_124
                  · rw [if_pos c_17] at h
                    refine lv_iload hx hb dX4_board_102 (lv_at hl 0 rfl) ?_
                    refine lv_goto (tgt := 124) hx hb dX4_board_104 (by decide) ?_
                    obtain ⟨rfl, rfl⟩ := Prod.mk.inj (Option.some.inj h)
                    exact w_iret hC hr hlocks hP hS dX4_board_124
                · rw [if_pos c_13] at h
                  refine lv_iload hx hb dX4_board_80 (lv_at hl 0 rfl) ?_
                  obtain ⟨rfl, rfl⟩ := Prod.mk.inj (Option.some.inj h)
                  exact w_iret hC hr hlocks hP hS dX4_board_82
              · rw [if_pos c_12] at h
                refine lv_iload_n hx hb dX4_board_62 rfl (lv_at hl 5 rfl) ?_
                refine lv_iconst (v := 2) hx hb dX4_board_63 (by decide) ?_
                refine lv_icmp_ne (tgt := 72) hx hb dX4_board_64 (by decide) (fun c_21 => ?_) (fun c_21 => ?_)
                · rw [if_neg c_21] at h
                  refine lv_bipush (v := (-6)) hx hb dX4_board_72 (by decide) ?_
                  obtain ⟨rfl, rfl⟩ := Prod.mk.inj (Option.some.inj h)
                  exact w_iret hC hr hlocks hP hS dX4_board_74
                · rw [if_pos c_21] at h
                  refine lv_ldc (v := (-2000000000)) hx hb hown (hts _ wl_412) dX4_board_67 ?_
                  refine lv_goto (tgt := 74) hx hb dX4_board_69 (by decide) ?_
                  obtain ⟨rfl, rfl⟩ := Prod.mk.inj (Option.some.inj h)
                  exact w_iret hC hr hlocks hP hS dX4_board_74
            · rw [if_neg c_6] at h
              exact X4_board_k33 hC hr hlocks h hP hS (lv_sub hl [] rfl)
    · rw [if_neg c_2] at h
      exact X4_board_k11 hC hr hlocks h hP hS (lv_sub hl [] rfl)
set_option maxRecDepth 100000 in
set_option maxHeartbeats 4000000 in
theorem c_X4_board {l : Launch} {base : Nat} {D : va_G} {cI cJ : ClassId} {tS : Nat} {n : Nat} {a0 : Nat} {i1 : Int32} {i2 : Int32} {i3 : Int32} {σ : Sg} {r : Int32} {τ : Sg} (h : f_X4_board n a0 i1 i2 i3 σ = some (r, τ)) : Met l yX4_board (.code yX4_board cX4_board 7 (some .int) :: wsL_law) (rmD 7 0 0) (Pw base D cI cJ tS σ [.ref (base + a0), .int i1, .int i2, .int i3]) (QwI base D cI cJ r τ) 0 0 (fun q => base ≤ q) := by
  refine Met.ofW (cc := cX4_board) (maxL := 7) (ret := (some .int)) (by decide) rfl ?_
  intro p e s m args below meth c s₁ B hml hv
  obtain ⟨rfl, hSt, hP⟩ := hv
  have hC : Cx p m c cX4_board 7 s _ RX4 base D cI cJ tS := ⟨⟨B.exec, B.bytes, hml, findClass_of_methodNamed B.named, fun w hw => atoms_spec (ws := Cond.code yX4_board cX4_board 7 (some .int) :: wsL_law) B.pre w (List.mem_cons_of_mem _ hw)⟩, hSt⟩
  have hl := lv_entry ([.ref (base + a0), .int i1, .int i2, .int i3]) (n := 7) (Nat.le_of_ble_eq_true rfl)
  rw [lg_entry_eq]
  generalize (lg_sl ([.ref (base + a0), .int i1, .int i2, .int i3]) ++ List.replicate (7 - (lg_sl ([.ref (base + a0), .int i1, .int i2, .int i3])).length) Slot.unset).toArray = ls at hl ⊢
  exact X4_board_k0 hC B.returns B.notSynchronized h hP va_S.rf hl
-- ===== X5_board
set_option maxRecDepth 100000 in
set_option maxHeartbeats 4000000 in
theorem X5_board_k51 (hC : Cx p m c cX5_board 9 s args RX5 base D cI cJ tS) (hr : meth.sig.returnType = (some .int)) (hlocks : meth.locks = false) {n : Nat} (ih : (∀ {a0 : Nat} {i1 : Int32} {i2 : Int32} {i3 : Int32} {i4 : Int32} {i5 : Int32} {i6 : Int32} {i7 : Int32} {i8 : Int32} {σ : Sg} {r : Int32} {τ : Sg} {H : Heap} {locs : List Loc} {ls : Array Slot}, X5_board_run n 51 a0 i1 i2 i3 i4 i5 i6 i7 i8 σ = some (r, τ) → Dy base D cI cJ σ H → va_S (fun q => base ≤ q) s.heap H locs → lv_has ls 9 [(0, .ref (base + a0)), (1, .int i1), (2, .int i2), (3, .int i3), (4, .int i4), (5, .int i5), (6, .int i6)] → W p l e (rmD 3 0 0) s m args below meth c H locs 0 0 (MQ below (QwI base D cI cJ r τ) args s 0 0 (fun q => base ≤ q)) (F0 m 51 ls [])) ∧ (∀ {a0 : Nat} {i1 : Int32} {i2 : Int32} {i3 : Int32} {i4 : Int32} {i5 : Int32} {i6 : Int32} {i7 : Int32} {i8 : Int32} {σ : Sg} {r : Int32} {τ : Sg} {H : Heap} {locs : List Loc} {ls : Array Slot}, X5_board_run n 66 a0 i1 i2 i3 i4 i5 i6 i7 i8 σ = some (r, τ) → Dy base D cI cJ σ H → va_S (fun q => base ≤ q) s.heap H locs → lv_has ls 9 [(0, .ref (base + a0)), (1, .int i1), (2, .int i2), (3, .int i3), (4, .int i4), (5, .int i5), (6, .int i6), (7, .int i7), (8, .int i8)] → W p l e (rmD 3 0 0) s m args below meth c H locs 0 0 (MQ below (QwI base D cI cJ r τ) args s 0 0 (fun q => base ≤ q)) (F0 m 66 ls [])) ∧ (∀ {a0 : Nat} {i1 : Int32} {i2 : Int32} {i3 : Int32} {i4 : Int32} {i5 : Int32} {i6 : Int32} {i7 : Int32} {i8 : Int32} {σ : Sg} {r : Int32} {τ : Sg} {H : Heap} {locs : List Loc} {ls : Array Slot}, X5_board_run n 201 a0 i1 i2 i3 i4 i5 i6 i7 i8 σ = some (r, τ) → Dy base D cI cJ σ H → va_S (fun q => base ≤ q) s.heap H locs → lv_has ls 9 [(0, .ref (base + a0)), (1, .int i1), (2, .int i2), (3, .int i3), (4, .int i4), (6, .int i6), (7, .int i7)] → W p l e (rmD 3 0 0) s m args below meth c H locs 0 0 (MQ below (QwI base D cI cJ r τ) args s 0 0 (fun q => base ≤ q)) (F0 m 201 ls []))) {a0 : Nat} {i1 : Int32} {i2 : Int32} {i3 : Int32} {i4 : Int32} {i5 : Int32} {i6 : Int32} {σ : Sg} {r : Int32} {τ : Sg} {H : Heap} {locs : List Loc} {ls : Array Slot} (h : X5_board_b51 n (X5_board_run n) a0 i1 i2 i3 i4 i5 i6 σ = some (r, τ)) : Dy base D cI cJ σ H → va_S (fun q => base ≤ q) s.heap H locs → lv_has ls 9 [(0, .ref (base + a0)), (1, .int i1), (2, .int i2), (3, .int i3), (4, .int i4), (5, .int i5), (6, .int i6)] → W p l e (rmD 3 0 0) s m args below meth c H locs 0 0 (MQ below (QwI base D cI cJ r τ) args s 0 0 (fun q => base ≤ q)) (F0 m 51 ls []) := by
  intro hP hS hl
  obtain ⟨hx, hb, hml, hown, hts⟩ := hC.1
  unfold X5_board_b51 at h
  refine lv_iload hx hb dX5_board_51 (lv_at hl 6 rfl) ?_
  refine lv_aload_n hx hb dX5_board_53 rfl (lv_at hl 0 rfl) ?_
  obtain ⟨v_1, hv_1, h⟩ := obn h
  refine w_getI (ci := 5) (j := 3) hC hP rfl inlX5 (by decide) (by decide) rfl hv_1 wl_127 dX5_board_54 ?_
  refine lv_icmp_ge (tgt := 158) hx hb dX5_board_57 (by decide) (fun c_2 => ?_) (fun c_2 => ?_)
  · rw [if_pos c_2] at h
    refine lv_iload hx hb dX5_board_158 (lv_at hl 4 rfl) ?_
    refine lv_if_ge (tgt := 176) hx hb dX5_board_160 (by decide) (fun c_3 => ?_) (fun c_3 => ?_)
    · rw [if_pos c_3] at h
      refine lv_aload_n hx hb dX5_board_176 rfl (lv_at hl 0 rfl) ?_
      obtain ⟨q_4, hq_4, h⟩ := obn h
      refine w_getR (ci := 5) (j := 18) hC hP rfl inlX5 (by decide) (by decide) rfl hq_4 wl_79 dX5_board_177 ?_
      refine lv_bipush (v := 10) hx hb dX5_board_180 (by decide) ?_
      refine lv_iload hx hb dX5_board_182 (lv_at hl 4 rfl) ?_
      refine lv_imul hx hb dX5_board_184 ?_
      refine lv_iload hx hb dX5_board_185 (lv_at hl 5 rfl) ?_
      refine lv_iadd hx hb dX5_board_187 ?_
      refine lv_iconst (v := 1) hx hb dX5_board_188 (by decide) ?_
      refine lv_isub hx hb dX5_board_189 ?_
      obtain ⟨v_5, hv_5, h⟩ := obn h
      refine w_iald hC hP hv_5 dX5_board_190 ?_
      refine lv_iload_n hx hb dX5_board_191 rfl (lv_at hl 2 rfl) ?_
      refine lv_isub hx hb dX5_board_192 ?_
      obtain ⟨i6_6, hi6_6, h⟩ := obn h
      refine w_eqi (Option.some.inj hi6_6) ?_
      refine lv_istore (lv' := [(6, .int i6_6), (0, .ref (base + a0)), (1, .int i1), (2, .int i2), (3, .int i3), (4, .int i4), (5, .int i5)]) hx hb dX5_board_193 hl (by decide) rfl (fun ls hl => ?_)
      refine lv_iload hx hb dX5_board_195 (lv_at hl 6 rfl) ?_
      refine lv_iconst (v := 1) hx hb dX5_board_197 (by decide) ?_
      refine lv_isub hx hb dX5_board_198 ?_
      obtain ⟨i7_7, hi7_7, h⟩ := obn h
      refine w_eqi (Option.some.inj hi7_7) ?_
      refine lv_istore (lv' := [(7, .int i7_7), (6, .int i6_6), (0, .ref (base + a0)), (1, .int i1), (2, .int i2), (3, .int i3), (4, .int i4), (5, .int i5)]) hx hb dX5_board_199 hl (by decide) rfl (fun ls hl => ?_)
      exact ih.2.2 h hP hS (lv_sub hl [2, 3, 4, 5, 6, 1, 0] rfl)
    · rw [if_neg c_3] at h
      refine lv_iload_n hx hb dX5_board_163 rfl (lv_at hl 3 rfl) ?_
      refine lv_iconst (v := 2) hx hb dX5_board_164 (by decide) ?_
      refine lv_icmp_ne (tgt := 173) hx hb dX5_board_165 (by decide) (fun c_8 => ?_) (fun c_8 => ?_)
      · rw [if_neg c_8] at h
        refine lv_bipush (v := (-6)) hx hb dX5_board_173 (by decide) ?_
        obtain ⟨rfl, rfl⟩ := Prod.mk.inj (Option.some.inj h)
        exact w_iret hC hr hlocks hP hS dX5_board_175
      · rw [if_pos c_8] at h
        refine lv_ldc (v := (-2000000000)) hx hb hown (hts _ wl_414) dX5_board_168 ?_
        refine lv_goto (tgt := 175) hx hb dX5_board_170 (by decide) ?_
        obtain ⟨rfl, rfl⟩ := Prod.mk.inj (Option.some.inj h)
        exact w_iret hC hr hlocks hP hS dX5_board_175
  · rw [if_neg c_2] at h
    refine lv_iconst (v := 0) hx hb dX5_board_60 (by decide) ?_
    refine lv_istore (lv' := [(7, .int 0), (0, .ref (base + a0)), (1, .int i1), (2, .int i2), (3, .int i3), (4, .int i4), (5, .int i5), (6, .int i6)]) hx hb dX5_board_61 hl (by decide) rfl (fun ls hl => ?_)
    refine lv_iconst (v := 0) hx hb dX5_board_63 (by decide) ?_
    refine lv_istore (lv' := [(8, .int 0), (7, .int 0), (0, .ref (base + a0)), (1, .int i1), (2, .int i2), (3, .int i3), (4, .int i4), (5, .int i5), (6, .int i6)]) hx hb dX5_board_64 hl (by decide) rfl (fun ls hl => ?_)
    exact ih.2.1 h hP hS (lv_sub hl [2, 3, 4, 5, 6, 7, 8, 1, 0] rfl)
set_option maxRecDepth 100000 in
set_option maxHeartbeats 4000000 in
theorem X5_board_k112 (hC : Cx p m c cX5_board 9 s args RX5 base D cI cJ tS) (hr : meth.sig.returnType = (some .int)) (hlocks : meth.locks = false) {n : Nat} (ih : (∀ {a0 : Nat} {i1 : Int32} {i2 : Int32} {i3 : Int32} {i4 : Int32} {i5 : Int32} {i6 : Int32} {i7 : Int32} {i8 : Int32} {σ : Sg} {r : Int32} {τ : Sg} {H : Heap} {locs : List Loc} {ls : Array Slot}, X5_board_run n 51 a0 i1 i2 i3 i4 i5 i6 i7 i8 σ = some (r, τ) → Dy base D cI cJ σ H → va_S (fun q => base ≤ q) s.heap H locs → lv_has ls 9 [(0, .ref (base + a0)), (1, .int i1), (2, .int i2), (3, .int i3), (4, .int i4), (5, .int i5), (6, .int i6)] → W p l e (rmD 3 0 0) s m args below meth c H locs 0 0 (MQ below (QwI base D cI cJ r τ) args s 0 0 (fun q => base ≤ q)) (F0 m 51 ls [])) ∧ (∀ {a0 : Nat} {i1 : Int32} {i2 : Int32} {i3 : Int32} {i4 : Int32} {i5 : Int32} {i6 : Int32} {i7 : Int32} {i8 : Int32} {σ : Sg} {r : Int32} {τ : Sg} {H : Heap} {locs : List Loc} {ls : Array Slot}, X5_board_run n 66 a0 i1 i2 i3 i4 i5 i6 i7 i8 σ = some (r, τ) → Dy base D cI cJ σ H → va_S (fun q => base ≤ q) s.heap H locs → lv_has ls 9 [(0, .ref (base + a0)), (1, .int i1), (2, .int i2), (3, .int i3), (4, .int i4), (5, .int i5), (6, .int i6), (7, .int i7), (8, .int i8)] → W p l e (rmD 3 0 0) s m args below meth c H locs 0 0 (MQ below (QwI base D cI cJ r τ) args s 0 0 (fun q => base ≤ q)) (F0 m 66 ls [])) ∧ (∀ {a0 : Nat} {i1 : Int32} {i2 : Int32} {i3 : Int32} {i4 : Int32} {i5 : Int32} {i6 : Int32} {i7 : Int32} {i8 : Int32} {σ : Sg} {r : Int32} {τ : Sg} {H : Heap} {locs : List Loc} {ls : Array Slot}, X5_board_run n 201 a0 i1 i2 i3 i4 i5 i6 i7 i8 σ = some (r, τ) → Dy base D cI cJ σ H → va_S (fun q => base ≤ q) s.heap H locs → lv_has ls 9 [(0, .ref (base + a0)), (1, .int i1), (2, .int i2), (3, .int i3), (4, .int i4), (6, .int i6), (7, .int i7)] → W p l e (rmD 3 0 0) s m args below meth c H locs 0 0 (MQ below (QwI base D cI cJ r τ) args s 0 0 (fun q => base ≤ q)) (F0 m 201 ls []))) {a0 : Nat} {i1 : Int32} {i2 : Int32} {i3 : Int32} {i4 : Int32} {i5 : Int32} {i6 : Int32} {i8 : Int32} {ti0 : Int32} {ti1 : Int32} {σ : Sg} {r : Int32} {τ : Sg} {H : Heap} {locs : List Loc} {ls : Array Slot} (h : X5_board_b112 n (X5_board_run n) a0 i1 i2 i3 i4 i5 i6 i8 ti0 ti1 σ = some (r, τ)) : Dy base D cI cJ σ H → va_S (fun q => base ≤ q) s.heap H locs → lv_has ls 9 [(0, .ref (base + a0)), (1, .int i1), (2, .int i2), (3, .int i3), (4, .int i4), (5, .int i5), (6, .int i6), (8, .int i8)] → W p l e (rmD 3 0 0) s m args below meth c H locs 0 0 (MQ below (QwI base D cI cJ r τ) args s 0 0 (fun q => base ≤ q)) (F0 m 112 ls [.int ti1, .int ti0]) := by
  intro hP hS hl
  obtain ⟨hx, hb, hml, hown, hts⟩ := hC.1
  unfold X5_board_b112 at h
  refine lv_iadd hx hb dX5_board_112 ?_
  obtain ⟨i7_9, hi7_9, h⟩ := obn h
  refine w_eqi (Option.some.inj hi7_9) ?_
  refine lv_istore (lv' := [(7, .int i7_9), (0, .ref (base + a0)), (1, .int i1), (2, .int i2), (3, .int i3), (4, .int i4), (5, .int i5), (6, .int i6), (8, .int i8)]) hx hb dX5_board_113 hl (by decide) rfl (fun ls hl => ?_)
  obtain ⟨i8_10, hi8_10, h⟩ := obn h
  refine lv_iinc (v := i8_10) (lv' := [(8, .int i8_10), (7, .int i7_9), (0, .ref (base + a0)), (1, .int i1), (2, .int i2), (3, .int i3), (4, .int i4), (5, .int i5), (6, .int i6)]) hx hb dX5_board_115 hl (k := 8) rfl (Option.some.inj hi8_10) (by decide) rfl (fun ls hl => ?_)
  refine lv_goto (tgt := 66) hx hb dX5_board_118 (by decide) ?_
  exact ih.2.1 h hP hS (lv_sub hl [2, 3, 4, 5, 6, 7, 8, 1, 0] rfl)
set_option maxRecDepth 100000 in
set_option maxHeartbeats 4000000 in
theorem X5_board_k111 (hC : Cx p m c cX5_board 9 s args RX5 base D cI cJ tS) (hr : meth.sig.returnType = (some .int)) (hlocks : meth.locks = false) {n : Nat} (ih : (∀ {a0 : Nat} {i1 : Int32} {i2 : Int32} {i3 : Int32} {i4 : Int32} {i5 : Int32} {i6 : Int32} {i7 : Int32} {i8 : Int32} {σ : Sg} {r : Int32} {τ : Sg} {H : Heap} {locs : List Loc} {ls : Array Slot}, X5_board_run n 51 a0 i1 i2 i3 i4 i5 i6 i7 i8 σ = some (r, τ) → Dy base D cI cJ σ H → va_S (fun q => base ≤ q) s.heap H locs → lv_has ls 9 [(0, .ref (base + a0)), (1, .int i1), (2, .int i2), (3, .int i3), (4, .int i4), (5, .int i5), (6, .int i6)] → W p l e (rmD 3 0 0) s m args below meth c H locs 0 0 (MQ below (QwI base D cI cJ r τ) args s 0 0 (fun q => base ≤ q)) (F0 m 51 ls [])) ∧ (∀ {a0 : Nat} {i1 : Int32} {i2 : Int32} {i3 : Int32} {i4 : Int32} {i5 : Int32} {i6 : Int32} {i7 : Int32} {i8 : Int32} {σ : Sg} {r : Int32} {τ : Sg} {H : Heap} {locs : List Loc} {ls : Array Slot}, X5_board_run n 66 a0 i1 i2 i3 i4 i5 i6 i7 i8 σ = some (r, τ) → Dy base D cI cJ σ H → va_S (fun q => base ≤ q) s.heap H locs → lv_has ls 9 [(0, .ref (base + a0)), (1, .int i1), (2, .int i2), (3, .int i3), (4, .int i4), (5, .int i5), (6, .int i6), (7, .int i7), (8, .int i8)] → W p l e (rmD 3 0 0) s m args below meth c H locs 0 0 (MQ below (QwI base D cI cJ r τ) args s 0 0 (fun q => base ≤ q)) (F0 m 66 ls [])) ∧ (∀ {a0 : Nat} {i1 : Int32} {i2 : Int32} {i3 : Int32} {i4 : Int32} {i5 : Int32} {i6 : Int32} {i7 : Int32} {i8 : Int32} {σ : Sg} {r : Int32} {τ : Sg} {H : Heap} {locs : List Loc} {ls : Array Slot}, X5_board_run n 201 a0 i1 i2 i3 i4 i5 i6 i7 i8 σ = some (r, τ) → Dy base D cI cJ σ H → va_S (fun q => base ≤ q) s.heap H locs → lv_has ls 9 [(0, .ref (base + a0)), (1, .int i1), (2, .int i2), (3, .int i3), (4, .int i4), (6, .int i6), (7, .int i7)] → W p l e (rmD 3 0 0) s m args below meth c H locs 0 0 (MQ below (QwI base D cI cJ r τ) args s 0 0 (fun q => base ≤ q)) (F0 m 201 ls []))) {a0 : Nat} {i1 : Int32} {i2 : Int32} {i3 : Int32} {i4 : Int32} {i5 : Int32} {i6 : Int32} {i8 : Int32} {ti0 : Int32} {σ : Sg} {r : Int32} {τ : Sg} {H : Heap} {locs : List Loc} {ls : Array Slot} (h : X5_board_b111 n (X5_board_run n) a0 i1 i2 i3 i4 i5 i6 i8 ti0 σ = some (r, τ)) : Dy base D cI cJ σ H → va_S (fun q => base ≤ q) s.heap H locs → lv_has ls 9 [(0, .ref (base + a0)), (1, .int i1), (2, .int i2), (3, .int i3), (4, .int i4), (5, .int i5), (6, .int i6), (8, .int i8)] → W p l e (rmD 3 0 0) s m args below meth c H locs 0 0 (MQ below (QwI base D cI cJ r τ) args s 0 0 (fun q => base ≤ q)) (F0 m 111 ls [.int ti0]) := by
  intro hP hS hl
  obtain ⟨hx, hb, hml, hown, hts⟩ := hC.1
  unfold X5_board_b111 at h
  refine lv_iconst (v := 0) hx hb dX5_board_111 (by decide) ?_
  exact X5_board_k112 hC hr hlocks ih h hP hS (lv_sub hl [0, 1, 2, 3, 4, 5, 6, 7] rfl)
set_option maxRecDepth 100000 in
set_option maxHeartbeats 4000000 in
theorem X5_board_k152 (hC : Cx p m c cX5_board 9 s args RX5 base D cI cJ tS) (hr : meth.sig.returnType = (some .int)) (hlocks : meth.locks = false) {n : Nat} (ih : (∀ {a0 : Nat} {i1 : Int32} {i2 : Int32} {i3 : Int32} {i4 : Int32} {i5 : Int32} {i6 : Int32} {i7 : Int32} {i8 : Int32} {σ : Sg} {r : Int32} {τ : Sg} {H : Heap} {locs : List Loc} {ls : Array Slot}, X5_board_run n 51 a0 i1 i2 i3 i4 i5 i6 i7 i8 σ = some (r, τ) → Dy base D cI cJ σ H → va_S (fun q => base ≤ q) s.heap H locs → lv_has ls 9 [(0, .ref (base + a0)), (1, .int i1), (2, .int i2), (3, .int i3), (4, .int i4), (5, .int i5), (6, .int i6)] → W p l e (rmD 3 0 0) s m args below meth c H locs 0 0 (MQ below (QwI base D cI cJ r τ) args s 0 0 (fun q => base ≤ q)) (F0 m 51 ls [])) ∧ (∀ {a0 : Nat} {i1 : Int32} {i2 : Int32} {i3 : Int32} {i4 : Int32} {i5 : Int32} {i6 : Int32} {i7 : Int32} {i8 : Int32} {σ : Sg} {r : Int32} {τ : Sg} {H : Heap} {locs : List Loc} {ls : Array Slot}, X5_board_run n 66 a0 i1 i2 i3 i4 i5 i6 i7 i8 σ = some (r, τ) → Dy base D cI cJ σ H → va_S (fun q => base ≤ q) s.heap H locs → lv_has ls 9 [(0, .ref (base + a0)), (1, .int i1), (2, .int i2), (3, .int i3), (4, .int i4), (5, .int i5), (6, .int i6), (7, .int i7), (8, .int i8)] → W p l e (rmD 3 0 0) s m args below meth c H locs 0 0 (MQ below (QwI base D cI cJ r τ) args s 0 0 (fun q => base ≤ q)) (F0 m 66 ls [])) ∧ (∀ {a0 : Nat} {i1 : Int32} {i2 : Int32} {i3 : Int32} {i4 : Int32} {i5 : Int32} {i6 : Int32} {i7 : Int32} {i8 : Int32} {σ : Sg} {r : Int32} {τ : Sg} {H : Heap} {locs : List Loc} {ls : Array Slot}, X5_board_run n 201 a0 i1 i2 i3 i4 i5 i6 i7 i8 σ = some (r, τ) → Dy base D cI cJ σ H → va_S (fun q => base ≤ q) s.heap H locs → lv_has ls 9 [(0, .ref (base + a0)), (1, .int i1), (2, .int i2), (3, .int i3), (4, .int i4), (6, .int i6), (7, .int i7)] → W p l e (rmD 3 0 0) s m args below meth c H locs 0 0 (MQ below (QwI base D cI cJ r τ) args s 0 0 (fun q => base ≤ q)) (F0 m 201 ls []))) {a0 : Nat} {i1 : Int32} {i2 : Int32} {i3 : Int32} {i4 : Int32} {i5 : Int32} {i6 : Int32} {σ : Sg} {r : Int32} {τ : Sg} {H : Heap} {locs : List Loc} {ls : Array Slot} (h : X5_board_b152 n (X5_board_run n) a0 i1 i2 i3 i4 i5 i6 σ = some (r, τ)) : Dy base D cI cJ σ H → va_S (fun q => base ≤ q) s.heap H locs → lv_has ls 9 [(0, .ref (base + a0)), (1, .int i1), (2, .int i2), (3, .int i3), (4, .int i4), (5, .int i5), (6, .int i6)] → W p l e (rmD 3 0 0) s m args below meth c H locs 0 0 (MQ below (QwI base D cI cJ r τ) args s 0 0 (fun q => base ≤ q)) (F0 m 152 ls []) := by
  intro hP hS hl
  obtain ⟨hx, hb, hml, hown, hts⟩ := hC.1
  unfold X5_board_b152 at h
  obtain ⟨i6_11, hi6_11, h⟩ := obn h
  refine lv_iinc (v := i6_11) (lv' := [(6, .int i6_11), (0, .ref (base + a0)), (1, .int i1), (2, .int i2), (3, .int i3), (4, .int i4), (5, .int i5)]) hx hb dX5_board_152 hl (k := 6) rfl (Option.some.inj hi6_11) (by decide) rfl (fun ls hl => ?_)
  refine lv_goto (tgt := 51) hx hb dX5_board_155 (by decide) ?_
  exact ih.1 h hP hS (lv_sub hl [1, 2, 3, 4, 5, 6, 0] rfl)
set_option maxRecDepth 100000 in
set_option maxHeartbeats 4000000 in
theorem X5_board_k66 (hC : Cx p m c cX5_board 9 s args RX5 base D cI cJ tS) (hr : meth.sig.returnType = (some .int)) (hlocks : meth.locks = false) {n : Nat} (ih : (∀ {a0 : Nat} {i1 : Int32} {i2 : Int32} {i3 : Int32} {i4 : Int32} {i5 : Int32} {i6 : Int32} {i7 : Int32} {i8 : Int32} {σ : Sg} {r : Int32} {τ : Sg} {H : Heap} {locs : List Loc} {ls : Array Slot}, X5_board_run n 51 a0 i1 i2 i3 i4 i5 i6 i7 i8 σ = some (r, τ) → Dy base D cI cJ σ H → va_S (fun q => base ≤ q) s.heap H locs → lv_has ls 9 [(0, .ref (base + a0)), (1, .int i1), (2, .int i2), (3, .int i3), (4, .int i4), (5, .int i5), (6, .int i6)] → W p l e (rmD 3 0 0) s m args below meth c H locs 0 0 (MQ below (QwI base D cI cJ r τ) args s 0 0 (fun q => base ≤ q)) (F0 m 51 ls [])) ∧ (∀ {a0 : Nat} {i1 : Int32} {i2 : Int32} {i3 : Int32} {i4 : Int32} {i5 : Int32} {i6 : Int32} {i7 : Int32} {i8 : Int32} {σ : Sg} {r : Int32} {τ : Sg} {H : Heap} {locs : List Loc} {ls : Array Slot}, X5_board_run n 66 a0 i1 i2 i3 i4 i5 i6 i7 i8 σ = some (r, τ) → Dy base D cI cJ σ H → va_S (fun q => base ≤ q) s.heap H locs → lv_has ls 9 [(0, .ref (base + a0)), (1, .int i1), (2, .int i2), (3, .int i3), (4, .int i4), (5, .int i5), (6, .int i6), (7, .int i7), (8, .int i8)] → W p l e (rmD 3 0 0) s m args below meth c H locs 0 0 (MQ below (QwI base D cI cJ r τ) args s 0 0 (fun q => base ≤ q)) (F0 m 66 ls [])) ∧ (∀ {a0 : Nat} {i1 : Int32} {i2 : Int32} {i3 : Int32} {i4 : Int32} {i5 : Int32} {i6 : Int32} {i7 : Int32} {i8 : Int32} {σ : Sg} {r : Int32} {τ : Sg} {H : Heap} {locs : List Loc} {ls : Array Slot}, X5_board_run n 201 a0 i1 i2 i3 i4 i5 i6 i7 i8 σ = some (r, τ) → Dy base D cI cJ σ H → va_S (fun q => base ≤ q) s.heap H locs → lv_has ls 9 [(0, .ref (base + a0)), (1, .int i1), (2, .int i2), (3, .int i3), (4, .int i4), (6, .int i6), (7, .int i7)] → W p l e (rmD 3 0 0) s m args below meth c H locs 0 0 (MQ below (QwI base D cI cJ r τ) args s 0 0 (fun q => base ≤ q)) (F0 m 201 ls []))) {a0 : Nat} {i1 : Int32} {i2 : Int32} {i3 : Int32} {i4 : Int32} {i5 : Int32} {i6 : Int32} {i7 : Int32} {i8 : Int32} {σ : Sg} {r : Int32} {τ : Sg} {H : Heap} {locs : List Loc} {ls : Array Slot} (h : X5_board_b66 n (X5_board_run n) a0 i1 i2 i3 i4 i5 i6 i7 i8 σ = some (r, τ)) : Dy base D cI cJ σ H → va_S (fun q => base ≤ q) s.heap H locs → lv_has ls 9 [(0, .ref (base + a0)), (1, .int i1), (2, .int i2), (3, .int i3), (4, .int i4), (5, .int i5), (6, .int i6), (7, .int i7), (8, .int i8)] → W p l e (rmD 3 0 0) s m args below meth c H locs 0 0 (MQ below (QwI base D cI cJ r τ) args s 0 0 (fun q => base ≤ q)) (F0 m 66 ls []) := by
  intro hP hS hl
  obtain ⟨hx, hb, hml, hown, hts⟩ := hC.1
  unfold X5_board_b66 at h
  refine lv_iload hx hb dX5_board_66 (lv_at hl 8 rfl) ?_
  refine lv_iload_n hx hb dX5_board_68 rfl (lv_at hl 1 rfl) ?_
  refine lv_icmp_ge (tgt := 121) hx hb dX5_board_69 (by decide) (fun c_12 => ?_) (fun c_12 => ?_)
  · rw [if_pos c_12] at h
    refine lv_aload_n hx hb dX5_board_121 rfl (lv_at hl 0 rfl) ?_
    obtain ⟨q_13, hq_13, h⟩ := obn h
    refine w_getR (ci := 5) (j := 17) hC hP rfl inlX5 (by decide) (by decide) rfl hq_13 wl_78 dX5_board_122 ?_
    refine lv_bipush (v := 10) hx hb dX5_board_125 (by decide) ?_
    refine lv_iload hx hb dX5_board_127 (lv_at hl 6 rfl) ?_
    refine lv_imul hx hb dX5_board_129 ?_
    refine lv_iload_n hx hb dX5_board_130 rfl (lv_at hl 1 rfl) ?_
    refine lv_iadd hx hb dX5_board_131 ?_
    obtain ⟨v_14, hv_14, h⟩ := obn h
    refine w_iald hC hP hv_14 dX5_board_132 ?_
    refine lv_iload_n hx hb dX5_board_133 rfl (lv_at hl 2 rfl) ?_
    refine lv_icmp_le (tgt := 152) hx hb dX5_board_134 (by decide) (fun c_15 => ?_) (fun c_15 => ?_)
    · rw [if_pos c_15] at h
      exact X5_board_k152 hC hr hlocks ih h hP hS (lv_sub hl [0, 1, 2, 3, 4, 5, 6] rfl)
    · rw [if_neg c_15] at h
      refine lv_iload hx hb dX5_board_137 (lv_at hl 7 rfl) ?_
      refine lv_iload hx hb dX5_board_139 (lv_at hl 5 rfl) ?_
      refine lv_icmp_le (tgt := 152) hx hb dX5_board_141 (by decide) (fun c_16 => ?_) (fun c_16 => ?_)
      · rw [if_pos c_16] at h
        exact X5_board_k152 hC hr hlocks ih h hP hS (lv_sub hl [0, 1, 2, 3, 4, 5, 6] rfl)
      · rw [if_neg c_16] at h
        refine lv_iload hx hb dX5_board_144 (lv_at hl 6 rfl) ?_
        refine lv_istore (lv' := [(4, .int i6), (0, .ref (base + a0)), (1, .int i1), (2, .int i2), (3, .int i3), (5, .int i5), (6, .int i6), (7, .int i7), (8, .int i8)]) hx hb dX5_board_146 hl (by decide) rfl (fun ls hl => ?_)
        refine lv_iload hx hb dX5_board_148 (lv_at hl 7 rfl) ?_
        refine lv_istore (lv' := [(5, .int i7), (4, .int i6), (0, .ref (base + a0)), (1, .int i1), (2, .int i2), (3, .int i3), (6, .int i6), (7, .int i7), (8, .int i8)]) hx hb dX5_board_150 hl (by decide) rfl (fun ls hl => ?_)
        exact X5_board_k152 hC hr hlocks ih h hP hS (lv_sub hl [2, 3, 4, 5, 1, 0, 6] rfl)
  · rw [if_neg c_12] at h
    refine lv_iload hx hb dX5_board_72 (lv_at hl 7 rfl) ?_
    refine lv_aload_n hx hb dX5_board_74 rfl (lv_at hl 0 rfl) ?_
    obtain ⟨q_17, hq_17, h⟩ := obn h
    refine w_getR (ci := 5) (j := 18) hC hP rfl inlX5 (by decide) (by decide) rfl hq_17 wl_79 dX5_board_75 ?_
    refine lv_bipush (v := 10) hx hb dX5_board_78 (by decide) ?_
    refine lv_iload hx hb dX5_board_80 (lv_at hl 6 rfl) ?_
    refine lv_imul hx hb dX5_board_82 ?_
    refine lv_iload hx hb dX5_board_83 (lv_at hl 8 rfl) ?_
    refine lv_iadd hx hb dX5_board_85 ?_
    obtain ⟨v_18, hv_18, h⟩ := obn h
    refine w_iald hC hP hv_18 dX5_board_86 ?_
    refine lv_if_lt (tgt := 111) hx hb dX5_board_87 (by decide) (fun c_19 => ?_) (fun c_19 => ?_)
    · rw [if_pos c_19] at h
      exact X5_board_k111 hC hr hlocks ih h hP hS (lv_sub hl [0, 1, 2, 3, 4, 5, 6, 8] rfl)
    · rw [if_neg c_19] at h
      refine lv_aload_n hx hb dX5_board_90 rfl (lv_at hl 0 rfl) ?_
      obtain ⟨q_20, hq_20, h⟩ := obn h
      refine w_getR (ci := 5) (j := 18) hC hP rfl inlX5 (by decide) (by decide) rfl hq_20 wl_79 dX5_board_91 ?_
      refine lv_bipush (v := 10) hx hb dX5_board_94 (by decide) ?_
      refine lv_iload hx hb dX5_board_96 (lv_at hl 6 rfl) ?_
      refine lv_imul hx hb dX5_board_98 ?_
      refine lv_iload hx hb dX5_board_99 (lv_at hl 8 rfl) ?_
      refine lv_iadd hx hb dX5_board_101 ?_
      obtain ⟨v_21, hv_21, h⟩ := obn h
      refine w_iald hC hP hv_21 dX5_board_102 ?_
      refine lv_iload_n hx hb dX5_board_103 rfl (lv_at hl 2 rfl) ?_
      refine lv_icmp_gt (tgt := 111) hx hb dX5_board_104 (by decide) (fun c_22 => ?_) (fun c_22 => ?_)
      · rw [if_pos c_22] at h
        exact X5_board_k111 hC hr hlocks ih h hP hS (lv_sub hl [0, 1, 2, 3, 4, 5, 6, 8] rfl)
      · rw [if_neg c_22] at h
        refine lv_iconst (v := 1) hx hb dX5_board_107 (by decide) ?_
        refine lv_goto (tgt := 112) hx hb dX5_board_108 (by decide) ?_
        exact X5_board_k112 hC hr hlocks ih h hP hS (lv_sub hl [0, 1, 2, 3, 4, 5, 6, 8] rfl)
set_option maxRecDepth 100000 in
set_option maxHeartbeats 4000000 in
theorem X5_board_k236 (hC : Cx p m c cX5_board 9 s args RX5 base D cI cJ tS) (hr : meth.sig.returnType = (some .int)) (hlocks : meth.locks = false) {n : Nat} (ih : (∀ {a0 : Nat} {i1 : Int32} {i2 : Int32} {i3 : Int32} {i4 : Int32} {i5 : Int32} {i6 : Int32} {i7 : Int32} {i8 : Int32} {σ : Sg} {r : Int32} {τ : Sg} {H : Heap} {locs : List Loc} {ls : Array Slot}, X5_board_run n 51 a0 i1 i2 i3 i4 i5 i6 i7 i8 σ = some (r, τ) → Dy base D cI cJ σ H → va_S (fun q => base ≤ q) s.heap H locs → lv_has ls 9 [(0, .ref (base + a0)), (1, .int i1), (2, .int i2), (3, .int i3), (4, .int i4), (5, .int i5), (6, .int i6)] → W p l e (rmD 3 0 0) s m args below meth c H locs 0 0 (MQ below (QwI base D cI cJ r τ) args s 0 0 (fun q => base ≤ q)) (F0 m 51 ls [])) ∧ (∀ {a0 : Nat} {i1 : Int32} {i2 : Int32} {i3 : Int32} {i4 : Int32} {i5 : Int32} {i6 : Int32} {i7 : Int32} {i8 : Int32} {σ : Sg} {r : Int32} {τ : Sg} {H : Heap} {locs : List Loc} {ls : Array Slot}, X5_board_run n 66 a0 i1 i2 i3 i4 i5 i6 i7 i8 σ = some (r, τ) → Dy base D cI cJ σ H → va_S (fun q => base ≤ q) s.heap H locs → lv_has ls 9 [(0, .ref (base + a0)), (1, .int i1), (2, .int i2), (3, .int i3), (4, .int i4), (5, .int i5), (6, .int i6), (7, .int i7), (8, .int i8)] → W p l e (rmD 3 0 0) s m args below meth c H locs 0 0 (MQ below (QwI base D cI cJ r τ) args s 0 0 (fun q => base ≤ q)) (F0 m 66 ls [])) ∧ (∀ {a0 : Nat} {i1 : Int32} {i2 : Int32} {i3 : Int32} {i4 : Int32} {i5 : Int32} {i6 : Int32} {i7 : Int32} {i8 : Int32} {σ : Sg} {r : Int32} {τ : Sg} {H : Heap} {locs : List Loc} {ls : Array Slot}, X5_board_run n 201 a0 i1 i2 i3 i4 i5 i6 i7 i8 σ = some (r, τ) → Dy base D cI cJ σ H → va_S (fun q => base ≤ q) s.heap H locs → lv_has ls 9 [(0, .ref (base + a0)), (1, .int i1), (2, .int i2), (3, .int i3), (4, .int i4), (6, .int i6), (7, .int i7)] → W p l e (rmD 3 0 0) s m args below meth c H locs 0 0 (MQ below (QwI base D cI cJ r τ) args s 0 0 (fun q => base ≤ q)) (F0 m 201 ls []))) {a0 : Nat} {i1 : Int32} {i2 : Int32} {i3 : Int32} {i4 : Int32} {ti0 : Int32} {σ : Sg} {r : Int32} {τ : Sg} {H : Heap} {locs : List Loc} {ls : Array Slot} (h : X5_board_b236 n (X5_board_run n) a0 i1 i2 i3 i4 ti0 σ = some (r, τ)) : Dy base D cI cJ σ H → va_S (fun q => base ≤ q) s.heap H locs → lv_has ls 9 [(0, .ref (base + a0)), (1, .int i1), (2, .int i2), (3, .int i3), (4, .int i4)] → W p l e (rmD 3 0 0) s m args below meth c H locs 0 0 (MQ below (QwI base D cI cJ r τ) args s 0 0 (fun q => base ≤ q)) (F0 m 236 ls [.int ti0]) := by
  intro hP hS hl
  obtain ⟨hx, hb, hml, hown, hts⟩ := hC.1
  unfold X5_board_b236 at h
  refine lv_istore (lv' := [(6, .int ti0), (0, .ref (base + a0)), (1, .int i1), (2, .int i2), (3, .int i3), (4, .int i4)]) hx hb dX5_board_236 hl (by decide) rfl (fun ls hl => ?_)
  refine lv_iload_n hx hb dX5_board_238 rfl (lv_at hl 4 rfl) ?_
  refine lv_if_ne (tgt := 247) hx hb dX5_board_239 (by decide) (fun c_23 => ?_) (fun c_23 => ?_)
  · rw [if_neg c_23] at h
    refine lv_iload_n hx hb dX5_board_247 rfl (lv_at hl 4 rfl) ?_
    refine lv_iconst (v := 1) hx hb dX5_board_248 (by decide) ?_
    refine lv_icmp_ne (tgt := 257) hx hb dX5_board_249 (by decide) (fun c_24 => ?_) (fun c_24 => ?_)
    · rw [if_neg c_24] at h
      refine lv_aload_n hx hb dX5_board_257 rfl (lv_at hl 1 rfl) ?_
      obtain ⟨q_25, hq_25, h⟩ := obn h
      refine w_getR (ci := 5) (j := 17) hC hP rfl inlX5 (by decide) (by decide) rfl hq_25 wl_78 dX5_board_258 ?_
      refine lv_bipush (v := 10) hx hb dX5_board_261 (by decide) ?_
      refine lv_iload hx hb dX5_board_263 (lv_at hl 5 rfl) ?_
      refine lv_imul hx hb dX5_board_265 ?_
      refine lv_iload_n hx hb dX5_board_266 rfl (lv_at hl 2 rfl) ?_
      refine lv_iadd hx hb dX5_board_267 ?_
      obtain ⟨v_26, hv_26, h⟩ := obn h
      refine w_iald hC hP hv_26 dX5_board_268 ?_
      refine lv_iload_n hx hb dX5_board_269 rfl (lv_at hl 3 rfl) ?_
      refine lv_isub hx hb dX5_board_270 ?_
      refine lv_iload hx hb dX5_board_271 (lv_at hl 0 rfl) ?_
      refine lv_isub hx hb dX5_board_273 ?_
      obtain ⟨rfl, rfl⟩ := Prod.mk.inj (Option.some.inj h)
      exact w_iret hC hr hlocks hP hS dX5_board_274
    · rw [if_pos c_24] at h
      refine lv_iload hx hb dX5_board_252 (lv_at hl 5 rfl) ?_
      refine lv_goto (tgt := 274) hx hb dX5_board_254 (by decide) ?_
      obtain ⟨rfl, rfl⟩ := Prod.mk.inj (Option.some.inj h)
      exact w_iret hC hr hlocks hP hS dX5_board_274
  · rw [if_pos c_23] at h
    refine lv_iload hx hb dX5_board_242 (lv_at hl 0 rfl) ?_
    refine lv_goto (tgt := 274) hx hb dX5_board_244 (by decide) ?_
    obtain ⟨rfl, rfl⟩ := Prod.mk.inj (Option.some.inj h)
    exact w_iret hC hr hlocks hP hS dX5_board_274
set_option maxRecDepth 100000 in
set_option maxHeartbeats 4000000 in
theorem X5_board_k201 (hC : Cx p m c cX5_board 9 s args RX5 base D cI cJ tS) (hr : meth.sig.returnType = (some .int)) (hlocks : meth.locks = false) {n : Nat} (ih : (∀ {a0 : Nat} {i1 : Int32} {i2 : Int32} {i3 : Int32} {i4 : Int32} {i5 : Int32} {i6 : Int32} {i7 : Int32} {i8 : Int32} {σ : Sg} {r : Int32} {τ : Sg} {H : Heap} {locs : List Loc} {ls : Array Slot}, X5_board_run n 51 a0 i1 i2 i3 i4 i5 i6 i7 i8 σ = some (r, τ) → Dy base D cI cJ σ H → va_S (fun q => base ≤ q) s.heap H locs → lv_has ls 9 [(0, .ref (base + a0)), (1, .int i1), (2, .int i2), (3, .int i3), (4, .int i4), (5, .int i5), (6, .int i6)] → W p l e (rmD 3 0 0) s m args below meth c H locs 0 0 (MQ below (QwI base D cI cJ r τ) args s 0 0 (fun q => base ≤ q)) (F0 m 51 ls [])) ∧ (∀ {a0 : Nat} {i1 : Int32} {i2 : Int32} {i3 : Int32} {i4 : Int32} {i5 : Int32} {i6 : Int32} {i7 : Int32} {i8 : Int32} {σ : Sg} {r : Int32} {τ : Sg} {H : Heap} {locs : List Loc} {ls : Array Slot}, X5_board_run n 66 a0 i1 i2 i3 i4 i5 i6 i7 i8 σ = some (r, τ) → Dy base D cI cJ σ H → va_S (fun q => base ≤ q) s.heap H locs → lv_has ls 9 [(0, .ref (base + a0)), (1, .int i1), (2, .int i2), (3, .int i3), (4, .int i4), (5, .int i5), (6, .int i6), (7, .int i7), (8, .int i8)] → W p l e (rmD 3 0 0) s m args below meth c H locs 0 0 (MQ below (QwI base D cI cJ r τ) args s 0 0 (fun q => base ≤ q)) (F0 m 66 ls [])) ∧ (∀ {a0 : Nat} {i1 : Int32} {i2 : Int32} {i3 : Int32} {i4 : Int32} {i5 : Int32} {i6 : Int32} {i7 : Int32} {i8 : Int32} {σ : Sg} {r : Int32} {τ : Sg} {H : Heap} {locs : List Loc} {ls : Array Slot}, X5_board_run n 201 a0 i1 i2 i3 i4 i5 i6 i7 i8 σ = some (r, τ) → Dy base D cI cJ σ H → va_S (fun q => base ≤ q) s.heap H locs → lv_has ls 9 [(0, .ref (base + a0)), (1, .int i1), (2, .int i2), (3, .int i3), (4, .int i4), (6, .int i6), (7, .int i7)] → W p l e (rmD 3 0 0) s m args below meth c H locs 0 0 (MQ below (QwI base D cI cJ r τ) args s 0 0 (fun q => base ≤ q)) (F0 m 201 ls []))) {a0 : Nat} {i1 : Int32} {i2 : Int32} {i3 : Int32} {i4 : Int32} {i6 : Int32} {i7 : Int32} {σ : Sg} {r : Int32} {τ : Sg} {H : Heap} {locs : List Loc} {ls : Array Slot} (h : X5_board_b201 n (X5_board_run n) a0 i1 i2 i3 i4 i6 i7 σ = some (r, τ)) : Dy base D cI cJ σ H → va_S (fun q => base ≤ q) s.heap H locs → lv_has ls 9 [(0, .ref (base + a0)), (1, .int i1), (2, .int i2), (3, .int i3), (4, .int i4), (6, .int i6), (7, .int i7)] → W p l e (rmD 3 0 0) s m args below meth c H locs 0 0 (MQ below (QwI base D cI cJ r τ) args s 0 0 (fun q => base ≤ q)) (F0 m 201 ls []) := by
  intro hP hS hl
  obtain ⟨hx, hb, hml, hown, hts⟩ := hC.1
  unfold X5_board_b201 at h
  refine lv_iload hx hb dX5_board_201 (lv_at hl 6 rfl) ?_
  refine lv_iload_n hx hb dX5_board_203 rfl (lv_at hl 1 rfl) ?_
  refine lv_icmp_ge (tgt := 225) hx hb dX5_board_204 (by decide) (fun c_27 => ?_) (fun c_27 => ?_)
  · rw [if_pos c_27] at h
    refine lv_iload hx hb dX5_board_225 (lv_at hl 5 rfl) ?_
    refine lv_if_ge (tgt := 234) hx hb dX5_board_227 (by decide) (fun c_28 => ?_) (fun c_28 => ?_)
    · rw [if_pos c_28] at h
      refine lv_iload hx hb dX5_board_234 (lv_at hl 5 rfl) ?_
      exact X5_board_k236 hC hr hlocks ih h hP hS (lv_sub hl [0, 1, 2, 3, 4] rfl)
    · rw [if_neg c_28] at h
      refine lv_iconst (v := 0) hx hb dX5_board_230 (by decide) ?_
      refine lv_goto (tgt := 236) hx hb dX5_board_231 (by decide) ?_
      exact X5_board_k236 hC hr hlocks ih h hP hS (lv_sub hl [0, 1, 2, 3, 4] rfl)
  · rw [if_neg c_27] at h
    refine lv_iload hx hb dX5_board_207 (lv_at hl 5 rfl) ?_
    refine lv_aload_n hx hb dX5_board_209 rfl (lv_at hl 0 rfl) ?_
    obtain ⟨q_29, hq_29, h⟩ := obn h
    refine w_getR (ci := 5) (j := 0) hC hP rfl inlX5 (by decide) (by decide) rfl hq_29 wl_65 dX5_board_210 ?_
    refine lv_iload hx hb dX5_board_213 (lv_at hl 6 rfl) ?_
    obtain ⟨v_30, hv_30, h⟩ := obn h
    refine w_iald hC hP hv_30 dX5_board_215 ?_
    refine lv_iadd hx hb dX5_board_216 ?_
    obtain ⟨i6_31, hi6_31, h⟩ := obn h
    refine w_eqi (Option.some.inj hi6_31) ?_
    refine lv_istore (lv' := [(6, .int i6_31), (0, .ref (base + a0)), (1, .int i1), (2, .int i2), (3, .int i3), (4, .int i4), (7, .int i7)]) hx hb dX5_board_217 hl (by decide) rfl (fun ls hl => ?_)
    obtain ⟨i7_32, hi7_32, h⟩ := obn h
    refine lv_iinc (v := i7_32) (lv' := [(7, .int i7_32), (6, .int i6_31), (0, .ref (base + a0)), (1, .int i1), (2, .int i2), (3, .int i3), (4, .int i4)]) hx hb dX5_board_219 hl (k := 6) rfl (Option.some.inj hi7_32) (by decide) rfl (fun ls hl => ?_)
    refine lv_goto (tgt := 201) hx hb dX5_board_222 (by decide) ?_
    exact ih.2.2 h hP hS (lv_sub hl [2, 3, 4, 5, 6, 1, 0] rfl)
set_option maxRecDepth 100000 in
set_option maxHeartbeats 4000000 in
theorem X5_board_k32 (hC : Cx p m c cX5_board 9 s args RX5 base D cI cJ tS) (hr : meth.sig.returnType = (some .int)) (hlocks : meth.locks = false) {n : Nat} (ih : (∀ {a0 : Nat} {i1 : Int32} {i2 : Int32} {i3 : Int32} {i4 : Int32} {i5 : Int32} {i6 : Int32} {i7 : Int32} {i8 : Int32} {σ : Sg} {r : Int32} {τ : Sg} {H : Heap} {locs : List Loc} {ls : Array Slot}, X5_board_run n 51 a0 i1 i2 i3 i4 i5 i6 i7 i8 σ = some (r, τ) → Dy base D cI cJ σ H → va_S (fun q => base ≤ q) s.heap H locs → lv_has ls 9 [(0, .ref (base + a0)), (1, .int i1), (2, .int i2), (3, .int i3), (4, .int i4), (5, .int i5), (6, .int i6)] → W p l e (rmD 3 0 0) s m args below meth c H locs 0 0 (MQ below (QwI base D cI cJ r τ) args s 0 0 (fun q => base ≤ q)) (F0 m 51 ls [])) ∧ (∀ {a0 : Nat} {i1 : Int32} {i2 : Int32} {i3 : Int32} {i4 : Int32} {i5 : Int32} {i6 : Int32} {i7 : Int32} {i8 : Int32} {σ : Sg} {r : Int32} {τ : Sg} {H : Heap} {locs : List Loc} {ls : Array Slot}, X5_board_run n 66 a0 i1 i2 i3 i4 i5 i6 i7 i8 σ = some (r, τ) → Dy base D cI cJ σ H → va_S (fun q => base ≤ q) s.heap H locs → lv_has ls 9 [(0, .ref (base + a0)), (1, .int i1), (2, .int i2), (3, .int i3), (4, .int i4), (5, .int i5), (6, .int i6), (7, .int i7), (8, .int i8)] → W p l e (rmD 3 0 0) s m args below meth c H locs 0 0 (MQ below (QwI base D cI cJ r τ) args s 0 0 (fun q => base ≤ q)) (F0 m 66 ls [])) ∧ (∀ {a0 : Nat} {i1 : Int32} {i2 : Int32} {i3 : Int32} {i4 : Int32} {i5 : Int32} {i6 : Int32} {i7 : Int32} {i8 : Int32} {σ : Sg} {r : Int32} {τ : Sg} {H : Heap} {locs : List Loc} {ls : Array Slot}, X5_board_run n 201 a0 i1 i2 i3 i4 i5 i6 i7 i8 σ = some (r, τ) → Dy base D cI cJ σ H → va_S (fun q => base ≤ q) s.heap H locs → lv_has ls 9 [(0, .ref (base + a0)), (1, .int i1), (2, .int i2), (3, .int i3), (4, .int i4), (6, .int i6), (7, .int i7)] → W p l e (rmD 3 0 0) s m args below meth c H locs 0 0 (MQ below (QwI base D cI cJ r τ) args s 0 0 (fun q => base ≤ q)) (F0 m 201 ls []))) {σ : Sg} {r : Int32} {τ : Sg} {H : Heap} {locs : List Loc} {ls : Array Slot} (h : X5_board_b32 n (X5_board_run n) σ = some (r, τ)) : Dy base D cI cJ σ H → va_S (fun q => base ≤ q) s.heap H locs → lv_has ls 9 [] → W p l e (rmD 3 0 0) s m args below meth c H locs 0 0 (MQ below (QwI base D cI cJ r τ) args s 0 0 (fun q => base ≤ q)) (F0 m 32 ls []) := by
  intro hP hS hl
  obtain ⟨hx, hb, hml, hown, hts⟩ := hC.1
  unfold X5_board_b32 at h
  refine lv_bipush (v := (-2)) hx hb dX5_board_32 (by decide) ?_
  obtain ⟨rfl, rfl⟩ := Prod.mk.inj (Option.some.inj h)
  exact w_iret hC hr hlocks hP hS dX5_board_34
set_option maxRecDepth 100000 in
set_option maxHeartbeats 4000000 in
theorem X5_board_k0 (hC : Cx p m c cX5_board 9 s args RX5 base D cI cJ tS) (hr : meth.sig.returnType = (some .int)) (hlocks : meth.locks = false) {n : Nat} (ih : (∀ {a0 : Nat} {i1 : Int32} {i2 : Int32} {i3 : Int32} {i4 : Int32} {i5 : Int32} {i6 : Int32} {i7 : Int32} {i8 : Int32} {σ : Sg} {r : Int32} {τ : Sg} {H : Heap} {locs : List Loc} {ls : Array Slot}, X5_board_run n 51 a0 i1 i2 i3 i4 i5 i6 i7 i8 σ = some (r, τ) → Dy base D cI cJ σ H → va_S (fun q => base ≤ q) s.heap H locs → lv_has ls 9 [(0, .ref (base + a0)), (1, .int i1), (2, .int i2), (3, .int i3), (4, .int i4), (5, .int i5), (6, .int i6)] → W p l e (rmD 3 0 0) s m args below meth c H locs 0 0 (MQ below (QwI base D cI cJ r τ) args s 0 0 (fun q => base ≤ q)) (F0 m 51 ls [])) ∧ (∀ {a0 : Nat} {i1 : Int32} {i2 : Int32} {i3 : Int32} {i4 : Int32} {i5 : Int32} {i6 : Int32} {i7 : Int32} {i8 : Int32} {σ : Sg} {r : Int32} {τ : Sg} {H : Heap} {locs : List Loc} {ls : Array Slot}, X5_board_run n 66 a0 i1 i2 i3 i4 i5 i6 i7 i8 σ = some (r, τ) → Dy base D cI cJ σ H → va_S (fun q => base ≤ q) s.heap H locs → lv_has ls 9 [(0, .ref (base + a0)), (1, .int i1), (2, .int i2), (3, .int i3), (4, .int i4), (5, .int i5), (6, .int i6), (7, .int i7), (8, .int i8)] → W p l e (rmD 3 0 0) s m args below meth c H locs 0 0 (MQ below (QwI base D cI cJ r τ) args s 0 0 (fun q => base ≤ q)) (F0 m 66 ls [])) ∧ (∀ {a0 : Nat} {i1 : Int32} {i2 : Int32} {i3 : Int32} {i4 : Int32} {i5 : Int32} {i6 : Int32} {i7 : Int32} {i8 : Int32} {σ : Sg} {r : Int32} {τ : Sg} {H : Heap} {locs : List Loc} {ls : Array Slot}, X5_board_run n 201 a0 i1 i2 i3 i4 i5 i6 i7 i8 σ = some (r, τ) → Dy base D cI cJ σ H → va_S (fun q => base ≤ q) s.heap H locs → lv_has ls 9 [(0, .ref (base + a0)), (1, .int i1), (2, .int i2), (3, .int i3), (4, .int i4), (6, .int i6), (7, .int i7)] → W p l e (rmD 3 0 0) s m args below meth c H locs 0 0 (MQ below (QwI base D cI cJ r τ) args s 0 0 (fun q => base ≤ q)) (F0 m 201 ls []))) {a0 : Nat} {i1 : Int32} {i2 : Int32} {i3 : Int32} {σ : Sg} {r : Int32} {τ : Sg} {H : Heap} {locs : List Loc} {ls : Array Slot} (h : X5_board_b0 n (X5_board_run n) a0 i1 i2 i3 σ = some (r, τ)) : Dy base D cI cJ σ H → va_S (fun q => base ≤ q) s.heap H locs → lv_has ls 9 [(0, .ref (base + a0)), (1, .int i1), (2, .int i2), (3, .int i3)] → W p l e (rmD 3 0 0) s m args below meth c H locs 0 0 (MQ below (QwI base D cI cJ r τ) args s 0 0 (fun q => base ≤ q)) (F0 m 0 ls []) := by
  intro hP hS hl
  obtain ⟨hx, hb, hml, hown, hts⟩ := hC.1
  unfold X5_board_b0 at h
  refine lv_iload_n hx hb dX5_board_0 rfl (lv_at hl 1 rfl) ?_
  refine lv_iconst (v := 1) hx hb dX5_board_1 (by decide) ?_
  refine lv_bipush (v := 9) hx hb dX5_board_2 (by decide) ?_
  obtain ⟨w_33, hw_33, h⟩ := obn h
  refine k_I (r_stat (As := [.int i1, .int 1, .int 9]) (rest := []) hC hP hS (c_X5_in (l := l) (base := base) (D := D) (cI := cI) (cJ := cJ) (tS := tS) hw_33) wl_111 wl_112 wl_113 wl_110 rfl rfl hd_X5_in ⟨Nat.le_of_ble_eq_true rfl, Nat.le_of_ble_eq_true rfl⟩ rfl hl.1 rfl (Nat.le_of_ble_eq_true rfl) dX5_board_4 ⟨Nat.le_of_ble_eq_true rfl, Nat.le_of_ble_eq_true rfl⟩) hS (fun H locs hP hS => ?_)
  refine lv_if_ne (tgt := 12) hx hb dX5_board_7 (by decide) (fun c_34 => ?_) (fun c_34 => ?_)
  · rw [if_neg c_34] at h
    refine lv_iload_n hx hb dX5_board_12 rfl (lv_at hl 2 rfl) ?_
    refine lv_iconst (v := 0) hx hb dX5_board_13 (by decide) ?_
    refine lv_sipush (v := 20000) hx hb dX5_board_14 (by decide) ?_
    obtain ⟨w_35, hw_35, h⟩ := obn h
    refine k_I (r_stat (As := [.int i2, .int 0, .int 20000]) (rest := []) hC hP hS (c_X5_in (l := l) (base := base) (D := D) (cI := cI) (cJ := cJ) (tS := tS) hw_35) wl_111 wl_112 wl_113 wl_110 rfl rfl hd_X5_in ⟨Nat.le_of_ble_eq_true rfl, Nat.le_of_ble_eq_true rfl⟩ rfl hl.1 rfl (Nat.le_of_ble_eq_true rfl) dX5_board_17 ⟨Nat.le_of_ble_eq_true rfl, Nat.le_of_ble_eq_true rfl⟩) hS (fun H locs hP hS => ?_)
    refine lv_if_eq (tgt := 32) hx hb dX5_board_20 (by decide) (fun c_36 => ?_) (fun c_36 => ?_)
    · rw [if_pos c_36] at h
      exact X5_board_k32 hC hr hlocks ih h hP hS (lv_sub hl [] rfl)
    · rw [if_neg c_36] at h
      refine lv_iload_n hx hb dX5_board_23 rfl (lv_at hl 3 rfl) ?_
      refine lv_iconst (v := 0) hx hb dX5_board_24 (by decide) ?_
      refine lv_iconst (v := 2) hx hb dX5_board_25 (by decide) ?_
      obtain ⟨w_37, hw_37, h⟩ := obn h
      refine k_I (r_stat (As := [.int i3, .int 0, .int 2]) (rest := []) hC hP hS (c_X5_in (l := l) (base := base) (D := D) (cI := cI) (cJ := cJ) (tS := tS) hw_37) wl_111 wl_112 wl_113 wl_110 rfl rfl hd_X5_in ⟨Nat.le_of_ble_eq_true rfl, Nat.le_of_ble_eq_true rfl⟩ rfl hl.1 rfl (Nat.le_of_ble_eq_true rfl) dX5_board_26 ⟨Nat.le_of_ble_eq_true rfl, Nat.le_of_ble_eq_true rfl⟩) hS (fun H locs hP hS => ?_)
      refine lv_if_ne (tgt := 35) hx hb dX5_board_29 (by decide) (fun c_38 => ?_) (fun c_38 => ?_)
      · rw [if_neg c_38] at h
        refine lv_aload_n hx hb dX5_board_35 rfl (lv_at hl 0 rfl) ?_
        refine lv_bipush (v := (-6)) hx hb dX5_board_36 (by decide) ?_
        obtain ⟨u_39, hu_39, h⟩ := obn h
        obtain ⟨w_40, hw_40, h⟩ := obn h
        refine k_V (r_virt (As := [.int (-6)]) (rest := []) hC hP hS (ci := 5) rfl (by decide) hu_39 (c_X5_lay (l := l) (base := base) (D := D) (cI := cI) (cJ := cJ) (tS := tS) hw_40) wl_280 wl_281 wl_282 wl_113 wl_279 rfl rfl hd_X5_lay ⟨Nat.le_of_ble_eq_true rfl, Nat.le_of_ble_eq_true rfl⟩ rfl hl.1 rfl (Nat.le_of_ble_eq_true rfl) dX5_board_38 ⟨Nat.le_of_ble_eq_true rfl, Nat.le_of_ble_eq_true rfl⟩) hS (fun H locs hP hS => ?_)
        refine lv_bipush (v := (-6)) hx hb dX5_board_41 (by decide) ?_
        refine lv_istore (lv' := [(4, .int (-6)), (0, .ref (base + a0)), (1, .int i1), (2, .int i2), (3, .int i3)]) hx hb dX5_board_43 hl (by decide) rfl (fun ls hl => ?_)
        refine lv_iconst (v := 0) hx hb dX5_board_45 (by decide) ?_
        refine lv_istore (lv' := [(5, .int 0), (4, .int (-6)), (0, .ref (base + a0)), (1, .int i1), (2, .int i2), (3, .int i3)]) hx hb dX5_board_46 hl (by decide) rfl (fun ls hl => ?_)
        refine lv_iconst (v := 0) hx hb dX5_board_48 (by decide) ?_
        refine lv_istore (lv' := [(6, .int 0), (5, .int 0), (4, .int (-6)), (0, .ref (base + a0)), (1, .int i1), (2, .int i2), (3, .int i3)]) hx hb dX5_board_49 hl (by decide) rfl (fun ls hl => ?_)
        exact ih.1 h hP hS (lv_sub hl [3, 4, 5, 6, 2, 1, 0] rfl)
      · rw [if_pos c_38] at h
        exact X5_board_k32 hC hr hlocks ih h hP hS (lv_sub hl [] rfl)
  · rw [if_pos c_34] at h
    refine lv_iconst (v := (-1)) hx hb dX5_board_10 (by decide) ?_
    obtain ⟨rfl, rfl⟩ := Prod.mk.inj (Option.some.inj h)
    exact w_iret hC hr hlocks hP hS dX5_board_11
set_option maxRecDepth 100000 in
set_option maxHeartbeats 4000000 in
theorem X5_board_all (hC : Cx p m c cX5_board 9 s args RX5 base D cI cJ tS) (hr : meth.sig.returnType = (some .int)) (hlocks : meth.locks = false) : ∀ n : Nat, (∀ {a0 : Nat} {i1 : Int32} {i2 : Int32} {i3 : Int32} {i4 : Int32} {i5 : Int32} {i6 : Int32} {i7 : Int32} {i8 : Int32} {σ : Sg} {r : Int32} {τ : Sg} {H : Heap} {locs : List Loc} {ls : Array Slot}, X5_board_run n 51 a0 i1 i2 i3 i4 i5 i6 i7 i8 σ = some (r, τ) → Dy base D cI cJ σ H → va_S (fun q => base ≤ q) s.heap H locs → lv_has ls 9 [(0, .ref (base + a0)), (1, .int i1), (2, .int i2), (3, .int i3), (4, .int i4), (5, .int i5), (6, .int i6)] → W p l e (rmD 3 0 0) s m args below meth c H locs 0 0 (MQ below (QwI base D cI cJ r τ) args s 0 0 (fun q => base ≤ q)) (F0 m 51 ls [])) ∧ (∀ {a0 : Nat} {i1 : Int32} {i2 : Int32} {i3 : Int32} {i4 : Int32} {i5 : Int32} {i6 : Int32} {i7 : Int32} {i8 : Int32} {σ : Sg} {r : Int32} {τ : Sg} {H : Heap} {locs : List Loc} {ls : Array Slot}, X5_board_run n 66 a0 i1 i2 i3 i4 i5 i6 i7 i8 σ = some (r, τ) → Dy base D cI cJ σ H → va_S (fun q => base ≤ q) s.heap H locs → lv_has ls 9 [(0, .ref (base + a0)), (1, .int i1), (2, .int i2), (3, .int i3), (4, .int i4), (5, .int i5), (6, .int i6), (7, .int i7), (8, .int i8)] → W p l e (rmD 3 0 0) s m args below meth c H locs 0 0 (MQ below (QwI base D cI cJ r τ) args s 0 0 (fun q => base ≤ q)) (F0 m 66 ls [])) ∧ (∀ {a0 : Nat} {i1 : Int32} {i2 : Int32} {i3 : Int32} {i4 : Int32} {i5 : Int32} {i6 : Int32} {i7 : Int32} {i8 : Int32} {σ : Sg} {r : Int32} {τ : Sg} {H : Heap} {locs : List Loc} {ls : Array Slot}, X5_board_run n 201 a0 i1 i2 i3 i4 i5 i6 i7 i8 σ = some (r, τ) → Dy base D cI cJ σ H → va_S (fun q => base ≤ q) s.heap H locs → lv_has ls 9 [(0, .ref (base + a0)), (1, .int i1), (2, .int i2), (3, .int i3), (4, .int i4), (6, .int i6), (7, .int i7)] → W p l e (rmD 3 0 0) s m args below meth c H locs 0 0 (MQ below (QwI base D cI cJ r τ) args s 0 0 (fun q => base ≤ q)) (F0 m 201 ls [])) := by
  intro n
  induction n with
  | zero => exact ⟨fun h => (by cases h), fun h => (by cases h), fun h => (by cases h)⟩
  | succ n ih => exact ⟨fun h => X5_board_k51 hC hr hlocks ih h, fun h => X5_board_k66 hC hr hlocks ih h, fun h => X5_board_k201 hC hr hlocks ih h⟩
set_option maxRecDepth 100000 in
set_option maxHeartbeats 4000000 in
theorem c_X5_board {l : Launch} {base : Nat} {D : va_G} {cI cJ : ClassId} {tS : Nat} {n : Nat} {a0 : Nat} {i1 : Int32} {i2 : Int32} {i3 : Int32} {σ : Sg} {r : Int32} {τ : Sg} (h : f_X5_board n a0 i1 i2 i3 σ = some (r, τ)) : Met l yX5_board (.code yX5_board cX5_board 9 (some .int) :: wsL_law) (rmD 3 0 0) (Pw base D cI cJ tS σ [.ref (base + a0), .int i1, .int i2, .int i3]) (QwI base D cI cJ r τ) 0 0 (fun q => base ≤ q) := by
  refine Met.ofW (cc := cX5_board) (maxL := 9) (ret := (some .int)) (by decide) rfl ?_
  intro p e s m args below meth c s₁ B hml hv
  obtain ⟨rfl, hSt, hP⟩ := hv
  have hC : Cx p m c cX5_board 9 s _ RX5 base D cI cJ tS := ⟨⟨B.exec, B.bytes, hml, findClass_of_methodNamed B.named, fun w hw => atoms_spec (ws := Cond.code yX5_board cX5_board 9 (some .int) :: wsL_law) B.pre w (List.mem_cons_of_mem _ hw)⟩, hSt⟩
  have hl := lv_entry ([.ref (base + a0), .int i1, .int i2, .int i3]) (n := 9) (Nat.le_of_ble_eq_true rfl)
  rw [lg_entry_eq]
  generalize (lg_sl ([.ref (base + a0), .int i1, .int i2, .int i3]) ++ List.replicate (9 - (lg_sl ([.ref (base + a0), .int i1, .int i2, .int i3])).length) Slot.unset).toArray = ls at hl ⊢
  exact X5_board_k0 hC B.returns B.notSynchronized (X5_board_all hC B.returns B.notSynchronized n) h hP va_S.rf hl
-- ===== X2_keepOnlyGap
set_option maxRecDepth 100000 in
set_option maxHeartbeats 4000000 in
theorem X2_keepOnlyGap_k0 (hC : Cx p m c cX2_keepOnlyGap 3 s args RX2 base D cI cJ tS) (hr : meth.sig.returnType = none) (hlocks : meth.locks = false) {n : Nat} {a0 : Nat} {i1 : Int32} {i2 : Int32} {σ : Sg} {τ : Sg} {H : Heap} {locs : List Loc} {ls : Array Slot} (h : f_X2_keepOnlyGap n a0 i1 i2 σ = some τ) : Dy base D cI cJ σ H → va_S (fun q => base ≤ q) s.heap H locs → lv_has ls 3 [(0, .ref (base + a0)), (1, .int i1), (2, .int i2)] → W p l e (rmD 2 0 0) s m args below meth c H locs 0 0 (MQ below (QwV base D cI cJ τ) args s 0 0 (fun q => base ≤ q)) (F0 m 0 ls []) := by
  intro hP hS hl
  obtain ⟨hx, hb, hml, hown, hts⟩ := hC.1
  unfold f_X2_keepOnlyGap at h
  refine lv_aload_n hx hb dX2_keepOnlyGap_0 rfl (lv_at hl 0 rfl) ?_
  obtain ⟨u_1, hu_1, h⟩ := obn h
  obtain ⟨w_2, hw_2, h⟩ := obn h
  refine k_V (r_virt (As := []) (rest := []) hC hP hS (ci := 2) rfl (by decide) hu_1 (c_X2_clear (l := l) (base := base) (D := D) (cI := cI) (cJ := cJ) (tS := tS) hw_2) wl_428 wl_322 wl_323 wl_59 wl_320 rfl rfl hd_X2_clear ⟨Nat.le_of_ble_eq_true rfl, Nat.le_of_ble_eq_true rfl⟩ rfl hl.1 rfl (Nat.le_of_ble_eq_true rfl) dX2_keepOnlyGap_1 ⟨Nat.le_of_ble_eq_true rfl, Nat.le_of_ble_eq_true rfl⟩) hS (fun H locs hP hS => ?_)
  refine lv_aload_n hx hb dX2_keepOnlyGap_4 rfl (lv_at hl 0 rfl) ?_
  obtain ⟨q_3, hq_3, h⟩ := obn h
  refine w_getR (ci := 2) (j := 0) hC hP rfl inlX2 (by decide) (by decide) rfl hq_3 wl_34 dX2_keepOnlyGap_5 ?_
  refine lv_iload_n hx hb dX2_keepOnlyGap_8 rfl (lv_at hl 1 rfl) ?_
  refine lv_bipush (v := 103) hx hb dX2_keepOnlyGap_9 (by decide) ?_
  obtain ⟨s_4, hs_4, h⟩ := obn h
  refine w_iast hC hP hS hs_4 dX2_keepOnlyGap_11 (fun H locs hP hS => ?_)
  refine lv_aload_n hx hb dX2_keepOnlyGap_12 rfl (lv_at hl 0 rfl) ?_
  obtain ⟨q_5, hq_5, h⟩ := obn h
  refine w_getR (ci := 2) (j := 1) hC hP rfl inlX2 (by decide) (by decide) rfl hq_5 wl_35 dX2_keepOnlyGap_13 ?_
  refine lv_iload_n hx hb dX2_keepOnlyGap_16 rfl (lv_at hl 1 rfl) ?_
  refine lv_iload_n hx hb dX2_keepOnlyGap_17 rfl (lv_at hl 2 rfl) ?_
  obtain ⟨s_6, hs_6, h⟩ := obn h
  refine w_iast hC hP hS hs_6 dX2_keepOnlyGap_18 (fun H locs hP hS => ?_)
  refine lv_aload_n hx hb dX2_keepOnlyGap_19 rfl (lv_at hl 0 rfl) ?_
  refine lv_iconst (v := 1) hx hb dX2_keepOnlyGap_20 (by decide) ?_
  obtain ⟨s_7, hs_7, h⟩ := obn h
  refine w_putI (ci := 2) (j := 2) hC hP hS rfl inlX2 tyX2 tyX2_ok nmX2 (by decide) (by decide) rfl rfl rfl rfl hs_7 wl_291 dX2_keepOnlyGap_21 (fun H locs hP hS => ?_)
  obtain rfl := Option.some.inj h
  exact w_vret hC hr hlocks hP hS dX2_keepOnlyGap_24
set_option maxRecDepth 100000 in
set_option maxHeartbeats 4000000 in
theorem c_X2_keepOnlyGap {l : Launch} {base : Nat} {D : va_G} {cI cJ : ClassId} {tS : Nat} {n : Nat} {a0 : Nat} {i1 : Int32} {i2 : Int32} {σ : Sg} {τ : Sg} (h : f_X2_keepOnlyGap n a0 i1 i2 σ = some τ) : Met l yX2_keepOnlyGap (.code yX2_keepOnlyGap cX2_keepOnlyGap 3 none :: wsL_law) (rmD 2 0 0) (Pw base D cI cJ tS σ [.ref (base + a0), .int i1, .int i2]) (QwV base D cI cJ τ) 0 0 (fun q => base ≤ q) := by
  refine Met.ofW (cc := cX2_keepOnlyGap) (maxL := 3) (ret := none) (by decide) rfl ?_
  intro p e s m args below meth c s₁ B hml hv
  obtain ⟨rfl, hSt, hP⟩ := hv
  have hC : Cx p m c cX2_keepOnlyGap 3 s _ RX2 base D cI cJ tS := ⟨⟨B.exec, B.bytes, hml, findClass_of_methodNamed B.named, fun w hw => atoms_spec (ws := Cond.code yX2_keepOnlyGap cX2_keepOnlyGap 3 none :: wsL_law) B.pre w (List.mem_cons_of_mem _ hw)⟩, hSt⟩
  have hl := lv_entry ([.ref (base + a0), .int i1, .int i2]) (n := 3) (Nat.le_of_ble_eq_true rfl)
  rw [lg_entry_eq]
  generalize (lg_sl ([.ref (base + a0), .int i1, .int i2]) ++ List.replicate (3 - (lg_sl ([.ref (base + a0), .int i1, .int i2])).length) Slot.unset).toArray = ls at hl ⊢
  exact X2_keepOnlyGap_k0 hC B.returns B.notSynchronized h hP va_S.rf hl
-- ===== X4_findBest
set_option maxRecDepth 100000 in
set_option maxHeartbeats 4000000 in
theorem X4_findBest_k17 (hC : Cx p m c cX4_findBest 8 s args RX4 base D cI cJ tS) (hr : meth.sig.returnType = none) (hlocks : meth.locks = false) {n : Nat} (ih : (∀ {a0 : Nat} {j1 : Int64} {i3 : Int32} {i4 : Int32} {σ : Sg} {τ : Sg} {H : Heap} {locs : List Loc} {ls : Array Slot}, X4_findBest_run n 17 a0 j1 i3 i4 σ = some τ → Dy base D cI cJ σ H → va_S (fun q => base ≤ q) s.heap H locs → lv_has ls 8 [(0, .ref (base + a0)), (1, .long j1), (3, .int i3)] → W p l e (rmD 6 0 0) s m args below meth c H locs 0 0 (MQ below (QwV base D cI cJ τ) args s 0 0 (fun q => base ≤ q)) (F0 m 17 ls [])) ∧ (∀ {a0 : Nat} {j1 : Int64} {i3 : Int32} {i4 : Int32} {σ : Sg} {τ : Sg} {H : Heap} {locs : List Loc} {ls : Array Slot}, X4_findBest_run n 26 a0 j1 i3 i4 σ = some τ → Dy base D cI cJ σ H → va_S (fun q => base ≤ q) s.heap H locs → lv_has ls 8 [(0, .ref (base + a0)), (1, .long j1), (3, .int i3), (4, .int i4)] → W p l e (rmD 6 0 0) s m args below meth c H locs 0 0 (MQ below (QwV base D cI cJ τ) args s 0 0 (fun q => base ≤ q)) (F0 m 26 ls []))) {a0 : Nat} {j1 : Int64} {i3 : Int32} {σ : Sg} {τ : Sg} {H : Heap} {locs : List Loc} {ls : Array Slot} (h : X4_findBest_b17 n (X4_findBest_run n) a0 j1 i3 σ = some τ) : Dy base D cI cJ σ H → va_S (fun q => base ≤ q) s.heap H locs → lv_has ls 8 [(0, .ref (base + a0)), (1, .long j1), (3, .int i3)] → W p l e (rmD 6 0 0) s m args below meth c H locs 0 0 (MQ below (QwV base D cI cJ τ) args s 0 0 (fun q => base ≤ q)) (F0 m 17 ls []) := by
  intro hP hS hl
  obtain ⟨hx, hb, hml, hown, hts⟩ := hC.1
  unfold X4_findBest_b17 at h
  refine lv_iload_n hx hb dX4_findBest_17 rfl (lv_at hl 2 rfl) ?_
  refine lv_bipush (v := 9) hx hb dX4_findBest_18 (by decide) ?_
  refine lv_icmp_ge (tgt := 143) hx hb dX4_findBest_20 (by decide) (fun c_1 => ?_) (fun c_1 => ?_)
  · rw [if_pos c_1] at h
    obtain rfl := Option.some.inj h
    exact w_vret hC hr hlocks hP hS dX4_findBest_143
  · rw [if_neg c_1] at h
    refine lv_iconst (v := 0) hx hb dX4_findBest_23 (by decide) ?_
    refine lv_istore (lv' := [(4, .int 0), (0, .ref (base + a0)), (1, .long j1), (3, .int i3)]) hx hb dX4_findBest_24 hl (by decide) rfl (fun ls hl => ?_)
    exact ih.2 h hP hS (lv_sub hl [1, 2, 3, 0] rfl)
set_option maxRecDepth 100000 in
set_option maxHeartbeats 4000000 in
theorem X4_findBest_k131 (hC : Cx p m c cX4_findBest 8 s args RX4 base D cI cJ tS) (hr : meth.sig.returnType = none) (hlocks : meth.locks = false) {n : Nat} (ih : (∀ {a0 : Nat} {j1 : Int64} {i3 : Int32} {i4 : Int32} {σ : Sg} {τ : Sg} {H : Heap} {locs : List Loc} {ls : Array Slot}, X4_findBest_run n 17 a0 j1 i3 i4 σ = some τ → Dy base D cI cJ σ H → va_S (fun q => base ≤ q) s.heap H locs → lv_has ls 8 [(0, .ref (base + a0)), (1, .long j1), (3, .int i3)] → W p l e (rmD 6 0 0) s m args below meth c H locs 0 0 (MQ below (QwV base D cI cJ τ) args s 0 0 (fun q => base ≤ q)) (F0 m 17 ls [])) ∧ (∀ {a0 : Nat} {j1 : Int64} {i3 : Int32} {i4 : Int32} {σ : Sg} {τ : Sg} {H : Heap} {locs : List Loc} {ls : Array Slot}, X4_findBest_run n 26 a0 j1 i3 i4 σ = some τ → Dy base D cI cJ σ H → va_S (fun q => base ≤ q) s.heap H locs → lv_has ls 8 [(0, .ref (base + a0)), (1, .long j1), (3, .int i3), (4, .int i4)] → W p l e (rmD 6 0 0) s m args below meth c H locs 0 0 (MQ below (QwV base D cI cJ τ) args s 0 0 (fun q => base ≤ q)) (F0 m 26 ls []))) {a0 : Nat} {j1 : Int64} {i3 : Int32} {i4 : Int32} {σ : Sg} {τ : Sg} {H : Heap} {locs : List Loc} {ls : Array Slot} (h : X4_findBest_b131 n (X4_findBest_run n) a0 j1 i3 i4 σ = some τ) : Dy base D cI cJ σ H → va_S (fun q => base ≤ q) s.heap H locs → lv_has ls 8 [(0, .ref (base + a0)), (1, .long j1), (3, .int i3), (4, .int i4)] → W p l e (rmD 6 0 0) s m args below meth c H locs 0 0 (MQ below (QwV base D cI cJ τ) args s 0 0 (fun q => base ≤ q)) (F0 m 131 ls []) := by
  intro hP hS hl
  obtain ⟨hx, hb, hml, hown, hts⟩ := hC.1
  unfold X4_findBest_b131 at h
  obtain ⟨i4_2, hi4_2, h⟩ := obn h
  refine lv_iinc (v := i4_2) (lv' := [(4, .int i4_2), (0, .ref (base + a0)), (1, .long j1), (3, .int i3)]) hx hb dX4_findBest_131 hl (k := 3) rfl (Option.some.inj hi4_2) (by decide) rfl (fun ls hl => ?_)
  refine lv_goto (tgt := 26) hx hb dX4_findBest_134 (by decide) ?_
  exact ih.2 h hP hS (lv_sub hl [1, 2, 3, 0] rfl)
set_option maxRecDepth 100000 in
set_option maxHeartbeats 4000000 in
theorem X4_findBest_k117 (hC : Cx p m c cX4_findBest 8 s args RX4 base D cI cJ tS) (hr : meth.sig.returnType = none) (hlocks : meth.locks = false) {n : Nat} (ih : (∀ {a0 : Nat} {j1 : Int64} {i3 : Int32} {i4 : Int32} {σ : Sg} {τ : Sg} {H : Heap} {locs : List Loc} {ls : Array Slot}, X4_findBest_run n 17 a0 j1 i3 i4 σ = some τ → Dy base D cI cJ σ H → va_S (fun q => base ≤ q) s.heap H locs → lv_has ls 8 [(0, .ref (base + a0)), (1, .long j1), (3, .int i3)] → W p l e (rmD 6 0 0) s m args below meth c H locs 0 0 (MQ below (QwV base D cI cJ τ) args s 0 0 (fun q => base ≤ q)) (F0 m 17 ls [])) ∧ (∀ {a0 : Nat} {j1 : Int64} {i3 : Int32} {i4 : Int32} {σ : Sg} {τ : Sg} {H : Heap} {locs : List Loc} {ls : Array Slot}, X4_findBest_run n 26 a0 j1 i3 i4 σ = some τ → Dy base D cI cJ σ H → va_S (fun q => base ≤ q) s.heap H locs → lv_has ls 8 [(0, .ref (base + a0)), (1, .long j1), (3, .int i3), (4, .int i4)] → W p l e (rmD 6 0 0) s m args below meth c H locs 0 0 (MQ below (QwV base D cI cJ τ) args s 0 0 (fun q => base ≤ q)) (F0 m 26 ls []))) {a0 : Nat} {i3 : Int32} {i4 : Int32} {j5 : Int64} {σ : Sg} {τ : Sg} {H : Heap} {locs : List Loc} {ls : Array Slot} (h : X4_findBest_b117 n (X4_findBest_run n) a0 i3 i4 j5 σ = some τ) : Dy base D cI cJ σ H → va_S (fun q => base ≤ q) s.heap H locs → lv_has ls 8 [(0, .ref (base + a0)), (3, .int i3), (4, .int i4), (5, .long j5)] → W p l e (rmD 6 0 0) s m args below meth c H locs 0 0 (MQ below (QwV base D cI cJ τ) args s 0 0 (fun q => base ≤ q)) (F0 m 117 ls []) := by
  intro hP hS hl
  obtain ⟨hx, hb, hml, hown, hts⟩ := hC.1
  unfold X4_findBest_b117 at h
  refine lv_lload hx hb dX4_findBest_117 (lv_at hl 3 rfl) ?_
  refine lv_lstore_n (lv' := [(1, .long j5), (0, .ref (base + a0)), (3, .int i3), (4, .int i4), (5, .long j5)]) hx hb dX4_findBest_119 rfl hl (by decide) rfl (fun ls hl => ?_)
  refine lv_aload_n hx hb dX4_findBest_120 rfl (lv_at hl 1 rfl) ?_
  refine lv_iload_n hx hb dX4_findBest_121 rfl (lv_at hl 2 rfl) ?_
  obtain ⟨s_3, hs_3, h⟩ := obn h
  refine w_putI (ci := 4) (j := 8) hC hP hS rfl inlX4 tyX4 tyX4_ok nmX4 (by decide) (by decide) rfl rfl rfl rfl hs_3 wl_429 dX4_findBest_122 (fun H locs hP hS => ?_)
  refine lv_aload_n hx hb dX4_findBest_125 rfl (lv_at hl 1 rfl) ?_
  refine lv_iload hx hb dX4_findBest_126 (lv_at hl 3 rfl) ?_
  obtain ⟨s_4, hs_4, h⟩ := obn h
  refine w_putI (ci := 4) (j := 9) hC hP hS rfl inlX4 tyX4 tyX4_ok nmX4 (by decide) (by decide) rfl rfl rfl rfl hs_4 wl_430 dX4_findBest_128 (fun H locs hP hS => ?_)
  exact X4_findBest_k131 hC hr hlocks ih h hP hS (lv_sub hl [1, 0, 2, 3] rfl)
set_option maxRecDepth 100000 in
set_option maxHeartbeats 4000000 in
theorem X4_findBest_k103 (hC : Cx p m c cX4_findBest 8 s args RX4 base D cI cJ tS) (hr : meth.sig.returnType = none) (hlocks : meth.locks = false) {n : Nat} (ih : (∀ {a0 : Nat} {j1 : Int64} {i3 : Int32} {i4 : Int32} {σ : Sg} {τ : Sg} {H : Heap} {locs : List Loc} {ls : Array Slot}, X4_findBest_run n 17 a0 j1 i3 i4 σ = some τ → Dy base D cI cJ σ H → va_S (fun q => base ≤ q) s.heap H locs → lv_has ls 8 [(0, .ref (base + a0)), (1, .long j1), (3, .int i3)] → W p l e (rmD 6 0 0) s m args below meth c H locs 0 0 (MQ below (QwV base D cI cJ τ) args s 0 0 (fun q => base ≤ q)) (F0 m 17 ls [])) ∧ (∀ {a0 : Nat} {j1 : Int64} {i3 : Int32} {i4 : Int32} {σ : Sg} {τ : Sg} {H : Heap} {locs : List Loc} {ls : Array Slot}, X4_findBest_run n 26 a0 j1 i3 i4 σ = some τ → Dy base D cI cJ σ H → va_S (fun q => base ≤ q) s.heap H locs → lv_has ls 8 [(0, .ref (base + a0)), (1, .long j1), (3, .int i3), (4, .int i4)] → W p l e (rmD 6 0 0) s m args below meth c H locs 0 0 (MQ below (QwV base D cI cJ τ) args s 0 0 (fun q => base ≤ q)) (F0 m 26 ls []))) {a0 : Nat} {j1 : Int64} {i3 : Int32} {i4 : Int32} {j5 : Int64} {ti0 : Int32} {σ : Sg} {τ : Sg} {H : Heap} {locs : List Loc} {ls : Array Slot} (h : X4_findBest_b103 n (X4_findBest_run n) a0 j1 i3 i4 j5 ti0 σ = some τ) : Dy base D cI cJ σ H → va_S (fun q => base ≤ q) s.heap H locs → lv_has ls 8 [(0, .ref (base + a0)), (1, .long j1), (3, .int i3), (4, .int i4), (5, .long j5)] → W p l e (rmD 6 0 0) s m args below meth c H locs 0 0 (MQ below (QwV base D cI cJ τ) args s 0 0 (fun q => base ≤ q)) (F0 m 103 ls [.int ti0]) := by
  intro hP hS hl
  obtain ⟨hx, hb, hml, hown, hts⟩ := hC.1
  unfold X4_findBest_b103 at h
  refine lv_istore (lv' := [(7, .int ti0), (0, .ref (base + a0)), (1, .long j1), (3, .int i3), (4, .int i4), (5, .long j5)]) hx hb dX4_findBest_103 hl (by decide) rfl (fun ls hl => ?_)
  refine lv_iload hx hb dX4_findBest_105 (lv_at hl 0 rfl) ?_
  refine lv_if_ne (tgt := 117) hx hb dX4_findBest_107 (by decide) (fun c_5 => ?_) (fun c_5 => ?_)
  · rw [if_neg c_5] at h
    exact X4_findBest_k117 hC hr hlocks ih h hP hS (lv_sub hl [1, 3, 4, 5] rfl)
  · rw [if_pos c_5] at h
    refine lv_lload hx hb dX4_findBest_110 (lv_at hl 5 rfl) ?_
    refine lv_lload_n hx hb dX4_findBest_112 rfl (lv_at hl 2 rfl) ?_
    refine W.lcmp hx hb dX4_findBest_113 ?_
    refine lv_if_ge (tgt := 131) hx hb dX4_findBest_114 (by decide) (fun c_6 => ?_) (fun c_6 => ?_)
    · rw [if_pos c_6] at h
      exact X4_findBest_k131 hC hr hlocks ih h hP hS (lv_sub hl [1, 2, 3, 4] rfl)
    · rw [if_neg c_6] at h
      exact X4_findBest_k117 hC hr hlocks ih h hP hS (lv_sub hl [1, 3, 4, 5] rfl)
set_option maxRecDepth 100000 in
set_option maxHeartbeats 4000000 in
theorem X4_findBest_k102 (hC : Cx p m c cX4_findBest 8 s args RX4 base D cI cJ tS) (hr : meth.sig.returnType = none) (hlocks : meth.locks = false) {n : Nat} (ih : (∀ {a0 : Nat} {j1 : Int64} {i3 : Int32} {i4 : Int32} {σ : Sg} {τ : Sg} {H : Heap} {locs : List Loc} {ls : Array Slot}, X4_findBest_run n 17 a0 j1 i3 i4 σ = some τ → Dy base D cI cJ σ H → va_S (fun q => base ≤ q) s.heap H locs → lv_has ls 8 [(0, .ref (base + a0)), (1, .long j1), (3, .int i3)] → W p l e (rmD 6 0 0) s m args below meth c H locs 0 0 (MQ below (QwV base D cI cJ τ) args s 0 0 (fun q => base ≤ q)) (F0 m 17 ls [])) ∧ (∀ {a0 : Nat} {j1 : Int64} {i3 : Int32} {i4 : Int32} {σ : Sg} {τ : Sg} {H : Heap} {locs : List Loc} {ls : Array Slot}, X4_findBest_run n 26 a0 j1 i3 i4 σ = some τ → Dy base D cI cJ σ H → va_S (fun q => base ≤ q) s.heap H locs → lv_has ls 8 [(0, .ref (base + a0)), (1, .long j1), (3, .int i3), (4, .int i4)] → W p l e (rmD 6 0 0) s m args below meth c H locs 0 0 (MQ below (QwV base D cI cJ τ) args s 0 0 (fun q => base ≤ q)) (F0 m 26 ls []))) {a0 : Nat} {j1 : Int64} {i3 : Int32} {i4 : Int32} {j5 : Int64} {σ : Sg} {τ : Sg} {H : Heap} {locs : List Loc} {ls : Array Slot} (h : X4_findBest_b102 n (X4_findBest_run n) a0 j1 i3 i4 j5 σ = some τ) : Dy base D cI cJ σ H → va_S (fun q => base ≤ q) s.heap H locs → lv_has ls 8 [(0, .ref (base + a0)), (1, .long j1), (3, .int i3), (4, .int i4), (5, .long j5)] → W p l e (rmD 6 0 0) s m args below meth c H locs 0 0 (MQ below (QwV base D cI cJ τ) args s 0 0 (fun q => base ≤ q)) (F0 m 102 ls []) := by
  intro hP hS hl
  obtain ⟨hx, hb, hml, hown, hts⟩ := hC.1
  unfold X4_findBest_b102 at h
  refine lv_iconst (v := 0) hx hb dX4_findBest_102 (by decide) ?_
  exact X4_findBest_k103 hC hr hlocks ih h hP hS (lv_sub hl [0, 1, 2, 3, 4] rfl)
set_option maxRecDepth 100000 in
set_option maxHeartbeats 4000000 in
theorem X4_findBest_k26 (hC : Cx p m c cX4_findBest 8 s args RX4 base D cI cJ tS) (hr : meth.sig.returnType = none) (hlocks : meth.locks = false) {n : Nat} (ih : (∀ {a0 : Nat} {j1 : Int64} {i3 : Int32} {i4 : Int32} {σ : Sg} {τ : Sg} {H : Heap} {locs : List Loc} {ls : Array Slot}, X4_findBest_run n 17 a0 j1 i3 i4 σ = some τ → Dy base D cI cJ σ H → va_S (fun q => base ≤ q) s.heap H locs → lv_has ls 8 [(0, .ref (base + a0)), (1, .long j1), (3, .int i3)] → W p l e (rmD 6 0 0) s m args below meth c H locs 0 0 (MQ below (QwV base D cI cJ τ) args s 0 0 (fun q => base ≤ q)) (F0 m 17 ls [])) ∧ (∀ {a0 : Nat} {j1 : Int64} {i3 : Int32} {i4 : Int32} {σ : Sg} {τ : Sg} {H : Heap} {locs : List Loc} {ls : Array Slot}, X4_findBest_run n 26 a0 j1 i3 i4 σ = some τ → Dy base D cI cJ σ H → va_S (fun q => base ≤ q) s.heap H locs → lv_has ls 8 [(0, .ref (base + a0)), (1, .long j1), (3, .int i3), (4, .int i4)] → W p l e (rmD 6 0 0) s m args below meth c H locs 0 0 (MQ below (QwV base D cI cJ τ) args s 0 0 (fun q => base ≤ q)) (F0 m 26 ls []))) {a0 : Nat} {j1 : Int64} {i3 : Int32} {i4 : Int32} {σ : Sg} {τ : Sg} {H : Heap} {locs : List Loc} {ls : Array Slot} (h : X4_findBest_b26 n (X4_findBest_run n) a0 j1 i3 i4 σ = some τ) : Dy base D cI cJ σ H → va_S (fun q => base ≤ q) s.heap H locs → lv_has ls 8 [(0, .ref (base + a0)), (1, .long j1), (3, .int i3), (4, .int i4)] → W p l e (rmD 6 0 0) s m args below meth c H locs 0 0 (MQ below (QwV base D cI cJ τ) args s 0 0 (fun q => base ≤ q)) (F0 m 26 ls []) := by
  intro hP hS hl
  obtain ⟨hx, hb, hml, hown, hts⟩ := hC.1
  unfold X4_findBest_b26 at h
  refine lv_iload hx hb dX4_findBest_26 (lv_at hl 3 rfl) ?_
  refine lv_sipush (v := 600) hx hb dX4_findBest_28 (by decide) ?_
  refine lv_icmp_gt (tgt := 137) hx hb dX4_findBest_31 (by decide) (fun c_7 => ?_) (fun c_7 => ?_)
  · rw [if_pos c_7] at h
    obtain ⟨i3_8, hi3_8, h⟩ := obn h
    refine lv_iinc (v := i3_8) (lv' := [(3, .int i3_8), (0, .ref (base + a0)), (1, .long j1), (4, .int i4)]) hx hb dX4_findBest_137 hl (k := 2) rfl (Option.some.inj hi3_8) (by decide) rfl (fun ls hl => ?_)
    refine lv_goto (tgt := 17) hx hb dX4_findBest_140 (by decide) ?_
    exact ih.1 h hP hS (lv_sub hl [1, 2, 0] rfl)
  · rw [if_neg c_7] at h
    refine lv_aload_n hx hb dX4_findBest_34 rfl (lv_at hl 0 rfl) ?_
    obtain ⟨q_9, hq_9, h⟩ := obn h
    refine w_getR (ci := 4) (j := 5) hC hP rfl inlX4 (by decide) (by decide) rfl hq_9 wl_63 dX4_findBest_35 ?_
    refine lv_iload_n hx hb dX4_findBest_38 rfl (lv_at hl 2 rfl) ?_
    refine lv_iload hx hb dX4_findBest_39 (lv_at hl 3 rfl) ?_
    obtain ⟨u_10, hu_10, h⟩ := obn h
    obtain ⟨w_11, hw_11, h⟩ := obn h
    refine k_V (r_virt (As := [.int i3, .int i4]) (rest := []) hC hP hS (ci := 2) rfl (by decide) hu_10 (c_X2_keepOnlyGap (l := l) (base := base) (D := D) (cI := cI) (cJ := cJ) (tS := tS) hw_11) wl_432 wl_433 wl_434 wl_59 wl_431 rfl rfl hd_X2_keepOnlyGap ⟨Nat.le_of_ble_eq_true rfl, Nat.le_of_ble_eq_true rfl⟩ rfl hl.1 rfl (Nat.le_of_ble_eq_true rfl) dX4_findBest_41 ⟨Nat.le_of_ble_eq_true rfl, Nat.le_of_ble_eq_true rfl⟩) hS (fun H locs hP hS => ?_)
    refine lv_aload_n hx hb dX4_findBest_44 rfl (lv_at hl 0 rfl) ?_
    obtain ⟨q_12, hq_12, h⟩ := obn h
    refine w_getR (ci := 4) (j := 3) hC hP rfl inlX4 (by decide) (by decide) rfl hq_12 wl_56 dX4_findBest_45 ?_
    refine lv_aload_n hx hb dX4_findBest_48 rfl (lv_at hl 0 rfl) ?_
    obtain ⟨q_13, hq_13, h⟩ := obn h
    refine w_getR (ci := 4) (j := 0) hC hP rfl inlX4 (by decide) (by decide) rfl hq_13 wl_43 dX4_findBest_49 ?_
    refine lv_aload_n hx hb dX4_findBest_52 rfl (lv_at hl 0 rfl) ?_
    obtain ⟨q_14, hq_14, h⟩ := obn h
    refine w_getR (ci := 4) (j := 5) hC hP rfl inlX4 (by decide) (by decide) rfl hq_14 wl_63 dX4_findBest_53 ?_
    obtain ⟨u_15, hu_15, h⟩ := obn h
    obtain ⟨w_16, hw_16, h⟩ := obn h
    refine k_V (r_virt (As := [.ref (base + q_13), .ref (base + q_14)]) (rest := []) hC hP hS (ci := 0) rfl (by decide) hu_15 (c_X0_play (l := l) (base := base) (D := D) (cI := cI) (cJ := cJ) (tS := tS) hw_16) wl_240 wl_241 wl_242 wl_52 wl_239 rfl rfl hd_X0_play ⟨Nat.le_of_ble_eq_true rfl, Nat.le_of_ble_eq_true rfl⟩ rfl hl.1 rfl (Nat.le_of_ble_eq_true rfl) dX4_findBest_56 ⟨Nat.le_of_ble_eq_true rfl, Nat.le_of_ble_eq_true rfl⟩) hS (fun H locs hP hS => ?_)
    refine lv_aload_n hx hb dX4_findBest_59 rfl (lv_at hl 0 rfl) ?_
    obtain ⟨q_17, hq_17, h⟩ := obn h
    refine w_getR (ci := 4) (j := 3) hC hP rfl inlX4 (by decide) (by decide) rfl hq_17 wl_56 dX4_findBest_60 ?_
    obtain ⟨u_18, hu_18, h⟩ := obn h
    obtain ⟨w_19, hw_19, h⟩ := obn h
    refine k_J (r_virt (As := []) (rest := []) hC hP hS (ci := 0) rfl (by decide) hu_18 (c_X0_sumOfWaits (l := l) (base := base) (D := D) (cI := cI) (cJ := cJ) (tS := tS) hw_19) wl_403 wl_404 wl_405 wl_52 wl_402 rfl rfl hd_X0_sumOfWaits ⟨Nat.le_of_ble_eq_true rfl, Nat.le_of_ble_eq_true rfl⟩ rfl hl.1 rfl (Nat.le_of_ble_eq_true rfl) dX4_findBest_63 ⟨Nat.le_of_ble_eq_true rfl, Nat.le_of_ble_eq_true rfl⟩) hS (fun H locs hP hS => ?_)
    refine lv_aload_n hx hb dX4_findBest_66 rfl (lv_at hl 0 rfl) ?_
    obtain ⟨q_20, hq_20, h⟩ := obn h
    refine w_getR (ci := 4) (j := 3) hC hP rfl inlX4 (by decide) (by decide) rfl hq_20 wl_56 dX4_findBest_67 ?_
    obtain ⟨v_21, hv_21, h⟩ := obn h
    refine w_getJ (ci := 0) (j := 10) hC hP rfl inlX0 (by decide) (by decide) rfl hv_21 wl_406 dX4_findBest_70 ?_
    refine lv_ladd hx hb dX4_findBest_73 ?_
    refine lv_ldc2 (v := 1000) hx hb hown (hts _ wl_435) dX4_findBest_74 ?_
    refine lv_aload_n hx hb dX4_findBest_77 rfl (lv_at hl 0 rfl) ?_
    obtain ⟨q_22, hq_22, h⟩ := obn h
    refine w_getR (ci := 4) (j := 3) hC hP rfl inlX4 (by decide) (by decide) rfl hq_22 wl_56 dX4_findBest_78 ?_
    obtain ⟨v_23, hv_23, h⟩ := obn h
    refine w_getI (ci := 0) (j := 11) hC hP rfl inlX0 (by decide) (by decide) rfl hv_23 wl_407 dX4_findBest_81 ?_
    refine lv_i2l hx hb dX4_findBest_84 rfl ?_
    refine lv_lmul hx hb dX4_findBest_85 ?_
    refine lv_ladd hx hb dX4_findBest_86 ?_
    obtain ⟨j5_24, hj5_24, h⟩ := obn h
    refine w_eqj (Option.some.inj hj5_24) ?_
    refine lv_lstore (lv' := [(5, .long j5_24), (0, .ref (base + a0)), (1, .long j1), (3, .int i3), (4, .int i4)]) hx hb dX4_findBest_87 hl (by decide) rfl (fun ls hl => ?_)
    refine lv_iload_n hx hb dX4_findBest_89 rfl (lv_at hl 3 rfl) ?_
    refine lv_if_ne (tgt := 102) hx hb dX4_findBest_90 (by decide) (fun c_25 => ?_) (fun c_25 => ?_)
    · rw [if_neg c_25] at h
      exact X4_findBest_k102 hC hr hlocks ih h hP hS (lv_sub hl [1, 2, 3, 4, 0] rfl)
    · rw [if_pos c_25] at h
      refine lv_iload hx hb dX4_findBest_93 (lv_at hl 4 rfl) ?_
      refine lv_if_ne (tgt := 102) hx hb dX4_findBest_95 (by decide) (fun c_26 => ?_) (fun c_26 => ?_)
      · rw [if_neg c_26] at h
        exact X4_findBest_k102 hC hr hlocks ih h hP hS (lv_sub hl [1, 2, 3, 4, 0] rfl)
      · rw [if_pos c_26] at h
        refine lv_iconst (v := 1) hx hb dX4_findBest_98 (by decide) ?_
        refine lv_goto (tgt := 103) hx hb dX4_findBest_99 (by decide) ?_
        exact X4_findBest_k103 hC hr hlocks ih h hP hS (lv_sub hl [1, 2, 3, 4, 0] rfl)
set_option maxRecDepth 100000 in
set_option maxHeartbeats 4000000 in
theorem X4_findBest_k0 (hC : Cx p m c cX4_findBest 8 s args RX4 base D cI cJ tS) (hr : meth.sig.returnType = none) (hlocks : meth.locks = false) {n : Nat} (ih : (∀ {a0 : Nat} {j1 : Int64} {i3 : Int32} {i4 : Int32} {σ : Sg} {τ : Sg} {H : Heap} {locs : List Loc} {ls : Array Slot}, X4_findBest_run n 17 a0 j1 i3 i4 σ = some τ → Dy base D cI cJ σ H → va_S (fun q => base ≤ q) s.heap H locs → lv_has ls 8 [(0, .ref (base + a0)), (1, .long j1), (3, .int i3)] → W p l e (rmD 6 0 0) s m args below meth c H locs 0 0 (MQ below (QwV base D cI cJ τ) args s 0 0 (fun q => base ≤ q)) (F0 m 17 ls [])) ∧ (∀ {a0 : Nat} {j1 : Int64} {i3 : Int32} {i4 : Int32} {σ : Sg} {τ : Sg} {H : Heap} {locs : List Loc} {ls : Array Slot}, X4_findBest_run n 26 a0 j1 i3 i4 σ = some τ → Dy base D cI cJ σ H → va_S (fun q => base ≤ q) s.heap H locs → lv_has ls 8 [(0, .ref (base + a0)), (1, .long j1), (3, .int i3), (4, .int i4)] → W p l e (rmD 6 0 0) s m args below meth c H locs 0 0 (MQ below (QwV base D cI cJ τ) args s 0 0 (fun q => base ≤ q)) (F0 m 26 ls []))) {a0 : Nat} {σ : Sg} {τ : Sg} {H : Heap} {locs : List Loc} {ls : Array Slot} (h : X4_findBest_b0 n (X4_findBest_run n) a0 σ = some τ) : Dy base D cI cJ σ H → va_S (fun q => base ≤ q) s.heap H locs → lv_has ls 8 [(0, .ref (base + a0))] → W p l e (rmD 6 0 0) s m args below meth c H locs 0 0 (MQ below (QwV base D cI cJ τ) args s 0 0 (fun q => base ≤ q)) (F0 m 0 ls []) := by
  intro hP hS hl
  obtain ⟨hx, hb, hml, hown, hts⟩ := hC.1
  unfold X4_findBest_b0 at h
  refine lv_aload_n hx hb dX4_findBest_0 rfl (lv_at hl 0 rfl) ?_
  obtain ⟨q_27, hq_27, h⟩ := obn h
  refine w_getR (ci := 4) (j := 3) hC hP rfl inlX4 (by decide) (by decide) rfl hq_27 wl_56 dX4_findBest_1 ?_
  refine lv_aload_n hx hb dX4_findBest_4 rfl (lv_at hl 0 rfl) ?_
  obtain ⟨q_28, hq_28, h⟩ := obn h
  refine w_getR (ci := 4) (j := 0) hC hP rfl inlX4 (by decide) (by decide) rfl hq_28 wl_43 dX4_findBest_5 ?_
  refine lv_bipush (v := (-6)) hx hb dX4_findBest_8 (by decide) ?_
  obtain ⟨u_29, hu_29, h⟩ := obn h
  obtain ⟨w_30, hw_30, h⟩ := obn h
  refine k_V (r_virt (As := [.ref (base + q_28), .int (-6)]) (rest := []) hC hP hS (ci := 0) rfl (by decide) hu_29 (c_X0_layLatenesses (l := l) (base := base) (D := D) (cI := cI) (cJ := cJ) (tS := tS) hw_30) wl_236 wl_237 wl_238 wl_52 wl_235 rfl rfl hd_X0_layLatenesses ⟨Nat.le_of_ble_eq_true rfl, Nat.le_of_ble_eq_true rfl⟩ rfl hl.1 rfl (Nat.le_of_ble_eq_true rfl) dX4_findBest_10 ⟨Nat.le_of_ble_eq_true rfl, Nat.le_of_ble_eq_true rfl⟩) hS (fun H locs hP hS => ?_)
  refine lv_lconst (v := 0) hx hb dX4_findBest_13 (by decide) ?_
  refine lv_lstore_n (lv' := [(1, .long 0), (0, .ref (base + a0))]) hx hb dX4_findBest_14 rfl hl (by decide) rfl (fun ls hl => ?_)
  refine lv_iconst (v := 0) hx hb dX4_findBest_15 (by decide) ?_
  refine lv_istore_n (lv' := [(3, .int 0), (1, .long 0), (0, .ref (base + a0))]) hx hb dX4_findBest_16 rfl hl (by decide) rfl (fun ls hl => ?_)
  exact ih.1 h hP hS (lv_sub hl [2, 1, 0] rfl)
set_option maxRecDepth 100000 in
set_option maxHeartbeats 4000000 in
theorem X4_findBest_all (hC : Cx p m c cX4_findBest 8 s args RX4 base D cI cJ tS) (hr : meth.sig.returnType = none) (hlocks : meth.locks = false) : ∀ n : Nat, (∀ {a0 : Nat} {j1 : Int64} {i3 : Int32} {i4 : Int32} {σ : Sg} {τ : Sg} {H : Heap} {locs : List Loc} {ls : Array Slot}, X4_findBest_run n 17 a0 j1 i3 i4 σ = some τ → Dy base D cI cJ σ H → va_S (fun q => base ≤ q) s.heap H locs → lv_has ls 8 [(0, .ref (base + a0)), (1, .long j1), (3, .int i3)] → W p l e (rmD 6 0 0) s m args below meth c H locs 0 0 (MQ below (QwV base D cI cJ τ) args s 0 0 (fun q => base ≤ q)) (F0 m 17 ls [])) ∧ (∀ {a0 : Nat} {j1 : Int64} {i3 : Int32} {i4 : Int32} {σ : Sg} {τ : Sg} {H : Heap} {locs : List Loc} {ls : Array Slot}, X4_findBest_run n 26 a0 j1 i3 i4 σ = some τ → Dy base D cI cJ σ H → va_S (fun q => base ≤ q) s.heap H locs → lv_has ls 8 [(0, .ref (base + a0)), (1, .long j1), (3, .int i3), (4, .int i4)] → W p l e (rmD 6 0 0) s m args below meth c H locs 0 0 (MQ below (QwV base D cI cJ τ) args s 0 0 (fun q => base ≤ q)) (F0 m 26 ls [])) := by
  intro n
  induction n with
  | zero => exact ⟨fun h => (by cases h), fun h => (by cases h)⟩
  | succ n ih => exact ⟨fun h => X4_findBest_k17 hC hr hlocks ih h, fun h => X4_findBest_k26 hC hr hlocks ih h⟩
set_option maxRecDepth 100000 in
set_option maxHeartbeats 4000000 in
theorem c_X4_findBest {l : Launch} {base : Nat} {D : va_G} {cI cJ : ClassId} {tS : Nat} {n : Nat} {a0 : Nat} {σ : Sg} {τ : Sg} (h : f_X4_findBest n a0 σ = some τ) : Met l yX4_findBest (.code yX4_findBest cX4_findBest 8 none :: wsL_law) (rmD 6 0 0) (Pw base D cI cJ tS σ [.ref (base + a0)]) (QwV base D cI cJ τ) 0 0 (fun q => base ≤ q) := by
  refine Met.ofW (cc := cX4_findBest) (maxL := 8) (ret := none) (by decide) rfl ?_
  intro p e s m args below meth c s₁ B hml hv
  obtain ⟨rfl, hSt, hP⟩ := hv
  have hC : Cx p m c cX4_findBest 8 s _ RX4 base D cI cJ tS := ⟨⟨B.exec, B.bytes, hml, findClass_of_methodNamed B.named, fun w hw => atoms_spec (ws := Cond.code yX4_findBest cX4_findBest 8 none :: wsL_law) B.pre w (List.mem_cons_of_mem _ hw)⟩, hSt⟩
  have hl := lv_entry ([.ref (base + a0)]) (n := 8) (Nat.le_of_ble_eq_true rfl)
  rw [lg_entry_eq]
  generalize (lg_sl ([.ref (base + a0)]) ++ List.replicate (8 - (lg_sl ([.ref (base + a0)])).length) Slot.unset).toArray = ls at hl ⊢
  exact X4_findBest_k0 hC B.returns B.notSynchronized (X4_findBest_all hC B.returns B.notSynchronized n) h hP va_S.rf hl
end
