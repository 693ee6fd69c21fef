section
variable {p : Program} {l : Launch} {e : Env} {s : State} {m : MethodId} {args : Array Value} {below : List Frame} {meth : Method} {c : Code} {base : Nat} {D : va_G} {cI cJ : ClassId} {tS : Nat}
-- ===== X5_lateAt
set_option maxRecDepth 100000 in
set_option maxHeartbeats 4000000 in
theorem X5_lateAt_k56 (hC : Cx p m c cX5_lateAt 6 s args RX5 base D cI cJ tS) (hr : meth.sig.returnType = (some .int)) (hlocks : meth.locks = false) {n : Nat} (ih : (∀ {a0 : Nat} {i1 : Int32} {i2 : Int32} {i3 : Int32} {i4 : Int32} {i5 : Int32} {σ : Sg} {r : Int32} {τ : Sg} {H : Heap} {locs : List Loc} {ls : Array Slot}, X5_lateAt_run n a0 i1 i2 i3 i4 i5 σ = some (r, τ) → Dy base D cI cJ σ H → va_S (fun q => base ≤ q) s.heap H locs → lv_has ls 6 [(0, .ref (base + a0)), (1, .int i1), (2, .int i2), (3, .int i3), (4, .int i4), (5, .int i5)] → W p l e (rmD 0 0 0) s m args below meth c H locs 0 0 (MQ below (QwI base D cI cJ r τ) args s 0 0 (fun q => base ≤ q)) (F0 m 6 ls []))) {a0 : Nat} {i1 : Int32} {i2 : Int32} {i3 : Int32} {i5 : Int32} {ti0 : Int32} {ti1 : Int32} {σ : Sg} {r : Int32} {τ : Sg} {H : Heap} {locs : List Loc} {ls : Array Slot} (h : X5_lateAt_b56 n (X5_lateAt_run n) a0 i1 i2 i3 i5 ti0 ti1 σ = some (r, τ)) : Dy base D cI cJ σ H → va_S (fun q => base ≤ q) s.heap H locs → lv_has ls 6 [(0, .ref (base + a0)), (1, .int i1), (2, .int i2), (3, .int i3), (5, .int i5)] → W p l e (rmD 0 0 0) s m args below meth c H locs 0 0 (MQ below (QwI base D cI cJ r τ) args s 0 0 (fun q => base ≤ q)) (F0 m 56 ls [.int ti1, .int ti0]) := by
  intro hP hS hl
  obtain ⟨hx, hb, hml, hown, hts⟩ := hC.1
  unfold X5_lateAt_b56 at h
  refine lv_iadd hx hb dX5_lateAt_56 ?_
  obtain ⟨i4_1, hi4_1, h⟩ := obn h
  refine w_eqi (Option.some.inj hi4_1) ?_
  refine lv_istore (lv' := [(4, .int i4_1), (0, .ref (base + a0)), (1, .int i1), (2, .int i2), (3, .int i3), (5, .int i5)]) hx hb dX5_lateAt_57 hl (by decide) rfl (fun ls hl => ?_)
  obtain ⟨i5_2, hi5_2, h⟩ := obn h
  refine lv_iinc (v := i5_2) (lv' := [(5, .int i5_2), (4, .int i4_1), (0, .ref (base + a0)), (1, .int i1), (2, .int i2), (3, .int i3)]) hx hb dX5_lateAt_59 hl (k := 5) rfl (Option.some.inj hi5_2) (by decide) rfl (fun ls hl => ?_)
  refine lv_goto (tgt := 6) hx hb dX5_lateAt_62 (by decide) ?_
  exact ih h hP hS (lv_sub hl [2, 3, 4, 5, 1, 0] rfl)
set_option maxRecDepth 100000 in
set_option maxHeartbeats 4000000 in
theorem X5_lateAt_k55 (hC : Cx p m c cX5_lateAt 6 s args RX5 base D cI cJ tS) (hr : meth.sig.returnType = (some .int)) (hlocks : meth.locks = false) {n : Nat} (ih : (∀ {a0 : Nat} {i1 : Int32} {i2 : Int32} {i3 : Int32} {i4 : Int32} {i5 : Int32} {σ : Sg} {r : Int32} {τ : Sg} {H : Heap} {locs : List Loc} {ls : Array Slot}, X5_lateAt_run n a0 i1 i2 i3 i4 i5 σ = some (r, τ) → Dy base D cI cJ σ H → va_S (fun q => base ≤ q) s.heap H locs → lv_has ls 6 [(0, .ref (base + a0)), (1, .int i1), (2, .int i2), (3, .int i3), (4, .int i4), (5, .int i5)] → W p l e (rmD 0 0 0) s m args below meth c H locs 0 0 (MQ below (QwI base D cI cJ r τ) args s 0 0 (fun q => base ≤ q)) (F0 m 6 ls []))) {a0 : Nat} {i1 : Int32} {i2 : Int32} {i3 : Int32} {i5 : Int32} {ti0 : Int32} {σ : Sg} {r : Int32} {τ : Sg} {H : Heap} {locs : List Loc} {ls : Array Slot} (h : X5_lateAt_b55 n (X5_lateAt_run n) a0 i1 i2 i3 i5 ti0 σ = some (r, τ)) : Dy base D cI cJ σ H → va_S (fun q => base ≤ q) s.heap H locs → lv_has ls 6 [(0, .ref (base + a0)), (1, .int i1), (2, .int i2), (3, .int i3), (5, .int i5)] → W p l e (rmD 0 0 0) s m args below meth c H locs 0 0 (MQ below (QwI base D cI cJ r τ) args s 0 0 (fun q => base ≤ q)) (F0 m 55 ls [.int ti0]) := by
  intro hP hS hl
  obtain ⟨hx, hb, hml, hown, hts⟩ := hC.1
  unfold X5_lateAt_b55 at h
  refine lv_iconst (v := 0) hx hb dX5_lateAt_55 (by decide) ?_
  exact X5_lateAt_k56 hC hr hlocks ih h hP hS (lv_sub hl [0, 1, 2, 3, 4] rfl)
set_option maxRecDepth 100000 in
set_option maxHeartbeats 4000000 in
theorem X5_lateAt_k6 (hC : Cx p m c cX5_lateAt 6 s args RX5 base D cI cJ tS) (hr : meth.sig.returnType = (some .int)) (hlocks : meth.locks = false) {n : Nat} (ih : (∀ {a0 : Nat} {i1 : Int32} {i2 : Int32} {i3 : Int32} {i4 : Int32} {i5 : Int32} {σ : Sg} {r : Int32} {τ : Sg} {H : Heap} {locs : List Loc} {ls : Array Slot}, X5_lateAt_run n a0 i1 i2 i3 i4 i5 σ = some (r, τ) → Dy base D cI cJ σ H → va_S (fun q => base ≤ q) s.heap H locs → lv_has ls 6 [(0, .ref (base + a0)), (1, .int i1), (2, .int i2), (3, .int i3), (4, .int i4), (5, .int i5)] → W p l e (rmD 0 0 0) s m args below meth c H locs 0 0 (MQ below (QwI base D cI cJ r τ) args s 0 0 (fun q => base ≤ q)) (F0 m 6 ls []))) {a0 : Nat} {i1 : Int32} {i2 : Int32} {i3 : Int32} {i4 : Int32} {i5 : Int32} {σ : Sg} {r : Int32} {τ : Sg} {H : Heap} {locs : List Loc} {ls : Array Slot} (h : X5_lateAt_b6 n (X5_lateAt_run n) a0 i1 i2 i3 i4 i5 σ = some (r, τ)) : Dy base D cI cJ σ H → va_S (fun q => base ≤ q) s.heap H locs → lv_has ls 6 [(0, .ref (base + a0)), (1, .int i1), (2, .int i2), (3, .int i3), (4, .int i4), (5, .int i5)] → W p l e (rmD 0 0 0) s m args below meth c H locs 0 0 (MQ below (QwI base D cI cJ r τ) args s 0 0 (fun q => base ≤ q)) (F0 m 6 ls []) := by
  intro hP hS hl
  obtain ⟨hx, hb, hml, hown, hts⟩ := hC.1
  unfold X5_lateAt_b6 at h
  refine lv_iload hx hb dX5_lateAt_6 (lv_at hl 5 rfl) ?_
  refine lv_aload_n hx hb dX5_lateAt_8 rfl (lv_at hl 0 rfl) ?_
  obtain ⟨v_3, hv_3, h⟩ := obn h
  refine w_getI (ci := 5) (j := 8) hC hP rfl inlX5 (by decide) (by decide) rfl hv_3 wl_144 dX5_lateAt_9 ?_
  refine lv_icmp_ge (tgt := 65) hx hb dX5_lateAt_12 (by decide) (fun c_4 => ?_) (fun c_4 => ?_)
  · rw [if_pos c_4] at h
    refine lv_iload hx hb dX5_lateAt_65 (lv_at hl 4 rfl) ?_
    obtain ⟨rfl, rfl⟩ := Prod.mk.inj (Option.some.inj h)
    exact w_iret hC hr hlocks hP hS dX5_lateAt_67
  · rw [if_neg c_4] at h
    refine lv_iload hx hb dX5_lateAt_15 (lv_at hl 4 rfl) ?_
    refine lv_iload hx hb dX5_lateAt_17 (lv_at hl 5 rfl) ?_
    refine lv_iload_n hx hb dX5_lateAt_19 rfl (lv_at hl 3 rfl) ?_
    refine lv_icmp_eq (tgt := 55) hx hb dX5_lateAt_20 (by decide) (fun c_5 => ?_) (fun c_5 => ?_)
    · rw [if_pos c_5] at h
      exact X5_lateAt_k55 hC hr hlocks ih h hP hS (lv_sub hl [0, 1, 2, 3, 5] rfl)
    · rw [if_neg c_5] at h
      refine lv_aload_n hx hb dX5_lateAt_23 rfl (lv_at hl 0 rfl) ?_
      obtain ⟨q_6, hq_6, h⟩ := obn h
      refine w_getR (ci := 5) (j := 9) hC hP rfl inlX5 (by decide) (by decide) rfl hq_6 wl_72 dX5_lateAt_24 ?_
      refine lv_iload hx hb dX5_lateAt_27 (lv_at hl 5 rfl) ?_
      obtain ⟨v_7, hv_7, h⟩ := obn h
      refine w_iald hC hP hv_7 dX5_lateAt_29 ?_
      refine lv_iload_n hx hb dX5_lateAt_30 rfl (lv_at hl 1 rfl) ?_
      refine lv_icmp_ne (tgt := 55) hx hb dX5_lateAt_31 (by decide) (fun c_8 => ?_) (fun c_8 => ?_)
      · rw [if_neg c_8] at h
        exact X5_lateAt_k55 hC hr hlocks ih h hP hS (lv_sub hl [0, 1, 2, 3, 5] rfl)
      · rw [if_pos c_8] at h
        refine lv_aload_n hx hb dX5_lateAt_34 rfl (lv_at hl 0 rfl) ?_
        obtain ⟨q_9, hq_9, h⟩ := obn h
        refine w_getR (ci := 5) (j := 10) hC hP rfl inlX5 (by decide) (by decide) rfl hq_9 wl_73 dX5_lateAt_35 ?_
        refine lv_iload hx hb dX5_lateAt_38 (lv_at hl 5 rfl) ?_
        obtain ⟨v_10, hv_10, h⟩ := obn h
        refine w_iald hC hP hv_10 dX5_lateAt_40 ?_
        refine lv_iload_n hx hb dX5_lateAt_41 rfl (lv_at hl 2 rfl) ?_
        refine lv_icmp_ne (tgt := 55) hx hb dX5_lateAt_42 (by decide) (fun c_11 => ?_) (fun c_11 => ?_)
        · rw [if_neg c_11] at h
          exact X5_lateAt_k55 hC hr hlocks ih h hP hS (lv_sub hl [0, 1, 2, 3, 5] rfl)
        · rw [if_pos c_11] at h
          refine lv_aload_n hx hb dX5_lateAt_45 rfl (lv_at hl 0 rfl) ?_
          obtain ⟨q_12, hq_12, h⟩ := obn h
          refine w_getR (ci := 5) (j := 11) hC hP rfl inlX5 (by decide) (by decide) rfl hq_12 wl_74 dX5_lateAt_46 ?_
          refine lv_iload hx hb dX5_lateAt_49 (lv_at hl 5 rfl) ?_
          obtain ⟨v_13, hv_13, h⟩ := obn h
          refine w_iald hC hP hv_13 dX5_lateAt_51 ?_
          refine lv_goto (tgt := 56) hx hb dX5_lateAt_52 (by decide) ?_
          exact X5_lateAt_k56 hC hr hlocks ih h hP hS (lv_sub hl [0, 1, 2, 3, 5] rfl)
set_option maxRecDepth 100000 in
set_option maxHeartbeats 4000000 in
theorem X5_lateAt_k0 (hC : Cx p m c cX5_lateAt 6 s args RX5 base D cI cJ tS) (hr : meth.sig.returnType = (some .int)) (hlocks : meth.locks = false) {n : Nat} (ih : (∀ {a0 : Nat} {i1 : Int32} {i2 : Int32} {i3 : Int32} {i4 : Int32} {i5 : Int32} {σ : Sg} {r : Int32} {τ : Sg} {H : Heap} {locs : List Loc} {ls : Array Slot}, X5_lateAt_run n a0 i1 i2 i3 i4 i5 σ = some (r, τ) → Dy base D cI cJ σ H → va_S (fun q => base ≤ q) s.heap H locs → lv_has ls 6 [(0, .ref (base + a0)), (1, .int i1), (2, .int i2), (3, .int i3), (4, .int i4), (5, .int i5)] → W p l e (rmD 0 0 0) s m args below meth c H locs 0 0 (MQ below (QwI base D cI cJ r τ) args s 0 0 (fun q => base ≤ q)) (F0 m 6 ls []))) {a0 : Nat} {i1 : Int32} {i2 : Int32} {i3 : Int32} {σ : Sg} {r : Int32} {τ : Sg} {H : Heap} {locs : List Loc} {ls : Array Slot} (h : X5_lateAt_b0 n (X5_lateAt_run n) a0 i1 i2 i3 σ = some (r, τ)) : Dy base D cI cJ σ H → va_S (fun q => base ≤ q) s.heap H locs → lv_has ls 6 [(0, .ref (base + a0)), (1, .int i1), (2, .int i2), (3, .int i3)] → W p l e (rmD 0 0 0) s m args below meth c H locs 0 0 (MQ below (QwI base D cI cJ r τ) args s 0 0 (fun q => base ≤ q)) (F0 m 0 ls []) := by
  intro hP hS hl
  obtain ⟨hx, hb, hml, hown, hts⟩ := hC.1
  unfold X5_lateAt_b0 at h
  refine lv_iconst (v := 0) hx hb dX5_lateAt_0 (by decide) ?_
  refine lv_istore (lv' := [(4, .int 0), (0, .ref (base + a0)), (1, .int i1), (2, .int i2), (3, .int i3)]) hx hb dX5_lateAt_1 hl (by decide) rfl (fun ls hl => ?_)
  refine lv_iconst (v := 0) hx hb dX5_lateAt_3 (by decide) ?_
  refine lv_istore (lv' := [(5, .int 0), (4, .int 0), (0, .ref (base + a0)), (1, .int i1), (2, .int i2), (3, .int i3)]) hx hb dX5_lateAt_4 hl (by decide) rfl (fun ls hl => ?_)
  exact ih h hP hS (lv_sub hl [2, 3, 4, 5, 1, 0] rfl)
set_option maxRecDepth 100000 in
set_option maxHeartbeats 4000000 in
theorem X5_lateAt_all (hC : Cx p m c cX5_lateAt 6 s args RX5 base D cI cJ tS) (hr : meth.sig.returnType = (some .int)) (hlocks : meth.locks = false) : ∀ n : Nat, (∀ {a0 : Nat} {i1 : Int32} {i2 : Int32} {i3 : Int32} {i4 : Int32} {i5 : Int32} {σ : Sg} {r : Int32} {τ : Sg} {H : Heap} {locs : List Loc} {ls : Array Slot}, X5_lateAt_run n a0 i1 i2 i3 i4 i5 σ = some (r, τ) → Dy base D cI cJ σ H → va_S (fun q => base ≤ q) s.heap H locs → lv_has ls 6 [(0, .ref (base + a0)), (1, .int i1), (2, .int i2), (3, .int i3), (4, .int i4), (5, .int i5)] → W p l e (rmD 0 0 0) s m args below meth c H locs 0 0 (MQ below (QwI base D cI cJ r τ) args s 0 0 (fun q => base ≤ q)) (F0 m 6 ls [])) := by
  intro n
  induction n with
  | zero => exact fun h => (by cases h)
  | succ n ih => exact fun h => X5_lateAt_k6 hC hr hlocks ih h
set_option maxRecDepth 100000 in
set_option maxHeartbeats 4000000 in
theorem c_X5_lateAt {l : Launch} {base : Nat} {D : va_G} {cI cJ : ClassId} {tS : Nat} {n : Nat} {a0 : Nat} {i1 : Int32} {i2 : Int32} {i3 : Int32} {σ : Sg} {r : Int32} {τ : Sg} (h : f_X5_lateAt n a0 i1 i2 i3 σ = some (r, τ)) : Met l yX5_lateAt (.code yX5_lateAt cX5_lateAt 6 (some .int) :: wsL_law) (rmD 0 0 0) (Pw base D cI cJ tS σ [.ref (base + a0), .int i1, .int i2, .int i3]) (QwI base D cI cJ r τ) 0 0 (fun q => base ≤ q) := by
  refine Met.ofW (cc := cX5_lateAt) (maxL := 6) (ret := (some .int)) (by decide) rfl ?_
  intro p e s m args below meth c s₁ B hml hv
  obtain ⟨rfl, hSt, hP⟩ := hv
  have hC : Cx p m c cX5_lateAt 6 s _ RX5 base D cI cJ tS := ⟨⟨B.exec, B.bytes, hml, findClass_of_methodNamed B.named, fun w hw => atoms_spec (ws := Cond.code yX5_lateAt cX5_lateAt 6 (some .int) :: wsL_law) B.pre w (List.mem_cons_of_mem _ hw)⟩, hSt⟩
  have hl := lv_entry ([.ref (base + a0), .int i1, .int i2, .int i3]) (n := 6) (Nat.le_of_ble_eq_true rfl)
  rw [lg_entry_eq]
  generalize (lg_sl ([.ref (base + a0), .int i1, .int i2, .int i3]) ++ List.replicate (6 - (lg_sl ([.ref (base + a0), .int i1, .int i2, .int i3])).length) Slot.unset).toArray = ls at hl ⊢
  exact X5_lateAt_k0 hC B.returns B.notSynchronized (X5_lateAt_all hC B.returns B.notSynchronized n) h hP va_S.rf hl
-- ===== X5_atStop
set_option maxRecDepth 100000 in
set_option maxHeartbeats 4000000 in
theorem X5_atStop_k109 (hC : Cx p m c cX5_atStop 15 s args RX5 base D cI cJ tS) (hr : meth.sig.returnType = none) (hlocks : meth.locks = false) {n : Nat} (ih : (∀ {a0 : Nat} {i1 : Int32} {i2 : Int32} {i3 : Int32} {i4 : Int32} {i5 : Int32} {i6 : Int32} {i7 : Int32} {i8 : Int32} {i9 : Int32} {i10 : Int32} {i11 : Int32} {i12 : Int32} {σ : Sg} {τ : Sg} {H : Heap} {locs : List Loc} {ls : Array Slot}, X5_atStop_run n 22 a0 i1 i2 i3 i4 i5 i6 i7 i8 i9 i10 i11 i12 σ = some τ → Dy base D cI cJ σ H → va_S (fun q => base ≤ q) s.heap H locs → lv_has ls 15 [(0, .ref (base + a0)), (1, .int i1), (2, .int i2), (3, .int i3), (4, .int i4), (5, .int i5), (6, .int i6)] → W p l e (rmD 1 0 0) s m args below meth c H locs 0 0 (MQ below (QwV base D cI cJ τ) args s 0 0 (fun q => base ≤ q)) (F0 m 22 ls [])) ∧ (∀ {a0 : Nat} {i1 : Int32} {i2 : Int32} {i3 : Int32} {i4 : Int32} {i5 : Int32} {i6 : Int32} {i7 : Int32} {i8 : Int32} {i9 : Int32} {i10 : Int32} {i11 : Int32} {i12 : Int32} {σ : Sg} {τ : Sg} {H : Heap} {locs : List Loc} {ls : Array Slot}, X5_atStop_run n 129 a0 i1 i2 i3 i4 i5 i6 i7 i8 i9 i10 i11 i12 σ = some τ → Dy base D cI cJ σ H → va_S (fun q => base ≤ q) s.heap H locs → lv_has ls 15 [(0, .ref (base + a0)), (1, .int i1), (2, .int i2), (3, .int i3), (4, .int i4), (5, .int i5), (6, .int i6), (7, .int i7), (8, .int i8), (9, .int i9), (10, .int i10), (11, .int i11), (12, .int i12)] → W p l e (rmD 1 0 0) s m args below meth c H locs 0 0 (MQ below (QwV base D cI cJ τ) args s 0 0 (fun q => base ≤ q)) (F0 m 129 ls []))) {a0 : Nat} {i1 : Int32} {i2 : Int32} {i3 : Int32} {i4 : Int32} {i5 : Int32} {i6 : Int32} {i7 : Int32} {i8 : Int32} {i9 : Int32} {ta0 : Nat} {ti1 : Int32} {ti2 : Int32} {σ : Sg} {τ : Sg} {H : Heap} {locs : List Loc} {ls : Array Slot} (h : X5_atStop_b109 n (X5_atStop_run n) a0 i1 i2 i3 i4 i5 i6 i7 i8 i9 ta0 ti1 ti2 σ = some τ) : Dy base D cI cJ σ H → va_S (fun q => base ≤ q) s.heap H locs → lv_has ls 15 [(0, .ref (base + a0)), (1, .int i1), (2, .int i2), (3, .int i3), (4, .int i4), (5, .int i5), (6, .int i6), (7, .int i7), (8, .int i8), (9, .int i9)] → W p l e (rmD 1 0 0) s m args below meth c H locs 0 0 (MQ below (QwV base D cI cJ τ) args s 0 0 (fun q => base ≤ q)) (F0 m 109 ls [.int ti2, .int ti1, .ref (base + ta0)]) := by
  intro hP hS hl
  obtain ⟨hx, hb, hml, hown, hts⟩ := hC.1
  unfold X5_atStop_b109 at h
  obtain ⟨s_1, hs_1, h⟩ := obn h
  refine w_iast hC hP hS hs_1 dX5_atStop_109 (fun H locs hP hS => ?_)
  refine lv_aload_n hx hb dX5_atStop_110 rfl (lv_at hl 0 rfl) ?_
  refine lv_iload hx hb dX5_atStop_111 (lv_at hl 7 rfl) ?_
  refine lv_iload_n hx hb dX5_atStop_113 rfl (lv_at hl 1 rfl) ?_
  refine lv_iload hx hb dX5_atStop_114 (lv_at hl 9 rfl) ?_
  obtain ⟨u_2, hu_2, h⟩ := obn h
  obtain ⟨w_3, hw_3, h⟩ := obn h
  refine k_I (r_virt (As := [.int i7, .int i1, .int i9]) (rest := []) hC hP hS (ci := 5) rfl (by decide) hu_2 (c_X5_getOff (l := l) (base := base) (D := D) (cI := cI) (cJ := cJ) (tS := tS) hw_3) wl_260 wl_261 wl_262 wl_113 wl_259 rfl rfl hd_X5_getOff ⟨Nat.le_of_ble_eq_true rfl, Nat.le_of_ble_eq_true rfl⟩ rfl hl.1 rfl (Nat.le_of_ble_eq_true rfl) dX5_atStop_116 ⟨Nat.le_of_ble_eq_true rfl, Nat.le_of_ble_eq_true rfl⟩) hS (fun H locs hP hS => ?_)
  refine lv_istore (lv' := [(10, .int w_3.1), (0, .ref (base + a0)), (1, .int i1), (2, .int i2), (3, .int i3), (4, .int i4), (5, .int i5), (6, .int i6), (7, .int i7), (8, .int i8), (9, .int i9)]) hx hb dX5_atStop_119 hl (by decide) rfl (fun ls hl => ?_)
  refine lv_iconst (v := 0) hx hb dX5_atStop_121 (by decide) ?_
  refine lv_istore (lv' := [(11, .int 0), (10, .int w_3.1), (0, .ref (base + a0)), (1, .int i1), (2, .int i2), (3, .int i3), (4, .int i4), (5, .int i5), (6, .int i6), (7, .int i7), (8, .int i8), (9, .int i9)]) hx hb dX5_atStop_122 hl (by decide) rfl (fun ls hl => ?_)
  refine lv_iload_n hx hb dX5_atStop_124 rfl (lv_at hl 3 rfl) ?_
  refine lv_iconst (v := 1) hx hb dX5_atStop_125 (by decide) ?_
  refine lv_iadd hx hb dX5_atStop_126 ?_
  obtain ⟨i12_4, hi12_4, h⟩ := obn h
  refine w_eqi (Option.some.inj hi12_4) ?_
  refine lv_istore (lv' := [(12, .int i12_4), (11, .int 0), (10, .int w_3.1), (0, .ref (base + a0)), (1, .int i1), (2, .int i2), (3, .int i3), (4, .int i4), (5, .int i5), (6, .int i6), (7, .int i7), (8, .int i8), (9, .int i9)]) hx hb dX5_atStop_127 hl (by decide) rfl (fun ls hl => ?_)
  exact ih.2 h hP hS (lv_sub hl [3, 4, 5, 6, 7, 8, 9, 10, 11, 12, 2, 1, 0] rfl)
set_option maxRecDepth 100000 in
set_option maxHeartbeats 4000000 in
theorem X5_atStop_k102 (hC : Cx p m c cX5_atStop 15 s args RX5 base D cI cJ tS) (hr : meth.sig.returnType = none) (hlocks : meth.locks = false) {n : Nat} (ih : (∀ {a0 : Nat} {i1 : Int32} {i2 : Int32} {i3 : Int32} {i4 : Int32} {i5 : Int32} {i6 : Int32} {i7 : Int32} {i8 : Int32} {i9 : Int32} {i10 : Int32} {i11 : Int32} {i12 : Int32} {σ : Sg} {τ : Sg} {H : Heap} {locs : List Loc} {ls : Array Slot}, X5_atStop_run n 22 a0 i1 i2 i3 i4 i5 i6 i7 i8 i9 i10 i11 i12 σ = some τ → Dy base D cI cJ σ H → va_S (fun q => base ≤ q) s.heap H locs → lv_has ls 15 [(0, .ref (base + a0)), (1, .int i1), (2, .int i2), (3, .int i3), (4, .int i4), (5, .int i5), (6, .int i6)] → W p l e (rmD 1 0 0) s m args below meth c H locs 0 0 (MQ below (QwV base D cI cJ τ) args s 0 0 (fun q => base ≤ q)) (F0 m 22 ls [])) ∧ (∀ {a0 : Nat} {i1 : Int32} {i2 : Int32} {i3 : Int32} {i4 : Int32} {i5 : Int32} {i6 : Int32} {i7 : Int32} {i8 : Int32} {i9 : Int32} {i10 : Int32} {i11 : Int32} {i12 : Int32} {σ : Sg} {τ : Sg} {H : Heap} {locs : List Loc} {ls : Array Slot}, X5_atStop_run n 129 a0 i1 i2 i3 i4 i5 i6 i7 i8 i9 i10 i11 i12 σ = some τ → Dy base D cI cJ σ H → va_S (fun q => base ≤ q) s.heap H locs → lv_has ls 15 [(0, .ref (base + a0)), (1, .int i1), (2, .int i2), (3, .int i3), (4, .int i4), (5, .int i5), (6, .int i6), (7, .int i7), (8, .int i8), (9, .int i9), (10, .int i10), (11, .int i11), (12, .int i12)] → W p l e (rmD 1 0 0) s m args below meth c H locs 0 0 (MQ below (QwV base D cI cJ τ) args s 0 0 (fun q => base ≤ q)) (F0 m 129 ls []))) {a0 : Nat} {i1 : Int32} {i2 : Int32} {i3 : Int32} {i4 : Int32} {i5 : Int32} {i6 : Int32} {i7 : Int32} {i8 : Int32} {i9 : Int32} {ta0 : Nat} {ti1 : Int32} {σ : Sg} {τ : Sg} {H : Heap} {locs : List Loc} {ls : Array Slot} (h : X5_atStop_b102 n (X5_atStop_run n) a0 i1 i2 i3 i4 i5 i6 i7 i8 i9 ta0 ti1 σ = some τ) : Dy base D cI cJ σ H → va_S (fun q => base ≤ q) s.heap H locs → lv_has ls 15 [(0, .ref (base + a0)), (1, .int i1), (2, .int i2), (3, .int i3), (4, .int i4), (5, .int i5), (6, .int i6), (7, .int i7), (8, .int i8), (9, .int i9)] → W p l e (rmD 1 0 0) s m args below meth c H locs 0 0 (MQ below (QwV base D cI cJ τ) args s 0 0 (fun q => base ≤ q)) (F0 m 102 ls [.int ti1, .ref (base + ta0)]) := by
  intro hP hS hl
  obtain ⟨hx, hb, hml, hown, hts⟩ := hC.1
  unfold X5_atStop_b102 at h
  refine lv_aload_n hx hb dX5_atStop_102 rfl (lv_at hl 0 rfl) ?_
  obtain ⟨q_5, hq_5, h⟩ := obn h
  refine w_getR (ci := 5) (j := 17) hC hP rfl inlX5 (by decide) (by decide) rfl hq_5 wl_78 dX5_atStop_103 ?_
  refine lv_iload hx hb dX5_atStop_106 (lv_at hl 8 rfl) ?_
  obtain ⟨v_6, hv_6, h⟩ := obn h
  refine w_iald hC hP hv_6 dX5_atStop_108 ?_
  exact X5_atStop_k109 hC hr hlocks ih h hP hS (lv_sub hl [0, 1, 2, 3, 4, 5, 6, 7, 8, 9] rfl)
set_option maxRecDepth 100000 in
set_option maxHeartbeats 4000000 in
theorem X5_atStop_k68 (hC : Cx p m c cX5_atStop 15 s args RX5 base D cI cJ tS) (hr : meth.sig.returnType = none) (hlocks : meth.locks = false) {n : Nat} (ih : (∀ {a0 : Nat} {i1 : Int32} {i2 : Int32} {i3 : Int32} {i4 : Int32} {i5 : Int32} {i6 : Int32} {i7 : Int32} {i8 : Int32} {i9 : Int32} {i10 : Int32} {i11 : Int32} {i12 : Int32} {σ : Sg} {τ : Sg} {H : Heap} {locs : List Loc} {ls : Array Slot}, X5_atStop_run n 22 a0 i1 i2 i3 i4 i5 i6 i7 i8 i9 i10 i11 i12 σ = some τ → Dy base D cI cJ σ H → va_S (fun q => base ≤ q) s.heap H locs → lv_has ls 15 [(0, .ref (base + a0)), (1, .int i1), (2, .int i2), (3, .int i3), (4, .int i4), (5, .int i5), (6, .int i6)] → W p l e (rmD 1 0 0) s m args below meth c H locs 0 0 (MQ below (QwV base D cI cJ τ) args s 0 0 (fun q => base ≤ q)) (F0 m 22 ls [])) ∧ (∀ {a0 : Nat} {i1 : Int32} {i2 : Int32} {i3 : Int32} {i4 : Int32} {i5 : Int32} {i6 : Int32} {i7 : Int32} {i8 : Int32} {i9 : Int32} {i10 : Int32} {i11 : Int32} {i12 : Int32} {σ : Sg} {τ : Sg} {H : Heap} {locs : List Loc} {ls : Array Slot}, X5_atStop_run n 129 a0 i1 i2 i3 i4 i5 i6 i7 i8 i9 i10 i11 i12 σ = some τ → Dy base D cI cJ σ H → va_S (fun q => base ≤ q) s.heap H locs → lv_has ls 15 [(0, .ref (base + a0)), (1, .int i1), (2, .int i2), (3, .int i3), (4, .int i4), (5, .int i5), (6, .int i6), (7, .int i7), (8, .int i8), (9, .int i9), (10, .int i10), (11, .int i11), (12, .int i12)] → W p l e (rmD 1 0 0) s m args below meth c H locs 0 0 (MQ below (QwV base D cI cJ τ) args s 0 0 (fun q => base ≤ q)) (F0 m 129 ls []))) {a0 : Nat} {i1 : Int32} {i2 : Int32} {i3 : Int32} {i4 : Int32} {i5 : Int32} {i6 : Int32} {i7 : Int32} {i8 : Int32} {ti0 : Int32} {σ : Sg} {τ : Sg} {H : Heap} {locs : List Loc} {ls : Array Slot} (h : X5_atStop_b68 n (X5_atStop_run n) a0 i1 i2 i3 i4 i5 i6 i7 i8 ti0 σ = some τ) : Dy base D cI cJ σ H → va_S (fun q => base ≤ q) s.heap H locs → lv_has ls 15 [(0, .ref (base + a0)), (1, .int i1), (2, .int i2), (3, .int i3), (4, .int i4), (5, .int i5), (6, .int i6), (7, .int i7), (8, .int i8)] → W p l e (rmD 1 0 0) s m args below meth c H locs 0 0 (MQ below (QwV base D cI cJ τ) args s 0 0 (fun q => base ≤ q)) (F0 m 68 ls [.int ti0]) := by
  intro hP hS hl
  obtain ⟨hx, hb, hml, hown, hts⟩ := hC.1
  unfold X5_atStop_b68 at h
  refine lv_istore (lv' := [(9, .int ti0), (0, .ref (base + a0)), (1, .int i1), (2, .int i2), (3, .int i3), (4, .int i4), (5, .int i5), (6, .int i6), (7, .int i7), (8, .int i8)]) hx hb dX5_atStop_68 hl (by decide) rfl (fun ls hl => ?_)
  refine lv_aload_n hx hb dX5_atStop_70 rfl (lv_at hl 1 rfl) ?_
  obtain ⟨q_7, hq_7, h⟩ := obn h
  refine w_getR (ci := 5) (j := 17) hC hP rfl inlX5 (by decide) (by decide) rfl hq_7 wl_78 dX5_atStop_71 ?_
  refine lv_iload hx hb dX5_atStop_74 (lv_at hl 9 rfl) ?_
  refine lv_aload_n hx hb dX5_atStop_76 rfl (lv_at hl 1 rfl) ?_
  obtain ⟨q_8, hq_8, h⟩ := obn h
  refine w_getR (ci := 5) (j := 7) hC hP rfl inlX5 (by decide) (by decide) rfl hq_8 wl_64 dX5_atStop_77 ?_
  refine lv_iconst (v := 3) hx hb dX5_atStop_80 (by decide) ?_
  obtain ⟨v_9, hv_9, h⟩ := obn h
  refine w_iald hC hP hv_9 dX5_atStop_81 ?_
  refine lv_if_ne (tgt := 102) hx hb dX5_atStop_82 (by decide) (fun c_10 => ?_) (fun c_10 => ?_)
  · rw [if_neg c_10] at h
    exact X5_atStop_k102 hC hr hlocks ih h hP hS (lv_sub hl [1, 2, 3, 4, 5, 6, 7, 8, 9, 0] rfl)
  · rw [if_pos c_10] at h
    refine lv_iload hx hb dX5_atStop_85 (lv_at hl 6 rfl) ?_
    refine lv_aload_n hx hb dX5_atStop_87 rfl (lv_at hl 1 rfl) ?_
    obtain ⟨q_11, hq_11, h⟩ := obn h
    refine w_getR (ci := 5) (j := 17) hC hP rfl inlX5 (by decide) (by decide) rfl hq_11 wl_78 dX5_atStop_88 ?_
    refine lv_iload hx hb dX5_atStop_91 (lv_at hl 9 rfl) ?_
    obtain ⟨v_12, hv_12, h⟩ := obn h
    refine w_iald hC hP hv_12 dX5_atStop_93 ?_
    refine lv_icmp_le (tgt := 102) hx hb dX5_atStop_94 (by decide) (fun c_13 => ?_) (fun c_13 => ?_)
    · rw [if_pos c_13] at h
      exact X5_atStop_k102 hC hr hlocks ih h hP hS (lv_sub hl [1, 2, 3, 4, 5, 6, 7, 8, 9, 0] rfl)
    · rw [if_neg c_13] at h
      refine lv_iload hx hb dX5_atStop_97 (lv_at hl 6 rfl) ?_
      refine lv_goto (tgt := 109) hx hb dX5_atStop_99 (by decide) ?_
      exact X5_atStop_k109 hC hr hlocks ih h hP hS (lv_sub hl [1, 2, 3, 4, 5, 6, 7, 8, 9, 0] rfl)
set_option maxRecDepth 100000 in
set_option maxHeartbeats 4000000 in
theorem X5_atStop_k63 (hC : Cx p m c cX5_atStop 15 s args RX5 base D cI cJ tS) (hr : meth.sig.returnType = none) (hlocks : meth.locks = false) {n : Nat} (ih : (∀ {a0 : Nat} {i1 : Int32} {i2 : Int32} {i3 : Int32} {i4 : Int32} {i5 : Int32} {i6 : Int32} {i7 : Int32} {i8 : Int32} {i9 : Int32} {i10 : Int32} {i11 : Int32} {i12 : Int32} {σ : Sg} {τ : Sg} {H : Heap} {locs : List Loc} {ls : Array Slot}, X5_atStop_run n 22 a0 i1 i2 i3 i4 i5 i6 i7 i8 i9 i10 i11 i12 σ = some τ → Dy base D cI cJ σ H → va_S (fun q => base ≤ q) s.heap H locs → lv_has ls 15 [(0, .ref (base + a0)), (1, .int i1), (2, .int i2), (3, .int i3), (4, .int i4), (5, .int i5), (6, .int i6)] → W p l e (rmD 1 0 0) s m args below meth c H locs 0 0 (MQ below (QwV base D cI cJ τ) args s 0 0 (fun q => base ≤ q)) (F0 m 22 ls [])) ∧ (∀ {a0 : Nat} {i1 : Int32} {i2 : Int32} {i3 : Int32} {i4 : Int32} {i5 : Int32} {i6 : Int32} {i7 : Int32} {i8 : Int32} {i9 : Int32} {i10 : Int32} {i11 : Int32} {i12 : Int32} {σ : Sg} {τ : Sg} {H : Heap} {locs : List Loc} {ls : Array Slot}, X5_atStop_run n 129 a0 i1 i2 i3 i4 i5 i6 i7 i8 i9 i10 i11 i12 σ = some τ → Dy base D cI cJ σ H → va_S (fun q => base ≤ q) s.heap H locs → lv_has ls 15 [(0, .ref (base + a0)), (1, .int i1), (2, .int i2), (3, .int i3), (4, .int i4), (5, .int i5), (6, .int i6), (7, .int i7), (8, .int i8), (9, .int i9), (10, .int i10), (11, .int i11), (12, .int i12)] → W p l e (rmD 1 0 0) s m args below meth c H locs 0 0 (MQ below (QwV base D cI cJ τ) args s 0 0 (fun q => base ≤ q)) (F0 m 129 ls []))) {a0 : Nat} {i1 : Int32} {i2 : Int32} {i3 : Int32} {i4 : Int32} {i5 : Int32} {i6 : Int32} {i7 : Int32} {i8 : Int32} {σ : Sg} {τ : Sg} {H : Heap} {locs : List Loc} {ls : Array Slot} (h : X5_atStop_b63 n (X5_atStop_run n) a0 i1 i2 i3 i4 i5 i6 i7 i8 σ = some τ) : Dy base D cI cJ σ H → va_S (fun q => base ≤ q) s.heap H locs → lv_has ls 15 [(0, .ref (base + a0)), (1, .int i1), (2, .int i2), (3, .int i3), (4, .int i4), (5, .int i5), (6, .int i6), (7, .int i7), (8, .int i8)] → W p l e (rmD 1 0 0) s m args below meth c H locs 0 0 (MQ below (QwV base D cI cJ τ) args s 0 0 (fun q => base ≤ q)) (F0 m 63 ls []) := by
  intro hP hS hl
  obtain ⟨hx, hb, hml, hown, hts⟩ := hC.1
  unfold X5_atStop_b63 at h
  refine lv_iconst (v := 1) hx hb dX5_atStop_63 (by decide) ?_
  refine lv_goto (tgt := 68) hx hb dX5_atStop_64 (by decide) ?_
  exact X5_atStop_k68 hC hr hlocks ih h hP hS (lv_sub hl [0, 1, 2, 3, 4, 5, 6, 7, 8] rfl)
set_option maxRecDepth 100000 in
set_option maxHeartbeats 4000000 in
theorem X5_atStop_k22 (hC : Cx p m c cX5_atStop 15 s args RX5 base D cI cJ tS) (hr : meth.sig.returnType = none) (hlocks : meth.locks = false) {n : Nat} (ih : (∀ {a0 : Nat} {i1 : Int32} {i2 : Int32} {i3 : Int32} {i4 : Int32} {i5 : Int32} {i6 : Int32} {i7 : Int32} {i8 : Int32} {i9 : Int32} {i10 : Int32} {i11 : Int32} {i12 : Int32} {σ : Sg} {τ : Sg} {H : Heap} {locs : List Loc} {ls : Array Slot}, X5_atStop_run n 22 a0 i1 i2 i3 i4 i5 i6 i7 i8 i9 i10 i11 i12 σ = some τ → Dy base D cI cJ σ H → va_S (fun q => base ≤ q) s.heap H locs → lv_has ls 15 [(0, .ref (base + a0)), (1, .int i1), (2, .int i2), (3, .int i3), (4, .int i4), (5, .int i5), (6, .int i6)] → W p l e (rmD 1 0 0) s m args below meth c H locs 0 0 (MQ below (QwV base D cI cJ τ) args s 0 0 (fun q => base ≤ q)) (F0 m 22 ls [])) ∧ (∀ {a0 : Nat} {i1 : Int32} {i2 : Int32} {i3 : Int32} {i4 : Int32} {i5 : Int32} {i6 : Int32} {i7 : Int32} {i8 : Int32} {i9 : Int32} {i10 : Int32} {i11 : Int32} {i12 : Int32} {σ : Sg} {τ : Sg} {H : Heap} {locs : List Loc} {ls : Array Slot}, X5_atStop_run n 129 a0 i1 i2 i3 i4 i5 i6 i7 i8 i9 i10 i11 i12 σ = some τ → Dy base D cI cJ σ H → va_S (fun q => base ≤ q) s.heap H locs → lv_has ls 15 [(0, .ref (base + a0)), (1, .int i1), (2, .int i2), (3, .int i3), (4, .int i4), (5, .int i5), (6, .int i6), (7, .int i7), (8, .int i8), (9, .int i9), (10, .int i10), (11, .int i11), (12, .int i12)] → W p l e (rmD 1 0 0) s m args below meth c H locs 0 0 (MQ below (QwV base D cI cJ τ) args s 0 0 (fun q => base ≤ q)) (F0 m 129 ls []))) {a0 : Nat} {i1 : Int32} {i2 : Int32} {i3 : Int32} {i4 : Int32} {i5 : Int32} {i6 : Int32} {σ : Sg} {τ : Sg} {H : Heap} {locs : List Loc} {ls : Array Slot} (h : X5_atStop_b22 n (X5_atStop_run n) a0 i1 i2 i3 i4 i5 i6 σ = some τ) : Dy base D cI cJ σ H → va_S (fun q => base ≤ q) s.heap H locs → lv_has ls 15 [(0, .ref (base + a0)), (1, .int i1), (2, .int i2), (3, .int i3), (4, .int i4), (5, .int i5), (6, .int i6)] → W p l e (rmD 1 0 0) s m args below meth c H locs 0 0 (MQ below (QwV base D cI cJ τ) args s 0 0 (fun q => base ≤ q)) (F0 m 22 ls []) := by
  intro hP hS hl
  obtain ⟨hx, hb, hml, hown, hts⟩ := hC.1
  unfold X5_atStop_b22 at h
  refine lv_iload hx hb dX5_atStop_22 (lv_at hl 6 rfl) ?_
  refine lv_iload_n hx hb dX5_atStop_24 rfl (lv_at hl 3 rfl) ?_
  refine lv_icmp_ge (tgt := 413) hx hb dX5_atStop_25 (by decide) (fun c_14 => ?_) (fun c_14 => ?_)
  · rw [if_pos c_14] at h
    obtain rfl := Option.some.inj h
    exact w_vret hC hr hlocks hP hS dX5_atStop_413
  · rw [if_neg c_14] at h
    refine lv_aload_n hx hb dX5_atStop_28 rfl (lv_at hl 0 rfl) ?_
    obtain ⟨q_15, hq_15, h⟩ := obn h
    refine w_getR (ci := 5) (j := 28) hC hP rfl inlX5 (by decide) (by decide) rfl hq_15 wl_89 dX5_atStop_29 ?_
    refine lv_iload hx hb dX5_atStop_32 (lv_at hl 6 rfl) ?_
    obtain ⟨v_16, hv_16, h⟩ := obn h
    refine w_iald hC hP hv_16 dX5_atStop_34 ?_
    refine lv_istore (lv' := [(7, .int v_16), (0, .ref (base + a0)), (1, .int i1), (2, .int i2), (3, .int i3), (4, .int i4), (5, .int i5), (6, .int i6)]) hx hb dX5_atStop_35 hl (by decide) rfl (fun ls hl => ?_)
    refine lv_bipush (v := 10) hx hb dX5_atStop_37 (by decide) ?_
    refine lv_iload hx hb dX5_atStop_39 (lv_at hl 0 rfl) ?_
    refine lv_imul hx hb dX5_atStop_41 ?_
    refine lv_iload_n hx hb dX5_atStop_42 rfl (lv_at hl 2 rfl) ?_
    refine lv_iadd hx hb dX5_atStop_43 ?_
    obtain ⟨i8_17, hi8_17, h⟩ := obn h
    refine w_eqi (Option.some.inj hi8_17) ?_
    refine lv_istore (lv' := [(8, .int i8_17), (7, .int v_16), (0, .ref (base + a0)), (1, .int i1), (2, .int i2), (3, .int i3), (4, .int i4), (5, .int i5), (6, .int i6)]) hx hb dX5_atStop_44 hl (by decide) rfl (fun ls hl => ?_)
    refine lv_iload_n hx hb dX5_atStop_46 rfl (lv_at hl 3 rfl) ?_
    refine lv_bipush (v := 9) hx hb dX5_atStop_47 (by decide) ?_
    refine lv_icmp_eq (tgt := 63) hx hb dX5_atStop_49 (by decide) (fun c_18 => ?_) (fun c_18 => ?_)
    · rw [if_pos c_18] at h
      exact X5_atStop_k63 hC hr hlocks ih h hP hS (lv_sub hl [2, 3, 4, 5, 6, 7, 8, 1, 0] rfl)
    · rw [if_neg c_18] at h
      refine lv_aload_n hx hb dX5_atStop_52 rfl (lv_at hl 2 rfl) ?_
      obtain ⟨q_19, hq_19, h⟩ := obn h
      refine w_getR (ci := 5) (j := 6) hC hP rfl inlX5 (by decide) (by decide) rfl hq_19 wl_71 dX5_atStop_53 ?_
      refine lv_iload hx hb dX5_atStop_56 (lv_at hl 1 rfl) ?_
      obtain ⟨v_20, hv_20, h⟩ := obn h
      refine w_iald hC hP hv_20 dX5_atStop_58 ?_
      refine lv_iload_n hx hb dX5_atStop_59 rfl (lv_at hl 3 rfl) ?_
      refine lv_icmp_ne (tgt := 67) hx hb dX5_atStop_60 (by decide) (fun c_21 => ?_) (fun c_21 => ?_)
      · rw [if_neg c_21] at h
        refine lv_iconst (v := 0) hx hb dX5_atStop_67 (by decide) ?_
        exact X5_atStop_k68 hC hr hlocks ih h hP hS (lv_sub hl [2, 3, 4, 5, 6, 7, 8, 1, 0] rfl)
      · rw [if_pos c_21] at h
        exact X5_atStop_k63 hC hr hlocks ih h hP hS (lv_sub hl [2, 3, 4, 5, 6, 7, 8, 1, 0] rfl)
set_option maxRecDepth 100000 in
set_option maxHeartbeats 4000000 in
theorem X5_atStop_k405 (hC : Cx p m c cX5_atStop 15 s args RX5 base D cI cJ tS) (hr : meth.sig.returnType = none) (hlocks : meth.locks = false) {n : Nat} (ih : (∀ {a0 : Nat} {i1 : Int32} {i2 : Int32} {i3 : Int32} {i4 : Int32} {i5 : Int32} {i6 : Int32} {i7 : Int32} {i8 : Int32} {i9 : Int32} {i10 : Int32} {i11 : Int32} {i12 : Int32} {σ : Sg} {τ : Sg} {H : Heap} {locs : List Loc} {ls : Array Slot}, X5_atStop_run n 22 a0 i1 i2 i3 i4 i5 i6 i7 i8 i9 i10 i11 i12 σ = some τ → Dy base D cI cJ σ H → va_S (fun q => base ≤ q) s.heap H locs → lv_has ls 15 [(0, .ref (base + a0)), (1, .int i1), (2, .int i2), (3, .int i3), (4, .int i4), (5, .int i5), (6, .int i6)] → W p l e (rmD 1 0 0) s m args below meth c H locs 0 0 (MQ below (QwV base D cI cJ τ) args s 0 0 (fun q => base ≤ q)) (F0 m 22 ls [])) ∧ (∀ {a0 : Nat} {i1 : Int32} {i2 : Int32} {i3 : Int32} {i4 : Int32} {i5 : Int32} {i6 : Int32} {i7 : Int32} {i8 : Int32} {i9 : Int32} {i10 : Int32} {i11 : Int32} {i12 : Int32} {σ : Sg} {τ : Sg} {H : Heap} {locs : List Loc} {ls : Array Slot}, X5_atStop_run n 129 a0 i1 i2 i3 i4 i5 i6 i7 i8 i9 i10 i11 i12 σ = some τ → Dy base D cI cJ σ H → va_S (fun q => base ≤ q) s.heap H locs → lv_has ls 15 [(0, .ref (base + a0)), (1, .int i1), (2, .int i2), (3, .int i3), (4, .int i4), (5, .int i5), (6, .int i6), (7, .int i7), (8, .int i8), (9, .int i9), (10, .int i10), (11, .int i11), (12, .int i12)] → W p l e (rmD 1 0 0) s m args below meth c H locs 0 0 (MQ below (QwV base D cI cJ τ) args s 0 0 (fun q => base ≤ q)) (F0 m 129 ls []))) {a0 : Nat} {i1 : Int32} {i2 : Int32} {i3 : Int32} {i5 : Int32} {i6 : Int32} {ti0 : Int32} {σ : Sg} {τ : Sg} {H : Heap} {locs : List Loc} {ls : Array Slot} (h : X5_atStop_b405 n (X5_atStop_run n) a0 i1 i2 i3 i5 i6 ti0 σ = some τ) : Dy base D cI cJ σ H → va_S (fun q => base ≤ q) s.heap H locs → lv_has ls 15 [(0, .ref (base + a0)), (1, .int i1), (2, .int i2), (3, .int i3), (5, .int i5), (6, .int i6)] → W p l e (rmD 1 0 0) s m args below meth c H locs 0 0 (MQ below (QwV base D cI cJ τ) args s 0 0 (fun q => base ≤ q)) (F0 m 405 ls [.int ti0]) := by
  intro hP hS hl
  obtain ⟨hx, hb, hml, hown, hts⟩ := hC.1
  unfold X5_atStop_b405 at h
  refine lv_istore (lv' := [(4, .int ti0), (0, .ref (base + a0)), (1, .int i1), (2, .int i2), (3, .int i3), (5, .int i5), (6, .int i6)]) hx hb dX5_atStop_405 hl (by decide) rfl (fun ls hl => ?_)
  obtain ⟨i6_22, hi6_22, h⟩ := obn h
  refine lv_iinc (v := i6_22) (lv' := [(6, .int i6_22), (4, .int ti0), (0, .ref (base + a0)), (1, .int i1), (2, .int i2), (3, .int i3), (5, .int i5)]) hx hb dX5_atStop_407 hl (k := 6) rfl (Option.some.inj hi6_22) (by decide) rfl (fun ls hl => ?_)
  refine lv_goto (tgt := 22) hx hb dX5_atStop_410 (by decide) ?_
  exact ih.1 h hP hS (lv_sub hl [2, 3, 4, 5, 1, 6, 0] rfl)
set_option maxRecDepth 100000 in
set_option maxHeartbeats 4000000 in
theorem X5_atStop_k403 (hC : Cx p m c cX5_atStop 15 s args RX5 base D cI cJ tS) (hr : meth.sig.returnType = none) (hlocks : meth.locks = false) {n : Nat} (ih : (∀ {a0 : Nat} {i1 : Int32} {i2 : Int32} {i3 : Int32} {i4 : Int32} {i5 : Int32} {i6 : Int32} {i7 : Int32} {i8 : Int32} {i9 : Int32} {i10 : Int32} {i11 : Int32} {i12 : Int32} {σ : Sg} {τ : Sg} {H : Heap} {locs : List Loc} {ls : Array Slot}, X5_atStop_run n 22 a0 i1 i2 i3 i4 i5 i6 i7 i8 i9 i10 i11 i12 σ = some τ → Dy base D cI cJ σ H → va_S (fun q => base ≤ q) s.heap H locs → lv_has ls 15 [(0, .ref (base + a0)), (1, .int i1), (2, .int i2), (3, .int i3), (4, .int i4), (5, .int i5), (6, .int i6)] → W p l e (rmD 1 0 0) s m args below meth c H locs 0 0 (MQ below (QwV base D cI cJ τ) args s 0 0 (fun q => base ≤ q)) (F0 m 22 ls [])) ∧ (∀ {a0 : Nat} {i1 : Int32} {i2 : Int32} {i3 : Int32} {i4 : Int32} {i5 : Int32} {i6 : Int32} {i7 : Int32} {i8 : Int32} {i9 : Int32} {i10 : Int32} {i11 : Int32} {i12 : Int32} {σ : Sg} {τ : Sg} {H : Heap} {locs : List Loc} {ls : Array Slot}, X5_atStop_run n 129 a0 i1 i2 i3 i4 i5 i6 i7 i8 i9 i10 i11 i12 σ = some τ → Dy base D cI cJ σ H → va_S (fun q => base ≤ q) s.heap H locs → lv_has ls 15 [(0, .ref (base + a0)), (1, .int i1), (2, .int i2), (3, .int i3), (4, .int i4), (5, .int i5), (6, .int i6), (7, .int i7), (8, .int i8), (9, .int i9), (10, .int i10), (11, .int i11), (12, .int i12)] → W p l e (rmD 1 0 0) s m args below meth c H locs 0 0 (MQ below (QwV base D cI cJ τ) args s 0 0 (fun q => base ≤ q)) (F0 m 129 ls []))) {a0 : Nat} {i1 : Int32} {i2 : Int32} {i3 : Int32} {i4 : Int32} {i5 : Int32} {i6 : Int32} {σ : Sg} {τ : Sg} {H : Heap} {locs : List Loc} {ls : Array Slot} (h : X5_atStop_b403 n (X5_atStop_run n) a0 i1 i2 i3 i4 i5 i6 σ = some τ) : Dy base D cI cJ σ H → va_S (fun q => base ≤ q) s.heap H locs → lv_has ls 15 [(0, .ref (base + a0)), (1, .int i1), (2, .int i2), (3, .int i3), (4, .int i4), (5, .int i5), (6, .int i6)] → W p l e (rmD 1 0 0) s m args below meth c H locs 0 0 (MQ below (QwV base D cI cJ τ) args s 0 0 (fun q => base ≤ q)) (F0 m 403 ls []) := by
  intro hP hS hl
  obtain ⟨hx, hb, hml, hown, hts⟩ := hC.1
  unfold X5_atStop_b403 at h
  refine lv_iload hx hb dX5_atStop_403 (lv_at hl 4 rfl) ?_
  exact X5_atStop_k405 hC hr hlocks ih h hP hS (lv_sub hl [0, 1, 2, 3, 5, 6] rfl)
set_option maxRecDepth 100000 in
set_option maxHeartbeats 4000000 in
theorem X5_atStop_k384 (hC : Cx p m c cX5_atStop 15 s args RX5 base D cI cJ tS) (hr : meth.sig.returnType = none) (hlocks : meth.locks = false) {n : Nat} (ih : (∀ {a0 : Nat} {i1 : Int32} {i2 : Int32} {i3 : Int32} {i4 : Int32} {i5 : Int32} {i6 : Int32} {i7 : Int32} {i8 : Int32} {i9 : Int32} {i10 : Int32} {i11 : Int32} {i12 : Int32} {σ : Sg} {τ : Sg} {H : Heap} {locs : List Loc} {ls : Array Slot}, X5_atStop_run n 22 a0 i1 i2 i3 i4 i5 i6 i7 i8 i9 i10 i11 i12 σ = some τ → Dy base D cI cJ σ H → va_S (fun q => base ≤ q) s.heap H locs → lv_has ls 15 [(0, .ref (base + a0)), (1, .int i1), (2, .int i2), (3, .int i3), (4, .int i4), (5, .int i5), (6, .int i6)] → W p l e (rmD 1 0 0) s m args below meth c H locs 0 0 (MQ below (QwV base D cI cJ τ) args s 0 0 (fun q => base ≤ q)) (F0 m 22 ls [])) ∧ (∀ {a0 : Nat} {i1 : Int32} {i2 : Int32} {i3 : Int32} {i4 : Int32} {i5 : Int32} {i6 : Int32} {i7 : Int32} {i8 : Int32} {i9 : Int32} {i10 : Int32} {i11 : Int32} {i12 : Int32} {σ : Sg} {τ : Sg} {H : Heap} {locs : List Loc} {ls : Array Slot}, X5_atStop_run n 129 a0 i1 i2 i3 i4 i5 i6 i7 i8 i9 i10 i11 i12 σ = some τ → Dy base D cI cJ σ H → va_S (fun q => base ≤ q) s.heap H locs → lv_has ls 15 [(0, .ref (base + a0)), (1, .int i1), (2, .int i2), (3, .int i3), (4, .int i4), (5, .int i5), (6, .int i6), (7, .int i7), (8, .int i8), (9, .int i9), (10, .int i10), (11, .int i11), (12, .int i12)] → W p l e (rmD 1 0 0) s m args below meth c H locs 0 0 (MQ below (QwV base D cI cJ τ) args s 0 0 (fun q => base ≤ q)) (F0 m 129 ls []))) {a0 : Nat} {i1 : Int32} {i2 : Int32} {i3 : Int32} {i4 : Int32} {i6 : Int32} {i9 : Int32} {i13 : Int32} {ti0 : Int32} {σ : Sg} {τ : Sg} {H : Heap} {locs : List Loc} {ls : Array Slot} (h : X5_atStop_b384 n (X5_atStop_run n) a0 i1 i2 i3 i4 i6 i9 i13 ti0 σ = some τ) : Dy base D cI cJ σ H → va_S (fun q => base ≤ q) s.heap H locs → lv_has ls 15 [(0, .ref (base + a0)), (1, .int i1), (2, .int i2), (3, .int i3), (4, .int i4), (6, .int i6), (9, .int i9), (13, .int i13)] → W p l e (rmD 1 0 0) s m args below meth c H locs 0 0 (MQ below (QwV base D cI cJ τ) args s 0 0 (fun q => base ≤ q)) (F0 m 384 ls [.int ti0]) := by
  intro hP hS hl
  obtain ⟨hx, hb, hml, hown, hts⟩ := hC.1
  unfold X5_atStop_b384 at h
  refine lv_istore (lv' := [(5, .int ti0), (0, .ref (base + a0)), (1, .int i1), (2, .int i2), (3, .int i3), (4, .int i4), (6, .int i6), (9, .int i9), (13, .int i13)]) hx hb dX5_atStop_384 hl (by decide) rfl (fun ls hl => ?_)
  refine lv_iload hx hb dX5_atStop_386 (lv_at hl 7 rfl) ?_
  refine lv_if_ne (tgt := 403) hx hb dX5_atStop_388 (by decide) (fun c_23 => ?_) (fun c_23 => ?_)
  · rw [if_neg c_23] at h
    exact X5_atStop_k403 hC hr hlocks ih h hP hS (lv_sub hl [1, 2, 3, 4, 5, 0, 6] rfl)
  · rw [if_pos c_23] at h
    refine lv_iload hx hb dX5_atStop_391 (lv_at hl 8 rfl) ?_
    refine lv_iload hx hb dX5_atStop_393 (lv_at hl 5 rfl) ?_
    refine lv_icmp_le (tgt := 403) hx hb dX5_atStop_395 (by decide) (fun c_24 => ?_) (fun c_24 => ?_)
    · rw [if_pos c_24] at h
      exact X5_atStop_k403 hC hr hlocks ih h hP hS (lv_sub hl [1, 2, 3, 4, 5, 0, 6] rfl)
    · rw [if_neg c_24] at h
      refine lv_iload hx hb dX5_atStop_398 (lv_at hl 8 rfl) ?_
      refine lv_goto (tgt := 405) hx hb dX5_atStop_400 (by decide) ?_
      exact X5_atStop_k405 hC hr hlocks ih h hP hS (lv_sub hl [1, 2, 3, 4, 0, 6] rfl)
set_option maxRecDepth 100000 in
set_option maxHeartbeats 4000000 in
theorem X5_atStop_k361 (hC : Cx p m c cX5_atStop 15 s args RX5 base D cI cJ tS) (hr : meth.sig.returnType = none) (hlocks : meth.locks = false) {n : Nat} (ih : (∀ {a0 : Nat} {i1 : Int32} {i2 : Int32} {i3 : Int32} {i4 : Int32} {i5 : Int32} {i6 : Int32} {i7 : Int32} {i8 : Int32} {i9 : Int32} {i10 : Int32} {i11 : Int32} {i12 : Int32} {σ : Sg} {τ : Sg} {H : Heap} {locs : List Loc} {ls : Array Slot}, X5_atStop_run n 22 a0 i1 i2 i3 i4 i5 i6 i7 i8 i9 i10 i11 i12 σ = some τ → Dy base D cI cJ σ H → va_S (fun q => base ≤ q) s.heap H locs → lv_has ls 15 [(0, .ref (base + a0)), (1, .int i1), (2, .int i2), (3, .int i3), (4, .int i4), (5, .int i5), (6, .int i6)] → W p l e (rmD 1 0 0) s m args below meth c H locs 0 0 (MQ below (QwV base D cI cJ τ) args s 0 0 (fun q => base ≤ q)) (F0 m 22 ls [])) ∧ (∀ {a0 : Nat} {i1 : Int32} {i2 : Int32} {i3 : Int32} {i4 : Int32} {i5 : Int32} {i6 : Int32} {i7 : Int32} {i8 : Int32} {i9 : Int32} {i10 : Int32} {i11 : Int32} {i12 : Int32} {σ : Sg} {τ : Sg} {H : Heap} {locs : List Loc} {ls : Array Slot}, X5_atStop_run n 129 a0 i1 i2 i3 i4 i5 i6 i7 i8 i9 i10 i11 i12 σ = some τ → Dy base D cI cJ σ H → va_S (fun q => base ≤ q) s.heap H locs → lv_has ls 15 [(0, .ref (base + a0)), (1, .int i1), (2, .int i2), (3, .int i3), (4, .int i4), (5, .int i5), (6, .int i6), (7, .int i7), (8, .int i8), (9, .int i9), (10, .int i10), (11, .int i11), (12, .int i12)] → W p l e (rmD 1 0 0) s m args below meth c H locs 0 0 (MQ below (QwV base D cI cJ τ) args s 0 0 (fun q => base ≤ q)) (F0 m 129 ls []))) {a0 : Nat} {i1 : Int32} {i2 : Int32} {i3 : Int32} {i4 : Int32} {i5 : Int32} {i6 : Int32} {i8 : Int32} {i9 : Int32} {i13 : Int32} {σ : Sg} {τ : Sg} {H : Heap} {locs : List Loc} {ls : Array Slot} (h : X5_atStop_b361 n (X5_atStop_run n) a0 i1 i2 i3 i4 i5 i6 i8 i9 i13 σ = some τ) : Dy base D cI cJ σ H → va_S (fun q => base ≤ q) s.heap H locs → lv_has ls 15 [(0, .ref (base + a0)), (1, .int i1), (2, .int i2), (3, .int i3), (4, .int i4), (5, .int i5), (6, .int i6), (8, .int i8), (9, .int i9), (13, .int i13)] → W p l e (rmD 1 0 0) s m args below meth c H locs 0 0 (MQ below (QwV base D cI cJ τ) args s 0 0 (fun q => base ≤ q)) (F0 m 361 ls []) := by
  intro hP hS hl
  obtain ⟨hx, hb, hml, hown, hts⟩ := hC.1
  unfold X5_atStop_b361 at h
  refine lv_aload_n hx hb dX5_atStop_361 rfl (lv_at hl 0 rfl) ?_
  obtain ⟨q_25, hq_25, h⟩ := obn h
  refine w_getR (ci := 5) (j := 18) hC hP rfl inlX5 (by decide) (by decide) rfl hq_25 wl_79 dX5_atStop_362 ?_
  refine lv_iload hx hb dX5_atStop_365 (lv_at hl 7 rfl) ?_
  refine lv_iload hx hb dX5_atStop_367 (lv_at hl 9 rfl) ?_
  obtain ⟨s_26, hs_26, h⟩ := obn h
  refine w_iast hC hP hS hs_26 dX5_atStop_369 (fun H locs hP hS => ?_)
  refine lv_iload hx hb dX5_atStop_370 (lv_at hl 9 rfl) ?_
  refine lv_iload hx hb dX5_atStop_372 (lv_at hl 5 rfl) ?_
  refine lv_icmp_le (tgt := 382) hx hb dX5_atStop_374 (by decide) (fun c_27 => ?_) (fun c_27 => ?_)
  · rw [if_pos c_27] at h
    refine lv_iload hx hb dX5_atStop_382 (lv_at hl 5 rfl) ?_
    exact X5_atStop_k384 hC hr hlocks ih h hP hS (lv_sub hl [0, 1, 2, 3, 4, 6, 8, 9] rfl)
  · rw [if_neg c_27] at h
    refine lv_iload hx hb dX5_atStop_377 (lv_at hl 9 rfl) ?_
    refine lv_goto (tgt := 384) hx hb dX5_atStop_379 (by decide) ?_
    exact X5_atStop_k384 hC hr hlocks ih h hP hS (lv_sub hl [0, 1, 2, 3, 4, 6, 8, 9] rfl)
set_option maxRecDepth 100000 in
set_option maxHeartbeats 4000000 in
theorem X5_atStop_k359 (hC : Cx p m c cX5_atStop 15 s args RX5 base D cI cJ tS) (hr : meth.sig.returnType = none) (hlocks : meth.locks = false) {n : Nat} (ih : (∀ {a0 : Nat} {i1 : Int32} {i2 : Int32} {i3 : Int32} {i4 : Int32} {i5 : Int32} {i6 : Int32} {i7 : Int32} {i8 : Int32} {i9 : Int32} {i10 : Int32} {i11 : Int32} {i12 : Int32} {σ : Sg} {τ : Sg} {H : Heap} {locs : List Loc} {ls : Array Slot}, X5_atStop_run n 22 a0 i1 i2 i3 i4 i5 i6 i7 i8 i9 i10 i11 i12 σ = some τ → Dy base D cI cJ σ H → va_S (fun q => base ≤ q) s.heap H locs → lv_has ls 15 [(0, .ref (base + a0)), (1, .int i1), (2, .int i2), (3, .int i3), (4, .int i4), (5, .int i5), (6, .int i6)] → W p l e (rmD 1 0 0) s m args below meth c H locs 0 0 (MQ below (QwV base D cI cJ τ) args s 0 0 (fun q => base ≤ q)) (F0 m 22 ls [])) ∧ (∀ {a0 : Nat} {i1 : Int32} {i2 : Int32} {i3 : Int32} {i4 : Int32} {i5 : Int32} {i6 : Int32} {i7 : Int32} {i8 : Int32} {i9 : Int32} {i10 : Int32} {i11 : Int32} {i12 : Int32} {σ : Sg} {τ : Sg} {H : Heap} {locs : List Loc} {ls : Array Slot}, X5_atStop_run n 129 a0 i1 i2 i3 i4 i5 i6 i7 i8 i9 i10 i11 i12 σ = some τ → Dy base D cI cJ σ H → va_S (fun q => base ≤ q) s.heap H locs → lv_has ls 15 [(0, .ref (base + a0)), (1, .int i1), (2, .int i2), (3, .int i3), (4, .int i4), (5, .int i5), (6, .int i6), (7, .int i7), (8, .int i8), (9, .int i9), (10, .int i10), (11, .int i11), (12, .int i12)] → W p l e (rmD 1 0 0) s m args below meth c H locs 0 0 (MQ below (QwV base D cI cJ τ) args s 0 0 (fun q => base ≤ q)) (F0 m 129 ls []))) {a0 : Nat} {i1 : Int32} {i2 : Int32} {i3 : Int32} {i4 : Int32} {i5 : Int32} {i6 : Int32} {i8 : Int32} {i9 : Int32} {ti0 : Int32} {σ : Sg} {τ : Sg} {H : Heap} {locs : List Loc} {ls : Array Slot} (h : X5_atStop_b359 n (X5_atStop_run n) a0 i1 i2 i3 i4 i5 i6 i8 i9 ti0 σ = some τ) : Dy base D cI cJ σ H → va_S (fun q => base ≤ q) s.heap H locs → lv_has ls 15 [(0, .ref (base + a0)), (1, .int i1), (2, .int i2), (3, .int i3), (4, .int i4), (5, .int i5), (6, .int i6), (8, .int i8), (9, .int i9)] → W p l e (rmD 1 0 0) s m args below meth c H locs 0 0 (MQ below (QwV base D cI cJ τ) args s 0 0 (fun q => base ≤ q)) (F0 m 359 ls [.int ti0]) := by
  intro hP hS hl
  obtain ⟨hx, hb, hml, hown, hts⟩ := hC.1
  unfold X5_atStop_b359 at h
  refine lv_istore (lv' := [(13, .int ti0), (0, .ref (base + a0)), (1, .int i1), (2, .int i2), (3, .int i3), (4, .int i4), (5, .int i5), (6, .int i6), (8, .int i8), (9, .int i9)]) hx hb dX5_atStop_359 hl (by decide) rfl (fun ls hl => ?_)
  exact X5_atStop_k361 hC hr hlocks ih h hP hS (lv_sub hl [1, 2, 3, 4, 5, 6, 7, 8, 9, 0] rfl)
set_option maxRecDepth 100000 in
set_option maxHeartbeats 4000000 in
theorem X5_atStop_k311 (hC : Cx p m c cX5_atStop 15 s args RX5 base D cI cJ tS) (hr : meth.sig.returnType = none) (hlocks : meth.locks = false) {n : Nat} (ih : (∀ {a0 : Nat} {i1 : Int32} {i2 : Int32} {i3 : Int32} {i4 : Int32} {i5 : Int32} {i6 : Int32} {i7 : Int32} {i8 : Int32} {i9 : Int32} {i10 : Int32} {i11 : Int32} {i12 : Int32} {σ : Sg} {τ : Sg} {H : Heap} {locs : List Loc} {ls : Array Slot}, X5_atStop_run n 22 a0 i1 i2 i3 i4 i5 i6 i7 i8 i9 i10 i11 i12 σ = some τ → Dy base D cI cJ σ H → va_S (fun q => base ≤ q) s.heap H locs → lv_has ls 15 [(0, .ref (base + a0)), (1, .int i1), (2, .int i2), (3, .int i3), (4, .int i4), (5, .int i5), (6, .int i6)] → W p l e (rmD 1 0 0) s m args below meth c H locs 0 0 (MQ below (QwV base D cI cJ τ) args s 0 0 (fun q => base ≤ q)) (F0 m 22 ls [])) ∧ (∀ {a0 : Nat} {i1 : Int32} {i2 : Int32} {i3 : Int32} {i4 : Int32} {i5 : Int32} {i6 : Int32} {i7 : Int32} {i8 : Int32} {i9 : Int32} {i10 : Int32} {i11 : Int32} {i12 : Int32} {σ : Sg} {τ : Sg} {H : Heap} {locs : List Loc} {ls : Array Slot}, X5_atStop_run n 129 a0 i1 i2 i3 i4 i5 i6 i7 i8 i9 i10 i11 i12 σ = some τ → Dy base D cI cJ σ H → va_S (fun q => base ≤ q) s.heap H locs → lv_has ls 15 [(0, .ref (base + a0)), (1, .int i1), (2, .int i2), (3, .int i3), (4, .int i4), (5, .int i5), (6, .int i6), (7, .int i7), (8, .int i8), (9, .int i9), (10, .int i10), (11, .int i11), (12, .int i12)] → W p l e (rmD 1 0 0) s m args below meth c H locs 0 0 (MQ below (QwV base D cI cJ τ) args s 0 0 (fun q => base ≤ q)) (F0 m 129 ls []))) {a0 : Nat} {i1 : Int32} {i2 : Int32} {i3 : Int32} {i4 : Int32} {i5 : Int32} {i6 : Int32} {i8 : Int32} {i9 : Int32} {i13 : Int32} {σ : Sg} {τ : Sg} {H : Heap} {locs : List Loc} {ls : Array Slot} (h : X5_atStop_b311 n (X5_atStop_run n) a0 i1 i2 i3 i4 i5 i6 i8 i9 i13 σ = some τ) : Dy base D cI cJ σ H → va_S (fun q => base ≤ q) s.heap H locs → lv_has ls 15 [(0, .ref (base + a0)), (1, .int i1), (2, .int i2), (3, .int i3), (4, .int i4), (5, .int i5), (6, .int i6), (8, .int i8), (9, .int i9), (13, .int i13)] → W p l e (rmD 1 0 0) s m args below meth c H locs 0 0 (MQ below (QwV base D cI cJ τ) args s 0 0 (fun q => base ≤ q)) (F0 m 311 ls []) := by
  intro hP hS hl
  obtain ⟨hx, hb, hml, hown, hts⟩ := hC.1
  unfold X5_atStop_b311 at h
  refine lv_iload hx hb dX5_atStop_311 (lv_at hl 8 rfl) ?_
  refine lv_if_ne (tgt := 361) hx hb dX5_atStop_313 (by decide) (fun c_28 => ?_) (fun c_28 => ?_)
  · rw [if_neg c_28] at h
    exact X5_atStop_k361 hC hr hlocks ih h hP hS (lv_sub hl [0, 1, 2, 3, 4, 5, 6, 7, 8, 9] rfl)
  · rw [if_pos c_28] at h
    refine lv_aload_n hx hb dX5_atStop_316 rfl (lv_at hl 0 rfl) ?_
    obtain ⟨q_29, hq_29, h⟩ := obn h
    refine w_getR (ci := 5) (j := 15) hC hP rfl inlX5 (by decide) (by decide) rfl hq_29 wl_76 dX5_atStop_317 ?_
    refine lv_iload_n hx hb dX5_atStop_320 rfl (lv_at hl 1 rfl) ?_
    obtain ⟨v_30, hv_30, h⟩ := obn h
    refine w_iald hC hP hv_30 dX5_atStop_321 ?_
    refine lv_iconst (v := 2) hx hb dX5_atStop_322 (by decide) ?_
    refine lv_icmp_ne (tgt := 361) hx hb dX5_atStop_323 (by decide) (fun c_31 => ?_) (fun c_31 => ?_)
    · rw [if_neg c_31] at h
      exact X5_atStop_k361 hC hr hlocks ih h hP hS (lv_sub hl [0, 1, 2, 3, 4, 5, 6, 7, 8, 9] rfl)
    · rw [if_pos c_31] at h
      refine lv_iload hx hb dX5_atStop_326 (lv_at hl 4 rfl) ?_
      refine lv_if_lt (tgt := 361) hx hb dX5_atStop_328 (by decide) (fun c_32 => ?_) (fun c_32 => ?_)
      · rw [if_pos c_32] at h
        exact X5_atStop_k361 hC hr hlocks ih h hP hS (lv_sub hl [0, 1, 2, 3, 4, 5, 6, 7, 8, 9] rfl)
      · rw [if_neg c_32] at h
        refine lv_iload hx hb dX5_atStop_331 (lv_at hl 4 rfl) ?_
        refine lv_aload_n hx hb dX5_atStop_333 rfl (lv_at hl 0 rfl) ?_
        obtain ⟨q_33, hq_33, h⟩ := obn h
        refine w_getR (ci := 5) (j := 16) hC hP rfl inlX5 (by decide) (by decide) rfl hq_33 wl_77 dX5_atStop_334 ?_
        refine lv_iload_n hx hb dX5_atStop_337 rfl (lv_at hl 1 rfl) ?_
        obtain ⟨v_34, hv_34, h⟩ := obn h
        refine w_iald hC hP hv_34 dX5_atStop_338 ?_
        refine lv_iadd hx hb dX5_atStop_339 ?_
        refine lv_iload hx hb dX5_atStop_340 (lv_at hl 9 rfl) ?_
        refine lv_icmp_le (tgt := 357) hx hb dX5_atStop_342 (by decide) (fun c_35 => ?_) (fun c_35 => ?_)
        · rw [if_pos c_35] at h
          refine lv_iload hx hb dX5_atStop_357 (lv_at hl 9 rfl) ?_
          exact X5_atStop_k359 hC hr hlocks ih h hP hS (lv_sub hl [0, 1, 2, 3, 4, 5, 6, 7, 8] rfl)
        · rw [if_neg c_35] at h
          refine lv_iload hx hb dX5_atStop_345 (lv_at hl 4 rfl) ?_
          refine lv_aload_n hx hb dX5_atStop_347 rfl (lv_at hl 0 rfl) ?_
          obtain ⟨q_36, hq_36, h⟩ := obn h
          refine w_getR (ci := 5) (j := 16) hC hP rfl inlX5 (by decide) (by decide) rfl hq_36 wl_77 dX5_atStop_348 ?_
          refine lv_iload_n hx hb dX5_atStop_351 rfl (lv_at hl 1 rfl) ?_
          obtain ⟨v_37, hv_37, h⟩ := obn h
          refine w_iald hC hP hv_37 dX5_atStop_352 ?_
          refine lv_iadd hx hb dX5_atStop_353 ?_
          refine lv_goto (tgt := 359) hx hb dX5_atStop_354 (by decide) ?_
          exact X5_atStop_k359 hC hr hlocks ih h hP hS (lv_sub hl [0, 1, 2, 3, 4, 5, 6, 7, 8] rfl)
set_option maxRecDepth 100000 in
set_option maxHeartbeats 4000000 in
theorem X5_atStop_k309 (hC : Cx p m c cX5_atStop 15 s args RX5 base D cI cJ tS) (hr : meth.sig.returnType = none) (hlocks : meth.locks = false) {n : Nat} (ih : (∀ {a0 : Nat} {i1 : Int32} {i2 : Int32} {i3 : Int32} {i4 : Int32} {i5 : Int32} {i6 : Int32} {i7 : Int32} {i8 : Int32} {i9 : Int32} {i10 : Int32} {i11 : Int32} {i12 : Int32} {σ : Sg} {τ : Sg} {H : Heap} {locs : List Loc} {ls : Array Slot}, X5_atStop_run n 22 a0 i1 i2 i3 i4 i5 i6 i7 i8 i9 i10 i11 i12 σ = some τ → Dy base D cI cJ σ H → va_S (fun q => base ≤ q) s.heap H locs → lv_has ls 15 [(0, .ref (base + a0)), (1, .int i1), (2, .int i2), (3, .int i3), (4, .int i4), (5, .int i5), (6, .int i6)] → W p l e (rmD 1 0 0) s m args below meth c H locs 0 0 (MQ below (QwV base D cI cJ τ) args s 0 0 (fun q => base ≤ q)) (F0 m 22 ls [])) ∧ (∀ {a0 : Nat} {i1 : Int32} {i2 : Int32} {i3 : Int32} {i4 : Int32} {i5 : Int32} {i6 : Int32} {i7 : Int32} {i8 : Int32} {i9 : Int32} {i10 : Int32} {i11 : Int32} {i12 : Int32} {σ : Sg} {τ : Sg} {H : Heap} {locs : List Loc} {ls : Array Slot}, X5_atStop_run n 129 a0 i1 i2 i3 i4 i5 i6 i7 i8 i9 i10 i11 i12 σ = some τ → Dy base D cI cJ σ H → va_S (fun q => base ≤ q) s.heap H locs → lv_has ls 15 [(0, .ref (base + a0)), (1, .int i1), (2, .int i2), (3, .int i3), (4, .int i4), (5, .int i5), (6, .int i6), (7, .int i7), (8, .int i8), (9, .int i9), (10, .int i10), (11, .int i11), (12, .int i12)] → W p l e (rmD 1 0 0) s m args below meth c H locs 0 0 (MQ below (QwV base D cI cJ τ) args s 0 0 (fun q => base ≤ q)) (F0 m 129 ls []))) {a0 : Nat} {i1 : Int32} {i2 : Int32} {i3 : Int32} {i4 : Int32} {i5 : Int32} {i6 : Int32} {i8 : Int32} {i9 : Int32} {ti0 : Int32} {σ : Sg} {τ : Sg} {H : Heap} {locs : List Loc} {ls : Array Slot} (h : X5_atStop_b309 n (X5_atStop_run n) a0 i1 i2 i3 i4 i5 i6 i8 i9 ti0 σ = some τ) : Dy base D cI cJ σ H → va_S (fun q => base ≤ q) s.heap H locs → lv_has ls 15 [(0, .ref (base + a0)), (1, .int i1), (2, .int i2), (3, .int i3), (4, .int i4), (5, .int i5), (6, .int i6), (8, .int i8), (9, .int i9)] → W p l e (rmD 1 0 0) s m args below meth c H locs 0 0 (MQ below (QwV base D cI cJ τ) args s 0 0 (fun q => base ≤ q)) (F0 m 309 ls [.int ti0]) := by
  intro hP hS hl
  obtain ⟨hx, hb, hml, hown, hts⟩ := hC.1
  unfold X5_atStop_b309 at h
  refine lv_istore (lv' := [(13, .int ti0), (0, .ref (base + a0)), (1, .int i1), (2, .int i2), (3, .int i3), (4, .int i4), (5, .int i5), (6, .int i6), (8, .int i8), (9, .int i9)]) hx hb dX5_atStop_309 hl (by decide) rfl (fun ls hl => ?_)
  exact X5_atStop_k311 hC hr hlocks ih h hP hS (lv_sub hl [1, 2, 3, 4, 5, 6, 7, 8, 9, 0] rfl)
set_option maxRecDepth 100000 in
set_option maxHeartbeats 4000000 in
theorem X5_atStop_k255 (hC : Cx p m c cX5_atStop 15 s args RX5 base D cI cJ tS) (hr : meth.sig.returnType = none) (hlocks : meth.locks = false) {n : Nat} (ih : (∀ {a0 : Nat} {i1 : Int32} {i2 : Int32} {i3 : Int32} {i4 : Int32} {i5 : Int32} {i6 : Int32} {i7 : Int32} {i8 : Int32} {i9 : Int32} {i10 : Int32} {i11 : Int32} {i12 : Int32} {σ : Sg} {τ : Sg} {H : Heap} {locs : List Loc} {ls : Array Slot}, X5_atStop_run n 22 a0 i1 i2 i3 i4 i5 i6 i7 i8 i9 i10 i11 i12 σ = some τ → Dy base D cI cJ σ H → va_S (fun q => base ≤ q) s.heap H locs → lv_has ls 15 [(0, .ref (base + a0)), (1, .int i1), (2, .int i2), (3, .int i3), (4, .int i4), (5, .int i5), (6, .int i6)] → W p l e (rmD 1 0 0) s m args below meth c H locs 0 0 (MQ below (QwV base D cI cJ τ) args s 0 0 (fun q => base ≤ q)) (F0 m 22 ls [])) ∧ (∀ {a0 : Nat} {i1 : Int32} {i2 : Int32} {i3 : Int32} {i4 : Int32} {i5 : Int32} {i6 : Int32} {i7 : Int32} {i8 : Int32} {i9 : Int32} {i10 : Int32} {i11 : Int32} {i12 : Int32} {σ : Sg} {τ : Sg} {H : Heap} {locs : List Loc} {ls : Array Slot}, X5_atStop_run n 129 a0 i1 i2 i3 i4 i5 i6 i7 i8 i9 i10 i11 i12 σ = some τ → Dy base D cI cJ σ H → va_S (fun q => base ≤ q) s.heap H locs → lv_has ls 15 [(0, .ref (base + a0)), (1, .int i1), (2, .int i2), (3, .int i3), (4, .int i4), (5, .int i5), (6, .int i6), (7, .int i7), (8, .int i8), (9, .int i9), (10, .int i10), (11, .int i11), (12, .int i12)] → W p l e (rmD 1 0 0) s m args below meth c H locs 0 0 (MQ below (QwV base D cI cJ τ) args s 0 0 (fun q => base ≤ q)) (F0 m 129 ls []))) {a0 : Nat} {i1 : Int32} {i2 : Int32} {i3 : Int32} {i4 : Int32} {i5 : Int32} {i6 : Int32} {i7 : Int32} {i8 : Int32} {i9 : Int32} {ti0 : Int32} {ti1 : Int32} {σ : Sg} {τ : Sg} {H : Heap} {locs : List Loc} {ls : Array Slot} (h : X5_atStop_b255 n (X5_atStop_run n) a0 i1 i2 i3 i4 i5 i6 i7 i8 i9 ti0 ti1 σ = some τ) : Dy base D cI cJ σ H → va_S (fun q => base ≤ q) s.heap H locs → lv_has ls 15 [(0, .ref (base + a0)), (1, .int i1), (2, .int i2), (3, .int i3), (4, .int i4), (5, .int i5), (6, .int i6), (7, .int i7), (8, .int i8), (9, .int i9)] → W p l e (rmD 1 0 0) s m args below meth c H locs 0 0 (MQ below (QwV base D cI cJ τ) args s 0 0 (fun q => base ≤ q)) (F0 m 255 ls [.int ti1, .int ti0]) := by
  intro hP hS hl
  obtain ⟨hx, hb, hml, hown, hts⟩ := hC.1
  unfold X5_atStop_b255 at h
  refine lv_iadd hx hb dX5_atStop_255 ?_
  obtain ⟨i13_38, hi13_38, h⟩ := obn h
  refine w_eqi (Option.some.inj hi13_38) ?_
  refine lv_istore (lv' := [(13, .int i13_38), (0, .ref (base + a0)), (1, .int i1), (2, .int i2), (3, .int i3), (4, .int i4), (5, .int i5), (6, .int i6), (7, .int i7), (8, .int i8), (9, .int i9)]) hx hb dX5_atStop_256 hl (by decide) rfl (fun ls hl => ?_)
  refine lv_iload hx hb dX5_atStop_258 (lv_at hl 10 rfl) ?_
  refine lv_if_ne (tgt := 311) hx hb dX5_atStop_260 (by decide) (fun c_39 => ?_) (fun c_39 => ?_)
  · rw [if_neg c_39] at h
    exact X5_atStop_k311 hC hr hlocks ih h hP hS (lv_sub hl [1, 2, 3, 4, 5, 6, 7, 9, 10, 0] rfl)
  · rw [if_pos c_39] at h
    refine lv_aload_n hx hb dX5_atStop_263 rfl (lv_at hl 1 rfl) ?_
    obtain ⟨q_40, hq_40, h⟩ := obn h
    refine w_getR (ci := 5) (j := 15) hC hP rfl inlX5 (by decide) (by decide) rfl hq_40 wl_76 dX5_atStop_264 ?_
    refine lv_iload_n hx hb dX5_atStop_267 rfl (lv_at hl 2 rfl) ?_
    obtain ⟨v_41, hv_41, h⟩ := obn h
    refine w_iald hC hP hv_41 dX5_atStop_268 ?_
    refine lv_iconst (v := 1) hx hb dX5_atStop_269 (by decide) ?_
    refine lv_icmp_ne (tgt := 311) hx hb dX5_atStop_270 (by decide) (fun c_42 => ?_) (fun c_42 => ?_)
    · rw [if_neg c_42] at h
      exact X5_atStop_k311 hC hr hlocks ih h hP hS (lv_sub hl [1, 2, 3, 4, 5, 6, 7, 9, 10, 0] rfl)
    · rw [if_pos c_42] at h
      refine lv_aload_n hx hb dX5_atStop_273 rfl (lv_at hl 1 rfl) ?_
      obtain ⟨q_43, hq_43, h⟩ := obn h
      refine w_getR (ci := 5) (j := 17) hC hP rfl inlX5 (by decide) (by decide) rfl hq_43 wl_78 dX5_atStop_274 ?_
      refine lv_bipush (v := 10) hx hb dX5_atStop_277 (by decide) ?_
      refine lv_iload hx hb dX5_atStop_279 (lv_at hl 8 rfl) ?_
      refine lv_imul hx hb dX5_atStop_281 ?_
      obtain ⟨v_44, hv_44, h⟩ := obn h
      refine w_iald hC hP hv_44 dX5_atStop_282 ?_
      refine lv_bipush (v := 10) hx hb dX5_atStop_283 (by decide) ?_
      refine lv_aload_n hx hb dX5_atStop_285 rfl (lv_at hl 1 rfl) ?_
      obtain ⟨q_45, hq_45, h⟩ := obn h
      refine w_getR (ci := 5) (j := 16) hC hP rfl inlX5 (by decide) (by decide) rfl hq_45 wl_77 dX5_atStop_286 ?_
      refine lv_iload_n hx hb dX5_atStop_289 rfl (lv_at hl 2 rfl) ?_
      obtain ⟨v_46, hv_46, h⟩ := obn h
      refine w_iald hC hP hv_46 dX5_atStop_290 ?_
      refine lv_imul hx hb dX5_atStop_291 ?_
      refine lv_iadd hx hb dX5_atStop_292 ?_
      obtain ⟨i14_47, hi14_47, h⟩ := obn h
      refine w_eqi (Option.some.inj hi14_47) ?_
      refine lv_istore (lv' := [(14, .int i14_47), (13, .int i13_38), (0, .ref (base + a0)), (1, .int i1), (2, .int i2), (3, .int i3), (4, .int i4), (5, .int i5), (6, .int i6), (7, .int i7), (8, .int i8), (9, .int i9)]) hx hb dX5_atStop_293 hl (by decide) rfl (fun ls hl => ?_)
      refine lv_iload hx hb dX5_atStop_295 (lv_at hl 0 rfl) ?_
      refine lv_iload hx hb dX5_atStop_297 (lv_at hl 1 rfl) ?_
      refine lv_icmp_le (tgt := 307) hx hb dX5_atStop_299 (by decide) (fun c_48 => ?_) (fun c_48 => ?_)
      · rw [if_pos c_48] at h
        refine lv_iload hx hb dX5_atStop_307 (lv_at hl 1 rfl) ?_
        exact X5_atStop_k309 hC hr hlocks ih h hP hS (lv_sub hl [2, 3, 4, 5, 6, 7, 8, 10, 11] rfl)
      · rw [if_neg c_48] at h
        refine lv_iload hx hb dX5_atStop_302 (lv_at hl 0 rfl) ?_
        refine lv_goto (tgt := 309) hx hb dX5_atStop_304 (by decide) ?_
        exact X5_atStop_k309 hC hr hlocks ih h hP hS (lv_sub hl [2, 3, 4, 5, 6, 7, 8, 10, 11] rfl)
set_option maxRecDepth 100000 in
set_option maxHeartbeats 4000000 in
theorem X5_atStop_k236 (hC : Cx p m c cX5_atStop 15 s args RX5 base D cI cJ tS) (hr : meth.sig.returnType = none) (hlocks : meth.locks = false) {n : Nat} (ih : (∀ {a0 : Nat} {i1 : Int32} {i2 : Int32} {i3 : Int32} {i4 : Int32} {i5 : Int32} {i6 : Int32} {i7 : Int32} {i8 : Int32} {i9 : Int32} {i10 : Int32} {i11 : Int32} {i12 : Int32} {σ : Sg} {τ : Sg} {H : Heap} {locs : List Loc} {ls : Array Slot}, X5_atStop_run n 22 a0 i1 i2 i3 i4 i5 i6 i7 i8 i9 i10 i11 i12 σ = some τ → Dy base D cI cJ σ H → va_S (fun q => base ≤ q) s.heap H locs → lv_has ls 15 [(0, .ref (base + a0)), (1, .int i1), (2, .int i2), (3, .int i3), (4, .int i4), (5, .int i5), (6, .int i6)] → W p l e (rmD 1 0 0) s m args below meth c H locs 0 0 (MQ below (QwV base D cI cJ τ) args s 0 0 (fun q => base ≤ q)) (F0 m 22 ls [])) ∧ (∀ {a0 : Nat} {i1 : Int32} {i2 : Int32} {i3 : Int32} {i4 : Int32} {i5 : Int32} {i6 : Int32} {i7 : Int32} {i8 : Int32} {i9 : Int32} {i10 : Int32} {i11 : Int32} {i12 : Int32} {σ : Sg} {τ : Sg} {H : Heap} {locs : List Loc} {ls : Array Slot}, X5_atStop_run n 129 a0 i1 i2 i3 i4 i5 i6 i7 i8 i9 i10 i11 i12 σ = some τ → Dy base D cI cJ σ H → va_S (fun q => base ≤ q) s.heap H locs → lv_has ls 15 [(0, .ref (base + a0)), (1, .int i1), (2, .int i2), (3, .int i3), (4, .int i4), (5, .int i5), (6, .int i6), (7, .int i7), (8, .int i8), (9, .int i9), (10, .int i10), (11, .int i11), (12, .int i12)] → W p l e (rmD 1 0 0) s m args below meth c H locs 0 0 (MQ below (QwV base D cI cJ τ) args s 0 0 (fun q => base ≤ q)) (F0 m 129 ls []))) {a0 : Nat} {i1 : Int32} {i2 : Int32} {i3 : Int32} {i4 : Int32} {i5 : Int32} {i6 : Int32} {i7 : Int32} {i8 : Int32} {i9 : Int32} {ti0 : Int32} {ti1 : Int32} {σ : Sg} {τ : Sg} {H : Heap} {locs : List Loc} {ls : Array Slot} (h : X5_atStop_b236 n (X5_atStop_run n) a0 i1 i2 i3 i4 i5 i6 i7 i8 i9 ti0 ti1 σ = some τ) : Dy base D cI cJ σ H → va_S (fun q => base ≤ q) s.heap H locs → lv_has ls 15 [(0, .ref (base + a0)), (1, .int i1), (2, .int i2), (3, .int i3), (4, .int i4), (5, .int i5), (6, .int i6), (7, .int i7), (8, .int i8), (9, .int i9)] → W p l e (rmD 1 0 0) s m args below meth c H locs 0 0 (MQ below (QwV base D cI cJ τ) args s 0 0 (fun q => base ≤ q)) (F0 m 236 ls [.int ti1, .int ti0]) := by
  intro hP hS hl
  obtain ⟨hx, hb, hml, hown, hts⟩ := hC.1
  unfold X5_atStop_b236 at h
  refine lv_iadd hx hb dX5_atStop_236 ?_
  refine lv_iload_n hx hb dX5_atStop_237 rfl (lv_at hl 1 rfl) ?_
  refine lv_bipush (v := 9) hx hb dX5_atStop_238 (by decide) ?_
  refine lv_icmp_ne (tgt := 247) hx hb dX5_atStop_240 (by decide) (fun c_49 => ?_) (fun c_49 => ?_)
  · rw [if_neg c_49] at h
    refine lv_aload_n hx hb dX5_atStop_247 rfl (lv_at hl 0 rfl) ?_
    refine lv_iload hx hb dX5_atStop_248 (lv_at hl 7 rfl) ?_
    refine lv_iload_n hx hb dX5_atStop_250 rfl (lv_at hl 1 rfl) ?_
    refine lv_iload_n hx hb dX5_atStop_251 rfl (lv_at hl 2 rfl) ?_
    obtain ⟨u_50, hu_50, h⟩ := obn h
    obtain ⟨w_51, hw_51, h⟩ := obn h
    refine k_I (r_virt (As := [.int i7, .int i1, .int i2]) (rest := [.int (ti0 + ti1)]) hC hP hS (ci := 5) rfl (by decide) hu_50 (c_X5_lateAt (l := l) (base := base) (D := D) (cI := cI) (cJ := cJ) (tS := tS) hw_51) wl_264 wl_265 wl_266 wl_113 wl_263 rfl rfl hd_X5_lateAt ⟨Nat.le_of_ble_eq_true rfl, Nat.le_of_ble_eq_true rfl⟩ rfl hl.1 rfl (Nat.le_of_ble_eq_true rfl) dX5_atStop_252 ⟨Nat.le_of_ble_eq_true rfl, Nat.le_of_ble_eq_true rfl⟩) hS (fun H locs hP hS => ?_)
    exact X5_atStop_k255 hC hr hlocks ih h hP hS (lv_sub hl [0, 1, 2, 3, 4, 5, 6, 7, 8, 9] rfl)
  · rw [if_pos c_49] at h
    refine lv_iconst (v := 0) hx hb dX5_atStop_243 (by decide) ?_
    refine lv_goto (tgt := 255) hx hb dX5_atStop_244 (by decide) ?_
    exact X5_atStop_k255 hC hr hlocks ih h hP hS (lv_sub hl [0, 1, 2, 3, 4, 5, 6, 7, 8, 9] rfl)
set_option maxRecDepth 100000 in
set_option maxHeartbeats 4000000 in
theorem X5_atStop_k129 (hC : Cx p m c cX5_atStop 15 s args RX5 base D cI cJ tS) (hr : meth.sig.returnType = none) (hlocks : meth.locks = false) {n : Nat} (ih : (∀ {a0 : Nat} {i1 : Int32} {i2 : Int32} {i3 : Int32} {i4 : Int32} {i5 : Int32} {i6 : Int32} {i7 : Int32} {i8 : Int32} {i9 : Int32} {i10 : Int32} {i11 : Int32} {i12 : Int32} {σ : Sg} {τ : Sg} {H : Heap} {locs : List Loc} {ls : Array Slot}, X5_atStop_run n 22 a0 i1 i2 i3 i4 i5 i6 i7 i8 i9 i10 i11 i12 σ = some τ → Dy base D cI cJ σ H → va_S (fun q => base ≤ q) s.heap H locs → lv_has ls 15 [(0, .ref (base + a0)), (1, .int i1), (2, .int i2), (3, .int i3), (4, .int i4), (5, .int i5), (6, .int i6)] → W p l e (rmD 1 0 0) s m args below meth c H locs 0 0 (MQ below (QwV base D cI cJ τ) args s 0 0 (fun q => base ≤ q)) (F0 m 22 ls [])) ∧ (∀ {a0 : Nat} {i1 : Int32} {i2 : Int32} {i3 : Int32} {i4 : Int32} {i5 : Int32} {i6 : Int32} {i7 : Int32} {i8 : Int32} {i9 : Int32} {i10 : Int32} {i11 : Int32} {i12 : Int32} {σ : Sg} {τ : Sg} {H : Heap} {locs : List Loc} {ls : Array Slot}, X5_atStop_run n 129 a0 i1 i2 i3 i4 i5 i6 i7 i8 i9 i10 i11 i12 σ = some τ → Dy base D cI cJ σ H → va_S (fun q => base ≤ q) s.heap H locs → lv_has ls 15 [(0, .ref (base + a0)), (1, .int i1), (2, .int i2), (3, .int i3), (4, .int i4), (5, .int i5), (6, .int i6), (7, .int i7), (8, .int i8), (9, .int i9), (10, .int i10), (11, .int i11), (12, .int i12)] → W p l e (rmD 1 0 0) s m args below meth c H locs 0 0 (MQ below (QwV base D cI cJ τ) args s 0 0 (fun q => base ≤ q)) (F0 m 129 ls []))) {a0 : Nat} {i1 : Int32} {i2 : Int32} {i3 : Int32} {i4 : Int32} {i5 : Int32} {i6 : Int32} {i7 : Int32} {i8 : Int32} {i9 : Int32} {i10 : Int32} {i11 : Int32} {i12 : Int32} {σ : Sg} {τ : Sg} {H : Heap} {locs : List Loc} {ls : Array Slot} (h : X5_atStop_b129 n (X5_atStop_run n) a0 i1 i2 i3 i4 i5 i6 i7 i8 i9 i10 i11 i12 σ = some τ) : Dy base D cI cJ σ H → va_S (fun q => base ≤ q) s.heap H locs → lv_has ls 15 [(0, .ref (base + a0)), (1, .int i1), (2, .int i2), (3, .int i3), (4, .int i4), (5, .int i5), (6, .int i6), (7, .int i7), (8, .int i8), (9, .int i9), (10, .int i10), (11, .int i11), (12, .int i12)] → W p l e (rmD 1 0 0) s m args below meth c H locs 0 0 (MQ below (QwV base D cI cJ τ) args s 0 0 (fun q => base ≤ q)) (F0 m 129 ls []) := by
  intro hP hS hl
  obtain ⟨hx, hb, hml, hown, hts⟩ := hC.1
  unfold X5_atStop_b129 at h
  refine lv_iload hx hb dX5_atStop_129 (lv_at hl 12 rfl) ?_
  refine lv_bipush (v := 10) hx hb dX5_atStop_131 (by decide) ?_
  refine lv_icmp_ge (tgt := 160) hx hb dX5_atStop_133 (by decide) (fun c_52 => ?_) (fun c_52 => ?_)
  · rw [if_pos c_52] at h
    refine lv_aload_n hx hb dX5_atStop_160 rfl (lv_at hl 0 rfl) ?_
    refine lv_iload hx hb dX5_atStop_161 (lv_at hl 7 rfl) ?_
    refine lv_iload_n hx hb dX5_atStop_163 rfl (lv_at hl 1 rfl) ?_
    refine lv_aload_n hx hb dX5_atStop_164 rfl (lv_at hl 0 rfl) ?_
    obtain ⟨q_53, hq_53, h⟩ := obn h
    refine w_getR (ci := 5) (j := 5) hC hP rfl inlX5 (by decide) (by decide) rfl hq_53 wl_70 dX5_atStop_165 ?_
    refine lv_iload hx hb dX5_atStop_168 (lv_at hl 7 rfl) ?_
    obtain ⟨v_54, hv_54, h⟩ := obn h
    refine w_iald hC hP hv_54 dX5_atStop_170 ?_
    refine lv_iload hx hb dX5_atStop_171 (lv_at hl 11 rfl) ?_
    refine lv_isub hx hb dX5_atStop_173 ?_
    obtain ⟨u_55, hu_55, h⟩ := obn h
    obtain ⟨w_56, hw_56, h⟩ := obn h
    refine k_I (r_virt (As := [.int i7, .int i1, .int (v_54 - i11)]) (rest := []) hC hP hS (ci := 5) rfl (by decide) hu_55 (c_X5_getOn (l := l) (base := base) (D := D) (cI := cI) (cJ := cJ) (tS := tS) hw_56) wl_268 wl_269 wl_270 wl_113 wl_267 rfl rfl hd_X5_getOn ⟨Nat.le_of_ble_eq_true rfl, Nat.le_of_ble_eq_true rfl⟩ rfl hl.1 rfl (Nat.le_of_ble_eq_true rfl) dX5_atStop_174 ⟨Nat.le_of_ble_eq_true rfl, Nat.le_of_ble_eq_true rfl⟩) hS (fun H locs hP hS => ?_)
    refine lv_istore (lv' := [(12, .int w_56.1), (0, .ref (base + a0)), (1, .int i1), (2, .int i2), (3, .int i3), (4, .int i4), (5, .int i5), (6, .int i6), (7, .int i7), (8, .int i8), (9, .int i9), (10, .int i10), (11, .int i11)]) hx hb dX5_atStop_177 hl (by decide) rfl (fun ls hl => ?_)
    refine lv_aload_n hx hb dX5_atStop_179 rfl (lv_at hl 1 rfl) ?_
    obtain ⟨q_57, hq_57, h⟩ := obn h
    refine w_getR (ci := 5) (j := 21) hC hP rfl inlX5 (by decide) (by decide) rfl hq_57 wl_82 dX5_atStop_180 ?_
    refine lv_iload hx hb dX5_atStop_183 (lv_at hl 9 rfl) ?_
    refine lv_iload hx hb dX5_atStop_185 (lv_at hl 12 rfl) ?_
    refine lv_iload hx hb dX5_atStop_187 (lv_at hl 0 rfl) ?_
    refine lv_iadd hx hb dX5_atStop_189 ?_
    obtain ⟨s_58, hs_58, h⟩ := obn h
    refine w_iast hC hP hS hs_58 dX5_atStop_190 (fun H locs hP hS => ?_)
    refine lv_aload_n hx hb dX5_atStop_191 rfl (lv_at hl 1 rfl) ?_
    obtain ⟨q_59, hq_59, h⟩ := obn h
    refine w_getR (ci := 5) (j := 17) hC hP rfl inlX5 (by decide) (by decide) rfl hq_59 wl_78 dX5_atStop_192 ?_
    refine lv_iload hx hb dX5_atStop_195 (lv_at hl 9 rfl) ?_
    obtain ⟨v_60, hv_60, h⟩ := obn h
    refine w_iald hC hP hv_60 dX5_atStop_197 ?_
    refine lv_iload hx hb dX5_atStop_198 (lv_at hl 11 rfl) ?_
    refine lv_iload hx hb dX5_atStop_200 (lv_at hl 0 rfl) ?_
    refine lv_iadd hx hb dX5_atStop_202 ?_
    refine lv_if_le (tgt := 235) hx hb dX5_atStop_203 (by decide) (fun c_61 => ?_) (fun c_61 => ?_)
    · rw [if_pos c_61] at h
      refine lv_iconst (v := 0) hx hb dX5_atStop_235 (by decide) ?_
      exact X5_atStop_k236 hC hr hlocks ih h hP hS (lv_sub hl [1, 2, 3, 4, 5, 6, 7, 8, 9, 10] rfl)
    · rw [if_neg c_61] at h
      refine lv_aload_n hx hb dX5_atStop_206 rfl (lv_at hl 1 rfl) ?_
      obtain ⟨q_62, hq_62, h⟩ := obn h
      refine w_getR (ci := 5) (j := 7) hC hP rfl inlX5 (by decide) (by decide) rfl hq_62 wl_64 dX5_atStop_207 ?_
      refine lv_iconst (v := 0) hx hb dX5_atStop_210 (by decide) ?_
      obtain ⟨v_63, hv_63, h⟩ := obn h
      refine w_iald hC hP hv_63 dX5_atStop_211 ?_
      refine lv_aload_n hx hb dX5_atStop_212 rfl (lv_at hl 1 rfl) ?_
      obtain ⟨q_64, hq_64, h⟩ := obn h
      refine w_getR (ci := 5) (j := 7) hC hP rfl inlX5 (by decide) (by decide) rfl hq_64 wl_64 dX5_atStop_213 ?_
      refine lv_iconst (v := 1) hx hb dX5_atStop_216 (by decide) ?_
      obtain ⟨v_65, hv_65, h⟩ := obn h
      refine w_iald hC hP hv_65 dX5_atStop_217 ?_
      refine lv_iload hx hb dX5_atStop_218 (lv_at hl 0 rfl) ?_
      refine lv_imul hx hb dX5_atStop_220 ?_
      refine lv_iadd hx hb dX5_atStop_221 ?_
      refine lv_aload_n hx hb dX5_atStop_222 rfl (lv_at hl 1 rfl) ?_
      obtain ⟨q_66, hq_66, h⟩ := obn h
      refine w_getR (ci := 5) (j := 7) hC hP rfl inlX5 (by decide) (by decide) rfl hq_66 wl_64 dX5_atStop_223 ?_
      refine lv_iconst (v := 2) hx hb dX5_atStop_226 (by decide) ?_
      obtain ⟨v_67, hv_67, h⟩ := obn h
      refine w_iald hC hP hv_67 dX5_atStop_227 ?_
      refine lv_iload hx hb dX5_atStop_228 (lv_at hl 11 rfl) ?_
      refine lv_imul hx hb dX5_atStop_230 ?_
      refine lv_iadd hx hb dX5_atStop_231 ?_
      refine lv_goto (tgt := 236) hx hb dX5_atStop_232 (by decide) ?_
      exact X5_atStop_k236 hC hr hlocks ih h hP hS (lv_sub hl [1, 2, 3, 4, 5, 6, 7, 8, 9, 10] rfl)
  · rw [if_neg c_52] at h
    refine lv_iload hx hb dX5_atStop_136 (lv_at hl 11 rfl) ?_
    refine lv_aload_n hx hb dX5_atStop_138 rfl (lv_at hl 0 rfl) ?_
    obtain ⟨q_68, hq_68, h⟩ := obn h
    refine w_getR (ci := 5) (j := 23) hC hP rfl inlX5 (by decide) (by decide) rfl hq_68 wl_84 dX5_atStop_139 ?_
    refine lv_bipush (v := 10) hx hb dX5_atStop_142 (by decide) ?_
    refine lv_iload hx hb dX5_atStop_144 (lv_at hl 7 rfl) ?_
    refine lv_imul hx hb dX5_atStop_146 ?_
    refine lv_iload hx hb dX5_atStop_147 (lv_at hl 12 rfl) ?_
    refine lv_iadd hx hb dX5_atStop_149 ?_
    obtain ⟨v_69, hv_69, h⟩ := obn h
    refine w_iald hC hP hv_69 dX5_atStop_150 ?_
    refine lv_iadd hx hb dX5_atStop_151 ?_
    obtain ⟨i11_70, hi11_70, h⟩ := obn h
    refine w_eqi (Option.some.inj hi11_70) ?_
    refine lv_istore (lv' := [(11, .int i11_70), (0, .ref (base + a0)), (1, .int i1), (2, .int i2), (3, .int i3), (4, .int i4), (5, .int i5), (6, .int i6), (7, .int i7), (8, .int i8), (9, .int i9), (10, .int i10), (12, .int i12)]) hx hb dX5_atStop_152 hl (by decide) rfl (fun ls hl => ?_)
    obtain ⟨i12_71, hi12_71, h⟩ := obn h
    refine lv_iinc (v := i12_71) (lv' := [(12, .int i12_71), (11, .int i11_70), (0, .ref (base + a0)), (1, .int i1), (2, .int i2), (3, .int i3), (4, .int i4), (5, .int i5), (6, .int i6), (7, .int i7), (8, .int i8), (9, .int i9), (10, .int i10)]) hx hb dX5_atStop_154 hl (k := 12) rfl (Option.some.inj hi12_71) (by decide) rfl (fun ls hl => ?_)
    refine lv_goto (tgt := 129) hx hb dX5_atStop_157 (by decide) ?_
    exact ih.2 h hP hS (lv_sub hl [2, 3, 4, 5, 6, 7, 8, 9, 10, 11, 12, 1, 0] rfl)
set_option maxRecDepth 100000 in
set_option maxHeartbeats 4000000 in
theorem X5_atStop_k0 (hC : Cx p m c cX5_atStop 15 s args RX5 base D cI cJ tS) (hr : meth.sig.returnType = none) (hlocks : meth.locks = false) {n : Nat} (ih : (∀ {a0 : Nat} {i1 : Int32} {i2 : Int32} {i3 : Int32} {i4 : Int32} {i5 : Int32} {i6 : Int32} {i7 : Int32} {i8 : Int32} {i9 : Int32} {i10 : Int32} {i11 : Int32} {i12 : Int32} {σ : Sg} {τ : Sg} {H : Heap} {locs : List Loc} {ls : Array Slot}, X5_atStop_run n 22 a0 i1 i2 i3 i4 i5 i6 i7 i8 i9 i10 i11 i12 σ = some τ → Dy base D cI cJ σ H → va_S (fun q => base ≤ q) s.heap H locs → lv_has ls 15 [(0, .ref (base + a0)), (1, .int i1), (2, .int i2), (3, .int i3), (4, .int i4), (5, .int i5), (6, .int i6)] → W p l e (rmD 1 0 0) s m args below meth c H locs 0 0 (MQ below (QwV base D cI cJ τ) args s 0 0 (fun q => base ≤ q)) (F0 m 22 ls [])) ∧ (∀ {a0 : Nat} {i1 : Int32} {i2 : Int32} {i3 : Int32} {i4 : Int32} {i5 : Int32} {i6 : Int32} {i7 : Int32} {i8 : Int32} {i9 : Int32} {i10 : Int32} {i11 : Int32} {i12 : Int32} {σ : Sg} {τ : Sg} {H : Heap} {locs : List Loc} {ls : Array Slot}, X5_atStop_run n 129 a0 i1 i2 i3 i4 i5 i6 i7 i8 i9 i10 i11 i12 σ = some τ → Dy base D cI cJ σ H → va_S (fun q => base ≤ q) s.heap H locs → lv_has ls 15 [(0, .ref (base + a0)), (1, .int i1), (2, .int i2), (3, .int i3), (4, .int i4), (5, .int i5), (6, .int i6), (7, .int i7), (8, .int i8), (9, .int i9), (10, .int i10), (11, .int i11), (12, .int i12)] → W p l e (rmD 1 0 0) s m args below meth c H locs 0 0 (MQ below (QwV base D cI cJ τ) args s 0 0 (fun q => base ≤ q)) (F0 m 129 ls []))) {a0 : Nat} {i1 : Int32} {i2 : Int32} {σ : Sg} {τ : Sg} {H : Heap} {locs : List Loc} {ls : Array Slot} (h : X5_atStop_b0 n (X5_atStop_run n) a0 i1 i2 σ = some τ) : Dy base D cI cJ σ H → va_S (fun q => base ≤ q) s.heap H locs → lv_has ls 15 [(0, .ref (base + a0)), (1, .int i1), (2, .int i2)] → W p l e (rmD 1 0 0) s m args below meth c H locs 0 0 (MQ below (QwV base D cI cJ τ) args s 0 0 (fun q => base ≤ q)) (F0 m 0 ls []) := by
  intro hP hS hl
  obtain ⟨hx, hb, hml, hown, hts⟩ := hC.1
  unfold X5_atStop_b0 at h
  refine lv_aload_n hx hb dX5_atStop_0 rfl (lv_at hl 0 rfl) ?_
  refine lv_iload_n hx hb dX5_atStop_1 rfl (lv_at hl 1 rfl) ?_
  obtain ⟨u_72, hu_72, h⟩ := obn h
  obtain ⟨w_73, hw_73, h⟩ := obn h
  refine k_I (r_virt (As := [.int i1]) (rest := []) hC hP hS (ci := 5) rfl (by decide) hu_72 (c_X5_layOrder (l := l) (base := base) (D := D) (cI := cI) (cJ := cJ) (tS := tS) hw_73) wl_272 wl_273 wl_274 wl_113 wl_271 rfl rfl hd_X5_layOrder ⟨Nat.le_of_ble_eq_true rfl, Nat.le_of_ble_eq_true rfl⟩ rfl hl.1 rfl (Nat.le_of_ble_eq_true rfl) dX5_atStop_2 ⟨Nat.le_of_ble_eq_true rfl, Nat.le_of_ble_eq_true rfl⟩) hS (fun H locs hP hS => ?_)
  refine lv_istore_n (lv' := [(3, .int w_73.1), (0, .ref (base + a0)), (1, .int i1), (2, .int i2)]) hx hb dX5_atStop_5 rfl hl (by decide) rfl (fun ls hl => ?_)
  refine lv_bipush (v := (-6)) hx hb dX5_atStop_6 (by decide) ?_
  refine lv_istore (lv' := [(4, .int (-6)), (3, .int w_73.1), (0, .ref (base + a0)), (1, .int i1), (2, .int i2)]) hx hb dX5_atStop_8 hl (by decide) rfl (fun ls hl => ?_)
  refine lv_bipush (v := (-6)) hx hb dX5_atStop_10 (by decide) ?_
  refine lv_istore (lv' := [(5, .int (-6)), (4, .int (-6)), (3, .int w_73.1), (0, .ref (base + a0)), (1, .int i1), (2, .int i2)]) hx hb dX5_atStop_12 hl (by decide) rfl (fun ls hl => ?_)
  refine lv_aload_n hx hb dX5_atStop_14 rfl (lv_at hl 3 rfl) ?_
  refine lv_iconst (v := 0) hx hb dX5_atStop_15 (by decide) ?_
  obtain ⟨s_74, hs_74, h⟩ := obn h
  refine w_putI (ci := 5) (j := 31) hC hP hS rfl inlX5 tyX5 tyX5_ok nmX5 (by decide) (by decide) rfl rfl rfl rfl hs_74 wl_258 dX5_atStop_16 (fun H locs hP hS => ?_)
  refine lv_iconst (v := 0) hx hb dX5_atStop_19 (by decide) ?_
  refine lv_istore (lv' := [(6, .int 0), (5, .int (-6)), (4, .int (-6)), (3, .int w_73.1), (0, .ref (base + a0)), (1, .int i1), (2, .int i2)]) hx hb dX5_atStop_20 hl (by decide) rfl (fun ls hl => ?_)
  exact ih.1 h hP hS (lv_sub hl [4, 5, 6, 3, 2, 1, 0] rfl)
set_option maxRecDepth 100000 in
set_option maxHeartbeats 4000000 in
theorem X5_atStop_all (hC : Cx p m c cX5_atStop 15 s args RX5 base D cI cJ tS) (hr : meth.sig.returnType = none) (hlocks : meth.locks = false) : ∀ n : Nat, (∀ {a0 : Nat} {i1 : Int32} {i2 : Int32} {i3 : Int32} {i4 : Int32} {i5 : Int32} {i6 : Int32} {i7 : Int32} {i8 : Int32} {i9 : Int32} {i10 : Int32} {i11 : Int32} {i12 : Int32} {σ : Sg} {τ : Sg} {H : Heap} {locs : List Loc} {ls : Array Slot}, X5_atStop_run n 22 a0 i1 i2 i3 i4 i5 i6 i7 i8 i9 i10 i11 i12 σ = some τ → Dy base D cI cJ σ H → va_S (fun q => base ≤ q) s.heap H locs → lv_has ls 15 [(0, .ref (base + a0)), (1, .int i1), (2, .int i2), (3, .int i3), (4, .int i4), (5, .int i5), (6, .int i6)] → W p l e (rmD 1 0 0) s m args below meth c H locs 0 0 (MQ below (QwV base D cI cJ τ) args s 0 0 (fun q => base ≤ q)) (F0 m 22 ls [])) ∧ (∀ {a0 : Nat} {i1 : Int32} {i2 : Int32} {i3 : Int32} {i4 : Int32} {i5 : Int32} {i6 : Int32} {i7 : Int32} {i8 : Int32} {i9 : Int32} {i10 : Int32} {i11 : Int32} {i12 : Int32} {σ : Sg} {τ : Sg} {H : Heap} {locs : List Loc} {ls : Array Slot}, X5_atStop_run n 129 a0 i1 i2 i3 i4 i5 i6 i7 i8 i9 i10 i11 i12 σ = some τ → Dy base D cI cJ σ H → va_S (fun q => base ≤ q) s.heap H locs → lv_has ls 15 [(0, .ref (base + a0)), (1, .int i1), (2, .int i2), (3, .int i3), (4, .int i4), (5, .int i5), (6, .int i6), (7, .int i7), (8, .int i8), (9, .int i9), (10, .int i10), (11, .int i11), (12, .int i12)] → W p l e (rmD 1 0 0) s m args below meth c H locs 0 0 (MQ below (QwV base D cI cJ τ) args s 0 0 (fun q => base ≤ q)) (F0 m 129 ls [])) := by
  intro n
  induction n with
  | zero => exact ⟨fun h => (by cases h), fun h => (by cases h)⟩
  | succ n ih => exact ⟨fun h => X5_atStop_k22 hC hr hlocks ih h, fun h => X5_atStop_k129 hC hr hlocks ih h⟩
set_option maxRecDepth 100000 in
set_option maxHeartbeats 4000000 in
theorem c_X5_atStop {l : Launch} {base : Nat} {D : va_G} {cI cJ : ClassId} {tS : Nat} {n : Nat} {a0 : Nat} {i1 : Int32} {i2 : Int32} {σ : Sg} {τ : Sg} (h : f_X5_atStop n a0 i1 i2 σ = some τ) : Met l yX5_atStop (.code yX5_atStop cX5_atStop 15 none :: wsL_law) (rmD 1 0 0) (Pw base D cI cJ tS σ [.ref (base + a0), .int i1, .int i2]) (QwV base D cI cJ τ) 0 0 (fun q => base ≤ q) := by
  refine Met.ofW (cc := cX5_atStop) (maxL := 15) (ret := none) (by decide) rfl ?_
  intro p e s m args below meth c s₁ B hml hv
  obtain ⟨rfl, hSt, hP⟩ := hv
  have hC : Cx p m c cX5_atStop 15 s _ RX5 base D cI cJ tS := ⟨⟨B.exec, B.bytes, hml, findClass_of_methodNamed B.named, fun w hw => atoms_spec (ws := Cond.code yX5_atStop cX5_atStop 15 none :: wsL_law) B.pre w (List.mem_cons_of_mem _ hw)⟩, hSt⟩
  have hl := lv_entry ([.ref (base + a0), .int i1, .int i2]) (n := 15) (Nat.le_of_ble_eq_true rfl)
  rw [lg_entry_eq]
  generalize (lg_sl ([.ref (base + a0), .int i1, .int i2]) ++ List.replicate (15 - (lg_sl ([.ref (base + a0), .int i1, .int i2])).length) Slot.unset).toArray = ls at hl ⊢
  exact X5_atStop_k0 hC B.returns B.notSynchronized (X5_atStop_all hC B.returns B.notSynchronized n) h hP va_S.rf hl
-- ===== X5_lay
set_option maxRecDepth 100000 in
set_option maxHeartbeats 4000000 in
theorem X5_lay_k12 (hC : Cx p m c cX5_lay 3 s args RX5 base D cI cJ tS) (hr : meth.sig.returnType = none) (hlocks : meth.locks = false) {n : Nat} (ih : (∀ {a0 : Nat} {i1 : Int32} {i2 : Int32} {σ : Sg} {τ : Sg} {H : Heap} {locs : List Loc} {ls : Array Slot}, X5_lay_run n 12 a0 i1 i2 σ = some τ → Dy base D cI cJ σ H → va_S (fun q => base ≤ q) s.heap H locs → lv_has ls 3 [(0, .ref (base + a0)), (1, .int i1), (2, .int i2)] → W p l e (rmD 2 0 0) s m args below meth c H locs 0 0 (MQ below (QwV base D cI cJ τ) args s 0 0 (fun q => base ≤ q)) (F0 m 12 ls [])) ∧ (∀ {a0 : Nat} {i1 : Int32} {i2 : Int32} {σ : Sg} {τ : Sg} {H : Heap} {locs : List Loc} {ls : Array Slot}, X5_lay_run n 56 a0 i1 i2 σ = some τ → Dy base D cI cJ σ H → va_S (fun q => base ≤ q) s.heap H locs → lv_has ls 3 [(0, .ref (base + a0)), (1, .int i1), (2, .int i2)] → W p l e (rmD 2 0 0) s m args below meth c H locs 0 0 (MQ below (QwV base D cI cJ τ) args s 0 0 (fun q => base ≤ q)) (F0 m 56 ls [])) ∧ (∀ {a0 : Nat} {i1 : Int32} {i2 : Int32} {σ : Sg} {τ : Sg} {H : Heap} {locs : List Loc} {ls : Array Slot}, X5_lay_run n 91 a0 i1 i2 σ = some τ → Dy base D cI cJ σ H → va_S (fun q => base ≤ q) s.heap H locs → lv_has ls 3 [(0, .ref (base + a0)), (1, .int i1), (2, .int i2)] → W p l e (rmD 2 0 0) s m args below meth c H locs 0 0 (MQ below (QwV base D cI cJ τ) args s 0 0 (fun q => base ≤ q)) (F0 m 91 ls []))) {a0 : Nat} {i1 : Int32} {i2 : Int32} {σ : Sg} {τ : Sg} {H : Heap} {locs : List Loc} {ls : Array Slot} (h : X5_lay_b12 n (X5_lay_run n) a0 i1 i2 σ = some τ) : Dy base D cI cJ σ H → va_S (fun q => base ≤ q) s.heap H locs → lv_has ls 3 [(0, .ref (base + a0)), (1, .int i1), (2, .int i2)] → W p l e (rmD 2 0 0) s m args below meth c H locs 0 0 (MQ below (QwV base D cI cJ τ) args s 0 0 (fun q => base ≤ q)) (F0 m 12 ls []) := by
  intro hP hS hl
  obtain ⟨hx, hb, hml, hown, hts⟩ := hC.1
  unfold X5_lay_b12 at h
  refine lv_iload_n hx hb dX5_lay_12 rfl (lv_at hl 2 rfl) ?_
  refine lv_bipush (v := 80) hx hb dX5_lay_13 (by decide) ?_
  refine lv_icmp_ge (tgt := 54) hx hb dX5_lay_15 (by decide) (fun c_1 => ?_) (fun c_1 => ?_)
  · rw [if_pos c_1] at h
    refine lv_iconst (v := 0) hx hb dX5_lay_54 (by decide) ?_
    refine lv_istore_n (lv' := [(2, .int 0), (0, .ref (base + a0)), (1, .int i1)]) hx hb dX5_lay_55 rfl hl (by decide) rfl (fun ls hl => ?_)
    exact ih.2.1 h hP hS (lv_sub hl [1, 2, 0] rfl)
  · rw [if_neg c_1] at h
    refine lv_aload_n hx hb dX5_lay_18 rfl (lv_at hl 0 rfl) ?_
    obtain ⟨q_2, hq_2, h⟩ := obn h
    refine w_getR (ci := 5) (j := 17) hC hP rfl inlX5 (by decide) (by decide) rfl hq_2 wl_78 dX5_lay_19 ?_
    refine lv_iload_n hx hb dX5_lay_22 rfl (lv_at hl 2 rfl) ?_
    refine lv_bipush (v := (-6)) hx hb dX5_lay_23 (by decide) ?_
    obtain ⟨s_3, hs_3, h⟩ := obn h
    refine w_iast hC hP hS hs_3 dX5_lay_25 (fun H locs hP hS => ?_)
    refine lv_aload_n hx hb dX5_lay_26 rfl (lv_at hl 0 rfl) ?_
    obtain ⟨q_4, hq_4, h⟩ := obn h
    refine w_getR (ci := 5) (j := 18) hC hP rfl inlX5 (by decide) (by decide) rfl hq_4 wl_79 dX5_lay_27 ?_
    refine lv_iload_n hx hb dX5_lay_30 rfl (lv_at hl 2 rfl) ?_
    refine lv_bipush (v := (-6)) hx hb dX5_lay_31 (by decide) ?_
    obtain ⟨s_5, hs_5, h⟩ := obn h
    refine w_iast hC hP hS hs_5 dX5_lay_33 (fun H locs hP hS => ?_)
    refine lv_aload_n hx hb dX5_lay_34 rfl (lv_at hl 0 rfl) ?_
    obtain ⟨q_6, hq_6, h⟩ := obn h
    refine w_getR (ci := 5) (j := 23) hC hP rfl inlX5 (by decide) (by decide) rfl hq_6 wl_84 dX5_lay_35 ?_
    refine lv_iload_n hx hb dX5_lay_38 rfl (lv_at hl 2 rfl) ?_
    refine lv_iconst (v := 0) hx hb dX5_lay_39 (by decide) ?_
    obtain ⟨s_7, hs_7, h⟩ := obn h
    refine w_iast hC hP hS hs_7 dX5_lay_40 (fun H locs hP hS => ?_)
    refine lv_aload_n hx hb dX5_lay_41 rfl (lv_at hl 0 rfl) ?_
    obtain ⟨q_8, hq_8, h⟩ := obn h
    refine w_getR (ci := 5) (j := 24) hC hP rfl inlX5 (by decide) (by decide) rfl hq_8 wl_85 dX5_lay_42 ?_
    refine lv_iload_n hx hb dX5_lay_45 rfl (lv_at hl 2 rfl) ?_
    refine lv_iconst (v := 0) hx hb dX5_lay_46 (by decide) ?_
    obtain ⟨s_9, hs_9, h⟩ := obn h
    refine w_iast hC hP hS hs_9 dX5_lay_47 (fun H locs hP hS => ?_)
    obtain ⟨i2_10, hi2_10, h⟩ := obn h
    refine lv_iinc (v := i2_10) (lv' := [(2, .int i2_10), (0, .ref (base + a0)), (1, .int i1)]) hx hb dX5_lay_48 hl (k := 2) rfl (Option.some.inj hi2_10) (by decide) rfl (fun ls hl => ?_)
    refine lv_goto (tgt := 12) hx hb dX5_lay_51 (by decide) ?_
    exact ih.1 h hP hS (lv_sub hl [1, 2, 0] rfl)
set_option maxRecDepth 100000 in
set_option maxHeartbeats 4000000 in
theorem X5_lay_k56 (hC : Cx p m c cX5_lay 3 s args RX5 base D cI cJ tS) (hr : meth.sig.returnType = none) (hlocks : meth.locks = false) {n : Nat} (ih : (∀ {a0 : Nat} {i1 : Int32} {i2 : Int32} {σ : Sg} {τ : Sg} {H : Heap} {locs : List Loc} {ls : Array Slot}, X5_lay_run n 12 a0 i1 i2 σ = some τ → Dy base D cI cJ σ H → va_S (fun q => base ≤ q) s.heap H locs → lv_has ls 3 [(0, .ref (base + a0)), (1, .int i1), (2, .int i2)] → W p l e (rmD 2 0 0) s m args below meth c H locs 0 0 (MQ below (QwV base D cI cJ τ) args s 0 0 (fun q => base ≤ q)) (F0 m 12 ls [])) ∧ (∀ {a0 : Nat} {i1 : Int32} {i2 : Int32} {σ : Sg} {τ : Sg} {H : Heap} {locs : List Loc} {ls : Array Slot}, X5_lay_run n 56 a0 i1 i2 σ = some τ → Dy base D cI cJ σ H → va_S (fun q => base ≤ q) s.heap H locs → lv_has ls 3 [(0, .ref (base + a0)), (1, .int i1), (2, .int i2)] → W p l e (rmD 2 0 0) s m args below meth c H locs 0 0 (MQ below (QwV base D cI cJ τ) args s 0 0 (fun q => base ≤ q)) (F0 m 56 ls [])) ∧ (∀ {a0 : Nat} {i1 : Int32} {i2 : Int32} {σ : Sg} {τ : Sg} {H : Heap} {locs : List Loc} {ls : Array Slot}, X5_lay_run n 91 a0 i1 i2 σ = some τ → Dy base D cI cJ σ H → va_S (fun q => base ≤ q) s.heap H locs → lv_has ls 3 [(0, .ref (base + a0)), (1, .int i1), (2, .int i2)] → W p l e (rmD 2 0 0) s m args below meth c H locs 0 0 (MQ below (QwV base D cI cJ τ) args s 0 0 (fun q => base ≤ q)) (F0 m 91 ls []))) {a0 : Nat} {i1 : Int32} {i2 : Int32} {σ : Sg} {τ : Sg} {H : Heap} {locs : List Loc} {ls : Array Slot} (h : X5_lay_b56 n (X5_lay_run n) a0 i1 i2 σ = some τ) : Dy base D cI cJ σ H → va_S (fun q => base ≤ q) s.heap H locs → lv_has ls 3 [(0, .ref (base + a0)), (1, .int i1), (2, .int i2)] → W p l e (rmD 2 0 0) s m args below meth c H locs 0 0 (MQ below (QwV base D cI cJ τ) args s 0 0 (fun q => base ≤ q)) (F0 m 56 ls []) := by
  intro hP hS hl
  obtain ⟨hx, hb, hml, hown, hts⟩ := hC.1
  unfold X5_lay_b56 at h
  refine lv_iload_n hx hb dX5_lay_56 rfl (lv_at hl 2 rfl) ?_
  refine lv_bipush (v := 9) hx hb dX5_lay_57 (by decide) ?_
  refine lv_icmp_ge (tgt := 89) hx hb dX5_lay_59 (by decide) (fun c_11 => ?_) (fun c_11 => ?_)
  · rw [if_pos c_11] at h
    refine lv_iconst (v := 0) hx hb dX5_lay_89 (by decide) ?_
    refine lv_istore_n (lv' := [(2, .int 0), (0, .ref (base + a0)), (1, .int i1)]) hx hb dX5_lay_90 rfl hl (by decide) rfl (fun ls hl => ?_)
    exact ih.2.2 h hP hS (lv_sub hl [1, 2, 0] rfl)
  · rw [if_neg c_11] at h
    refine lv_aload_n hx hb dX5_lay_62 rfl (lv_at hl 0 rfl) ?_
    obtain ⟨q_12, hq_12, h⟩ := obn h
    refine w_getR (ci := 5) (j := 25) hC hP rfl inlX5 (by decide) (by decide) rfl hq_12 wl_86 dX5_lay_63 ?_
    refine lv_iload_n hx hb dX5_lay_66 rfl (lv_at hl 2 rfl) ?_
    refine lv_iconst (v := 0) hx hb dX5_lay_67 (by decide) ?_
    obtain ⟨s_13, hs_13, h⟩ := obn h
    refine w_iast hC hP hS hs_13 dX5_lay_68 (fun H locs hP hS => ?_)
    refine lv_aload_n hx hb dX5_lay_69 rfl (lv_at hl 0 rfl) ?_
    obtain ⟨q_14, hq_14, h⟩ := obn h
    refine w_getR (ci := 5) (j := 26) hC hP rfl inlX5 (by decide) (by decide) rfl hq_14 wl_87 dX5_lay_70 ?_
    refine lv_iload_n hx hb dX5_lay_73 rfl (lv_at hl 2 rfl) ?_
    refine lv_iconst (v := 0) hx hb dX5_lay_74 (by decide) ?_
    obtain ⟨s_15, hs_15, h⟩ := obn h
    refine w_iast hC hP hS hs_15 dX5_lay_75 (fun H locs hP hS => ?_)
    refine lv_aload_n hx hb dX5_lay_76 rfl (lv_at hl 0 rfl) ?_
    obtain ⟨q_16, hq_16, h⟩ := obn h
    refine w_getR (ci := 5) (j := 27) hC hP rfl inlX5 (by decide) (by decide) rfl hq_16 wl_88 dX5_lay_77 ?_
    refine lv_iload_n hx hb dX5_lay_80 rfl (lv_at hl 2 rfl) ?_
    refine lv_iconst (v := 0) hx hb dX5_lay_81 (by decide) ?_
    obtain ⟨s_17, hs_17, h⟩ := obn h
    refine w_iast hC hP hS hs_17 dX5_lay_82 (fun H locs hP hS => ?_)
    obtain ⟨i2_18, hi2_18, h⟩ := obn h
    refine lv_iinc (v := i2_18) (lv' := [(2, .int i2_18), (0, .ref (base + a0)), (1, .int i1)]) hx hb dX5_lay_83 hl (k := 2) rfl (Option.some.inj hi2_18) (by decide) rfl (fun ls hl => ?_)
    refine lv_goto (tgt := 56) hx hb dX5_lay_86 (by decide) ?_
    exact ih.2.1 h hP hS (lv_sub hl [1, 2, 0] rfl)
set_option maxRecDepth 100000 in
set_option maxHeartbeats 4000000 in
theorem X5_lay_k91 (hC : Cx p m c cX5_lay 3 s args RX5 base D cI cJ tS) (hr : meth.sig.returnType = none) (hlocks : meth.locks = false) {n : Nat} (ih : (∀ {a0 : Nat} {i1 : Int32} {i2 : Int32} {σ : Sg} {τ : Sg} {H : Heap} {locs : List Loc} {ls : Array Slot}, X5_lay_run n 12 a0 i1 i2 σ = some τ → Dy base D cI cJ σ H → va_S (fun q => base ≤ q) s.heap H locs → lv_has ls 3 [(0, .ref (base + a0)), (1, .int i1), (2, .int i2)] → W p l e (rmD 2 0 0) s m args below meth c H locs 0 0 (MQ below (QwV base D cI cJ τ) args s 0 0 (fun q => base ≤ q)) (F0 m 12 ls [])) ∧ (∀ {a0 : Nat} {i1 : Int32} {i2 : Int32} {σ : Sg} {τ : Sg} {H : Heap} {locs : List Loc} {ls : Array Slot}, X5_lay_run n 56 a0 i1 i2 σ = some τ → Dy base D cI cJ σ H → va_S (fun q => base ≤ q) s.heap H locs → lv_has ls 3 [(0, .ref (base + a0)), (1, .int i1), (2, .int i2)] → W p l e (rmD 2 0 0) s m args below meth c H locs 0 0 (MQ below (QwV base D cI cJ τ) args s 0 0 (fun q => base ≤ q)) (F0 m 56 ls [])) ∧ (∀ {a0 : Nat} {i1 : Int32} {i2 : Int32} {σ : Sg} {τ : Sg} {H : Heap} {locs : List Loc} {ls : Array Slot}, X5_lay_run n 91 a0 i1 i2 σ = some τ → Dy base D cI cJ σ H → va_S (fun q => base ≤ q) s.heap H locs → lv_has ls 3 [(0, .ref (base + a0)), (1, .int i1), (2, .int i2)] → W p l e (rmD 2 0 0) s m args below meth c H locs 0 0 (MQ below (QwV base D cI cJ τ) args s 0 0 (fun q => base ≤ q)) (F0 m 91 ls []))) {a0 : Nat} {i1 : Int32} {i2 : Int32} {σ : Sg} {τ : Sg} {H : Heap} {locs : List Loc} {ls : Array Slot} (h : X5_lay_b91 n (X5_lay_run n) a0 i1 i2 σ = some τ) : Dy base D cI cJ σ H → va_S (fun q => base ≤ q) s.heap H locs → lv_has ls 3 [(0, .ref (base + a0)), (1, .int i1), (2, .int i2)] → W p l e (rmD 2 0 0) s m args below meth c H locs 0 0 (MQ below (QwV base D cI cJ τ) args s 0 0 (fun q => base ≤ q)) (F0 m 91 ls []) := by
  intro hP hS hl
  obtain ⟨hx, hb, hml, hown, hts⟩ := hC.1
  unfold X5_lay_b91 at h
  refine lv_iload_n hx hb dX5_lay_91 rfl (lv_at hl 2 rfl) ?_
  refine lv_bipush (v := 10) hx hb dX5_lay_92 (by decide) ?_
  refine lv_icmp_ge (tgt := 109) hx hb dX5_lay_94 (by decide) (fun c_19 => ?_) (fun c_19 => ?_)
  · rw [if_pos c_19] at h
    obtain rfl := Option.some.inj h
    exact w_vret hC hr hlocks hP hS dX5_lay_109
  · rw [if_neg c_19] at h
    refine lv_aload_n hx hb dX5_lay_97 rfl (lv_at hl 0 rfl) ?_
    refine lv_iload_n hx hb dX5_lay_98 rfl (lv_at hl 2 rfl) ?_
    refine lv_iload_n hx hb dX5_lay_99 rfl (lv_at hl 1 rfl) ?_
    obtain ⟨u_20, hu_20, h⟩ := obn h
    obtain ⟨w_21, hw_21, h⟩ := obn h
    refine k_V (r_virt (As := [.int i2, .int i1]) (rest := []) hC hP hS (ci := 5) rfl (by decide) hu_20 (c_X5_atStop (l := l) (base := base) (D := D) (cI := cI) (cJ := cJ) (tS := tS) hw_21) wl_276 wl_277 wl_278 wl_113 wl_275 rfl rfl hd_X5_atStop ⟨Nat.le_of_ble_eq_true rfl, Nat.le_of_ble_eq_true rfl⟩ rfl hl.1 rfl (Nat.le_of_ble_eq_true rfl) dX5_lay_100 ⟨Nat.le_of_ble_eq_true rfl, Nat.le_of_ble_eq_true rfl⟩) hS (fun H locs hP hS => ?_)
    obtain ⟨i2_22, hi2_22, h⟩ := obn h
    refine lv_iinc (v := i2_22) (lv' := [(2, .int i2_22), (0, .ref (base + a0)), (1, .int i1)]) hx hb dX5_lay_103 hl (k := 2) rfl (Option.some.inj hi2_22) (by decide) rfl (fun ls hl => ?_)
    refine lv_goto (tgt := 91) hx hb dX5_lay_106 (by decide) ?_
    exact ih.2.2 h hP hS (lv_sub hl [1, 2, 0] rfl)
set_option maxRecDepth 100000 in
set_option maxHeartbeats 4000000 in
theorem X5_lay_k0 (hC : Cx p m c cX5_lay 3 s args RX5 base D cI cJ tS) (hr : meth.sig.returnType = none) (hlocks : meth.locks = false) {n : Nat} (ih : (∀ {a0 : Nat} {i1 : Int32} {i2 : Int32} {σ : Sg} {τ : Sg} {H : Heap} {locs : List Loc} {ls : Array Slot}, X5_lay_run n 12 a0 i1 i2 σ = some τ → Dy base D cI cJ σ H → va_S (fun q => base ≤ q) s.heap H locs → lv_has ls 3 [(0, .ref (base + a0)), (1, .int i1), (2, .int i2)] → W p l e (rmD 2 0 0) s m args below meth c H locs 0 0 (MQ below (QwV base D cI cJ τ) args s 0 0 (fun q => base ≤ q)) (F0 m 12 ls [])) ∧ (∀ {a0 : Nat} {i1 : Int32} {i2 : Int32} {σ : Sg} {τ : Sg} {H : Heap} {locs : List Loc} {ls : Array Slot}, X5_lay_run n 56 a0 i1 i2 σ = some τ → Dy base D cI cJ σ H → va_S (fun q => base ≤ q) s.heap H locs → lv_has ls 3 [(0, .ref (base + a0)), (1, .int i1), (2, .int i2)] → W p l e (rmD 2 0 0) s m args below meth c H locs 0 0 (MQ below (QwV base D cI cJ τ) args s 0 0 (fun q => base ≤ q)) (F0 m 56 ls [])) ∧ (∀ {a0 : Nat} {i1 : Int32} {i2 : Int32} {σ : Sg} {τ : Sg} {H : Heap} {locs : List Loc} {ls : Array Slot}, X5_lay_run n 91 a0 i1 i2 σ = some τ → Dy base D cI cJ σ H → va_S (fun q => base ≤ q) s.heap H locs → lv_has ls 3 [(0, .ref (base + a0)), (1, .int i1), (2, .int i2)] → W p l e (rmD 2 0 0) s m args below meth c H locs 0 0 (MQ below (QwV base D cI cJ τ) args s 0 0 (fun q => base ≤ q)) (F0 m 91 ls []))) {a0 : Nat} {i1 : Int32} {σ : Sg} {τ : Sg} {H : Heap} {locs : List Loc} {ls : Array Slot} (h : X5_lay_b0 n (X5_lay_run n) a0 i1 σ = some τ) : Dy base D cI cJ σ H → va_S (fun q => base ≤ q) s.heap H locs → lv_has ls 3 [(0, .ref (base + a0)), (1, .int i1)] → W p l e (rmD 2 0 0) s m args below meth c H locs 0 0 (MQ below (QwV base D cI cJ τ) args s 0 0 (fun q => base ≤ q)) (F0 m 0 ls []) := by
  intro hP hS hl
  obtain ⟨hx, hb, hml, hown, hts⟩ := hC.1
  unfold X5_lay_b0 at h
  refine lv_aload_n hx hb dX5_lay_0 rfl (lv_at hl 0 rfl) ?_
  refine lv_iconst (v := 0) hx hb dX5_lay_1 (by decide) ?_
  obtain ⟨s_23, hs_23, h⟩ := obn h
  refine w_putI (ci := 5) (j := 29) hC hP hS rfl inlX5 tyX5 tyX5_ok nmX5 (by decide) (by decide) rfl rfl rfl rfl hs_23 wl_257 dX5_lay_2 (fun H locs hP hS => ?_)
  refine lv_aload_n hx hb dX5_lay_5 rfl (lv_at hl 0 rfl) ?_
  refine lv_iconst (v := 0) hx hb dX5_lay_6 (by decide) ?_
  obtain ⟨s_24, hs_24, h⟩ := obn h
  refine w_putI (ci := 5) (j := 30) hC hP hS rfl inlX5 tyX5 tyX5_ok nmX5 (by decide) (by decide) rfl rfl rfl rfl hs_24 wl_256 dX5_lay_7 (fun H locs hP hS => ?_)
  refine lv_iconst (v := 0) hx hb dX5_lay_10 (by decide) ?_
  refine lv_istore_n (lv' := [(2, .int 0), (0, .ref (base + a0)), (1, .int i1)]) hx hb dX5_lay_11 rfl hl (by decide) rfl (fun ls hl => ?_)
  exact ih.1 h hP hS (lv_sub hl [1, 2, 0] rfl)
set_option maxRecDepth 100000 in
set_option maxHeartbeats 4000000 in
theorem X5_lay_all (hC : Cx p m c cX5_lay 3 s args RX5 base D cI cJ tS) (hr : meth.sig.returnType = none) (hlocks : meth.locks = false) : ∀ n : Nat, (∀ {a0 : Nat} {i1 : Int32} {i2 : Int32} {σ : Sg} {τ : Sg} {H : Heap} {locs : List Loc} {ls : Array Slot}, X5_lay_run n 12 a0 i1 i2 σ = some τ → Dy base D cI cJ σ H → va_S (fun q => base ≤ q) s.heap H locs → lv_has ls 3 [(0, .ref (base + a0)), (1, .int i1), (2, .int i2)] → W p l e (rmD 2 0 0) s m args below meth c H locs 0 0 (MQ below (QwV base D cI cJ τ) args s 0 0 (fun q => base ≤ q)) (F0 m 12 ls [])) ∧ (∀ {a0 : Nat} {i1 : Int32} {i2 : Int32} {σ : Sg} {τ : Sg} {H : Heap} {locs : List Loc} {ls : Array Slot}, X5_lay_run n 56 a0 i1 i2 σ = some τ → Dy base D cI cJ σ H → va_S (fun q => base ≤ q) s.heap H locs → lv_has ls 3 [(0, .ref (base + a0)), (1, .int i1), (2, .int i2)] → W p l e (rmD 2 0 0) s m args below meth c H locs 0 0 (MQ below (QwV base D cI cJ τ) args s 0 0 (fun q => base ≤ q)) (F0 m 56 ls [])) ∧ (∀ {a0 : Nat} {i1 : Int32} {i2 : Int32} {σ : Sg} {τ : Sg} {H : Heap} {locs : List Loc} {ls : Array Slot}, X5_lay_run n 91 a0 i1 i2 σ = some τ → Dy base D cI cJ σ H → va_S (fun q => base ≤ q) s.heap H locs → lv_has ls 3 [(0, .ref (base + a0)), (1, .int i1), (2, .int i2)] → W p l e (rmD 2 0 0) s m args below meth c H locs 0 0 (MQ below (QwV base D cI cJ τ) args s 0 0 (fun q => base ≤ q)) (F0 m 91 ls [])) := by
  intro n
  induction n with
  | zero => exact ⟨fun h => (by cases h), fun h => (by cases h), fun h => (by cases h)⟩
  | succ n ih => exact ⟨fun h => X5_lay_k12 hC hr hlocks ih h, fun h => X5_lay_k56 hC hr hlocks ih h, fun h => X5_lay_k91 hC hr hlocks ih h⟩
set_option maxRecDepth 100000 in
set_option maxHeartbeats 4000000 in
theorem c_X5_lay {l : Launch} {base : Nat} {D : va_G} {cI cJ : ClassId} {tS : Nat} {n : Nat} {a0 : Nat} {i1 : Int32} {σ : Sg} {τ : Sg} (h : f_X5_lay n a0 i1 σ = some τ) : Met l yX5_lay (.code yX5_lay cX5_lay 3 none :: wsL_law) (rmD 2 0 0) (Pw base D cI cJ tS σ [.ref (base + a0), .int i1]) (QwV base D cI cJ τ) 0 0 (fun q => base ≤ q) := by
  refine Met.ofW (cc := cX5_lay) (maxL := 3) (ret := none) (by decide) rfl ?_
  intro p e s m args below meth c s₁ B hml hv
  obtain ⟨rfl, hSt, hP⟩ := hv
  have hC : Cx p m c cX5_lay 3 s _ RX5 base D cI cJ tS := ⟨⟨B.exec, B.bytes, hml, findClass_of_methodNamed B.named, fun w hw => atoms_spec (ws := Cond.code yX5_lay cX5_lay 3 none :: wsL_law) B.pre w (List.mem_cons_of_mem _ hw)⟩, hSt⟩
  have hl := lv_entry ([.ref (base + a0), .int i1]) (n := 3) (Nat.le_of_ble_eq_true rfl)
  rw [lg_entry_eq]
  generalize (lg_sl ([.ref (base + a0), .int i1]) ++ List.replicate (3 - (lg_sl ([.ref (base + a0), .int i1])).length) Slot.unset).toArray = ls at hl ⊢
  exact X5_lay_k0 hC B.returns B.notSynchronized (X5_lay_all hC B.returns B.notSynchronized n) h hP va_S.rf hl
-- ===== X5_at
set_option maxRecDepth 100000 in
set_option maxHeartbeats 4000000 in
theorem X5_at_k18 (hC : Cx p m c cX5_at 5 s args RX5 base D cI cJ tS) (hr : meth.sig.returnType = (some .int)) (hlocks : meth.locks = false) {n : Nat} {σ : Sg} {r : Int32} {τ : Sg} {H : Heap} {locs : List Loc} {ls : Array Slot} (h : X5_at_b18 n σ = some (r, τ)) : Dy base D cI cJ σ H → va_S (fun q => base ≤ q) s.heap H locs → lv_has ls 5 [] → W p l e (rmD 3 0 0) s m args below meth c H locs 0 0 (MQ below (QwI base D cI cJ r τ) args s 0 0 (fun q => base ≤ q)) (F0 m 18 ls []) := by
  intro hP hS hl
  obtain ⟨hx, hb, hml, hown, hts⟩ := hC.1
  unfold X5_at_b18 at h
  refine lv_iconst (v := (-1)) hx hb dX5_at_18 (by decide) ?_
  obtain ⟨rfl, rfl⟩ := Prod.mk.inj (Option.some.inj h)
  exact w_iret hC hr hlocks hP hS dX5_at_19
set_option maxRecDepth 100000 in
set_option maxHeartbeats 4000000 in
theorem X5_at_k0 (hC : Cx p m c cX5_at 5 s args RX5 base D cI cJ tS) (hr : meth.sig.returnType = (some .int)) (hlocks : meth.locks = false) {n : Nat} {a0 : Nat} {i1 : Int32} {i2 : Int32} {i3 : Int32} {σ : Sg} {r : Int32} {τ : Sg} {H : Heap} {locs : List Loc} {ls : Array Slot} (h : f_X5_at n a0 i1 i2 i3 σ = some (r, τ)) : Dy base D cI cJ σ H → va_S (fun q => base ≤ q) s.heap H locs → lv_has ls 5 [(0, .ref (base + a0)), (1, .int i1), (2, .int i2), (3, .int i3)] → W p l e (rmD 3 0 0) s m args below meth c H locs 0 0 (MQ below (QwI base D cI cJ r τ) args s 0 0 (fun q => base ≤ q)) (F0 m 0 ls []) := by
  intro hP hS hl
  obtain ⟨hx, hb, hml, hown, hts⟩ := hC.1
  unfold f_X5_at at h
  refine lv_aload_n hx hb dX5_at_0 rfl (lv_at hl 0 rfl) ?_
  refine lv_iload_n hx hb dX5_at_1 rfl (lv_at hl 1 rfl) ?_
  obtain ⟨u_1, hu_1, h⟩ := obn h
  obtain ⟨w_2, hw_2, h⟩ := obn h
  refine k_I (r_virt (As := [.int i1]) (rest := []) hC hP hS (ci := 5) rfl (by decide) hu_1 (c_X5_isBus (l := l) (base := base) (D := D) (cI := cI) (cJ := cJ) (tS := tS) hw_2) wl_141 wl_142 wl_143 wl_113 wl_140 rfl rfl hd_X5_isBus ⟨Nat.le_of_ble_eq_true rfl, Nat.le_of_ble_eq_true rfl⟩ rfl hl.1 rfl (Nat.le_of_ble_eq_true rfl) dX5_at_2 ⟨Nat.le_of_ble_eq_true rfl, Nat.le_of_ble_eq_true rfl⟩) hS (fun H locs hP hS => ?_)
  refine lv_if_eq (tgt := 18) hx hb dX5_at_5 (by decide) (fun c_3 => ?_) (fun c_3 => ?_)
  · rw [if_pos c_3] at h
    exact X5_at_k18 hC hr hlocks h hP hS (lv_sub hl [] rfl)
  · rw [if_neg c_3] at h
    refine lv_iload_n hx hb dX5_at_8 rfl (lv_at hl 2 rfl) ?_
    refine lv_iconst (v := 0) hx hb dX5_at_9 (by decide) ?_
    refine lv_bipush (v := 9) hx hb dX5_at_10 (by decide) ?_
    obtain ⟨w_4, hw_4, h⟩ := obn h
    refine k_I (r_stat (As := [.int i2, .int 0, .int 9]) (rest := []) hC hP hS (c_X5_in (l := l) (base := base) (D := D) (cI := cI) (cJ := cJ) (tS := tS) hw_4) wl_111 wl_112 wl_113 wl_110 rfl rfl hd_X5_in ⟨Nat.le_of_ble_eq_true rfl, Nat.le_of_ble_eq_true rfl⟩ rfl hl.1 rfl (Nat.le_of_ble_eq_true rfl) dX5_at_12 ⟨Nat.le_of_ble_eq_true rfl, Nat.le_of_ble_eq_true rfl⟩) hS (fun H locs hP hS => ?_)
    refine lv_if_ne (tgt := 20) hx hb dX5_at_15 (by decide) (fun c_5 => ?_) (fun c_5 => ?_)
    · rw [if_neg c_5] at h
      refine lv_iload_n hx hb dX5_at_20 rfl (lv_at hl 3 rfl) ?_
      refine lv_iconst (v := 0) hx hb dX5_at_21 (by decide) ?_
      refine lv_iconst (v := 5) hx hb dX5_at_22 (by decide) ?_
      obtain ⟨w_6, hw_6, h⟩ := obn h
      refine k_I (r_stat (As := [.int i3, .int 0, .int 5]) (rest := []) hC hP hS (c_X5_in (l := l) (base := base) (D := D) (cI := cI) (cJ := cJ) (tS := tS) hw_6) wl_111 wl_112 wl_113 wl_110 rfl rfl hd_X5_in ⟨Nat.le_of_ble_eq_true rfl, Nat.le_of_ble_eq_true rfl⟩ rfl hl.1 rfl (Nat.le_of_ble_eq_true rfl) dX5_at_23 ⟨Nat.le_of_ble_eq_true rfl, Nat.le_of_ble_eq_true rfl⟩) hS (fun H locs hP hS => ?_)
      refine lv_if_ne (tgt := 32) hx hb dX5_at_26 (by decide) (fun c_7 => ?_) (fun c_7 => ?_)
      · rw [if_neg c_7] at h
        refine lv_aload_n hx hb dX5_at_32 rfl (lv_at hl 0 rfl) ?_
        refine lv_bipush (v := (-6)) hx hb dX5_at_33 (by decide) ?_
        obtain ⟨u_8, hu_8, h⟩ := obn h
        obtain ⟨w_9, hw_9, h⟩ := obn h
        refine k_V (r_virt (As := [.int (-6)]) (rest := []) hC hP hS (ci := 5) rfl (by decide) hu_8 (c_X5_lay (l := l) (base := base) (D := D) (cI := cI) (cJ := cJ) (tS := tS) hw_9) wl_280 wl_281 wl_282 wl_113 wl_279 rfl rfl hd_X5_lay ⟨Nat.le_of_ble_eq_true rfl, Nat.le_of_ble_eq_true rfl⟩ rfl hl.1 rfl (Nat.le_of_ble_eq_true rfl) dX5_at_35 ⟨Nat.le_of_ble_eq_true rfl, Nat.le_of_ble_eq_true rfl⟩) hS (fun H locs hP hS => ?_)
        refine lv_bipush (v := 10) hx hb dX5_at_38 (by decide) ?_
        refine lv_iload_n hx hb dX5_at_40 rfl (lv_at hl 1 rfl) ?_
        refine lv_imul hx hb dX5_at_41 ?_
        refine lv_iload_n hx hb dX5_at_42 rfl (lv_at hl 2 rfl) ?_
        refine lv_iadd hx hb dX5_at_43 ?_
        obtain ⟨i4_10, hi4_10, h⟩ := obn h
        refine w_eqi (Option.some.inj hi4_10) ?_
        refine lv_istore (lv' := [(4, .int i4_10), (0, .ref (base + a0)), (1, .int i1), (2, .int i2), (3, .int i3)]) hx hb dX5_at_44 hl (by decide) rfl (fun ls hl => ?_)
        refine lv_aload_n hx hb dX5_at_46 rfl (lv_at hl 1 rfl) ?_
        obtain ⟨q_11, hq_11, h⟩ := obn h
        refine w_getR (ci := 5) (j := 17) hC hP rfl inlX5 (by decide) (by decide) rfl hq_11 wl_78 dX5_at_47 ?_
        refine lv_iload hx hb dX5_at_50 (lv_at hl 0 rfl) ?_
        obtain ⟨v_12, hv_12, h⟩ := obn h
        refine w_iald hC hP hv_12 dX5_at_52 ?_
        refine lv_if_ge (tgt := 59) hx hb dX5_at_53 (by decide) (fun c_13 => ?_) (fun c_13 => ?_)
        · rw [if_pos c_13] at h
          refine lv_iload_n hx hb dX5_at_59 rfl (lv_at hl 4 rfl) ?_
          refine lv_if_ne (tgt := 73) hx hb dX5_at_60 (by decide) (fun c_14 => ?_) (fun c_14 => ?_)
          · rw [if_neg c_14] at h
            refine lv_iload_n hx hb dX5_at_73 rfl (lv_at hl 4 rfl) ?_
            refine lv_iconst (v := 1) hx hb dX5_at_74 (by decide) ?_
            refine lv_icmp_ne (tgt := 88) hx hb dX5_at_75 (by decide) (fun c_15 => ?_) (fun c_15 => ?_)
            · rw [if_neg c_15] at h
              refine lv_iload_n hx hb dX5_at_88 rfl (lv_at hl 4 rfl) ?_
              refine lv_iconst (v := 2) hx hb dX5_at_89 (by decide) ?_
              refine lv_icmp_ne (tgt := 103) hx hb dX5_at_90 (by decide) (fun c_16 => ?_) (fun c_16 => ?_)
              · rw [if_neg c_16] at h
                refine lv_iload_n hx hb dX5_at_103 rfl (lv_at hl 4 rfl) ?_
                refine lv_iconst (v := 3) hx hb dX5_at_104 (by decide) ?_
                refine lv_icmp_ne (tgt := 118) hx hb dX5_at_105 (by decide) (fun c_17 => ?_) (fun c_17 => ?_)
                · rw [if_neg c_17] at h
                  refine lv_iload_n hx hb dX5_at_118 rfl (lv_at hl 4 rfl) ?_
                  refine lv_iconst (v := 4) hx hb dX5_at_119 (by decide) ?_
                  refine lv_icmp_ne (tgt := 133) hx hb dX5_at_120 (by decide) (fun c_18 => ?_) (fun c_18 => ?_)
                  · rw [if_neg c_18] at h
                    refine lv_aload_n hx hb dX5_at_133 rfl (lv_at hl 1 rfl) ?_
                    obtain ⟨q_19, hq_19, h⟩ := obn h
                    refine w_getR (ci := 5) (j := 22) hC hP rfl inlX5 (by decide) (by decide) rfl hq_19 wl_83 dX5_at_134 ?_
                    refine lv_iload hx hb dX5_at_137 (lv_at hl 0 rfl) ?_
                    obtain ⟨v_20, hv_20, h⟩ := obn h
                    refine w_iald hC hP hv_20 dX5_at_139 ?_
                    obtain ⟨rfl, rfl⟩ := Prod.mk.inj (Option.some.inj h)
                    exact w_iret hC hr hlocks hP hS dX5_at_140
                  · rw [if_pos c_18] at h
                    refine lv_aload_n hx hb dX5_at_123 rfl (lv_at hl 1 rfl) ?_
                    obtain ⟨q_21, hq_21, h⟩ := obn h
                    refine w_getR (ci := 5) (j := 21) hC hP rfl inlX5 (by decide) (by decide) rfl hq_21 wl_82 dX5_at_124 ?_
                    refine lv_iload hx hb dX5_at_127 (lv_at hl 0 rfl) ?_
                    obtain ⟨v_22, hv_22, h⟩ := obn h
                    refine w_iald hC hP hv_22 dX5_at_129 ?_
                    refine lv_goto (tgt := 140) hx hb dX5_at_130 (by decide) ?_
                    obtain ⟨rfl, rfl⟩ := Prod.mk.inj (Option.some.inj h)
                    exact w_iret hC hr hlocks hP hS dX5_at_140
                · rw [if_pos c_17] at h
                  refine lv_aload_n hx hb dX5_at_108 rfl (lv_at hl 1 rfl) ?_
                  obtain ⟨q_23, hq_23, h⟩ := obn h
                  refine w_getR (ci := 5) (j := 20) hC hP rfl inlX5 (by decide) (by decide) rfl hq_23 wl_81 dX5_at_109 ?_
                  refine lv_iload hx hb dX5_at_112 (lv_at hl 0 rfl) ?_
                  obtain ⟨v_24, hv_24, h⟩ := obn h
                  refine w_iald hC hP hv_24 dX5_at_114 ?_
                  refine lv_goto (tgt := 140) hx hb dX5_at_115 (by decide) ?_
                  obtain ⟨rfl, rfl⟩ := Prod.mk.inj (Option.some.inj h)
                  exact w_iret hC hr hlocks hP hS dX5_at_140
              · rw [if_pos c_16] at h
                refine lv_aload_n hx hb dX5_at_93 rfl (lv_at hl 1 rfl) ?_
                obtain ⟨q_25, hq_25, h⟩ := obn h
                refine w_getR (ci := 5) (j := 19) hC hP rfl inlX5 (by decide) (by decide) rfl hq_25 wl_80 dX5_at_94 ?_
                refine lv_iload hx hb dX5_at_97 (lv_at hl 0 rfl) ?_
                obtain ⟨v_26, hv_26, h⟩ := obn h
                refine w_iald hC hP hv_26 dX5_at_99 ?_
                refine lv_goto (tgt := 140) hx hb dX5_at_100 (by decide) ?_
                obtain ⟨rfl, rfl⟩ := Prod.mk.inj (Option.some.inj h)
                exact w_iret hC hr hlocks hP hS dX5_at_140
            · rw [if_pos c_15] at h
              refine lv_aload_n hx hb dX5_at_78 rfl (lv_at hl 1 rfl) ?_
              obtain ⟨q_27, hq_27, h⟩ := obn h
              refine w_getR (ci := 5) (j := 18) hC hP rfl inlX5 (by decide) (by decide) rfl hq_27 wl_79 dX5_at_79 ?_
              refine lv_iload hx hb dX5_at_82 (lv_at hl 0 rfl) ?_
              obtain ⟨v_28, hv_28, h⟩ := obn h
              refine w_iald hC hP hv_28 dX5_at_84 ?_
              refine lv_goto (tgt := 140) hx hb dX5_at_85 (by decide) ?_
              obtain ⟨rfl, rfl⟩ := Prod.mk.inj (Option.some.inj h)
              exact w_iret hC hr hlocks hP hS dX5_at_140
          · rw [if_pos c_14] at h
            refine lv_aload_n hx hb dX5_at_63 rfl (lv_at hl 1 rfl) ?_
            obtain ⟨q_29, hq_29, h⟩ := obn h
            refine w_getR (ci := 5) (j := 17) hC hP rfl inlX5 (by decide) (by decide) rfl hq_29 wl_78 dX5_at_64 ?_
            refine lv_iload hx hb dX5_at_67 (lv_at hl 0 rfl) ?_
            obtain ⟨v_30, hv_30, h⟩ := obn h
            refine w_iald hC hP hv_30 dX5_at_69 ?_
            refine lv_goto (tgt := 140) hx hb dX5_at_70 (by decide) ?_
            obtain ⟨rfl, rfl⟩ := Prod.mk.inj (Option.some.inj h)
            exact w_iret hC hr hlocks hP hS dX5_at_140
        · rw [if_neg c_13] at h
          refine lv_bipush (v := (-6)) hx hb dX5_at_56 (by decide) ?_
          obtain ⟨rfl, rfl⟩ := Prod.mk.inj (Option.some.inj h)
          exact w_iret hC hr hlocks hP hS dX5_at_58
      · rw [if_pos c_7] at h
        refine lv_bipush (v := (-2)) hx hb dX5_at_29 (by decide) ?_
        obtain ⟨rfl, rfl⟩ := Prod.mk.inj (Option.some.inj h)
        exact w_iret hC hr hlocks hP hS dX5_at_31
    · rw [if_pos c_5] at h
      exact X5_at_k18 hC hr hlocks h hP hS (lv_sub hl [] rfl)
set_option maxRecDepth 100000 in
set_option maxHeartbeats 4000000 in
theorem c_X5_at {l : Launch} {base : Nat} {D : va_G} {cI cJ : ClassId} {tS : Nat} {n : Nat} {a0 : Nat} {i1 : Int32} {i2 : Int32} {i3 : Int32} {σ : Sg} {r : Int32} {τ : Sg} (h : f_X5_at n a0 i1 i2 i3 σ = some (r, τ)) : Met l yX5_at (.code yX5_at cX5_at 5 (some .int) :: wsL_law) (rmD 3 0 0) (Pw base D cI cJ tS σ [.ref (base + a0), .int i1, .int i2, .int i3]) (QwI base D cI cJ r τ) 0 0 (fun q => base ≤ q) := by
  refine Met.ofW (cc := cX5_at) (maxL := 5) (ret := (some .int)) (by decide) rfl ?_
  intro p e s m args below meth c s₁ B hml hv
  obtain ⟨rfl, hSt, hP⟩ := hv
  have hC : Cx p m c cX5_at 5 s _ RX5 base D cI cJ tS := ⟨⟨B.exec, B.bytes, hml, findClass_of_methodNamed B.named, fun w hw => atoms_spec (ws := Cond.code yX5_at cX5_at 5 (some .int) :: wsL_law) B.pre w (List.mem_cons_of_mem _ hw)⟩, hSt⟩
  have hl := lv_entry ([.ref (base + a0), .int i1, .int i2, .int i3]) (n := 5) (Nat.le_of_ble_eq_true rfl)
  rw [lg_entry_eq]
  generalize (lg_sl ([.ref (base + a0), .int i1, .int i2, .int i3]) ++ List.replicate (5 - (lg_sl ([.ref (base + a0), .int i1, .int i2, .int i3])).length) Slot.unset).toArray = ls at hl ⊢
  exact X5_at_k0 hC B.returns B.notSynchronized h hP va_S.rf hl
end
