section
variable {p : Program} {l : Launch} {e : Env} {s : State} {m : MethodId} {args : Array Value} {below : List Frame} {meth : Method} {c : Code} {base : Nat} {D : va_G} {cI cJ : ClassId} {tS : Nat}
-- ===== X5_clearRule
set_option maxRecDepth 100000 in
set_option maxHeartbeats 4000000 in
theorem X5_clearRule_k7 (hC : Cx p m c cX5_clearRule 2 s args RX5 base D cI cJ tS) (hr : meth.sig.returnType = none) (hlocks : meth.locks = false) {n : Nat} (ih : (∀ {a0 : Nat} {i1 : Int32} {σ : Sg} {τ : Sg} {H : Heap} {locs : List Loc} {ls : Array Slot}, X5_clearRule_run n a0 i1 σ = some τ → Dy base D cI cJ σ H → va_S (fun q => base ≤ q) s.heap H locs → lv_has ls 2 [(0, .ref (base + a0)), (1, .int i1)] → W p l e (rmD 0 0 0) s m args below meth c H locs 0 0 (MQ below (QwV base D cI cJ τ) args s 0 0 (fun q => base ≤ q)) (F0 m 7 ls []))) {a0 : Nat} {i1 : Int32} {σ : Sg} {τ : Sg} {H : Heap} {locs : List Loc} {ls : Array Slot} (h : X5_clearRule_b7 n (X5_clearRule_run n) a0 i1 σ = some τ) : Dy base D cI cJ σ H → va_S (fun q => base ≤ q) s.heap H locs → lv_has ls 2 [(0, .ref (base + a0)), (1, .int i1)] → W p l e (rmD 0 0 0) s m args below meth c H locs 0 0 (MQ below (QwV base D cI cJ τ) args s 0 0 (fun q => base ≤ q)) (F0 m 7 ls []) := by
  intro hP hS hl
  obtain ⟨hx, hb, hml, hown, hts⟩ := hC.1
  unfold X5_clearRule_b7 at h
  refine lv_iload_n hx hb dX5_clearRule_7 rfl (lv_at hl 1 rfl) ?_
  refine lv_bipush (v := 10) hx hb dX5_clearRule_8 (by decide) ?_
  refine lv_icmp_ge (tgt := 33) hx hb dX5_clearRule_10 (by decide) (fun c_1 => ?_) (fun c_1 => ?_)
  · rw [if_pos c_1] at h
    obtain rfl := Option.some.inj h
    exact w_vret hC hr hlocks hP hS dX5_clearRule_33
  · rw [if_neg c_1] at h
    refine lv_aload_n hx hb dX5_clearRule_13 rfl (lv_at hl 0 rfl) ?_
    obtain ⟨q_2, hq_2, h⟩ := obn h
    refine w_getR (ci := 5) (j := 15) hC hP rfl inlX5 (by decide) (by decide) rfl hq_2 wl_76 dX5_clearRule_14 ?_
    refine lv_iload_n hx hb dX5_clearRule_17 rfl (lv_at hl 1 rfl) ?_
    refine lv_iconst (v := 0) hx hb dX5_clearRule_18 (by decide) ?_
    obtain ⟨s_3, hs_3, h⟩ := obn h
    refine w_iast hC hP hS hs_3 dX5_clearRule_19 (fun H locs hP hS => ?_)
    refine lv_aload_n hx hb dX5_clearRule_20 rfl (lv_at hl 0 rfl) ?_
    obtain ⟨q_4, hq_4, h⟩ := obn h
    refine w_getR (ci := 5) (j := 16) hC hP rfl inlX5 (by decide) (by decide) rfl hq_4 wl_77 dX5_clearRule_21 ?_
    refine lv_iload_n hx hb dX5_clearRule_24 rfl (lv_at hl 1 rfl) ?_
    refine lv_iconst (v := 0) hx hb dX5_clearRule_25 (by decide) ?_
    obtain ⟨s_5, hs_5, h⟩ := obn h
    refine w_iast hC hP hS hs_5 dX5_clearRule_26 (fun H locs hP hS => ?_)
    obtain ⟨i1_6, hi1_6, h⟩ := obn h
    refine lv_iinc (v := i1_6) (lv' := [(1, .int i1_6), (0, .ref (base + a0))]) hx hb dX5_clearRule_27 hl (k := 1) rfl (Option.some.inj hi1_6) (by decide) rfl (fun ls hl => ?_)
    refine lv_goto (tgt := 7) hx hb dX5_clearRule_30 (by decide) ?_
    exact ih h hP hS (lv_sub hl [1, 0] rfl)
set_option maxRecDepth 100000 in
set_option maxHeartbeats 4000000 in
theorem X5_clearRule_k0 (hC : Cx p m c cX5_clearRule 2 s args RX5 base D cI cJ tS) (hr : meth.sig.returnType = none) (hlocks : meth.locks = false) {n : Nat} (ih : (∀ {a0 : Nat} {i1 : Int32} {σ : Sg} {τ : Sg} {H : Heap} {locs : List Loc} {ls : Array Slot}, X5_clearRule_run n a0 i1 σ = some τ → Dy base D cI cJ σ H → va_S (fun q => base ≤ q) s.heap H locs → lv_has ls 2 [(0, .ref (base + a0)), (1, .int i1)] → W p l e (rmD 0 0 0) s m args below meth c H locs 0 0 (MQ below (QwV base D cI cJ τ) args s 0 0 (fun q => base ≤ q)) (F0 m 7 ls []))) {a0 : Nat} {σ : Sg} {τ : Sg} {H : Heap} {locs : List Loc} {ls : Array Slot} (h : X5_clearRule_b0 n (X5_clearRule_run n) a0 σ = some τ) : Dy base D cI cJ σ H → va_S (fun q => base ≤ q) s.heap H locs → lv_has ls 2 [(0, .ref (base + a0))] → W p l e (rmD 0 0 0) s m args below meth c H locs 0 0 (MQ below (QwV base D cI cJ τ) args s 0 0 (fun q => base ≤ q)) (F0 m 0 ls []) := by
  intro hP hS hl
  obtain ⟨hx, hb, hml, hown, hts⟩ := hC.1
  unfold X5_clearRule_b0 at h
  refine lv_aload_n hx hb dX5_clearRule_0 rfl (lv_at hl 0 rfl) ?_
  refine lv_iconst (v := 0) hx hb dX5_clearRule_1 (by decide) ?_
  obtain ⟨s_7, hs_7, h⟩ := obn h
  refine w_putI (ci := 5) (j := 14) hC hP hS rfl inlX5 tyX5 tyX5_ok nmX5 (by decide) (by decide) rfl rfl rfl rfl hs_7 wl_333 dX5_clearRule_2 (fun H locs hP hS => ?_)
  refine lv_iconst (v := 0) hx hb dX5_clearRule_5 (by decide) ?_
  refine lv_istore_n (lv' := [(1, .int 0), (0, .ref (base + a0))]) hx hb dX5_clearRule_6 rfl hl (by decide) rfl (fun ls hl => ?_)
  exact ih h hP hS (lv_sub hl [1, 0] rfl)
set_option maxRecDepth 100000 in
set_option maxHeartbeats 4000000 in
theorem X5_clearRule_all (hC : Cx p m c cX5_clearRule 2 s args RX5 base D cI cJ tS) (hr : meth.sig.returnType = none) (hlocks : meth.locks = false) : ∀ n : Nat, (∀ {a0 : Nat} {i1 : Int32} {σ : Sg} {τ : Sg} {H : Heap} {locs : List Loc} {ls : Array Slot}, X5_clearRule_run n a0 i1 σ = some τ → Dy base D cI cJ σ H → va_S (fun q => base ≤ q) s.heap H locs → lv_has ls 2 [(0, .ref (base + a0)), (1, .int i1)] → W p l e (rmD 0 0 0) s m args below meth c H locs 0 0 (MQ below (QwV base D cI cJ τ) args s 0 0 (fun q => base ≤ q)) (F0 m 7 ls [])) := by
  intro n
  induction n with
  | zero => exact fun h => (by cases h)
  | succ n ih => exact fun h => X5_clearRule_k7 hC hr hlocks ih h
set_option maxRecDepth 100000 in
set_option maxHeartbeats 4000000 in
theorem c_X5_clearRule {l : Launch} {base : Nat} {D : va_G} {cI cJ : ClassId} {tS : Nat} {n : Nat} {a0 : Nat} {σ : Sg} {τ : Sg} (h : f_X5_clearRule n a0 σ = some τ) : Met l yX5_clearRule (.code yX5_clearRule cX5_clearRule 2 none :: wsL_law) (rmD 0 0 0) (Pw base D cI cJ tS σ [.ref (base + a0)]) (QwV base D cI cJ τ) 0 0 (fun q => base ≤ q) := by
  refine Met.ofW (cc := cX5_clearRule) (maxL := 2) (ret := none) (by decide) rfl ?_
  intro p e s m args below meth c s₁ B hml hv
  obtain ⟨rfl, hSt, hP⟩ := hv
  have hC : Cx p m c cX5_clearRule 2 s _ RX5 base D cI cJ tS := ⟨⟨B.exec, B.bytes, hml, findClass_of_methodNamed B.named, fun w hw => atoms_spec (ws := Cond.code yX5_clearRule cX5_clearRule 2 none :: wsL_law) B.pre w (List.mem_cons_of_mem _ hw)⟩, hSt⟩
  have hl := lv_entry ([.ref (base + a0)]) (n := 2) (Nat.le_of_ble_eq_true rfl)
  rw [lg_entry_eq]
  generalize (lg_sl ([.ref (base + a0)]) ++ List.replicate (2 - (lg_sl ([.ref (base + a0)])).length) Slot.unset).toArray = ls at hl ⊢
  exact X5_clearRule_k0 hC B.returns B.notSynchronized (X5_clearRule_all hC B.returns B.notSynchronized n) h hP va_S.rf hl
-- ===== X5_rule
set_option maxRecDepth 100000 in
set_option maxHeartbeats 4000000 in
theorem X5_rule_k57 (hC : Cx p m c cX5_rule 3 s args RX5 base D cI cJ tS) (hr : meth.sig.returnType = (some .int)) (hlocks : meth.locks = false) {n : Nat} (ih : (∀ {a0 : Nat} {i1 : Int32} {i2 : Int32} {σ : Sg} {r : Int32} {τ : Sg} {H : Heap} {locs : List Loc} {ls : Array Slot}, X5_rule_run n 16 a0 i1 i2 σ = some (r, τ) → Dy base D cI cJ σ H → va_S (fun q => base ≤ q) s.heap H locs → lv_has ls 3 [(0, .ref (base + a0)), (1, .int i1)] → W p l e (rmD 2 0 0) s m args below meth c H locs 0 0 (MQ below (QwI base D cI cJ r τ) args s 0 0 (fun q => base ≤ q)) (F0 m 16 ls [])) ∧ (∀ {a0 : Nat} {i1 : Int32} {i2 : Int32} {σ : Sg} {r : Int32} {τ : Sg} {H : Heap} {locs : List Loc} {ls : Array Slot}, X5_rule_run n 61 a0 i1 i2 σ = some (r, τ) → Dy base D cI cJ σ H → va_S (fun q => base ≤ q) s.heap H locs → lv_has ls 3 [(0, .ref (base + a0)), (1, .int i1), (2, .int i2)] → W p l e (rmD 2 0 0) s m args below meth c H locs 0 0 (MQ below (QwI base D cI cJ r τ) args s 0 0 (fun q => base ≤ q)) (F0 m 61 ls []))) {a0 : Nat} {i1 : Int32} {i2 : Int32} {ta0 : Nat} {ti1 : Int32} {ti2 : Int32} {σ : Sg} {r : Int32} {τ : Sg} {H : Heap} {locs : List Loc} {ls : Array Slot} (h : X5_rule_b57 n (X5_rule_run n) a0 i1 i2 ta0 ti1 ti2 σ = some (r, τ)) : Dy base D cI cJ σ H → va_S (fun q => base ≤ q) s.heap H locs → lv_has ls 3 [(0, .ref (base + a0)), (1, .int i1), (2, .int i2)] → W p l e (rmD 2 0 0) s m args below meth c H locs 0 0 (MQ below (QwI base D cI cJ r τ) args s 0 0 (fun q => base ≤ q)) (F0 m 57 ls [.int ti2, .int ti1, .ref (base + ta0)]) := by
  intro hP hS hl
  obtain ⟨hx, hb, hml, hown, hts⟩ := hC.1
  unfold X5_rule_b57 at h
  obtain ⟨s_1, hs_1, h⟩ := obn h
  refine w_iast hC hP hS hs_1 dX5_rule_57 (fun H locs hP hS => ?_)
  obtain ⟨i1_2, hi1_2, h⟩ := obn h
  refine lv_iinc (v := i1_2) (lv' := [(1, .int i1_2), (0, .ref (base + a0)), (2, .int i2)]) hx hb dX5_rule_58 hl (k := 1) rfl (Option.some.inj hi1_2) (by decide) rfl (fun ls hl => ?_)
  exact ih.2 h hP hS (lv_sub hl [1, 0, 2] rfl)
set_option maxRecDepth 100000 in
set_option maxHeartbeats 4000000 in
theorem X5_rule_k16 (hC : Cx p m c cX5_rule 3 s args RX5 base D cI cJ tS) (hr : meth.sig.returnType = (some .int)) (hlocks : meth.locks = false) {n : Nat} (ih : (∀ {a0 : Nat} {i1 : Int32} {i2 : Int32} {σ : Sg} {r : Int32} {τ : Sg} {H : Heap} {locs : List Loc} {ls : Array Slot}, X5_rule_run n 16 a0 i1 i2 σ = some (r, τ) → Dy base D cI cJ σ H → va_S (fun q => base ≤ q) s.heap H locs → lv_has ls 3 [(0, .ref (base + a0)), (1, .int i1)] → W p l e (rmD 2 0 0) s m args below meth c H locs 0 0 (MQ below (QwI base D cI cJ r τ) args s 0 0 (fun q => base ≤ q)) (F0 m 16 ls [])) ∧ (∀ {a0 : Nat} {i1 : Int32} {i2 : Int32} {σ : Sg} {r : Int32} {τ : Sg} {H : Heap} {locs : List Loc} {ls : Array Slot}, X5_rule_run n 61 a0 i1 i2 σ = some (r, τ) → Dy base D cI cJ σ H → va_S (fun q => base ≤ q) s.heap H locs → lv_has ls 3 [(0, .ref (base + a0)), (1, .int i1), (2, .int i2)] → W p l e (rmD 2 0 0) s m args below meth c H locs 0 0 (MQ below (QwI base D cI cJ r τ) args s 0 0 (fun q => base ≤ q)) (F0 m 61 ls []))) {a0 : Nat} {i1 : Int32} {σ : Sg} {r : Int32} {τ : Sg} {H : Heap} {locs : List Loc} {ls : Array Slot} (h : X5_rule_b16 n (X5_rule_run n) a0 i1 σ = some (r, τ)) : Dy base D cI cJ σ H → va_S (fun q => base ≤ q) s.heap H locs → lv_has ls 3 [(0, .ref (base + a0)), (1, .int i1)] → W p l e (rmD 2 0 0) s m args below meth c H locs 0 0 (MQ below (QwI base D cI cJ r τ) args s 0 0 (fun q => base ≤ q)) (F0 m 16 ls []) := by
  intro hP hS hl
  obtain ⟨hx, hb, hml, hown, hts⟩ := hC.1
  unfold X5_rule_b16 at h
  refine lv_iload_n hx hb dX5_rule_16 rfl (lv_at hl 1 rfl) ?_
  refine lv_aload_n hx hb dX5_rule_17 rfl (lv_at hl 0 rfl) ?_
  obtain ⟨v_3, hv_3, h⟩ := obn h
  refine w_getI (ci := 5) (j := 12) hC hP rfl inlX5 (by decide) (by decide) rfl hv_3 wl_289 dX5_rule_18 ?_
  refine lv_icmp_ge (tgt := 127) hx hb dX5_rule_21 (by decide) (fun c_4 => ?_) (fun c_4 => ?_)
  · rw [if_pos c_4] at h
    refine lv_aload_n hx hb dX5_rule_127 rfl (lv_at hl 0 rfl) ?_
    refine lv_iconst (v := 0) hx hb dX5_rule_128 (by decide) ?_
    obtain ⟨s_5, hs_5, h⟩ := obn h
    refine w_putI (ci := 5) (j := 12) hC hP hS rfl inlX5 tyX5 tyX5_ok nmX5 (by decide) (by decide) rfl rfl rfl rfl hs_5 wl_289 dX5_rule_129 (fun H locs hP hS => ?_)
    refine lv_aload_n hx hb dX5_rule_132 rfl (lv_at hl 0 rfl) ?_
    obtain ⟨v_6, hv_6, h⟩ := obn h
    refine w_getI (ci := 5) (j := 14) hC hP rfl inlX5 (by decide) (by decide) rfl hv_6 wl_333 dX5_rule_133 ?_
    obtain ⟨rfl, rfl⟩ := Prod.mk.inj (Option.some.inj h)
    exact w_iret hC hr hlocks hP hS dX5_rule_136
  · rw [if_neg c_4] at h
    refine lv_aload_n hx hb dX5_rule_24 rfl (lv_at hl 0 rfl) ?_
    obtain ⟨q_7, hq_7, h⟩ := obn h
    refine w_getR (ci := 5) (j := 13) hC hP rfl inlX5 (by decide) (by decide) rfl hq_7 wl_75 dX5_rule_25 ?_
    refine lv_iload_n hx hb dX5_rule_28 rfl (lv_at hl 1 rfl) ?_
    obtain ⟨v_8, hv_8, h⟩ := obn h
    refine w_iald hC hP hv_8 dX5_rule_29 ?_
    refine lv_bipush (v := 48) hx hb dX5_rule_30 (by decide) ?_
    refine lv_isub hx hb dX5_rule_32 ?_
    obtain ⟨i2_9, hi2_9, h⟩ := obn h
    refine w_eqi (Option.some.inj hi2_9) ?_
    refine lv_istore_n (lv' := [(2, .int i2_9), (0, .ref (base + a0)), (1, .int i1)]) hx hb dX5_rule_33 rfl hl (by decide) rfl (fun ls hl => ?_)
    refine lv_aload_n hx hb dX5_rule_34 rfl (lv_at hl 1 rfl) ?_
    obtain ⟨q_10, hq_10, h⟩ := obn h
    refine w_getR (ci := 5) (j := 15) hC hP rfl inlX5 (by decide) (by decide) rfl hq_10 wl_76 dX5_rule_35 ?_
    refine lv_iload_n hx hb dX5_rule_38 rfl (lv_at hl 0 rfl) ?_
    refine lv_aload_n hx hb dX5_rule_39 rfl (lv_at hl 1 rfl) ?_
    obtain ⟨q_11, hq_11, h⟩ := obn h
    refine w_getR (ci := 5) (j := 13) hC hP rfl inlX5 (by decide) (by decide) rfl hq_11 wl_75 dX5_rule_40 ?_
    refine lv_iload_n hx hb dX5_rule_43 rfl (lv_at hl 2 rfl) ?_
    refine lv_iconst (v := 1) hx hb dX5_rule_44 (by decide) ?_
    refine lv_iadd hx hb dX5_rule_45 ?_
    obtain ⟨v_12, hv_12, h⟩ := obn h
    refine w_iald hC hP hv_12 dX5_rule_46 ?_
    refine lv_bipush (v := 99) hx hb dX5_rule_47 (by decide) ?_
    refine lv_icmp_ne (tgt := 56) hx hb dX5_rule_49 (by decide) (fun c_13 => ?_) (fun c_13 => ?_)
    · rw [if_neg c_13] at h
      refine lv_iconst (v := 2) hx hb dX5_rule_56 (by decide) ?_
      exact X5_rule_k57 hC hr hlocks ih h hP hS (lv_sub hl [1, 2, 0] rfl)
    · rw [if_pos c_13] at h
      refine lv_iconst (v := 1) hx hb dX5_rule_52 (by decide) ?_
      refine lv_goto (tgt := 57) hx hb dX5_rule_53 (by decide) ?_
      exact X5_rule_k57 hC hr hlocks ih h hP hS (lv_sub hl [1, 2, 0] rfl)
set_option maxRecDepth 100000 in
set_option maxHeartbeats 4000000 in
theorem X5_rule_k111 (hC : Cx p m c cX5_rule 3 s args RX5 base D cI cJ tS) (hr : meth.sig.returnType = (some .int)) (hlocks : meth.locks = false) {n : Nat} (ih : (∀ {a0 : Nat} {i1 : Int32} {i2 : Int32} {σ : Sg} {r : Int32} {τ : Sg} {H : Heap} {locs : List Loc} {ls : Array Slot}, X5_rule_run n 16 a0 i1 i2 σ = some (r, τ) → Dy base D cI cJ σ H → va_S (fun q => base ≤ q) s.heap H locs → lv_has ls 3 [(0, .ref (base + a0)), (1, .int i1)] → W p l e (rmD 2 0 0) s m args below meth c H locs 0 0 (MQ below (QwI base D cI cJ r τ) args s 0 0 (fun q => base ≤ q)) (F0 m 16 ls [])) ∧ (∀ {a0 : Nat} {i1 : Int32} {i2 : Int32} {σ : Sg} {r : Int32} {τ : Sg} {H : Heap} {locs : List Loc} {ls : Array Slot}, X5_rule_run n 61 a0 i1 i2 σ = some (r, τ) → Dy base D cI cJ σ H → va_S (fun q => base ≤ q) s.heap H locs → lv_has ls 3 [(0, .ref (base + a0)), (1, .int i1), (2, .int i2)] → W p l e (rmD 2 0 0) s m args below meth c H locs 0 0 (MQ below (QwI base D cI cJ r τ) args s 0 0 (fun q => base ≤ q)) (F0 m 61 ls []))) {a0 : Nat} {i1 : Int32} {σ : Sg} {r : Int32} {τ : Sg} {H : Heap} {locs : List Loc} {ls : Array Slot} (h : X5_rule_b111 n (X5_rule_run n) a0 i1 σ = some (r, τ)) : Dy base D cI cJ σ H → va_S (fun q => base ≤ q) s.heap H locs → lv_has ls 3 [(0, .ref (base + a0)), (1, .int i1)] → W p l e (rmD 2 0 0) s m args below meth c H locs 0 0 (MQ below (QwI base D cI cJ r τ) args s 0 0 (fun q => base ≤ q)) (F0 m 111 ls []) := by
  intro hP hS hl
  obtain ⟨hx, hb, hml, hown, hts⟩ := hC.1
  unfold X5_rule_b111 at h
  obtain ⟨i1_14, hi1_14, h⟩ := obn h
  refine lv_iinc (v := i1_14) (lv' := [(1, .int i1_14), (0, .ref (base + a0))]) hx hb dX5_rule_111 hl (k := 1) rfl (Option.some.inj hi1_14) (by decide) rfl (fun ls hl => ?_)
  refine lv_aload_n hx hb dX5_rule_114 rfl (lv_at hl 1 rfl) ?_
  refine lv_dup hx hb dX5_rule_115 rfl ?_
  obtain ⟨v_15, hv_15, h⟩ := obn h
  refine w_getI (ci := 5) (j := 14) hC hP rfl inlX5 (by decide) (by decide) rfl hv_15 wl_333 dX5_rule_116 ?_
  refine lv_iconst (v := 1) hx hb dX5_rule_119 (by decide) ?_
  refine lv_iadd hx hb dX5_rule_120 ?_
  obtain ⟨s_16, hs_16, h⟩ := obn h
  refine w_putI (ci := 5) (j := 14) hC hP hS rfl inlX5 tyX5 tyX5_ok nmX5 (by decide) (by decide) rfl rfl rfl rfl hs_16 wl_333 dX5_rule_121 (fun H locs hP hS => ?_)
  refine lv_goto (tgt := 16) hx hb dX5_rule_124 (by decide) ?_
  exact ih.1 h hP hS (lv_sub hl [1, 0] rfl)
set_option maxRecDepth 100000 in
set_option maxHeartbeats 4000000 in
theorem X5_rule_k61 (hC : Cx p m c cX5_rule 3 s args RX5 base D cI cJ tS) (hr : meth.sig.returnType = (some .int)) (hlocks : meth.locks = false) {n : Nat} (ih : (∀ {a0 : Nat} {i1 : Int32} {i2 : Int32} {σ : Sg} {r : Int32} {τ : Sg} {H : Heap} {locs : List Loc} {ls : Array Slot}, X5_rule_run n 16 a0 i1 i2 σ = some (r, τ) → Dy base D cI cJ σ H → va_S (fun q => base ≤ q) s.heap H locs → lv_has ls 3 [(0, .ref (base + a0)), (1, .int i1)] → W p l e (rmD 2 0 0) s m args below meth c H locs 0 0 (MQ below (QwI base D cI cJ r τ) args s 0 0 (fun q => base ≤ q)) (F0 m 16 ls [])) ∧ (∀ {a0 : Nat} {i1 : Int32} {i2 : Int32} {σ : Sg} {r : Int32} {τ : Sg} {H : Heap} {locs : List Loc} {ls : Array Slot}, X5_rule_run n 61 a0 i1 i2 σ = some (r, τ) → Dy base D cI cJ σ H → va_S (fun q => base ≤ q) s.heap H locs → lv_has ls 3 [(0, .ref (base + a0)), (1, .int i1), (2, .int i2)] → W p l e (rmD 2 0 0) s m args below meth c H locs 0 0 (MQ below (QwI base D cI cJ r τ) args s 0 0 (fun q => base ≤ q)) (F0 m 61 ls []))) {a0 : Nat} {i1 : Int32} {i2 : Int32} {σ : Sg} {r : Int32} {τ : Sg} {H : Heap} {locs : List Loc} {ls : Array Slot} (h : X5_rule_b61 n (X5_rule_run n) a0 i1 i2 σ = some (r, τ)) : Dy base D cI cJ σ H → va_S (fun q => base ≤ q) s.heap H locs → lv_has ls 3 [(0, .ref (base + a0)), (1, .int i1), (2, .int i2)] → W p l e (rmD 2 0 0) s m args below meth c H locs 0 0 (MQ below (QwI base D cI cJ r τ) args s 0 0 (fun q => base ≤ q)) (F0 m 61 ls []) := by
  intro hP hS hl
  obtain ⟨hx, hb, hml, hown, hts⟩ := hC.1
  unfold X5_rule_b61 at h
  refine lv_iload_n hx hb dX5_rule_61 rfl (lv_at hl 1 rfl) ?_
  refine lv_aload_n hx hb dX5_rule_62 rfl (lv_at hl 0 rfl) ?_
  obtain ⟨v_17, hv_17, h⟩ := obn h
  refine w_getI (ci := 5) (j := 12) hC hP rfl inlX5 (by decide) (by decide) rfl hv_17 wl_289 dX5_rule_63 ?_
  refine lv_icmp_ge (tgt := 111) hx hb dX5_rule_66 (by decide) (fun c_18 => ?_) (fun c_18 => ?_)
  · rw [if_pos c_18] at h
    exact X5_rule_k111 hC hr hlocks ih h hP hS (lv_sub hl [0, 1] rfl)
  · rw [if_neg c_18] at h
    refine lv_aload_n hx hb dX5_rule_69 rfl (lv_at hl 0 rfl) ?_
    obtain ⟨q_19, hq_19, h⟩ := obn h
    refine w_getR (ci := 5) (j := 13) hC hP rfl inlX5 (by decide) (by decide) rfl hq_19 wl_75 dX5_rule_70 ?_
    refine lv_iload_n hx hb dX5_rule_73 rfl (lv_at hl 1 rfl) ?_
    obtain ⟨v_20, hv_20, h⟩ := obn h
    refine w_iald hC hP hv_20 dX5_rule_74 ?_
    refine lv_bipush (v := 59) hx hb dX5_rule_75 (by decide) ?_
    refine lv_icmp_eq (tgt := 111) hx hb dX5_rule_77 (by decide) (fun c_21 => ?_) (fun c_21 => ?_)
    · rw [if_pos c_21] at h
      exact X5_rule_k111 hC hr hlocks ih h hP hS (lv_sub hl [0, 1] rfl)
    · rw [if_neg c_21] at h
      refine lv_aload_n hx hb dX5_rule_80 rfl (lv_at hl 0 rfl) ?_
      obtain ⟨q_22, hq_22, h⟩ := obn h
      refine w_getR (ci := 5) (j := 16) hC hP rfl inlX5 (by decide) (by decide) rfl hq_22 wl_77 dX5_rule_81 ?_
      refine lv_iload_n hx hb dX5_rule_84 rfl (lv_at hl 2 rfl) ?_
      refine lv_bipush (v := 10) hx hb dX5_rule_85 (by decide) ?_
      refine lv_aload_n hx hb dX5_rule_87 rfl (lv_at hl 0 rfl) ?_
      obtain ⟨q_23, hq_23, h⟩ := obn h
      refine w_getR (ci := 5) (j := 16) hC hP rfl inlX5 (by decide) (by decide) rfl hq_23 wl_77 dX5_rule_88 ?_
      refine lv_iload_n hx hb dX5_rule_91 rfl (lv_at hl 2 rfl) ?_
      obtain ⟨v_24, hv_24, h⟩ := obn h
      refine w_iald hC hP hv_24 dX5_rule_92 ?_
      refine lv_imul hx hb dX5_rule_93 ?_
      refine lv_aload_n hx hb dX5_rule_94 rfl (lv_at hl 0 rfl) ?_
      obtain ⟨q_25, hq_25, h⟩ := obn h
      refine w_getR (ci := 5) (j := 13) hC hP rfl inlX5 (by decide) (by decide) rfl hq_25 wl_75 dX5_rule_95 ?_
      refine lv_iload_n hx hb dX5_rule_98 rfl (lv_at hl 1 rfl) ?_
      obtain ⟨v_26, hv_26, h⟩ := obn h
      refine w_iald hC hP hv_26 dX5_rule_99 ?_
      refine lv_iadd hx hb dX5_rule_100 ?_
      refine lv_bipush (v := 48) hx hb dX5_rule_101 (by decide) ?_
      refine lv_isub hx hb dX5_rule_103 ?_
      obtain ⟨s_27, hs_27, h⟩ := obn h
      refine w_iast hC hP hS hs_27 dX5_rule_104 (fun H locs hP hS => ?_)
      obtain ⟨i1_28, hi1_28, h⟩ := obn h
      refine lv_iinc (v := i1_28) (lv' := [(1, .int i1_28), (0, .ref (base + a0)), (2, .int i2)]) hx hb dX5_rule_105 hl (k := 1) rfl (Option.some.inj hi1_28) (by decide) rfl (fun ls hl => ?_)
      refine lv_goto (tgt := 61) hx hb dX5_rule_108 (by decide) ?_
      exact ih.2 h hP hS (lv_sub hl [1, 0, 2] rfl)
set_option maxRecDepth 100000 in
set_option maxHeartbeats 4000000 in
theorem X5_rule_k0 (hC : Cx p m c cX5_rule 3 s args RX5 base D cI cJ tS) (hr : meth.sig.returnType = (some .int)) (hlocks : meth.locks = false) {n : Nat} (ih : (∀ {a0 : Nat} {i1 : Int32} {i2 : Int32} {σ : Sg} {r : Int32} {τ : Sg} {H : Heap} {locs : List Loc} {ls : Array Slot}, X5_rule_run n 16 a0 i1 i2 σ = some (r, τ) → Dy base D cI cJ σ H → va_S (fun q => base ≤ q) s.heap H locs → lv_has ls 3 [(0, .ref (base + a0)), (1, .int i1)] → W p l e (rmD 2 0 0) s m args below meth c H locs 0 0 (MQ below (QwI base D cI cJ r τ) args s 0 0 (fun q => base ≤ q)) (F0 m 16 ls [])) ∧ (∀ {a0 : Nat} {i1 : Int32} {i2 : Int32} {σ : Sg} {r : Int32} {τ : Sg} {H : Heap} {locs : List Loc} {ls : Array Slot}, X5_rule_run n 61 a0 i1 i2 σ = some (r, τ) → Dy base D cI cJ σ H → va_S (fun q => base ≤ q) s.heap H locs → lv_has ls 3 [(0, .ref (base + a0)), (1, .int i1), (2, .int i2)] → W p l e (rmD 2 0 0) s m args below meth c H locs 0 0 (MQ below (QwI base D cI cJ r τ) args s 0 0 (fun q => base ≤ q)) (F0 m 61 ls []))) {a0 : Nat} {σ : Sg} {r : Int32} {τ : Sg} {H : Heap} {locs : List Loc} {ls : Array Slot} (h : X5_rule_b0 n (X5_rule_run n) a0 σ = some (r, τ)) : Dy base D cI cJ σ H → va_S (fun q => base ≤ q) s.heap H locs → lv_has ls 3 [(0, .ref (base + a0))] → W p l e (rmD 2 0 0) s m args below meth c H locs 0 0 (MQ below (QwI base D cI cJ r τ) args s 0 0 (fun q => base ≤ q)) (F0 m 0 ls []) := by
  intro hP hS hl
  obtain ⟨hx, hb, hml, hown, hts⟩ := hC.1
  unfold X5_rule_b0 at h
  refine lv_aload_n hx hb dX5_rule_0 rfl (lv_at hl 0 rfl) ?_
  obtain ⟨u_29, hu_29, h⟩ := obn h
  obtain ⟨w_30, hw_30, h⟩ := obn h
  refine k_I (r_virt (As := []) (rest := []) hC hP hS (ci := 5) rfl (by decide) hu_29 (c_X5_faultOf (l := l) (base := base) (D := D) (cI := cI) (cJ := cJ) (tS := tS) hw_30) wl_329 wl_330 wl_331 wl_113 wl_328 rfl rfl hd_X5_faultOf ⟨Nat.le_of_ble_eq_true rfl, Nat.le_of_ble_eq_true rfl⟩ rfl hl.1 rfl (Nat.le_of_ble_eq_true rfl) dX5_rule_1 ⟨Nat.le_of_ble_eq_true rfl, Nat.le_of_ble_eq_true rfl⟩) hS (fun H locs hP hS => ?_)
  refine lv_if_lt (tgt := 10) hx hb dX5_rule_4 (by decide) (fun c_31 => ?_) (fun c_31 => ?_)
  · rw [if_pos c_31] at h
    refine lv_aload_n hx hb dX5_rule_10 rfl (lv_at hl 0 rfl) ?_
    obtain ⟨u_32, hu_32, h⟩ := obn h
    obtain ⟨w_33, hw_33, h⟩ := obn h
    refine k_V (r_virt (As := []) (rest := []) hC hP hS (ci := 5) rfl (by decide) hu_32 (c_X5_clearRule (l := l) (base := base) (D := D) (cI := cI) (cJ := cJ) (tS := tS) hw_33) wl_335 wl_336 wl_337 wl_113 wl_334 rfl rfl hd_X5_clearRule ⟨Nat.le_of_ble_eq_true rfl, Nat.le_of_ble_eq_true rfl⟩ rfl hl.1 rfl (Nat.le_of_ble_eq_true rfl) dX5_rule_11 ⟨Nat.le_of_ble_eq_true rfl, Nat.le_of_ble_eq_true rfl⟩) hS (fun H locs hP hS => ?_)
    refine lv_iconst (v := 0) hx hb dX5_rule_14 (by decide) ?_
    refine lv_istore_n (lv' := [(1, .int 0), (0, .ref (base + a0))]) hx hb dX5_rule_15 rfl hl (by decide) rfl (fun ls hl => ?_)
    exact ih.1 h hP hS (lv_sub hl [1, 0] rfl)
  · rw [if_neg c_31] at h
    refine lv_bipush (v := (-5)) hx hb dX5_rule_7 (by decide) ?_
    obtain ⟨rfl, rfl⟩ := Prod.mk.inj (Option.some.inj h)
    exact w_iret hC hr hlocks hP hS dX5_rule_9
set_option maxRecDepth 100000 in
set_option maxHeartbeats 4000000 in
theorem X5_rule_all (hC : Cx p m c cX5_rule 3 s args RX5 base D cI cJ tS) (hr : meth.sig.returnType = (some .int)) (hlocks : meth.locks = false) : ∀ n : Nat, (∀ {a0 : Nat} {i1 : Int32} {i2 : Int32} {σ : Sg} {r : Int32} {τ : Sg} {H : Heap} {locs : List Loc} {ls : Array Slot}, X5_rule_run n 16 a0 i1 i2 σ = some (r, τ) → Dy base D cI cJ σ H → va_S (fun q => base ≤ q) s.heap H locs → lv_has ls 3 [(0, .ref (base + a0)), (1, .int i1)] → W p l e (rmD 2 0 0) s m args below meth c H locs 0 0 (MQ below (QwI base D cI cJ r τ) args s 0 0 (fun q => base ≤ q)) (F0 m 16 ls [])) ∧ (∀ {a0 : Nat} {i1 : Int32} {i2 : Int32} {σ : Sg} {r : Int32} {τ : Sg} {H : Heap} {locs : List Loc} {ls : Array Slot}, X5_rule_run n 61 a0 i1 i2 σ = some (r, τ) → Dy base D cI cJ σ H → va_S (fun q => base ≤ q) s.heap H locs → lv_has ls 3 [(0, .ref (base + a0)), (1, .int i1), (2, .int i2)] → W p l e (rmD 2 0 0) s m args below meth c H locs 0 0 (MQ below (QwI base D cI cJ r τ) args s 0 0 (fun q => base ≤ q)) (F0 m 61 ls [])) := by
  intro n
  induction n with
  | zero => exact ⟨fun h => (by cases h), fun h => (by cases h)⟩
  | succ n ih => exact ⟨fun h => X5_rule_k16 hC hr hlocks ih h, fun h => X5_rule_k61 hC hr hlocks ih h⟩
set_option maxRecDepth 100000 in
set_option maxHeartbeats 4000000 in
theorem c_X5_rule {l : Launch} {base : Nat} {D : va_G} {cI cJ : ClassId} {tS : Nat} {n : Nat} {a0 : Nat} {σ : Sg} {r : Int32} {τ : Sg} (h : f_X5_rule n a0 σ = some (r, τ)) : Met l yX5_rule (.code yX5_rule cX5_rule 3 (some .int) :: wsL_law) (rmD 2 0 0) (Pw base D cI cJ tS σ [.ref (base + a0)]) (QwI base D cI cJ r τ) 0 0 (fun q => base ≤ q) := by
  refine Met.ofW (cc := cX5_rule) (maxL := 3) (ret := (some .int)) (by decide) rfl ?_
  intro p e s m args below meth c s₁ B hml hv
  obtain ⟨rfl, hSt, hP⟩ := hv
  have hC : Cx p m c cX5_rule 3 s _ RX5 base D cI cJ tS := ⟨⟨B.exec, B.bytes, hml, findClass_of_methodNamed B.named, fun w hw => atoms_spec (ws := Cond.code yX5_rule cX5_rule 3 (some .int) :: wsL_law) B.pre w (List.mem_cons_of_mem _ hw)⟩, hSt⟩
  have hl := lv_entry ([.ref (base + a0)]) (n := 3) (Nat.le_of_ble_eq_true rfl)
  rw [lg_entry_eq]
  generalize (lg_sl ([.ref (base + a0)]) ++ List.replicate (3 - (lg_sl ([.ref (base + a0)])).length) Slot.unset).toArray = ls at hl ⊢
  exact X5_rule_k0 hC B.returns B.notSynchronized (X5_rule_all hC B.returns B.notSynchronized n) h hP va_S.rf hl
-- ===== X4_free
set_option maxRecDepth 100000 in
set_option maxHeartbeats 4000000 in
theorem X4_free_k0 (hC : Cx p m c cX4_free 2 s args RX4 base D cI cJ tS) (hr : meth.sig.returnType = (some .int)) (hlocks : meth.locks = false) {n : Nat} {a0 : Nat} {σ : Sg} {r : Int32} {τ : Sg} {H : Heap} {locs : List Loc} {ls : Array Slot} (h : f_X4_free n a0 σ = some (r, τ)) : Dy base D cI cJ σ H → va_S (fun q => base ≤ q) s.heap H locs → lv_has ls 2 [(0, .ref (base + a0))] → W p l e (rmD 2 0 0) s m args below meth c H locs 0 0 (MQ below (QwI base D cI cJ r τ) args s 0 0 (fun q => base ≤ q)) (F0 m 0 ls []) := by
  intro hP hS hl
  obtain ⟨hx, hb, hml, hown, hts⟩ := hC.1
  unfold f_X4_free at h
  refine lv_aload_n hx hb dX4_free_0 rfl (lv_at hl 0 rfl) ?_
  obtain ⟨u_1, hu_1, h⟩ := obn h
  obtain ⟨w_2, hw_2, h⟩ := obn h
  refine k_V (r_virt (As := []) (rest := []) hC hP hS (ci := 4) rfl (by decide) hu_1 (c_X4_forgetCourse (l := l) (base := base) (D := D) (cI := cI) (cJ := cJ) (tS := tS) hw_2) wl_103 wl_104 wl_105 wl_98 wl_102 rfl rfl hd_X4_forgetCourse ⟨Nat.le_of_ble_eq_true rfl, Nat.le_of_ble_eq_true rfl⟩ rfl hl.1 rfl (Nat.le_of_ble_eq_true rfl) dX4_free_1 ⟨Nat.le_of_ble_eq_true rfl, Nat.le_of_ble_eq_true rfl⟩) hS (fun H locs hP hS => ?_)
  refine lv_aload_n hx hb dX4_free_4 rfl (lv_at hl 0 rfl) ?_
  obtain ⟨q_3, hq_3, h⟩ := obn h
  refine w_getR (ci := 4) (j := 4) hC hP rfl inlX4 (by decide) (by decide) rfl hq_3 wl_62 dX4_free_5 ?_
  obtain ⟨v_4, hv_4, h⟩ := obn h
  refine w_getI (ci := 2) (j := 2) hC hP rfl inlX2 (by decide) (by decide) rfl hv_4 wl_332 dX4_free_8 ?_
  refine lv_istore_n (lv' := [(1, .int v_4), (0, .ref (base + a0))]) hx hb dX4_free_11 rfl hl (by decide) rfl (fun ls hl => ?_)
  refine lv_aload_n hx hb dX4_free_12 rfl (lv_at hl 1 rfl) ?_
  obtain ⟨q_5, hq_5, h⟩ := obn h
  refine w_getR (ci := 4) (j := 4) hC hP rfl inlX4 (by decide) (by decide) rfl hq_5 wl_62 dX4_free_13 ?_
  obtain ⟨u_6, hu_6, h⟩ := obn h
  obtain ⟨w_7, hw_7, h⟩ := obn h
  refine k_V (r_virt (As := []) (rest := []) hC hP hS (ci := 2) rfl (by decide) hu_6 (c_X2_clear (l := l) (base := base) (D := D) (cI := cI) (cJ := cJ) (tS := tS) hw_7) wl_338 wl_322 wl_323 wl_59 wl_320 rfl rfl hd_X2_clear ⟨Nat.le_of_ble_eq_true rfl, Nat.le_of_ble_eq_true rfl⟩ rfl hl.1 rfl (Nat.le_of_ble_eq_true rfl) dX4_free_16 ⟨Nat.le_of_ble_eq_true rfl, Nat.le_of_ble_eq_true rfl⟩) hS (fun H locs hP hS => ?_)
  refine lv_iload_n hx hb dX4_free_19 rfl (lv_at hl 0 rfl) ?_
  obtain ⟨rfl, rfl⟩ := Prod.mk.inj (Option.some.inj h)
  exact w_iret hC hr hlocks hP hS dX4_free_20
set_option maxRecDepth 100000 in
set_option maxHeartbeats 4000000 in
theorem c_X4_free {l : Launch} {base : Nat} {D : va_G} {cI cJ : ClassId} {tS : Nat} {n : Nat} {a0 : Nat} {σ : Sg} {r : Int32} {τ : Sg} (h : f_X4_free n a0 σ = some (r, τ)) : Met l yX4_free (.code yX4_free cX4_free 2 (some .int) :: wsL_law) (rmD 2 0 0) (Pw base D cI cJ tS σ [.ref (base + a0)]) (QwI base D cI cJ r τ) 0 0 (fun q => base ≤ q) := by
  refine Met.ofW (cc := cX4_free) (maxL := 2) (ret := (some .int)) (by decide) rfl ?_
  intro p e s m args below meth c s₁ B hml hv
  obtain ⟨rfl, hSt, hP⟩ := hv
  have hC : Cx p m c cX4_free 2 s _ RX4 base D cI cJ tS := ⟨⟨B.exec, B.bytes, hml, findClass_of_methodNamed B.named, fun w hw => atoms_spec (ws := Cond.code yX4_free cX4_free 2 (some .int) :: wsL_law) B.pre w (List.mem_cons_of_mem _ hw)⟩, hSt⟩
  have hl := lv_entry ([.ref (base + a0)]) (n := 2) (Nat.le_of_ble_eq_true rfl)
  rw [lg_entry_eq]
  generalize (lg_sl ([.ref (base + a0)]) ++ List.replicate (2 - (lg_sl ([.ref (base + a0)])).length) Slot.unset).toArray = ls at hl ⊢
  exact X4_free_k0 hC B.returns B.notSynchronized h hP va_S.rf hl
-- ===== X5_free
set_option maxRecDepth 100000 in
set_option maxHeartbeats 4000000 in
theorem X5_free_k0 (hC : Cx p m c cX5_free 2 s args RX5 base D cI cJ tS) (hr : meth.sig.returnType = (some .int)) (hlocks : meth.locks = false) {n : Nat} {a0 : Nat} {σ : Sg} {r : Int32} {τ : Sg} {H : Heap} {locs : List Loc} {ls : Array Slot} (h : f_X5_free n a0 σ = some (r, τ)) : Dy base D cI cJ σ H → va_S (fun q => base ≤ q) s.heap H locs → lv_has ls 2 [(0, .ref (base + a0))] → W p l e (rmD 1 0 0) s m args below meth c H locs 0 0 (MQ below (QwI base D cI cJ r τ) args s 0 0 (fun q => base ≤ q)) (F0 m 0 ls []) := by
  intro hP hS hl
  obtain ⟨hx, hb, hml, hown, hts⟩ := hC.1
  unfold f_X5_free at h
  refine lv_aload_n hx hb dX5_free_0 rfl (lv_at hl 0 rfl) ?_
  obtain ⟨v_1, hv_1, h⟩ := obn h
  refine w_getI (ci := 5) (j := 14) hC hP rfl inlX5 (by decide) (by decide) rfl hv_1 wl_333 dX5_free_1 ?_
  refine lv_istore_n (lv' := [(1, .int v_1), (0, .ref (base + a0))]) hx hb dX5_free_4 rfl hl (by decide) rfl (fun ls hl => ?_)
  refine lv_aload_n hx hb dX5_free_5 rfl (lv_at hl 1 rfl) ?_
  obtain ⟨u_2, hu_2, h⟩ := obn h
  obtain ⟨w_3, hw_3, h⟩ := obn h
  refine k_V (r_virt (As := []) (rest := []) hC hP hS (ci := 5) rfl (by decide) hu_2 (c_X5_clearRule (l := l) (base := base) (D := D) (cI := cI) (cJ := cJ) (tS := tS) hw_3) wl_335 wl_336 wl_337 wl_113 wl_334 rfl rfl hd_X5_clearRule ⟨Nat.le_of_ble_eq_true rfl, Nat.le_of_ble_eq_true rfl⟩ rfl hl.1 rfl (Nat.le_of_ble_eq_true rfl) dX5_free_6 ⟨Nat.le_of_ble_eq_true rfl, Nat.le_of_ble_eq_true rfl⟩) hS (fun H locs hP hS => ?_)
  refine lv_iload_n hx hb dX5_free_9 rfl (lv_at hl 0 rfl) ?_
  obtain ⟨rfl, rfl⟩ := Prod.mk.inj (Option.some.inj h)
  exact w_iret hC hr hlocks hP hS dX5_free_10
set_option maxRecDepth 100000 in
set_option maxHeartbeats 4000000 in
theorem c_X5_free {l : Launch} {base : Nat} {D : va_G} {cI cJ : ClassId} {tS : Nat} {n : Nat} {a0 : Nat} {σ : Sg} {r : Int32} {τ : Sg} (h : f_X5_free n a0 σ = some (r, τ)) : Met l yX5_free (.code yX5_free cX5_free 2 (some .int) :: wsL_law) (rmD 1 0 0) (Pw base D cI cJ tS σ [.ref (base + a0)]) (QwI base D cI cJ r τ) 0 0 (fun q => base ≤ q) := by
  refine Met.ofW (cc := cX5_free) (maxL := 2) (ret := (some .int)) (by decide) rfl ?_
  intro p e s m args below meth c s₁ B hml hv
  obtain ⟨rfl, hSt, hP⟩ := hv
  have hC : Cx p m c cX5_free 2 s _ RX5 base D cI cJ tS := ⟨⟨B.exec, B.bytes, hml, findClass_of_methodNamed B.named, fun w hw => atoms_spec (ws := Cond.code yX5_free cX5_free 2 (some .int) :: wsL_law) B.pre w (List.mem_cons_of_mem _ hw)⟩, hSt⟩
  have hl := lv_entry ([.ref (base + a0)]) (n := 2) (Nat.le_of_ble_eq_true rfl)
  rw [lg_entry_eq]
  generalize (lg_sl ([.ref (base + a0)]) ++ List.replicate (2 - (lg_sl ([.ref (base + a0)])).length) Slot.unset).toArray = ls at hl ⊢
  exact X5_free_k0 hC B.returns B.notSynchronized h hP va_S.rf hl
-- ===== X0_orderLeaving
set_option maxRecDepth 100000 in
set_option maxHeartbeats 4000000 in
theorem X0_orderLeaving_k39 (hC : Cx p m c cX0_orderLeaving 5 s args RX0 base D cI cJ tS) (hr : meth.sig.returnType = (some .int)) (hlocks : meth.locks = false) {n : Nat} (ih : (∀ {a0 : Nat} {a1 : Nat} {i2 : Int32} {i3 : Int32} {i4 : Int32} {σ : Sg} {r : Int32} {τ : Sg} {H : Heap} {locs : List Loc} {ls : Array Slot}, X0_orderLeaving_run n a0 a1 i2 i3 i4 σ = some (r, τ) → Dy base D cI cJ σ H → va_S (fun q => base ≤ q) s.heap H locs → lv_has ls 5 [(0, .ref (base + a0)), (1, .ref (base + a1)), (2, .int i2), (3, .int i3), (4, .int i4)] → W p l e (rmD 2 0 0) s m args below meth c H locs 0 0 (MQ below (QwI base D cI cJ r τ) args s 0 0 (fun q => base ≤ q)) (F0 m 5 ls []))) {a0 : Nat} {a1 : Nat} {i2 : Int32} {i3 : Int32} {i4 : Int32} {σ : Sg} {r : Int32} {τ : Sg} {H : Heap} {locs : List Loc} {ls : Array Slot} (h : X0_orderLeaving_b39 n (X0_orderLeaving_run n) a0 a1 i2 i3 i4 σ = some (r, τ)) : Dy base D cI cJ σ H → va_S (fun q => base ≤ q) s.heap H locs → lv_has ls 5 [(0, .ref (base + a0)), (1, .ref (base + a1)), (2, .int i2), (3, .int i3), (4, .int i4)] → W p l e (rmD 2 0 0) s m args below meth c H locs 0 0 (MQ below (QwI base D cI cJ r τ) args s 0 0 (fun q => base ≤ q)) (F0 m 39 ls []) := by
  intro hP hS hl
  obtain ⟨hx, hb, hml, hown, hts⟩ := hC.1
  unfold X0_orderLeaving_b39 at h
  obtain ⟨i4_1, hi4_1, h⟩ := obn h
  refine lv_iinc (v := i4_1) (lv' := [(4, .int i4_1), (0, .ref (base + a0)), (1, .ref (base + a1)), (2, .int i2), (3, .int i3)]) hx hb dX0_orderLeaving_39 hl (k := 4) rfl (Option.some.inj hi4_1) (by decide) rfl (fun ls hl => ?_)
  refine lv_goto (tgt := 5) hx hb dX0_orderLeaving_42 (by decide) ?_
  exact ih h hP hS (lv_sub hl [1, 2, 3, 4, 0] rfl)
set_option maxRecDepth 100000 in
set_option maxHeartbeats 4000000 in
theorem X0_orderLeaving_k5 (hC : Cx p m c cX0_orderLeaving 5 s args RX0 base D cI cJ tS) (hr : meth.sig.returnType = (some .int)) (hlocks : meth.locks = false) {n : Nat} (ih : (∀ {a0 : Nat} {a1 : Nat} {i2 : Int32} {i3 : Int32} {i4 : Int32} {σ : Sg} {r : Int32} {τ : Sg} {H : Heap} {locs : List Loc} {ls : Array Slot}, X0_orderLeaving_run n a0 a1 i2 i3 i4 σ = some (r, τ) → Dy base D cI cJ σ H → va_S (fun q => base ≤ q) s.heap H locs → lv_has ls 5 [(0, .ref (base + a0)), (1, .ref (base + a1)), (2, .int i2), (3, .int i3), (4, .int i4)] → W p l e (rmD 2 0 0) s m args below meth c H locs 0 0 (MQ below (QwI base D cI cJ r τ) args s 0 0 (fun q => base ≤ q)) (F0 m 5 ls []))) {a0 : Nat} {a1 : Nat} {i2 : Int32} {i3 : Int32} {i4 : Int32} {σ : Sg} {r : Int32} {τ : Sg} {H : Heap} {locs : List Loc} {ls : Array Slot} (h : X0_orderLeaving_b5 n (X0_orderLeaving_run n) a0 a1 i2 i3 i4 σ = some (r, τ)) : Dy base D cI cJ σ H → va_S (fun q => base ≤ q) s.heap H locs → lv_has ls 5 [(0, .ref (base + a0)), (1, .ref (base + a1)), (2, .int i2), (3, .int i3), (4, .int i4)] → W p l e (rmD 2 0 0) s m args below meth c H locs 0 0 (MQ below (QwI base D cI cJ r τ) args s 0 0 (fun q => base ≤ q)) (F0 m 5 ls []) := by
  intro hP hS hl
  obtain ⟨hx, hb, hml, hown, hts⟩ := hC.1
  unfold X0_orderLeaving_b5 at h
  refine lv_iload hx hb dX0_orderLeaving_5 (lv_at hl 4 rfl) ?_
  refine lv_aload_n hx hb dX0_orderLeaving_7 rfl (lv_at hl 1 rfl) ?_
  obtain ⟨v_2, hv_2, h⟩ := obn h
  refine w_getI (ci := 1) (j := 7) hC hP rfl inlX1 (by decide) (by decide) rfl hv_2 wl_157 dX0_orderLeaving_8 ?_
  refine lv_icmp_ge (tgt := 45) hx hb dX0_orderLeaving_11 (by decide) (fun c_3 => ?_) (fun c_3 => ?_)
  · rw [if_pos c_3] at h
    refine lv_iload_n hx hb dX0_orderLeaving_45 rfl (lv_at hl 3 rfl) ?_
    obtain ⟨rfl, rfl⟩ := Prod.mk.inj (Option.some.inj h)
    exact w_iret hC hr hlocks hP hS dX0_orderLeaving_46
  · rw [if_neg c_3] at h
    refine lv_aload_n hx hb dX0_orderLeaving_14 rfl (lv_at hl 1 rfl) ?_
    refine lv_iload hx hb dX0_orderLeaving_15 (lv_at hl 4 rfl) ?_
    refine lv_iload_n hx hb dX0_orderLeaving_17 rfl (lv_at hl 2 rfl) ?_
    obtain ⟨u_4, hu_4, h⟩ := obn h
    obtain ⟨w_5, hw_5, h⟩ := obn h
    refine k_I (r_virt (As := [.int i4, .int i2]) (rest := []) hC hP hS (ci := 1) rfl (by decide) hu_4 (c_X1_goesOn (l := l) (base := base) (D := D) (cI := cI) (cJ := cJ) (tS := tS) hw_5) wl_199 wl_200 wl_201 wl_39 wl_198 rfl rfl hd_X1_goesOn ⟨Nat.le_of_ble_eq_true rfl, Nat.le_of_ble_eq_true rfl⟩ rfl hl.1 rfl (Nat.le_of_ble_eq_true rfl) dX0_orderLeaving_18 ⟨Nat.le_of_ble_eq_true rfl, Nat.le_of_ble_eq_true rfl⟩) hS (fun H locs hP hS => ?_)
    refine lv_if_eq (tgt := 39) hx hb dX0_orderLeaving_21 (by decide) (fun c_6 => ?_) (fun c_6 => ?_)
    · rw [if_pos c_6] at h
      exact X0_orderLeaving_k39 hC hr hlocks ih h hP hS (lv_sub hl [0, 1, 2, 3, 4] rfl)
    · rw [if_neg c_6] at h
      refine lv_aload_n hx hb dX0_orderLeaving_24 rfl (lv_at hl 0 rfl) ?_
      refine lv_aload_n hx hb dX0_orderLeaving_25 rfl (lv_at hl 0 rfl) ?_
      obtain ⟨q_7, hq_7, h⟩ := obn h
      refine w_getR (ci := 0) (j := 1) hC hP rfl inlX0 (by decide) (by decide) rfl hq_7 wl_22 dX0_orderLeaving_26 ?_
      refine lv_iload_n hx hb dX0_orderLeaving_29 rfl (lv_at hl 2 rfl) ?_
      refine lv_iload hx hb dX0_orderLeaving_30 (lv_at hl 4 rfl) ?_
      refine lv_iload_n hx hb dX0_orderLeaving_32 rfl (lv_at hl 3 rfl) ?_
      obtain ⟨u_8, hu_8, h⟩ := obn h
      obtain ⟨w_9, hw_9, h⟩ := obn h
      refine k_V (r_virt (As := [.ref (base + q_7), .int i2, .int i4, .int i3]) (rest := []) hC hP hS (ci := 0) rfl (by decide) hu_8 (c_X0_putInOrder (l := l) (base := base) (D := D) (cI := cI) (cJ := cJ) (tS := tS) hw_9) wl_154 wl_155 wl_156 wl_52 wl_153 rfl rfl hd_X0_putInOrder ⟨Nat.le_of_ble_eq_true rfl, Nat.le_of_ble_eq_true rfl⟩ rfl hl.1 rfl (Nat.le_of_ble_eq_true rfl) dX0_orderLeaving_33 ⟨Nat.le_of_ble_eq_true rfl, Nat.le_of_ble_eq_true rfl⟩) hS (fun H locs hP hS => ?_)
      obtain ⟨i3_10, hi3_10, h⟩ := obn h
      refine lv_iinc (v := i3_10) (lv' := [(3, .int i3_10), (0, .ref (base + a0)), (1, .ref (base + a1)), (2, .int i2), (4, .int i4)]) hx hb dX0_orderLeaving_36 hl (k := 3) rfl (Option.some.inj hi3_10) (by decide) rfl (fun ls hl => ?_)
      exact X0_orderLeaving_k39 hC hr hlocks ih h hP hS (lv_sub hl [1, 2, 3, 0, 4] rfl)
set_option maxRecDepth 100000 in
set_option maxHeartbeats 4000000 in
theorem X0_orderLeaving_k0 (hC : Cx p m c cX0_orderLeaving 5 s args RX0 base D cI cJ tS) (hr : meth.sig.returnType = (some .int)) (hlocks : meth.locks = false) {n : Nat} (ih : (∀ {a0 : Nat} {a1 : Nat} {i2 : Int32} {i3 : Int32} {i4 : Int32} {σ : Sg} {r : Int32} {τ : Sg} {H : Heap} {locs : List Loc} {ls : Array Slot}, X0_orderLeaving_run n a0 a1 i2 i3 i4 σ = some (r, τ) → Dy base D cI cJ σ H → va_S (fun q => base ≤ q) s.heap H locs → lv_has ls 5 [(0, .ref (base + a0)), (1, .ref (base + a1)), (2, .int i2), (3, .int i3), (4, .int i4)] → W p l e (rmD 2 0 0) s m args below meth c H locs 0 0 (MQ below (QwI base D cI cJ r τ) args s 0 0 (fun q => base ≤ q)) (F0 m 5 ls []))) {a0 : Nat} {a1 : Nat} {i2 : Int32} {σ : Sg} {r : Int32} {τ : Sg} {H : Heap} {locs : List Loc} {ls : Array Slot} (h : X0_orderLeaving_b0 n (X0_orderLeaving_run n) a0 a1 i2 σ = some (r, τ)) : Dy base D cI cJ σ H → va_S (fun q => base ≤ q) s.heap H locs → lv_has ls 5 [(0, .ref (base + a0)), (1, .ref (base + a1)), (2, .int i2)] → W p l e (rmD 2 0 0) s m args below meth c H locs 0 0 (MQ below (QwI base D cI cJ r τ) args s 0 0 (fun q => base ≤ q)) (F0 m 0 ls []) := by
  intro hP hS hl
  obtain ⟨hx, hb, hml, hown, hts⟩ := hC.1
  unfold X0_orderLeaving_b0 at h
  refine lv_iconst (v := 0) hx hb dX0_orderLeaving_0 (by decide) ?_
  refine lv_istore_n (lv' := [(3, .int 0), (0, .ref (base + a0)), (1, .ref (base + a1)), (2, .int i2)]) hx hb dX0_orderLeaving_1 rfl hl (by decide) rfl (fun ls hl => ?_)
  refine lv_iconst (v := 0) hx hb dX0_orderLeaving_2 (by decide) ?_
  refine lv_istore (lv' := [(4, .int 0), (3, .int 0), (0, .ref (base + a0)), (1, .ref (base + a1)), (2, .int i2)]) hx hb dX0_orderLeaving_3 hl (by decide) rfl (fun ls hl => ?_)
  exact ih h hP hS (lv_sub hl [2, 3, 4, 1, 0] rfl)
set_option maxRecDepth 100000 in
set_option maxHeartbeats 4000000 in
theorem X0_orderLeaving_all (hC : Cx p m c cX0_orderLeaving 5 s args RX0 base D cI cJ tS) (hr : meth.sig.returnType = (some .int)) (hlocks : meth.locks = false) : ∀ n : Nat, (∀ {a0 : Nat} {a1 : Nat} {i2 : Int32} {i3 : Int32} {i4 : Int32} {σ : Sg} {r : Int32} {τ : Sg} {H : Heap} {locs : List Loc} {ls : Array Slot}, X0_orderLeaving_run n a0 a1 i2 i3 i4 σ = some (r, τ) → Dy base D cI cJ σ H → va_S (fun q => base ≤ q) s.heap H locs → lv_has ls 5 [(0, .ref (base + a0)), (1, .ref (base + a1)), (2, .int i2), (3, .int i3), (4, .int i4)] → W p l e (rmD 2 0 0) s m args below meth c H locs 0 0 (MQ below (QwI base D cI cJ r τ) args s 0 0 (fun q => base ≤ q)) (F0 m 5 ls [])) := by
  intro n
  induction n with
  | zero => exact fun h => (by cases h)
  | succ n ih => exact fun h => X0_orderLeaving_k5 hC hr hlocks ih h
set_option maxRecDepth 100000 in
set_option maxHeartbeats 4000000 in
theorem c_X0_orderLeaving {l : Launch} {base : Nat} {D : va_G} {cI cJ : ClassId} {tS : Nat} {n : Nat} {a0 : Nat} {a1 : Nat} {i2 : Int32} {σ : Sg} {r : Int32} {τ : Sg} (h : f_X0_orderLeaving n a0 a1 i2 σ = some (r, τ)) : Met l yX0_orderLeaving (.code yX0_orderLeaving cX0_orderLeaving 5 (some .int) :: wsL_law) (rmD 2 0 0) (Pw base D cI cJ tS σ [.ref (base + a0), .ref (base + a1), .int i2]) (QwI base D cI cJ r τ) 0 0 (fun q => base ≤ q) := by
  refine Met.ofW (cc := cX0_orderLeaving) (maxL := 5) (ret := (some .int)) (by decide) rfl ?_
  intro p e s m args below meth c s₁ B hml hv
  obtain ⟨rfl, hSt, hP⟩ := hv
  have hC : Cx p m c cX0_orderLeaving 5 s _ RX0 base D cI cJ tS := ⟨⟨B.exec, B.bytes, hml, findClass_of_methodNamed B.named, fun w hw => atoms_spec (ws := Cond.code yX0_orderLeaving cX0_orderLeaving 5 (some .int) :: wsL_law) B.pre w (List.mem_cons_of_mem _ hw)⟩, hSt⟩
  have hl := lv_entry ([.ref (base + a0), .ref (base + a1), .int i2]) (n := 5) (Nat.le_of_ble_eq_true rfl)
  rw [lg_entry_eq]
  generalize (lg_sl ([.ref (base + a0), .ref (base + a1), .int i2]) ++ List.replicate (5 - (lg_sl ([.ref (base + a0), .ref (base + a1), .int i2])).length) Slot.unset).toArray = ls at hl ⊢
  exact X0_orderLeaving_k0 hC B.returns B.notSynchronized (X0_orderLeaving_all hC B.returns B.notSynchronized n) h hP va_S.rf hl
-- ===== X0_gapAhead
set_option maxRecDepth 100000 in
set_option maxHeartbeats 4000000 in
theorem X0_gapAhead_k0 (hC : Cx p m c cX0_gapAhead 3 s args RX0 base D cI cJ tS) (hr : meth.sig.returnType = (some .int)) (hlocks : meth.locks = false) {n : Nat} {a0 : Nat} {i1 : Int32} {i2 : Int32} {σ : Sg} {r : Int32} {τ : Sg} {H : Heap} {locs : List Loc} {ls : Array Slot} (h : f_X0_gapAhead n a0 i1 i2 σ = some (r, τ)) : Dy base D cI cJ σ H → va_S (fun q => base ≤ q) s.heap H locs → lv_has ls 3 [(0, .ref (base + a0)), (1, .int i1), (2, .int i2)] → W p l e (rmD 1 0 0) s m args below meth c H locs 0 0 (MQ below (QwI base D cI cJ r τ) args s 0 0 (fun q => base ≤ q)) (F0 m 0 ls []) := by
  intro hP hS hl
  obtain ⟨hx, hb, hml, hown, hts⟩ := hC.1
  unfold f_X0_gapAhead at h
  refine lv_aload_n hx hb dX0_gapAhead_0 rfl (lv_at hl 0 rfl) ?_
  obtain ⟨q_1, hq_1, h⟩ := obn h
  refine w_getR (ci := 0) (j := 1) hC hP rfl inlX0 (by decide) (by decide) rfl hq_1 wl_22 dX0_gapAhead_1 ?_
  refine lv_aload_n hx hb dX0_gapAhead_4 rfl (lv_at hl 0 rfl) ?_
  obtain ⟨q_2, hq_2, h⟩ := obn h
  refine w_getR (ci := 0) (j := 12) hC hP rfl inlX0 (by decide) (by decide) rfl hq_2 wl_32 dX0_gapAhead_5 ?_
  refine lv_iload_n hx hb dX0_gapAhead_8 rfl (lv_at hl 2 rfl) ?_
  obtain ⟨v_3, hv_3, h⟩ := obn h
  refine w_iald hC hP hv_3 dX0_gapAhead_9 ?_
  refine lv_iload_n hx hb dX0_gapAhead_10 rfl (lv_at hl 1 rfl) ?_
  obtain ⟨w_4, hw_4, h⟩ := obn h
  refine k_I (r_statN (As := [.int v_3, .int i1]) (rest := [.ref (base + q_1)]) hC hP hS (c_X4_cell (l := l) (base := base) (D := D) (cI := cI) (cJ := cJ) (tS := tS) hw_4) hC.2.2.1.2.2.2 wl_150 wl_98 wl_149 rfl rfl hd_X4_cell ⟨Nat.le_of_ble_eq_true rfl, Nat.le_of_ble_eq_true rfl⟩ rfl hl.1 rfl (Nat.le_of_ble_eq_true rfl) dX0_gapAhead_11 ⟨Nat.le_of_ble_eq_true rfl, Nat.le_of_ble_eq_true rfl⟩) hS (fun H locs hP hS => ?_)
  obtain ⟨v_5, hv_5, h⟩ := obn h
  refine w_iald hC hP hv_5 dX0_gapAhead_14 ?_
  refine lv_aload_n hx hb dX0_gapAhead_15 rfl (lv_at hl 0 rfl) ?_
  obtain ⟨q_6, hq_6, h⟩ := obn h
  refine w_getR (ci := 0) (j := 1) hC hP rfl inlX0 (by decide) (by decide) rfl hq_6 wl_22 dX0_gapAhead_16 ?_
  refine lv_aload_n hx hb dX0_gapAhead_19 rfl (lv_at hl 0 rfl) ?_
  obtain ⟨q_7, hq_7, h⟩ := obn h
  refine w_getR (ci := 0) (j := 12) hC hP rfl inlX0 (by decide) (by decide) rfl hq_7 wl_32 dX0_gapAhead_20 ?_
  refine lv_iload_n hx hb dX0_gapAhead_23 rfl (lv_at hl 2 rfl) ?_
  refine lv_iconst (v := 1) hx hb dX0_gapAhead_24 (by decide) ?_
  refine lv_isub hx hb dX0_gapAhead_25 ?_
  obtain ⟨v_8, hv_8, h⟩ := obn h
  refine w_iald hC hP hv_8 dX0_gapAhead_26 ?_
  refine lv_iload_n hx hb dX0_gapAhead_27 rfl (lv_at hl 1 rfl) ?_
  obtain ⟨w_9, hw_9, h⟩ := obn h
  refine k_I (r_statN (As := [.int v_8, .int i1]) (rest := [.ref (base + q_6), .int v_5]) hC hP hS (c_X4_cell (l := l) (base := base) (D := D) (cI := cI) (cJ := cJ) (tS := tS) hw_9) hC.2.2.1.2.2.2 wl_150 wl_98 wl_149 rfl rfl hd_X4_cell ⟨Nat.le_of_ble_eq_true rfl, Nat.le_of_ble_eq_true rfl⟩ rfl hl.1 rfl (Nat.le_of_ble_eq_true rfl) dX0_gapAhead_28 ⟨Nat.le_of_ble_eq_true rfl, Nat.le_of_ble_eq_true rfl⟩) hS (fun H locs hP hS => ?_)
  obtain ⟨v_10, hv_10, h⟩ := obn h
  refine w_iald hC hP hv_10 dX0_gapAhead_31 ?_
  refine lv_isub hx hb dX0_gapAhead_32 ?_
  obtain ⟨rfl, rfl⟩ := Prod.mk.inj (Option.some.inj h)
  exact w_iret hC hr hlocks hP hS dX0_gapAhead_33
set_option maxRecDepth 100000 in
set_option maxHeartbeats 4000000 in
theorem c_X0_gapAhead {l : Launch} {base : Nat} {D : va_G} {cI cJ : ClassId} {tS : Nat} {n : Nat} {a0 : Nat} {i1 : Int32} {i2 : Int32} {σ : Sg} {r : Int32} {τ : Sg} (h : f_X0_gapAhead n a0 i1 i2 σ = some (r, τ)) : Met l yX0_gapAhead (.code yX0_gapAhead cX0_gapAhead 3 (some .int) :: wsL_law) (rmD 1 0 0) (Pw base D cI cJ tS σ [.ref (base + a0), .int i1, .int i2]) (QwI base D cI cJ r τ) 0 0 (fun q => base ≤ q) := by
  refine Met.ofW (cc := cX0_gapAhead) (maxL := 3) (ret := (some .int)) (by decide) rfl ?_
  intro p e s m args below meth c s₁ B hml hv
  obtain ⟨rfl, hSt, hP⟩ := hv
  have hC : Cx p m c cX0_gapAhead 3 s _ RX0 base D cI cJ tS := ⟨⟨B.exec, B.bytes, hml, findClass_of_methodNamed B.named, fun w hw => atoms_spec (ws := Cond.code yX0_gapAhead cX0_gapAhead 3 (some .int) :: wsL_law) B.pre w (List.mem_cons_of_mem _ hw)⟩, hSt⟩
  have hl := lv_entry ([.ref (base + a0), .int i1, .int i2]) (n := 3) (Nat.le_of_ble_eq_true rfl)
  rw [lg_entry_eq]
  generalize (lg_sl ([.ref (base + a0), .int i1, .int i2]) ++ List.replicate (3 - (lg_sl ([.ref (base + a0), .int i1, .int i2])).length) Slot.unset).toArray = ls at hl ⊢
  exact X0_gapAhead_k0 hC B.returns B.notSynchronized h hP va_S.rf hl
-- ===== X4_follow
set_option maxRecDepth 100000 in
set_option maxHeartbeats 4000000 in
theorem X4_follow_k48 (hC : Cx p m c cX4_follow 5 s args RX4 base D cI cJ tS) (hr : meth.sig.returnType = (some .int)) (hlocks : meth.locks = false) {n : Nat} {σ : Sg} {r : Int32} {τ : Sg} {H : Heap} {locs : List Loc} {ls : Array Slot} (h : X4_follow_b48 n σ = some (r, τ)) : Dy base D cI cJ σ H → va_S (fun q => base ≤ q) s.heap H locs → lv_has ls 5 [] → W p l e (rmD 7 0 0) s m args below meth c H locs 0 0 (MQ below (QwI base D cI cJ r τ) args s 0 0 (fun q => base ≤ q)) (F0 m 48 ls []) := by
  intro hP hS hl
  obtain ⟨hx, hb, hml, hown, hts⟩ := hC.1
  unfold X4_follow_b48 at h
  refine lv_bipush (v := (-6)) hx hb dX4_follow_48 (by decide) ?_
  refine lv_goto (tgt := 59) hx hb dX4_follow_50 (by decide) ?_
  obtain ⟨rfl, rfl⟩ := Prod.mk.inj (Option.some.inj h)
  exact w_iret hC hr hlocks hP hS dX4_follow_59
set_option maxRecDepth 100000 in
set_option maxHeartbeats 4000000 in
theorem X4_follow_k0 (hC : Cx p m c cX4_follow 5 s args RX4 base D cI cJ tS) (hr : meth.sig.returnType = (some .int)) (hlocks : meth.locks = false) {n : Nat} {a0 : Nat} {i1 : Int32} {i2 : Int32} {σ : Sg} {r : Int32} {τ : Sg} {H : Heap} {locs : List Loc} {ls : Array Slot} (h : f_X4_follow n a0 i1 i2 σ = some (r, τ)) : Dy base D cI cJ σ H → va_S (fun q => base ≤ q) s.heap H locs → lv_has ls 5 [(0, .ref (base + a0)), (1, .int i1), (2, .int i2)] → W p l e (rmD 7 0 0) s m args below meth c H locs 0 0 (MQ below (QwI base D cI cJ r τ) args s 0 0 (fun q => base ≤ q)) (F0 m 0 ls []) := by
  intro hP hS hl
  obtain ⟨hx, hb, hml, hown, hts⟩ := hC.1
  unfold f_X4_follow at h
  refine lv_iload_n hx hb dX4_follow_0 rfl (lv_at hl 1 rfl) ?_
  obtain ⟨w_1, hw_1, h⟩ := obn h
  refine k_I (r_stat (As := [.int i1]) (rest := []) hC hP hS (c_X4_isGoingStop (l := l) (base := base) (D := D) (cI := cI) (cJ := cJ) (tS := tS) hw_1) wl_96 wl_97 wl_98 wl_95 rfl rfl hd_X4_isGoingStop ⟨Nat.le_of_ble_eq_true rfl, Nat.le_of_ble_eq_true rfl⟩ rfl hl.1 rfl (Nat.le_of_ble_eq_true rfl) dX4_follow_1 ⟨Nat.le_of_ble_eq_true rfl, Nat.le_of_ble_eq_true rfl⟩) hS (fun H locs hP hS => ?_)
  refine lv_if_ne (tgt := 9) hx hb dX4_follow_4 (by decide) (fun c_2 => ?_) (fun c_2 => ?_)
  · rw [if_neg c_2] at h
    refine lv_aload_n hx hb dX4_follow_9 rfl (lv_at hl 0 rfl) ?_
    obtain ⟨u_3, hu_3, h⟩ := obn h
    obtain ⟨w_4, hw_4, h⟩ := obn h
    refine k_A (r_virt (As := []) (rest := []) hC hP hS (ci := 4) rfl (by decide) hu_3 (c_X4_presentCourse (l := l) (base := base) (D := D) (cI := cI) (cJ := cJ) (tS := tS) hw_4) wl_248 wl_249 wl_250 wl_98 wl_247 rfl rfl hd_X4_presentCourse ⟨Nat.le_of_ble_eq_true rfl, Nat.le_of_ble_eq_true rfl⟩ rfl hl.1 rfl (Nat.le_of_ble_eq_true rfl) dX4_follow_10 ⟨Nat.le_of_ble_eq_true rfl, Nat.le_of_ble_eq_true rfl⟩) hS (fun H locs hP hS => ?_)
    refine lv_astore_n (lv' := [(3, .ref (base + w_4.1)), (0, .ref (base + a0)), (1, .int i1), (2, .int i2)]) hx hb dX4_follow_13 rfl hl (by decide) rfl (fun ls hl => ?_)
    refine lv_aload_n hx hb dX4_follow_14 rfl (lv_at hl 0 rfl) ?_
    refine lv_aload_n hx hb dX4_follow_15 rfl (lv_at hl 1 rfl) ?_
    obtain ⟨q_5, hq_5, h⟩ := obn h
    refine w_getR (ci := 4) (j := 0) hC hP rfl inlX4 (by decide) (by decide) rfl hq_5 wl_43 dX4_follow_16 ?_
    refine lv_iload_n hx hb dX4_follow_19 rfl (lv_at hl 2 rfl) ?_
    obtain ⟨u_6, hu_6, h⟩ := obn h
    obtain ⟨w_7, hw_7, h⟩ := obn h
    refine k_I (r_virt (As := [.ref (base + q_5), .int i1]) (rest := []) hC hP hS (ci := 0) rfl (by decide) hu_6 (c_X0_orderLeaving (l := l) (base := base) (D := D) (cI := cI) (cJ := cJ) (tS := tS) hw_7) wl_340 wl_341 wl_342 wl_52 wl_339 rfl rfl hd_X0_orderLeaving ⟨Nat.le_of_ble_eq_true rfl, Nat.le_of_ble_eq_true rfl⟩ rfl hl.1 rfl (Nat.le_of_ble_eq_true rfl) dX4_follow_20 ⟨Nat.le_of_ble_eq_true rfl, Nat.le_of_ble_eq_true rfl⟩) hS (fun H locs hP hS => ?_)
    refine lv_iconst (v := 1) hx hb dX4_follow_23 (by decide) ?_
    refine lv_isub hx hb dX4_follow_24 ?_
    obtain ⟨i4_8, hi4_8, h⟩ := obn h
    refine w_eqi (Option.some.inj hi4_8) ?_
    refine lv_istore (lv' := [(4, .int i4_8), (3, .ref (base + w_4.1)), (0, .ref (base + a0)), (1, .int i1), (2, .int i2)]) hx hb dX4_follow_25 hl (by decide) rfl (fun ls hl => ?_)
    refine lv_iload_n hx hb dX4_follow_27 rfl (lv_at hl 4 rfl) ?_
    refine lv_if_ne (tgt := 38) hx hb dX4_follow_28 (by decide) (fun c_9 => ?_) (fun c_9 => ?_)
    · rw [if_neg c_9] at h
      refine lv_iload_n hx hb dX4_follow_38 rfl (lv_at hl 4 rfl) ?_
      refine lv_if_lt (tgt := 48) hx hb dX4_follow_39 (by decide) (fun c_10 => ?_) (fun c_10 => ?_)
      · rw [if_pos c_10] at h
        exact X4_follow_k48 hC hr hlocks h hP hS (lv_sub hl [] rfl)
      · rw [if_neg c_10] at h
        refine lv_iload_n hx hb dX4_follow_42 rfl (lv_at hl 4 rfl) ?_
        refine lv_iload hx hb dX4_follow_43 (lv_at hl 0 rfl) ?_
        refine lv_icmp_le (tgt := 53) hx hb dX4_follow_45 (by decide) (fun c_11 => ?_) (fun c_11 => ?_)
        · rw [if_pos c_11] at h
          refine lv_aload_n hx hb dX4_follow_53 rfl (lv_at hl 1 rfl) ?_
          refine lv_iload_n hx hb dX4_follow_54 rfl (lv_at hl 3 rfl) ?_
          refine lv_iload_n hx hb dX4_follow_55 rfl (lv_at hl 4 rfl) ?_
          obtain ⟨u_12, hu_12, h⟩ := obn h
          obtain ⟨w_13, hw_13, h⟩ := obn h
          refine k_I (r_virt (As := [.int i1, .int i2]) (rest := []) hC hP hS (ci := 0) rfl (by decide) hu_12 (c_X0_gapAhead (l := l) (base := base) (D := D) (cI := cI) (cJ := cJ) (tS := tS) hw_13) wl_344 wl_345 wl_346 wl_52 wl_343 rfl rfl hd_X0_gapAhead ⟨Nat.le_of_ble_eq_true rfl, Nat.le_of_ble_eq_true rfl⟩ rfl hl.1 rfl (Nat.le_of_ble_eq_true rfl) dX4_follow_56 ⟨Nat.le_of_ble_eq_true rfl, Nat.le_of_ble_eq_true rfl⟩) hS (fun H locs hP hS => ?_)
          obtain ⟨rfl, rfl⟩ := Prod.mk.inj (Option.some.inj h)
          exact w_iret hC hr hlocks hP hS dX4_follow_59
        · rw [if_neg c_11] at h
          exact X4_follow_k48 hC hr hlocks h hP hS (lv_sub hl [] rfl)
    · rw [if_pos c_9] at h
      refine lv_iload hx hb dX4_follow_31 (lv_at hl 0 rfl) ?_
      refine lv_iconst (v := 0) hx hb dX4_follow_33 (by decide) ?_
      refine va_mmax hx hb (hml.trans hl.1.symm) hown (hts _ wl_347) (hts _ wl_191) (hts _ wl_166) (hts _ wl_192) (Nat.le_of_ble_eq_true rfl) (Nat.le_of_ble_eq_true rfl) (Nat.le_of_ble_eq_true rfl) (Nat.le_of_ble_eq_true rfl) dX4_follow_34 ?_
      obtain ⟨rfl, rfl⟩ := Prod.mk.inj (Option.some.inj h)
      exact w_iret hC hr hlocks hP hS dX4_follow_37
  · rw [if_pos c_2] at h
    refine lv_iconst (v := (-1)) hx hb dX4_follow_7 (by decide) ?_
    obtain ⟨rfl, rfl⟩ := Prod.mk.inj (Option.some.inj h)
    exact w_iret hC hr hlocks hP hS dX4_follow_8
set_option maxRecDepth 100000 in
set_option maxHeartbeats 4000000 in
theorem c_X4_follow {l : Launch} {base : Nat} {D : va_G} {cI cJ : ClassId} {tS : Nat} {n : Nat} {a0 : Nat} {i1 : Int32} {i2 : Int32} {σ : Sg} {r : Int32} {τ : Sg} (h : f_X4_follow n a0 i1 i2 σ = some (r, τ)) : Met l yX4_follow (.code yX4_follow cX4_follow 5 (some .int) :: wsL_law) (rmD 7 0 0) (Pw base D cI cJ tS σ [.ref (base + a0), .int i1, .int i2]) (QwI base D cI cJ r τ) 0 0 (fun q => base ≤ q) := by
  refine Met.ofW (cc := cX4_follow) (maxL := 5) (ret := (some .int)) (by decide) rfl ?_
  intro p e s m args below meth c s₁ B hml hv
  obtain ⟨rfl, hSt, hP⟩ := hv
  have hC : Cx p m c cX4_follow 5 s _ RX4 base D cI cJ tS := ⟨⟨B.exec, B.bytes, hml, findClass_of_methodNamed B.named, fun w hw => atoms_spec (ws := Cond.code yX4_follow cX4_follow 5 (some .int) :: wsL_law) B.pre w (List.mem_cons_of_mem _ hw)⟩, hSt⟩
  have hl := lv_entry ([.ref (base + a0), .int i1, .int i2]) (n := 5) (Nat.le_of_ble_eq_true rfl)
  rw [lg_entry_eq]
  generalize (lg_sl ([.ref (base + a0), .int i1, .int i2]) ++ List.replicate (5 - (lg_sl ([.ref (base + a0), .int i1, .int i2])).length) Slot.unset).toArray = ls at hl ⊢
  exact X4_follow_k0 hC B.returns B.notSynchronized h hP va_S.rf hl
-- ===== X5_layGoing
set_option maxRecDepth 100000 in
set_option maxHeartbeats 4000000 in
theorem X5_layGoing_k117 (hC : Cx p m c cX5_layGoing 4 s args RX5 base D cI cJ tS) (hr : meth.sig.returnType = none) (hlocks : meth.locks = false) {n : Nat} (ih : (∀ {a0 : Nat} {i1 : Int32} {i2 : Int32} {i3 : Int32} {σ : Sg} {τ : Sg} {H : Heap} {locs : List Loc} {ls : Array Slot}, X5_layGoing_run n 7 a0 i1 i2 i3 σ = some τ → Dy base D cI cJ σ H → va_S (fun q => base ≤ q) s.heap H locs → lv_has ls 4 [(0, .ref (base + a0)), (1, .int i1), (2, .int i2)] → W p l e (rmD 0 0 0) s m args below meth c H locs 0 0 (MQ below (QwV base D cI cJ τ) args s 0 0 (fun q => base ≤ q)) (F0 m 7 ls [])) ∧ (∀ {a0 : Nat} {i1 : Int32} {i2 : Int32} {i3 : Int32} {σ : Sg} {τ : Sg} {H : Heap} {locs : List Loc} {ls : Array Slot}, X5_layGoing_run n 44 a0 i1 i2 i3 σ = some τ → Dy base D cI cJ σ H → va_S (fun q => base ≤ q) s.heap H locs → lv_has ls 4 [(0, .ref (base + a0)), (1, .int i1), (2, .int i2), (3, .int i3)] → W p l e (rmD 0 0 0) s m args below meth c H locs 0 0 (MQ below (QwV base D cI cJ τ) args s 0 0 (fun q => base ≤ q)) (F0 m 44 ls []))) {a0 : Nat} {i1 : Int32} {i2 : Int32} {σ : Sg} {τ : Sg} {H : Heap} {locs : List Loc} {ls : Array Slot} (h : X5_layGoing_b117 n (X5_layGoing_run n) a0 i1 i2 σ = some τ) : Dy base D cI cJ σ H → va_S (fun q => base ≤ q) s.heap H locs → lv_has ls 4 [(0, .ref (base + a0)), (1, .int i1), (2, .int i2)] → W p l e (rmD 0 0 0) s m args below meth c H locs 0 0 (MQ below (QwV base D cI cJ τ) args s 0 0 (fun q => base ≤ q)) (F0 m 117 ls []) := by
  intro hP hS hl
  obtain ⟨hx, hb, hml, hown, hts⟩ := hC.1
  unfold X5_layGoing_b117 at h
  obtain ⟨i2_1, hi2_1, h⟩ := obn h
  refine lv_iinc (v := i2_1) (lv' := [(2, .int i2_1), (0, .ref (base + a0)), (1, .int i1)]) hx hb dX5_layGoing_117 hl (k := 2) rfl (Option.some.inj hi2_1) (by decide) rfl (fun ls hl => ?_)
  refine lv_goto (tgt := 7) hx hb dX5_layGoing_120 (by decide) ?_
  exact ih.1 h hP hS (lv_sub hl [1, 2, 0] rfl)
set_option maxRecDepth 100000 in
set_option maxHeartbeats 4000000 in
theorem X5_layGoing_k7 (hC : Cx p m c cX5_layGoing 4 s args RX5 base D cI cJ tS) (hr : meth.sig.returnType = none) (hlocks : meth.locks = false) {n : Nat} (ih : (∀ {a0 : Nat} {i1 : Int32} {i2 : Int32} {i3 : Int32} {σ : Sg} {τ : Sg} {H : Heap} {locs : List Loc} {ls : Array Slot}, X5_layGoing_run n 7 a0 i1 i2 i3 σ = some τ → Dy base D cI cJ σ H → va_S (fun q => base ≤ q) s.heap H locs → lv_has ls 4 [(0, .ref (base + a0)), (1, .int i1), (2, .int i2)] → W p l e (rmD 0 0 0) s m args below meth c H locs 0 0 (MQ below (QwV base D cI cJ τ) args s 0 0 (fun q => base ≤ q)) (F0 m 7 ls [])) ∧ (∀ {a0 : Nat} {i1 : Int32} {i2 : Int32} {i3 : Int32} {σ : Sg} {τ : Sg} {H : Heap} {locs : List Loc} {ls : Array Slot}, X5_layGoing_run n 44 a0 i1 i2 i3 σ = some τ → Dy base D cI cJ σ H → va_S (fun q => base ≤ q) s.heap H locs → lv_has ls 4 [(0, .ref (base + a0)), (1, .int i1), (2, .int i2), (3, .int i3)] → W p l e (rmD 0 0 0) s m args below meth c H locs 0 0 (MQ below (QwV base D cI cJ τ) args s 0 0 (fun q => base ≤ q)) (F0 m 44 ls []))) {a0 : Nat} {i1 : Int32} {i2 : Int32} {σ : Sg} {τ : Sg} {H : Heap} {locs : List Loc} {ls : Array Slot} (h : X5_layGoing_b7 n (X5_layGoing_run n) a0 i1 i2 σ = some τ) : Dy base D cI cJ σ H → va_S (fun q => base ≤ q) s.heap H locs → lv_has ls 4 [(0, .ref (base + a0)), (1, .int i1), (2, .int i2)] → W p l e (rmD 0 0 0) s m args below meth c H locs 0 0 (MQ below (QwV base D cI cJ τ) args s 0 0 (fun q => base ≤ q)) (F0 m 7 ls []) := by
  intro hP hS hl
  obtain ⟨hx, hb, hml, hown, hts⟩ := hC.1
  unfold X5_layGoing_b7 at h
  refine lv_iload_n hx hb dX5_layGoing_7 rfl (lv_at hl 2 rfl) ?_
  refine lv_aload_n hx hb dX5_layGoing_8 rfl (lv_at hl 0 rfl) ?_
  obtain ⟨v_2, hv_2, h⟩ := obn h
  refine w_getI (ci := 5) (j := 3) hC hP rfl inlX5 (by decide) (by decide) rfl hv_2 wl_127 dX5_layGoing_9 ?_
  refine lv_icmp_ge (tgt := 123) hx hb dX5_layGoing_12 (by decide) (fun c_3 => ?_) (fun c_3 => ?_)
  · rw [if_pos c_3] at h
    obtain rfl := Option.some.inj h
    exact w_vret hC hr hlocks hP hS dX5_layGoing_123
  · rw [if_neg c_3] at h
    refine lv_aload_n hx hb dX5_layGoing_15 rfl (lv_at hl 0 rfl) ?_
    obtain ⟨q_4, hq_4, h⟩ := obn h
    refine w_getR (ci := 5) (j := 17) hC hP rfl inlX5 (by decide) (by decide) rfl hq_4 wl_78 dX5_layGoing_16 ?_
    refine lv_bipush (v := 10) hx hb dX5_layGoing_19 (by decide) ?_
    refine lv_iload_n hx hb dX5_layGoing_21 rfl (lv_at hl 2 rfl) ?_
    refine lv_imul hx hb dX5_layGoing_22 ?_
    refine lv_iload_n hx hb dX5_layGoing_23 rfl (lv_at hl 1 rfl) ?_
    refine lv_iadd hx hb dX5_layGoing_24 ?_
    obtain ⟨v_5, hv_5, h⟩ := obn h
    refine w_iald hC hP hv_5 dX5_layGoing_25 ?_
    refine lv_if_lt (tgt := 117) hx hb dX5_layGoing_26 (by decide) (fun c_6 => ?_) (fun c_6 => ?_)
    · rw [if_pos c_6] at h
      exact X5_layGoing_k117 hC hr hlocks ih h hP hS (lv_sub hl [0, 1, 2] rfl)
    · rw [if_neg c_6] at h
      refine lv_aload_n hx hb dX5_layGoing_29 rfl (lv_at hl 0 rfl) ?_
      obtain ⟨q_7, hq_7, h⟩ := obn h
      refine w_getR (ci := 5) (j := 6) hC hP rfl inlX5 (by decide) (by decide) rfl hq_7 wl_71 dX5_layGoing_30 ?_
      refine lv_iload_n hx hb dX5_layGoing_33 rfl (lv_at hl 2 rfl) ?_
      obtain ⟨v_8, hv_8, h⟩ := obn h
      refine w_iald hC hP hv_8 dX5_layGoing_34 ?_
      refine lv_iload_n hx hb dX5_layGoing_35 rfl (lv_at hl 1 rfl) ?_
      refine lv_icmp_eq (tgt := 117) hx hb dX5_layGoing_36 (by decide) (fun c_9 => ?_) (fun c_9 => ?_)
      · rw [if_pos c_9] at h
        exact X5_layGoing_k117 hC hr hlocks ih h hP hS (lv_sub hl [0, 1, 2] rfl)
      · rw [if_neg c_9] at h
        refine lv_aload_n hx hb dX5_layGoing_39 rfl (lv_at hl 0 rfl) ?_
        obtain ⟨v_10, hv_10, h⟩ := obn h
        refine w_getI (ci := 5) (j := 32) hC hP rfl inlX5 (by decide) (by decide) rfl hv_10 wl_348 dX5_layGoing_40 ?_
        refine lv_istore_n (lv' := [(3, .int v_10), (0, .ref (base + a0)), (1, .int i1), (2, .int i2)]) hx hb dX5_layGoing_43 rfl hl (by decide) rfl (fun ls hl => ?_)
        exact ih.2 h hP hS (lv_sub hl [1, 2, 3, 0] rfl)
set_option maxRecDepth 100000 in
set_option maxHeartbeats 4000000 in
theorem X5_layGoing_k100 (hC : Cx p m c cX5_layGoing 4 s args RX5 base D cI cJ tS) (hr : meth.sig.returnType = none) (hlocks : meth.locks = false) {n : Nat} (ih : (∀ {a0 : Nat} {i1 : Int32} {i2 : Int32} {i3 : Int32} {σ : Sg} {τ : Sg} {H : Heap} {locs : List Loc} {ls : Array Slot}, X5_layGoing_run n 7 a0 i1 i2 i3 σ = some τ → Dy base D cI cJ σ H → va_S (fun q => base ≤ q) s.heap H locs → lv_has ls 4 [(0, .ref (base + a0)), (1, .int i1), (2, .int i2)] → W p l e (rmD 0 0 0) s m args below meth c H locs 0 0 (MQ below (QwV base D cI cJ τ) args s 0 0 (fun q => base ≤ q)) (F0 m 7 ls [])) ∧ (∀ {a0 : Nat} {i1 : Int32} {i2 : Int32} {i3 : Int32} {σ : Sg} {τ : Sg} {H : Heap} {locs : List Loc} {ls : Array Slot}, X5_layGoing_run n 44 a0 i1 i2 i3 σ = some τ → Dy base D cI cJ σ H → va_S (fun q => base ≤ q) s.heap H locs → lv_has ls 4 [(0, .ref (base + a0)), (1, .int i1), (2, .int i2), (3, .int i3)] → W p l e (rmD 0 0 0) s m args below meth c H locs 0 0 (MQ below (QwV base D cI cJ τ) args s 0 0 (fun q => base ≤ q)) (F0 m 44 ls []))) {a0 : Nat} {i1 : Int32} {i2 : Int32} {i3 : Int32} {σ : Sg} {τ : Sg} {H : Heap} {locs : List Loc} {ls : Array Slot} (h : X5_layGoing_b100 n (X5_layGoing_run n) a0 i1 i2 i3 σ = some τ) : Dy base D cI cJ σ H → va_S (fun q => base ≤ q) s.heap H locs → lv_has ls 4 [(0, .ref (base + a0)), (1, .int i1), (2, .int i2), (3, .int i3)] → W p l e (rmD 0 0 0) s m args below meth c H locs 0 0 (MQ below (QwV base D cI cJ τ) args s 0 0 (fun q => base ≤ q)) (F0 m 100 ls []) := by
  intro hP hS hl
  obtain ⟨hx, hb, hml, hown, hts⟩ := hC.1
  unfold X5_layGoing_b100 at h
  refine lv_aload_n hx hb dX5_layGoing_100 rfl (lv_at hl 0 rfl) ?_
  obtain ⟨q_11, hq_11, h⟩ := obn h
  refine w_getR (ci := 5) (j := 33) hC hP rfl inlX5 (by decide) (by decide) rfl hq_11 wl_90 dX5_layGoing_101 ?_
  refine lv_iload_n hx hb dX5_layGoing_104 rfl (lv_at hl 3 rfl) ?_
  refine lv_iload_n hx hb dX5_layGoing_105 rfl (lv_at hl 2 rfl) ?_
  obtain ⟨s_12, hs_12, h⟩ := obn h
  refine w_iast hC hP hS hs_12 dX5_layGoing_106 (fun H locs hP hS => ?_)
  refine lv_aload_n hx hb dX5_layGoing_107 rfl (lv_at hl 0 rfl) ?_
  refine lv_dup hx hb dX5_layGoing_108 rfl ?_
  obtain ⟨v_13, hv_13, h⟩ := obn h
  refine w_getI (ci := 5) (j := 32) hC hP rfl inlX5 (by decide) (by decide) rfl hv_13 wl_348 dX5_layGoing_109 ?_
  refine lv_iconst (v := 1) hx hb dX5_layGoing_112 (by decide) ?_
  refine lv_iadd hx hb dX5_layGoing_113 ?_
  obtain ⟨s_14, hs_14, h⟩ := obn h
  refine w_putI (ci := 5) (j := 32) hC hP hS rfl inlX5 tyX5 tyX5_ok nmX5 (by decide) (by decide) rfl rfl rfl rfl hs_14 wl_348 dX5_layGoing_114 (fun H locs hP hS => ?_)
  exact X5_layGoing_k117 hC hr hlocks ih h hP hS (lv_sub hl [0, 1, 2] rfl)
set_option maxRecDepth 100000 in
set_option maxHeartbeats 4000000 in
theorem X5_layGoing_k44 (hC : Cx p m c cX5_layGoing 4 s args RX5 base D cI cJ tS) (hr : meth.sig.returnType = none) (hlocks : meth.locks = false) {n : Nat} (ih : (∀ {a0 : Nat} {i1 : Int32} {i2 : Int32} {i3 : Int32} {σ : Sg} {τ : Sg} {H : Heap} {locs : List Loc} {ls : Array Slot}, X5_layGoing_run n 7 a0 i1 i2 i3 σ = some τ → Dy base D cI cJ σ H → va_S (fun q => base ≤ q) s.heap H locs → lv_has ls 4 [(0, .ref (base + a0)), (1, .int i1), (2, .int i2)] → W p l e (rmD 0 0 0) s m args below meth c H locs 0 0 (MQ below (QwV base D cI cJ τ) args s 0 0 (fun q => base ≤ q)) (F0 m 7 ls [])) ∧ (∀ {a0 : Nat} {i1 : Int32} {i2 : Int32} {i3 : Int32} {σ : Sg} {τ : Sg} {H : Heap} {locs : List Loc} {ls : Array Slot}, X5_layGoing_run n 44 a0 i1 i2 i3 σ = some τ → Dy base D cI cJ σ H → va_S (fun q => base ≤ q) s.heap H locs → lv_has ls 4 [(0, .ref (base + a0)), (1, .int i1), (2, .int i2), (3, .int i3)] → W p l e (rmD 0 0 0) s m args below meth c H locs 0 0 (MQ below (QwV base D cI cJ τ) args s 0 0 (fun q => base ≤ q)) (F0 m 44 ls []))) {a0 : Nat} {i1 : Int32} {i2 : Int32} {i3 : Int32} {σ : Sg} {τ : Sg} {H : Heap} {locs : List Loc} {ls : Array Slot} (h : X5_layGoing_b44 n (X5_layGoing_run n) a0 i1 i2 i3 σ = some τ) : Dy base D cI cJ σ H → va_S (fun q => base ≤ q) s.heap H locs → lv_has ls 4 [(0, .ref (base + a0)), (1, .int i1), (2, .int i2), (3, .int i3)] → W p l e (rmD 0 0 0) s m args below meth c H locs 0 0 (MQ below (QwV base D cI cJ τ) args s 0 0 (fun q => base ≤ q)) (F0 m 44 ls []) := by
  intro hP hS hl
  obtain ⟨hx, hb, hml, hown, hts⟩ := hC.1
  unfold X5_layGoing_b44 at h
  refine lv_iload_n hx hb dX5_layGoing_44 rfl (lv_at hl 3 rfl) ?_
  refine lv_if_le (tgt := 100) hx hb dX5_layGoing_45 (by decide) (fun c_15 => ?_) (fun c_15 => ?_)
  · rw [if_pos c_15] at h
    exact X5_layGoing_k100 hC hr hlocks ih h hP hS (lv_sub hl [0, 1, 2, 3] rfl)
  · rw [if_neg c_15] at h
    refine lv_aload_n hx hb dX5_layGoing_48 rfl (lv_at hl 0 rfl) ?_
    obtain ⟨q_16, hq_16, h⟩ := obn h
    refine w_getR (ci := 5) (j := 18) hC hP rfl inlX5 (by decide) (by decide) rfl hq_16 wl_79 dX5_layGoing_49 ?_
    refine lv_bipush (v := 10) hx hb dX5_layGoing_52 (by decide) ?_
    refine lv_aload_n hx hb dX5_layGoing_54 rfl (lv_at hl 0 rfl) ?_
    obtain ⟨q_17, hq_17, h⟩ := obn h
    refine w_getR (ci := 5) (j := 33) hC hP rfl inlX5 (by decide) (by decide) rfl hq_17 wl_90 dX5_layGoing_55 ?_
    refine lv_iload_n hx hb dX5_layGoing_58 rfl (lv_at hl 3 rfl) ?_
    refine lv_iconst (v := 1) hx hb dX5_layGoing_59 (by decide) ?_
    refine lv_isub hx hb dX5_layGoing_60 ?_
    obtain ⟨v_18, hv_18, h⟩ := obn h
    refine w_iald hC hP hv_18 dX5_layGoing_61 ?_
    refine lv_imul hx hb dX5_layGoing_62 ?_
    refine lv_iload_n hx hb dX5_layGoing_63 rfl (lv_at hl 1 rfl) ?_
    refine lv_iadd hx hb dX5_layGoing_64 ?_
    obtain ⟨v_19, hv_19, h⟩ := obn h
    refine w_iald hC hP hv_19 dX5_layGoing_65 ?_
    refine lv_aload_n hx hb dX5_layGoing_66 rfl (lv_at hl 0 rfl) ?_
    obtain ⟨q_20, hq_20, h⟩ := obn h
    refine w_getR (ci := 5) (j := 18) hC hP rfl inlX5 (by decide) (by decide) rfl hq_20 wl_79 dX5_layGoing_67 ?_
    refine lv_bipush (v := 10) hx hb dX5_layGoing_70 (by decide) ?_
    refine lv_iload_n hx hb dX5_layGoing_72 rfl (lv_at hl 2 rfl) ?_
    refine lv_imul hx hb dX5_layGoing_73 ?_
    refine lv_iload_n hx hb dX5_layGoing_74 rfl (lv_at hl 1 rfl) ?_
    refine lv_iadd hx hb dX5_layGoing_75 ?_
    obtain ⟨v_21, hv_21, h⟩ := obn h
    refine w_iald hC hP hv_21 dX5_layGoing_76 ?_
    refine lv_icmp_le (tgt := 100) hx hb dX5_layGoing_77 (by decide) (fun c_22 => ?_) (fun c_22 => ?_)
    · rw [if_pos c_22] at h
      exact X5_layGoing_k100 hC hr hlocks ih h hP hS (lv_sub hl [0, 1, 2, 3] rfl)
    · rw [if_neg c_22] at h
      refine lv_aload_n hx hb dX5_layGoing_80 rfl (lv_at hl 0 rfl) ?_
      obtain ⟨q_23, hq_23, h⟩ := obn h
      refine w_getR (ci := 5) (j := 33) hC hP rfl inlX5 (by decide) (by decide) rfl hq_23 wl_90 dX5_layGoing_81 ?_
      refine lv_iload_n hx hb dX5_layGoing_84 rfl (lv_at hl 3 rfl) ?_
      refine lv_aload_n hx hb dX5_layGoing_85 rfl (lv_at hl 0 rfl) ?_
      obtain ⟨q_24, hq_24, h⟩ := obn h
      refine w_getR (ci := 5) (j := 33) hC hP rfl inlX5 (by decide) (by decide) rfl hq_24 wl_90 dX5_layGoing_86 ?_
      refine lv_iload_n hx hb dX5_layGoing_89 rfl (lv_at hl 3 rfl) ?_
      refine lv_iconst (v := 1) hx hb dX5_layGoing_90 (by decide) ?_
      refine lv_isub hx hb dX5_layGoing_91 ?_
      obtain ⟨v_25, hv_25, h⟩ := obn h
      refine w_iald hC hP hv_25 dX5_layGoing_92 ?_
      obtain ⟨s_26, hs_26, h⟩ := obn h
      refine w_iast hC hP hS hs_26 dX5_layGoing_93 (fun H locs hP hS => ?_)
      obtain ⟨i3_27, hi3_27, h⟩ := obn h
      refine lv_iinc (v := i3_27) (lv' := [(3, .int i3_27), (0, .ref (base + a0)), (1, .int i1), (2, .int i2)]) hx hb dX5_layGoing_94 hl (k := 3) rfl (Option.some.inj hi3_27) (by decide) rfl (fun ls hl => ?_)
      refine lv_goto (tgt := 44) hx hb dX5_layGoing_97 (by decide) ?_
      exact ih.2 h hP hS (lv_sub hl [1, 2, 3, 0] rfl)
set_option maxRecDepth 100000 in
set_option maxHeartbeats 4000000 in
theorem X5_layGoing_k0 (hC : Cx p m c cX5_layGoing 4 s args RX5 base D cI cJ tS) (hr : meth.sig.returnType = none) (hlocks : meth.locks = false) {n : Nat} (ih : (∀ {a0 : Nat} {i1 : Int32} {i2 : Int32} {i3 : Int32} {σ : Sg} {τ : Sg} {H : Heap} {locs : List Loc} {ls : Array Slot}, X5_layGoing_run n 7 a0 i1 i2 i3 σ = some τ → Dy base D cI cJ σ H → va_S (fun q => base ≤ q) s.heap H locs → lv_has ls 4 [(0, .ref (base + a0)), (1, .int i1), (2, .int i2)] → W p l e (rmD 0 0 0) s m args below meth c H locs 0 0 (MQ below (QwV base D cI cJ τ) args s 0 0 (fun q => base ≤ q)) (F0 m 7 ls [])) ∧ (∀ {a0 : Nat} {i1 : Int32} {i2 : Int32} {i3 : Int32} {σ : Sg} {τ : Sg} {H : Heap} {locs : List Loc} {ls : Array Slot}, X5_layGoing_run n 44 a0 i1 i2 i3 σ = some τ → Dy base D cI cJ σ H → va_S (fun q => base ≤ q) s.heap H locs → lv_has ls 4 [(0, .ref (base + a0)), (1, .int i1), (2, .int i2), (3, .int i3)] → W p l e (rmD 0 0 0) s m args below meth c H locs 0 0 (MQ below (QwV base D cI cJ τ) args s 0 0 (fun q => base ≤ q)) (F0 m 44 ls []))) {a0 : Nat} {i1 : Int32} {σ : Sg} {τ : Sg} {H : Heap} {locs : List Loc} {ls : Array Slot} (h : X5_layGoing_b0 n (X5_layGoing_run n) a0 i1 σ = some τ) : Dy base D cI cJ σ H → va_S (fun q => base ≤ q) s.heap H locs → lv_has ls 4 [(0, .ref (base + a0)), (1, .int i1)] → W p l e (rmD 0 0 0) s m args below meth c H locs 0 0 (MQ below (QwV base D cI cJ τ) args s 0 0 (fun q => base ≤ q)) (F0 m 0 ls []) := by
  intro hP hS hl
  obtain ⟨hx, hb, hml, hown, hts⟩ := hC.1
  unfold X5_layGoing_b0 at h
  refine lv_aload_n hx hb dX5_layGoing_0 rfl (lv_at hl 0 rfl) ?_
  refine lv_iconst (v := 0) hx hb dX5_layGoing_1 (by decide) ?_
  obtain ⟨s_28, hs_28, h⟩ := obn h
  refine w_putI (ci := 5) (j := 32) hC hP hS rfl inlX5 tyX5 tyX5_ok nmX5 (by decide) (by decide) rfl rfl rfl rfl hs_28 wl_348 dX5_layGoing_2 (fun H locs hP hS => ?_)
  refine lv_iconst (v := 0) hx hb dX5_layGoing_5 (by decide) ?_
  refine lv_istore_n (lv' := [(2, .int 0), (0, .ref (base + a0)), (1, .int i1)]) hx hb dX5_layGoing_6 rfl hl (by decide) rfl (fun ls hl => ?_)
  exact ih.1 h hP hS (lv_sub hl [1, 2, 0] rfl)
set_option maxRecDepth 100000 in
set_option maxHeartbeats 4000000 in
theorem X5_layGoing_all (hC : Cx p m c cX5_layGoing 4 s args RX5 base D cI cJ tS) (hr : meth.sig.returnType = none) (hlocks : meth.locks = false) : ∀ n : Nat, (∀ {a0 : Nat} {i1 : Int32} {i2 : Int32} {i3 : Int32} {σ : Sg} {τ : Sg} {H : Heap} {locs : List Loc} {ls : Array Slot}, X5_layGoing_run n 7 a0 i1 i2 i3 σ = some τ → Dy base D cI cJ σ H → va_S (fun q => base ≤ q) s.heap H locs → lv_has ls 4 [(0, .ref (base + a0)), (1, .int i1), (2, .int i2)] → W p l e (rmD 0 0 0) s m args below meth c H locs 0 0 (MQ below (QwV base D cI cJ τ) args s 0 0 (fun q => base ≤ q)) (F0 m 7 ls [])) ∧ (∀ {a0 : Nat} {i1 : Int32} {i2 : Int32} {i3 : Int32} {σ : Sg} {τ : Sg} {H : Heap} {locs : List Loc} {ls : Array Slot}, X5_layGoing_run n 44 a0 i1 i2 i3 σ = some τ → Dy base D cI cJ σ H → va_S (fun q => base ≤ q) s.heap H locs → lv_has ls 4 [(0, .ref (base + a0)), (1, .int i1), (2, .int i2), (3, .int i3)] → W p l e (rmD 0 0 0) s m args below meth c H locs 0 0 (MQ below (QwV base D cI cJ τ) args s 0 0 (fun q => base ≤ q)) (F0 m 44 ls [])) := by
  intro n
  induction n with
  | zero => exact ⟨fun h => (by cases h), fun h => (by cases h)⟩
  | succ n ih => exact ⟨fun h => X5_layGoing_k7 hC hr hlocks ih h, fun h => X5_layGoing_k44 hC hr hlocks ih h⟩
set_option maxRecDepth 100000 in
set_option maxHeartbeats 4000000 in
theorem c_X5_layGoing {l : Launch} {base : Nat} {D : va_G} {cI cJ : ClassId} {tS : Nat} {n : Nat} {a0 : Nat} {i1 : Int32} {σ : Sg} {τ : Sg} (h : f_X5_layGoing n a0 i1 σ = some τ) : Met l yX5_layGoing (.code yX5_layGoing cX5_layGoing 4 none :: wsL_law) (rmD 0 0 0) (Pw base D cI cJ tS σ [.ref (base + a0), .int i1]) (QwV base D cI cJ τ) 0 0 (fun q => base ≤ q) := by
  refine Met.ofW (cc := cX5_layGoing) (maxL := 4) (ret := none) (by decide) rfl ?_
  intro p e s m args below meth c s₁ B hml hv
  obtain ⟨rfl, hSt, hP⟩ := hv
  have hC : Cx p m c cX5_layGoing 4 s _ RX5 base D cI cJ tS := ⟨⟨B.exec, B.bytes, hml, findClass_of_methodNamed B.named, fun w hw => atoms_spec (ws := Cond.code yX5_layGoing cX5_layGoing 4 none :: wsL_law) B.pre w (List.mem_cons_of_mem _ hw)⟩, hSt⟩
  have hl := lv_entry ([.ref (base + a0), .int i1]) (n := 4) (Nat.le_of_ble_eq_true rfl)
  rw [lg_entry_eq]
  generalize (lg_sl ([.ref (base + a0), .int i1]) ++ List.replicate (4 - (lg_sl ([.ref (base + a0), .int i1])).length) Slot.unset).toArray = ls at hl ⊢
  exact X5_layGoing_k0 hC B.returns B.notSynchronized (X5_layGoing_all hC B.returns B.notSynchronized n) h hP va_S.rf hl
-- ===== X5_followOf
set_option maxRecDepth 100000 in
set_option maxHeartbeats 4000000 in
theorem X5_followOf_k0 (hC : Cx p m c cX5_followOf 3 s args RX5 base D cI cJ tS) (hr : meth.sig.returnType = (some .int)) (hlocks : meth.locks = false) {n : Nat} {a0 : Nat} {i1 : Int32} {i2 : Int32} {σ : Sg} {r : Int32} {τ : Sg} {H : Heap} {locs : List Loc} {ls : Array Slot} (h : f_X5_followOf n a0 i1 i2 σ = some (r, τ)) : Dy base D cI cJ σ H → va_S (fun q => base ≤ q) s.heap H locs → lv_has ls 3 [(0, .ref (base + a0)), (1, .int i1), (2, .int i2)] → W p l e (rmD 0 0 0) s m args below meth c H locs 0 0 (MQ below (QwI base D cI cJ r τ) args s 0 0 (fun q => base ≤ q)) (F0 m 0 ls []) := by
  intro hP hS hl
  obtain ⟨hx, hb, hml, hown, hts⟩ := hC.1
  unfold f_X5_followOf at h
  refine lv_aload_n hx hb dX5_followOf_0 rfl (lv_at hl 0 rfl) ?_
  obtain ⟨q_1, hq_1, h⟩ := obn h
  refine w_getR (ci := 5) (j := 18) hC hP rfl inlX5 (by decide) (by decide) rfl hq_1 wl_79 dX5_followOf_1 ?_
  refine lv_bipush (v := 10) hx hb dX5_followOf_4 (by decide) ?_
  refine lv_aload_n hx hb dX5_followOf_6 rfl (lv_at hl 0 rfl) ?_
  obtain ⟨q_2, hq_2, h⟩ := obn h
  refine w_getR (ci := 5) (j := 33) hC hP rfl inlX5 (by decide) (by decide) rfl hq_2 wl_90 dX5_followOf_7 ?_
  refine lv_iload_n hx hb dX5_followOf_10 rfl (lv_at hl 2 rfl) ?_
  obtain ⟨v_3, hv_3, h⟩ := obn h
  refine w_iald hC hP hv_3 dX5_followOf_11 ?_
  refine lv_imul hx hb dX5_followOf_12 ?_
  refine lv_iload_n hx hb dX5_followOf_13 rfl (lv_at hl 1 rfl) ?_
  refine lv_iadd hx hb dX5_followOf_14 ?_
  obtain ⟨v_4, hv_4, h⟩ := obn h
  refine w_iald hC hP hv_4 dX5_followOf_15 ?_
  refine lv_aload_n hx hb dX5_followOf_16 rfl (lv_at hl 0 rfl) ?_
  obtain ⟨q_5, hq_5, h⟩ := obn h
  refine w_getR (ci := 5) (j := 18) hC hP rfl inlX5 (by decide) (by decide) rfl hq_5 wl_79 dX5_followOf_17 ?_
  refine lv_bipush (v := 10) hx hb dX5_followOf_20 (by decide) ?_
  refine lv_aload_n hx hb dX5_followOf_22 rfl (lv_at hl 0 rfl) ?_
  obtain ⟨q_6, hq_6, h⟩ := obn h
  refine w_getR (ci := 5) (j := 33) hC hP rfl inlX5 (by decide) (by decide) rfl hq_6 wl_90 dX5_followOf_23 ?_
  refine lv_iload_n hx hb dX5_followOf_26 rfl (lv_at hl 2 rfl) ?_
  refine lv_iconst (v := 1) hx hb dX5_followOf_27 (by decide) ?_
  refine lv_isub hx hb dX5_followOf_28 ?_
  obtain ⟨v_7, hv_7, h⟩ := obn h
  refine w_iald hC hP hv_7 dX5_followOf_29 ?_
  refine lv_imul hx hb dX5_followOf_30 ?_
  refine lv_iload_n hx hb dX5_followOf_31 rfl (lv_at hl 1 rfl) ?_
  refine lv_iadd hx hb dX5_followOf_32 ?_
  obtain ⟨v_8, hv_8, h⟩ := obn h
  refine w_iald hC hP hv_8 dX5_followOf_33 ?_
  refine lv_isub hx hb dX5_followOf_34 ?_
  obtain ⟨rfl, rfl⟩ := Prod.mk.inj (Option.some.inj h)
  exact w_iret hC hr hlocks hP hS dX5_followOf_35
set_option maxRecDepth 100000 in
set_option maxHeartbeats 4000000 in
theorem c_X5_followOf {l : Launch} {base : Nat} {D : va_G} {cI cJ : ClassId} {tS : Nat} {n : Nat} {a0 : Nat} {i1 : Int32} {i2 : Int32} {σ : Sg} {r : Int32} {τ : Sg} (h : f_X5_followOf n a0 i1 i2 σ = some (r, τ)) : Met l yX5_followOf (.code yX5_followOf cX5_followOf 3 (some .int) :: wsL_law) (rmD 0 0 0) (Pw base D cI cJ tS σ [.ref (base + a0), .int i1, .int i2]) (QwI base D cI cJ r τ) 0 0 (fun q => base ≤ q) := by
  refine Met.ofW (cc := cX5_followOf) (maxL := 3) (ret := (some .int)) (by decide) rfl ?_
  intro p e s m args below meth c s₁ B hml hv
  obtain ⟨rfl, hSt, hP⟩ := hv
  have hC : Cx p m c cX5_followOf 3 s _ RX5 base D cI cJ tS := ⟨⟨B.exec, B.bytes, hml, findClass_of_methodNamed B.named, fun w hw => atoms_spec (ws := Cond.code yX5_followOf cX5_followOf 3 (some .int) :: wsL_law) B.pre w (List.mem_cons_of_mem _ hw)⟩, hSt⟩
  have hl := lv_entry ([.ref (base + a0), .int i1, .int i2]) (n := 3) (Nat.le_of_ble_eq_true rfl)
  rw [lg_entry_eq]
  generalize (lg_sl ([.ref (base + a0), .int i1, .int i2]) ++ List.replicate (3 - (lg_sl ([.ref (base + a0), .int i1, .int i2])).length) Slot.unset).toArray = ls at hl ⊢
  exact X5_followOf_k0 hC B.returns B.notSynchronized h hP va_S.rf hl
-- ===== X5_follow
set_option maxRecDepth 100000 in
set_option maxHeartbeats 4000000 in
theorem X5_follow_k37 (hC : Cx p m c cX5_follow 4 s args RX5 base D cI cJ tS) (hr : meth.sig.returnType = (some .int)) (hlocks : meth.locks = false) {n : Nat} {a0 : Nat} {i1 : Int32} {i2 : Int32} {ti0 : Int32} {σ : Sg} {r : Int32} {τ : Sg} {H : Heap} {locs : List Loc} {ls : Array Slot} (h : X5_follow_b37 n a0 i1 i2 ti0 σ = some (r, τ)) : Dy base D cI cJ σ H → va_S (fun q => base ≤ q) s.heap H locs → lv_has ls 4 [(0, .ref (base + a0)), (1, .int i1), (2, .int i2)] → W p l e (rmD 3 0 0) s m args below meth c H locs 0 0 (MQ below (QwI base D cI cJ r τ) args s 0 0 (fun q => base ≤ q)) (F0 m 37 ls [.int ti0]) := by
  intro hP hS hl
  obtain ⟨hx, hb, hml, hown, hts⟩ := hC.1
  unfold X5_follow_b37 at h
  refine lv_istore_n (lv' := [(3, .int ti0), (0, .ref (base + a0)), (1, .int i1), (2, .int i2)]) hx hb dX5_follow_37 rfl hl (by decide) rfl (fun ls hl => ?_)
  refine lv_iload_n hx hb dX5_follow_38 rfl (lv_at hl 3 rfl) ?_
  refine lv_if_ne (tgt := 46) hx hb dX5_follow_39 (by decide) (fun c_1 => ?_) (fun c_1 => ?_)
  · rw [if_neg c_1] at h
    refine lv_iload_n hx hb dX5_follow_46 rfl (lv_at hl 3 rfl) ?_
    refine lv_iconst (v := 1) hx hb dX5_follow_47 (by decide) ?_
    refine lv_iload_n hx hb dX5_follow_48 rfl (lv_at hl 0 rfl) ?_
    obtain ⟨w_2, hw_2, h⟩ := obn h
    refine k_I (r_stat (As := [.int i2, .int 1, .int ti0]) (rest := []) hC hP hS (c_X5_in (l := l) (base := base) (D := D) (cI := cI) (cJ := cJ) (tS := tS) hw_2) wl_111 wl_112 wl_113 wl_110 rfl rfl hd_X5_in ⟨Nat.le_of_ble_eq_true rfl, Nat.le_of_ble_eq_true rfl⟩ rfl hl.1 rfl (Nat.le_of_ble_eq_true rfl) dX5_follow_49 ⟨Nat.le_of_ble_eq_true rfl, Nat.le_of_ble_eq_true rfl⟩) hS (fun H locs hP hS => ?_)
    refine lv_if_eq (tgt := 64) hx hb dX5_follow_52 (by decide) (fun c_3 => ?_) (fun c_3 => ?_)
    · rw [if_pos c_3] at h
      refine lv_bipush (v := (-6)) hx hb dX5_follow_64 (by decide) ?_
      obtain ⟨rfl, rfl⟩ := Prod.mk.inj (Option.some.inj h)
      exact w_iret hC hr hlocks hP hS dX5_follow_66
    · rw [if_neg c_3] at h
      refine lv_aload_n hx hb dX5_follow_55 rfl (lv_at hl 1 rfl) ?_
      refine lv_iload_n hx hb dX5_follow_56 rfl (lv_at hl 2 rfl) ?_
      refine lv_iload_n hx hb dX5_follow_57 rfl (lv_at hl 3 rfl) ?_
      obtain ⟨u_4, hu_4, h⟩ := obn h
      obtain ⟨w_5, hw_5, h⟩ := obn h
      refine k_I (r_virt (As := [.int i1, .int i2]) (rest := []) hC hP hS (ci := 5) rfl (by decide) hu_4 (c_X5_followOf (l := l) (base := base) (D := D) (cI := cI) (cJ := cJ) (tS := tS) hw_5) wl_350 wl_351 wl_352 wl_113 wl_349 rfl rfl hd_X5_followOf ⟨Nat.le_of_ble_eq_true rfl, Nat.le_of_ble_eq_true rfl⟩ rfl hl.1 rfl (Nat.le_of_ble_eq_true rfl) dX5_follow_58 ⟨Nat.le_of_ble_eq_true rfl, Nat.le_of_ble_eq_true rfl⟩) hS (fun H locs hP hS => ?_)
      refine lv_goto (tgt := 66) hx hb dX5_follow_61 (by decide) ?_
      obtain ⟨rfl, rfl⟩ := Prod.mk.inj (Option.some.inj h)
      exact w_iret hC hr hlocks hP hS dX5_follow_66
  · rw [if_pos c_1] at h
    refine lv_iload_n hx hb dX5_follow_42 rfl (lv_at hl 0 rfl) ?_
    refine lv_goto (tgt := 66) hx hb dX5_follow_43 (by decide) ?_
    obtain ⟨rfl, rfl⟩ := Prod.mk.inj (Option.some.inj h)
    exact w_iret hC hr hlocks hP hS dX5_follow_66
set_option maxRecDepth 100000 in
set_option maxHeartbeats 4000000 in
theorem X5_follow_k0 (hC : Cx p m c cX5_follow 4 s args RX5 base D cI cJ tS) (hr : meth.sig.returnType = (some .int)) (hlocks : meth.locks = false) {n : Nat} {a0 : Nat} {i1 : Int32} {i2 : Int32} {σ : Sg} {r : Int32} {τ : Sg} {H : Heap} {locs : List Loc} {ls : Array Slot} (h : f_X5_follow n a0 i1 i2 σ = some (r, τ)) : Dy base D cI cJ σ H → va_S (fun q => base ≤ q) s.heap H locs → lv_has ls 4 [(0, .ref (base + a0)), (1, .int i1), (2, .int i2)] → W p l e (rmD 3 0 0) s m args below meth c H locs 0 0 (MQ below (QwI base D cI cJ r τ) args s 0 0 (fun q => base ≤ q)) (F0 m 0 ls []) := by
  intro hP hS hl
  obtain ⟨hx, hb, hml, hown, hts⟩ := hC.1
  unfold f_X5_follow at h
  refine lv_iload_n hx hb dX5_follow_0 rfl (lv_at hl 1 rfl) ?_
  obtain ⟨w_6, hw_6, h⟩ := obn h
  refine k_I (r_stat (As := [.int i1]) (rest := []) hC hP hS (c_X5_isOn (l := l) (base := base) (D := D) (cI := cI) (cJ := cJ) (tS := tS) hw_6) wl_115 wl_116 wl_113 wl_114 rfl rfl hd_X5_isOn ⟨Nat.le_of_ble_eq_true rfl, Nat.le_of_ble_eq_true rfl⟩ rfl hl.1 rfl (Nat.le_of_ble_eq_true rfl) dX5_follow_1 ⟨Nat.le_of_ble_eq_true rfl, Nat.le_of_ble_eq_true rfl⟩) hS (fun H locs hP hS => ?_)
  refine lv_if_ne (tgt := 9) hx hb dX5_follow_4 (by decide) (fun c_7 => ?_) (fun c_7 => ?_)
  · rw [if_neg c_7] at h
    refine lv_aload_n hx hb dX5_follow_9 rfl (lv_at hl 0 rfl) ?_
    refine lv_bipush (v := (-6)) hx hb dX5_follow_10 (by decide) ?_
    obtain ⟨u_8, hu_8, h⟩ := obn h
    obtain ⟨w_9, hw_9, h⟩ := obn h
    refine k_V (r_virt (As := [.int (-6)]) (rest := []) hC hP hS (ci := 5) rfl (by decide) hu_8 (c_X5_lay (l := l) (base := base) (D := D) (cI := cI) (cJ := cJ) (tS := tS) hw_9) wl_280 wl_281 wl_282 wl_113 wl_279 rfl rfl hd_X5_lay ⟨Nat.le_of_ble_eq_true rfl, Nat.le_of_ble_eq_true rfl⟩ rfl hl.1 rfl (Nat.le_of_ble_eq_true rfl) dX5_follow_12 ⟨Nat.le_of_ble_eq_true rfl, Nat.le_of_ble_eq_true rfl⟩) hS (fun H locs hP hS => ?_)
    refine lv_aload_n hx hb dX5_follow_15 rfl (lv_at hl 0 rfl) ?_
    refine lv_iload_n hx hb dX5_follow_16 rfl (lv_at hl 1 rfl) ?_
    obtain ⟨u_10, hu_10, h⟩ := obn h
    obtain ⟨w_11, hw_11, h⟩ := obn h
    refine k_V (r_virt (As := [.int i1]) (rest := []) hC hP hS (ci := 5) rfl (by decide) hu_10 (c_X5_layGoing (l := l) (base := base) (D := D) (cI := cI) (cJ := cJ) (tS := tS) hw_11) wl_354 wl_355 wl_356 wl_113 wl_353 rfl rfl hd_X5_layGoing ⟨Nat.le_of_ble_eq_true rfl, Nat.le_of_ble_eq_true rfl⟩ rfl hl.1 rfl (Nat.le_of_ble_eq_true rfl) dX5_follow_17 ⟨Nat.le_of_ble_eq_true rfl, Nat.le_of_ble_eq_true rfl⟩) hS (fun H locs hP hS => ?_)
    refine lv_aload_n hx hb dX5_follow_20 rfl (lv_at hl 0 rfl) ?_
    obtain ⟨v_12, hv_12, h⟩ := obn h
    refine w_getI (ci := 5) (j := 32) hC hP rfl inlX5 (by decide) (by decide) rfl hv_12 wl_348 dX5_follow_21 ?_
    refine lv_if_ne (tgt := 31) hx hb dX5_follow_24 (by decide) (fun c_13 => ?_) (fun c_13 => ?_)
    · rw [if_neg c_13] at h
      refine lv_aload_n hx hb dX5_follow_31 rfl (lv_at hl 0 rfl) ?_
      obtain ⟨v_14, hv_14, h⟩ := obn h
      refine w_getI (ci := 5) (j := 32) hC hP rfl inlX5 (by decide) (by decide) rfl hv_14 wl_348 dX5_follow_32 ?_
      refine lv_iconst (v := 1) hx hb dX5_follow_35 (by decide) ?_
      refine lv_isub hx hb dX5_follow_36 ?_
      exact X5_follow_k37 hC hr hlocks h hP hS (lv_sub hl [0, 1, 2] rfl)
    · rw [if_pos c_13] at h
      refine lv_iconst (v := 0) hx hb dX5_follow_27 (by decide) ?_
      refine lv_goto (tgt := 37) hx hb dX5_follow_28 (by decide) ?_
      exact X5_follow_k37 hC hr hlocks h hP hS (lv_sub hl [0, 1, 2] rfl)
  · rw [if_pos c_7] at h
    refine lv_iconst (v := (-1)) hx hb dX5_follow_7 (by decide) ?_
    obtain ⟨rfl, rfl⟩ := Prod.mk.inj (Option.some.inj h)
    exact w_iret hC hr hlocks hP hS dX5_follow_8
set_option maxRecDepth 100000 in
set_option maxHeartbeats 4000000 in
theorem c_X5_follow {l : Launch} {base : Nat} {D : va_G} {cI cJ : ClassId} {tS : Nat} {n : Nat} {a0 : Nat} {i1 : Int32} {i2 : Int32} {σ : Sg} {r : Int32} {τ : Sg} (h : f_X5_follow n a0 i1 i2 σ = some (r, τ)) : Met l yX5_follow (.code yX5_follow cX5_follow 4 (some .int) :: wsL_law) (rmD 3 0 0) (Pw base D cI cJ tS σ [.ref (base + a0), .int i1, .int i2]) (QwI base D cI cJ r τ) 0 0 (fun q => base ≤ q) := by
  refine Met.ofW (cc := cX5_follow) (maxL := 4) (ret := (some .int)) (by decide) rfl ?_
  intro p e s m args below meth c s₁ B hml hv
  obtain ⟨rfl, hSt, hP⟩ := hv
  have hC : Cx p m c cX5_follow 4 s _ RX5 base D cI cJ tS := ⟨⟨B.exec, B.bytes, hml, findClass_of_methodNamed B.named, fun w hw => atoms_spec (ws := Cond.code yX5_follow cX5_follow 4 (some .int) :: wsL_law) B.pre w (List.mem_cons_of_mem _ hw)⟩, hSt⟩
  have hl := lv_entry ([.ref (base + a0), .int i1, .int i2]) (n := 4) (Nat.le_of_ble_eq_true rfl)
  rw [lg_entry_eq]
  generalize (lg_sl ([.ref (base + a0), .int i1, .int i2]) ++ List.replicate (4 - (lg_sl ([.ref (base + a0), .int i1, .int i2])).length) Slot.unset).toArray = ls at hl ⊢
  exact X5_follow_k0 hC B.returns B.notSynchronized h hP va_S.rf hl
-- ===== X0_firstCloseBus
set_option maxRecDepth 100000 in
set_option maxHeartbeats 4000000 in
theorem X0_firstCloseBus_k10 (hC : Cx p m c cX0_firstCloseBus 5 s args RX0 base D cI cJ tS) (hr : meth.sig.returnType = (some .int)) (hlocks : meth.locks = false) {n : Nat} (ih : (∀ {a0 : Nat} {a1 : Nat} {i2 : Int32} {i3 : Int32} {i4 : Int32} {σ : Sg} {r : Int32} {τ : Sg} {H : Heap} {locs : List Loc} {ls : Array Slot}, X0_firstCloseBus_run n a0 a1 i2 i3 i4 σ = some (r, τ) → Dy base D cI cJ σ H → va_S (fun q => base ≤ q) s.heap H locs → lv_has ls 5 [(0, .ref (base + a0)), (1, .ref (base + a1)), (2, .int i2), (3, .int i3), (4, .int i4)] → W p l e (rmD 3 0 0) s m args below meth c H locs 0 0 (MQ below (QwI base D cI cJ r τ) args s 0 0 (fun q => base ≤ q)) (F0 m 10 ls []))) {a0 : Nat} {a1 : Nat} {i2 : Int32} {i3 : Int32} {i4 : Int32} {σ : Sg} {r : Int32} {τ : Sg} {H : Heap} {locs : List Loc} {ls : Array Slot} (h : X0_firstCloseBus_b10 n (X0_firstCloseBus_run n) a0 a1 i2 i3 i4 σ = some (r, τ)) : Dy base D cI cJ σ H → va_S (fun q => base ≤ q) s.heap H locs → lv_has ls 5 [(0, .ref (base + a0)), (1, .ref (base + a1)), (2, .int i2), (3, .int i3), (4, .int i4)] → W p l e (rmD 3 0 0) s m args below meth c H locs 0 0 (MQ below (QwI base D cI cJ r τ) args s 0 0 (fun q => base ≤ q)) (F0 m 10 ls []) := by
  intro hP hS hl
  obtain ⟨hx, hb, hml, hown, hts⟩ := hC.1
  unfold X0_firstCloseBus_b10 at h
  refine lv_iload hx hb dX0_firstCloseBus_10 (lv_at hl 4 rfl) ?_
  refine lv_iload_n hx hb dX0_firstCloseBus_12 rfl (lv_at hl 3 rfl) ?_
  refine lv_icmp_ge (tgt := 46) hx hb dX0_firstCloseBus_13 (by decide) (fun c_1 => ?_) (fun c_1 => ?_)
  · rw [if_pos c_1] at h
    refine lv_bipush (v := (-6)) hx hb dX0_firstCloseBus_46 (by decide) ?_
    obtain ⟨rfl, rfl⟩ := Prod.mk.inj (Option.some.inj h)
    exact w_iret hC hr hlocks hP hS dX0_firstCloseBus_48
  · rw [if_neg c_1] at h
    refine lv_aload_n hx hb dX0_firstCloseBus_16 rfl (lv_at hl 0 rfl) ?_
    refine lv_iload_n hx hb dX0_firstCloseBus_17 rfl (lv_at hl 2 rfl) ?_
    refine lv_iload hx hb dX0_firstCloseBus_18 (lv_at hl 4 rfl) ?_
    obtain ⟨u_2, hu_2, h⟩ := obn h
    obtain ⟨w_3, hw_3, h⟩ := obn h
    refine k_I (r_virt (As := [.int i2, .int i4]) (rest := []) hC hP hS (ci := 0) rfl (by decide) hu_2 (c_X0_gapAhead (l := l) (base := base) (D := D) (cI := cI) (cJ := cJ) (tS := tS) hw_3) wl_357 wl_345 wl_346 wl_52 wl_343 rfl rfl hd_X0_gapAhead ⟨Nat.le_of_ble_eq_true rfl, Nat.le_of_ble_eq_true rfl⟩ rfl hl.1 rfl (Nat.le_of_ble_eq_true rfl) dX0_firstCloseBus_20 ⟨Nat.le_of_ble_eq_true rfl, Nat.le_of_ble_eq_true rfl⟩) hS (fun H locs hP hS => ?_)
    refine lv_aload_n hx hb dX0_firstCloseBus_23 rfl (lv_at hl 1 rfl) ?_
    obtain ⟨q_4, hq_4, h⟩ := obn h
    refine w_getR (ci := 1) (j := 3) hC hP rfl inlX1 (by decide) (by decide) rfl hq_4 wl_184 dX0_firstCloseBus_24 ?_
    refine lv_iconst (v := 4) hx hb dX0_firstCloseBus_27 (by decide) ?_
    obtain ⟨v_5, hv_5, h⟩ := obn h
    refine w_iald hC hP hv_5 dX0_firstCloseBus_28 ?_
    refine lv_icmp_gt (tgt := 40) hx hb dX0_firstCloseBus_29 (by decide) (fun c_6 => ?_) (fun c_6 => ?_)
    · rw [if_pos c_6] at h
      obtain ⟨i4_7, hi4_7, h⟩ := obn h
      refine lv_iinc (v := i4_7) (lv' := [(4, .int i4_7), (0, .ref (base + a0)), (1, .ref (base + a1)), (2, .int i2), (3, .int i3)]) hx hb dX0_firstCloseBus_40 hl (k := 4) rfl (Option.some.inj hi4_7) (by decide) rfl (fun ls hl => ?_)
      refine lv_goto (tgt := 10) hx hb dX0_firstCloseBus_43 (by decide) ?_
      exact ih h hP hS (lv_sub hl [1, 2, 3, 4, 0] rfl)
    · rw [if_neg c_6] at h
      refine lv_aload_n hx hb dX0_firstCloseBus_32 rfl (lv_at hl 0 rfl) ?_
      obtain ⟨q_8, hq_8, h⟩ := obn h
      refine w_getR (ci := 0) (j := 12) hC hP rfl inlX0 (by decide) (by decide) rfl hq_8 wl_32 dX0_firstCloseBus_33 ?_
      refine lv_iload hx hb dX0_firstCloseBus_36 (lv_at hl 4 rfl) ?_
      obtain ⟨v_9, hv_9, h⟩ := obn h
      refine w_iald hC hP hv_9 dX0_firstCloseBus_38 ?_
      obtain ⟨rfl, rfl⟩ := Prod.mk.inj (Option.some.inj h)
      exact w_iret hC hr hlocks hP hS dX0_firstCloseBus_39
set_option maxRecDepth 100000 in
set_option maxHeartbeats 4000000 in
theorem X0_firstCloseBus_k0 (hC : Cx p m c cX0_firstCloseBus 5 s args RX0 base D cI cJ tS) (hr : meth.sig.returnType = (some .int)) (hlocks : meth.locks = false) {n : Nat} (ih : (∀ {a0 : Nat} {a1 : Nat} {i2 : Int32} {i3 : Int32} {i4 : Int32} {σ : Sg} {r : Int32} {τ : Sg} {H : Heap} {locs : List Loc} {ls : Array Slot}, X0_firstCloseBus_run n a0 a1 i2 i3 i4 σ = some (r, τ) → Dy base D cI cJ σ H → va_S (fun q => base ≤ q) s.heap H locs → lv_has ls 5 [(0, .ref (base + a0)), (1, .ref (base + a1)), (2, .int i2), (3, .int i3), (4, .int i4)] → W p l e (rmD 3 0 0) s m args below meth c H locs 0 0 (MQ below (QwI base D cI cJ r τ) args s 0 0 (fun q => base ≤ q)) (F0 m 10 ls []))) {a0 : Nat} {a1 : Nat} {i2 : Int32} {σ : Sg} {r : Int32} {τ : Sg} {H : Heap} {locs : List Loc} {ls : Array Slot} (h : X0_firstCloseBus_b0 n (X0_firstCloseBus_run n) a0 a1 i2 σ = some (r, τ)) : Dy base D cI cJ σ H → va_S (fun q => base ≤ q) s.heap H locs → lv_has ls 5 [(0, .ref (base + a0)), (1, .ref (base + a1)), (2, .int i2)] → W p l e (rmD 3 0 0) s m args below meth c H locs 0 0 (MQ below (QwI base D cI cJ r τ) args s 0 0 (fun q => base ≤ q)) (F0 m 0 ls []) := by
  intro hP hS hl
  obtain ⟨hx, hb, hml, hown, hts⟩ := hC.1
  unfold X0_firstCloseBus_b0 at h
  refine lv_aload_n hx hb dX0_firstCloseBus_0 rfl (lv_at hl 0 rfl) ?_
  refine lv_aload_n hx hb dX0_firstCloseBus_1 rfl (lv_at hl 1 rfl) ?_
  refine lv_iload_n hx hb dX0_firstCloseBus_2 rfl (lv_at hl 2 rfl) ?_
  obtain ⟨u_10, hu_10, h⟩ := obn h
  obtain ⟨w_11, hw_11, h⟩ := obn h
  refine k_I (r_virt (As := [.ref (base + a1), .int i2]) (rest := []) hC hP hS (ci := 0) rfl (by decide) hu_10 (c_X0_orderLeaving (l := l) (base := base) (D := D) (cI := cI) (cJ := cJ) (tS := tS) hw_11) wl_358 wl_341 wl_342 wl_52 wl_339 rfl rfl hd_X0_orderLeaving ⟨Nat.le_of_ble_eq_true rfl, Nat.le_of_ble_eq_true rfl⟩ rfl hl.1 rfl (Nat.le_of_ble_eq_true rfl) dX0_firstCloseBus_3 ⟨Nat.le_of_ble_eq_true rfl, Nat.le_of_ble_eq_true rfl⟩) hS (fun H locs hP hS => ?_)
  refine lv_istore_n (lv' := [(3, .int w_11.1), (0, .ref (base + a0)), (1, .ref (base + a1)), (2, .int i2)]) hx hb dX0_firstCloseBus_6 rfl hl (by decide) rfl (fun ls hl => ?_)
  refine lv_iconst (v := 1) hx hb dX0_firstCloseBus_7 (by decide) ?_
  refine lv_istore (lv' := [(4, .int 1), (3, .int w_11.1), (0, .ref (base + a0)), (1, .ref (base + a1)), (2, .int i2)]) hx hb dX0_firstCloseBus_8 hl (by decide) rfl (fun ls hl => ?_)
  exact ih h hP hS (lv_sub hl [2, 3, 4, 1, 0] rfl)
set_option maxRecDepth 100000 in
set_option maxHeartbeats 4000000 in
theorem X0_firstCloseBus_all (hC : Cx p m c cX0_firstCloseBus 5 s args RX0 base D cI cJ tS) (hr : meth.sig.returnType = (some .int)) (hlocks : meth.locks = false) : ∀ n : Nat, (∀ {a0 : Nat} {a1 : Nat} {i2 : Int32} {i3 : Int32} {i4 : Int32} {σ : Sg} {r : Int32} {τ : Sg} {H : Heap} {locs : List Loc} {ls : Array Slot}, X0_firstCloseBus_run n a0 a1 i2 i3 i4 σ = some (r, τ) → Dy base D cI cJ σ H → va_S (fun q => base ≤ q) s.heap H locs → lv_has ls 5 [(0, .ref (base + a0)), (1, .ref (base + a1)), (2, .int i2), (3, .int i3), (4, .int i4)] → W p l e (rmD 3 0 0) s m args below meth c H locs 0 0 (MQ below (QwI base D cI cJ r τ) args s 0 0 (fun q => base ≤ q)) (F0 m 10 ls [])) := by
  intro n
  induction n with
  | zero => exact fun h => (by cases h)
  | succ n ih => exact fun h => X0_firstCloseBus_k10 hC hr hlocks ih h
set_option maxRecDepth 100000 in
set_option maxHeartbeats 4000000 in
theorem c_X0_firstCloseBus {l : Launch} {base : Nat} {D : va_G} {cI cJ : ClassId} {tS : Nat} {n : Nat} {a0 : Nat} {a1 : Nat} {i2 : Int32} {σ : Sg} {r : Int32} {τ : Sg} (h : f_X0_firstCloseBus n a0 a1 i2 σ = some (r, τ)) : Met l yX0_firstCloseBus (.code yX0_firstCloseBus cX0_firstCloseBus 5 (some .int) :: wsL_law) (rmD 3 0 0) (Pw base D cI cJ tS σ [.ref (base + a0), .ref (base + a1), .int i2]) (QwI base D cI cJ r τ) 0 0 (fun q => base ≤ q) := by
  refine Met.ofW (cc := cX0_firstCloseBus) (maxL := 5) (ret := (some .int)) (by decide) rfl ?_
  intro p e s m args below meth c s₁ B hml hv
  obtain ⟨rfl, hSt, hP⟩ := hv
  have hC : Cx p m c cX0_firstCloseBus 5 s _ RX0 base D cI cJ tS := ⟨⟨B.exec, B.bytes, hml, findClass_of_methodNamed B.named, fun w hw => atoms_spec (ws := Cond.code yX0_firstCloseBus cX0_firstCloseBus 5 (some .int) :: wsL_law) B.pre w (List.mem_cons_of_mem _ hw)⟩, hSt⟩
  have hl := lv_entry ([.ref (base + a0), .ref (base + a1), .int i2]) (n := 5) (Nat.le_of_ble_eq_true rfl)
  rw [lg_entry_eq]
  generalize (lg_sl ([.ref (base + a0), .ref (base + a1), .int i2]) ++ List.replicate (5 - (lg_sl ([.ref (base + a0), .ref (base + a1), .int i2])).length) Slot.unset).toArray = ls at hl ⊢
  exact X0_firstCloseBus_k0 hC B.returns B.notSynchronized (X0_firstCloseBus_all hC B.returns B.notSynchronized n) h hP va_S.rf hl
-- ===== X0_firstCloseStop
set_option maxRecDepth 100000 in
set_option maxHeartbeats 4000000 in
theorem X0_firstCloseStop_k2 (hC : Cx p m c cX0_firstCloseStop 3 s args RX0 base D cI cJ tS) (hr : meth.sig.returnType = (some .int)) (hlocks : meth.locks = false) {n : Nat} (ih : (∀ {a0 : Nat} {a1 : Nat} {i2 : Int32} {σ : Sg} {r : Int32} {τ : Sg} {H : Heap} {locs : List Loc} {ls : Array Slot}, X0_firstCloseStop_run n a0 a1 i2 σ = some (r, τ) → Dy base D cI cJ σ H → va_S (fun q => base ≤ q) s.heap H locs → lv_has ls 3 [(0, .ref (base + a0)), (1, .ref (base + a1)), (2, .int i2)] → W p l e (rmD 4 0 0) s m args below meth c H locs 0 0 (MQ below (QwI base D cI cJ r τ) args s 0 0 (fun q => base ≤ q)) (F0 m 2 ls []))) {a0 : Nat} {a1 : Nat} {i2 : Int32} {σ : Sg} {r : Int32} {τ : Sg} {H : Heap} {locs : List Loc} {ls : Array Slot} (h : X0_firstCloseStop_b2 n (X0_firstCloseStop_run n) a0 a1 i2 σ = some (r, τ)) : Dy base D cI cJ σ H → va_S (fun q => base ≤ q) s.heap H locs → lv_has ls 3 [(0, .ref (base + a0)), (1, .ref (base + a1)), (2, .int i2)] → W p l e (rmD 4 0 0) s m args below meth c H locs 0 0 (MQ below (QwI base D cI cJ r τ) args s 0 0 (fun q => base ≤ q)) (F0 m 2 ls []) := by
  intro hP hS hl
  obtain ⟨hx, hb, hml, hown, hts⟩ := hC.1
  unfold X0_firstCloseStop_b2 at h
  refine lv_iload_n hx hb dX0_firstCloseStop_2 rfl (lv_at hl 2 rfl) ?_
  refine lv_bipush (v := 9) hx hb dX0_firstCloseStop_3 (by decide) ?_
  refine lv_icmp_ge (tgt := 27) hx hb dX0_firstCloseStop_5 (by decide) (fun c_1 => ?_) (fun c_1 => ?_)
  · rw [if_pos c_1] at h
    refine lv_bipush (v := (-6)) hx hb dX0_firstCloseStop_27 (by decide) ?_
    obtain ⟨rfl, rfl⟩ := Prod.mk.inj (Option.some.inj h)
    exact w_iret hC hr hlocks hP hS dX0_firstCloseStop_29
  · rw [if_neg c_1] at h
    refine lv_aload_n hx hb dX0_firstCloseStop_8 rfl (lv_at hl 0 rfl) ?_
    refine lv_aload_n hx hb dX0_firstCloseStop_9 rfl (lv_at hl 1 rfl) ?_
    refine lv_iload_n hx hb dX0_firstCloseStop_10 rfl (lv_at hl 2 rfl) ?_
    obtain ⟨u_2, hu_2, h⟩ := obn h
    obtain ⟨w_3, hw_3, h⟩ := obn h
    refine k_I (r_virt (As := [.ref (base + a1), .int i2]) (rest := []) hC hP hS (ci := 0) rfl (by decide) hu_2 (c_X0_firstCloseBus (l := l) (base := base) (D := D) (cI := cI) (cJ := cJ) (tS := tS) hw_3) wl_360 wl_361 wl_362 wl_52 wl_359 rfl rfl hd_X0_firstCloseBus ⟨Nat.le_of_ble_eq_true rfl, Nat.le_of_ble_eq_true rfl⟩ rfl hl.1 rfl (Nat.le_of_ble_eq_true rfl) dX0_firstCloseStop_11 ⟨Nat.le_of_ble_eq_true rfl, Nat.le_of_ble_eq_true rfl⟩) hS (fun H locs hP hS => ?_)
    refine lv_bipush (v := (-6)) hx hb dX0_firstCloseStop_14 (by decide) ?_
    refine lv_icmp_eq (tgt := 21) hx hb dX0_firstCloseStop_16 (by decide) (fun c_4 => ?_) (fun c_4 => ?_)
    · rw [if_pos c_4] at h
      obtain ⟨i2_5, hi2_5, h⟩ := obn h
      refine lv_iinc (v := i2_5) (lv' := [(2, .int i2_5), (0, .ref (base + a0)), (1, .ref (base + a1))]) hx hb dX0_firstCloseStop_21 hl (k := 2) rfl (Option.some.inj hi2_5) (by decide) rfl (fun ls hl => ?_)
      refine lv_goto (tgt := 2) hx hb dX0_firstCloseStop_24 (by decide) ?_
      exact ih h hP hS (lv_sub hl [1, 2, 0] rfl)
    · rw [if_neg c_4] at h
      refine lv_iload_n hx hb dX0_firstCloseStop_19 rfl (lv_at hl 2 rfl) ?_
      obtain ⟨rfl, rfl⟩ := Prod.mk.inj (Option.some.inj h)
      exact w_iret hC hr hlocks hP hS dX0_firstCloseStop_20
set_option maxRecDepth 100000 in
set_option maxHeartbeats 4000000 in
theorem X0_firstCloseStop_k0 (hC : Cx p m c cX0_firstCloseStop 3 s args RX0 base D cI cJ tS) (hr : meth.sig.returnType = (some .int)) (hlocks : meth.locks = false) {n : Nat} (ih : (∀ {a0 : Nat} {a1 : Nat} {i2 : Int32} {σ : Sg} {r : Int32} {τ : Sg} {H : Heap} {locs : List Loc} {ls : Array Slot}, X0_firstCloseStop_run n a0 a1 i2 σ = some (r, τ) → Dy base D cI cJ σ H → va_S (fun q => base ≤ q) s.heap H locs → lv_has ls 3 [(0, .ref (base + a0)), (1, .ref (base + a1)), (2, .int i2)] → W p l e (rmD 4 0 0) s m args below meth c H locs 0 0 (MQ below (QwI base D cI cJ r τ) args s 0 0 (fun q => base ≤ q)) (F0 m 2 ls []))) {a0 : Nat} {a1 : Nat} {σ : Sg} {r : Int32} {τ : Sg} {H : Heap} {locs : List Loc} {ls : Array Slot} (h : X0_firstCloseStop_b0 n (X0_firstCloseStop_run n) a0 a1 σ = some (r, τ)) : Dy base D cI cJ σ H → va_S (fun q => base ≤ q) s.heap H locs → lv_has ls 3 [(0, .ref (base + a0)), (1, .ref (base + a1))] → W p l e (rmD 4 0 0) s m args below meth c H locs 0 0 (MQ below (QwI base D cI cJ r τ) args s 0 0 (fun q => base ≤ q)) (F0 m 0 ls []) := by
  intro hP hS hl
  obtain ⟨hx, hb, hml, hown, hts⟩ := hC.1
  unfold X0_firstCloseStop_b0 at h
  refine lv_iconst (v := 0) hx hb dX0_firstCloseStop_0 (by decide) ?_
  refine lv_istore_n (lv' := [(2, .int 0), (0, .ref (base + a0)), (1, .ref (base + a1))]) hx hb dX0_firstCloseStop_1 rfl hl (by decide) rfl (fun ls hl => ?_)
  exact ih h hP hS (lv_sub hl [1, 2, 0] rfl)
set_option maxRecDepth 100000 in
set_option maxHeartbeats 4000000 in
theorem X0_firstCloseStop_all (hC : Cx p m c cX0_firstCloseStop 3 s args RX0 base D cI cJ tS) (hr : meth.sig.returnType = (some .int)) (hlocks : meth.locks = false) : ∀ n : Nat, (∀ {a0 : Nat} {a1 : Nat} {i2 : Int32} {σ : Sg} {r : Int32} {τ : Sg} {H : Heap} {locs : List Loc} {ls : Array Slot}, X0_firstCloseStop_run n a0 a1 i2 σ = some (r, τ) → Dy base D cI cJ σ H → va_S (fun q => base ≤ q) s.heap H locs → lv_has ls 3 [(0, .ref (base + a0)), (1, .ref (base + a1)), (2, .int i2)] → W p l e (rmD 4 0 0) s m args below meth c H locs 0 0 (MQ below (QwI base D cI cJ r τ) args s 0 0 (fun q => base ≤ q)) (F0 m 2 ls [])) := by
  intro n
  induction n with
  | zero => exact fun h => (by cases h)
  | succ n ih => exact fun h => X0_firstCloseStop_k2 hC hr hlocks ih h
set_option maxRecDepth 100000 in
set_option maxHeartbeats 4000000 in
theorem c_X0_firstCloseStop {l : Launch} {base : Nat} {D : va_G} {cI cJ : ClassId} {tS : Nat} {n : Nat} {a0 : Nat} {a1 : Nat} {σ : Sg} {r : Int32} {τ : Sg} (h : f_X0_firstCloseStop n a0 a1 σ = some (r, τ)) : Met l yX0_firstCloseStop (.code yX0_firstCloseStop cX0_firstCloseStop 3 (some .int) :: wsL_law) (rmD 4 0 0) (Pw base D cI cJ tS σ [.ref (base + a0), .ref (base + a1)]) (QwI base D cI cJ r τ) 0 0 (fun q => base ≤ q) := by
  refine Met.ofW (cc := cX0_firstCloseStop) (maxL := 3) (ret := (some .int)) (by decide) rfl ?_
  intro p e s m args below meth c s₁ B hml hv
  obtain ⟨rfl, hSt, hP⟩ := hv
  have hC : Cx p m c cX0_firstCloseStop 3 s _ RX0 base D cI cJ tS := ⟨⟨B.exec, B.bytes, hml, findClass_of_methodNamed B.named, fun w hw => atoms_spec (ws := Cond.code yX0_firstCloseStop cX0_firstCloseStop 3 (some .int) :: wsL_law) B.pre w (List.mem_cons_of_mem _ hw)⟩, hSt⟩
  have hl := lv_entry ([.ref (base + a0), .ref (base + a1)]) (n := 3) (Nat.le_of_ble_eq_true rfl)
  rw [lg_entry_eq]
  generalize (lg_sl ([.ref (base + a0), .ref (base + a1)]) ++ List.replicate (3 - (lg_sl ([.ref (base + a0), .ref (base + a1)])).length) Slot.unset).toArray = ls at hl ⊢
  exact X0_firstCloseStop_k0 hC B.returns B.notSynchronized (X0_firstCloseStop_all hC B.returns B.notSynchronized n) h hP va_S.rf hl
end
