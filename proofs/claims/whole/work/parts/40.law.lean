section
variable {p : Program} {l : Launch} {e : Env} {s : State} {m : MethodId} {args : Array Value} {below : List Frame} {meth : Method} {c : Code} {base : Nat} {D : va_G} {cI cJ : ClassId} {tS : Nat}
-- ===== L_law
set_option maxRecDepth 100000 in
set_option maxHeartbeats 4000000 in
theorem L_law_k780 {L : Nat} {xs : Nat → Int32} {b : Nat} (hC : Cx p m c cL_law 4 s #[Value.ref b] RL base D cI cJ tS) (hr : meth.sig.returnType = ret) (hlocks : meth.locks = false) (hX : lw_X s base b L xs) {n : Nat} (ih : (∀ {a1 : Nat} {a2 : Nat} {i3 : Int32} {σ : Sg}  {H : Heap} {locs : List Loc} {ls : Array Slot}, L_law_run n L xs a1 a2 i3 σ = some () → Dy base D cI cJ σ H → va_S (fun q => base ≤ q) s.heap H locs → lv_has ls 4 [(0, .ref b), (1, .ref (base + a1)), (2, .ref (base + a2)), (3, .int i3)] → W p l e (room_1) s m #[Value.ref b] below meth c H locs 73 2316 (lw_Z below #[Value.ref b] s) (F0 m 18 ls []))) {a1 : Nat} {a2 : Nat} {i3 : Int32} {σ : Sg}  {H : Heap} {locs : List Loc} {ls : Array Slot} (h : L_law_b780 n L xs (L_law_run n L xs) a1 a2 i3 σ = some ()) : Dy base D cI cJ σ H → va_S (fun q => base ≤ q) s.heap H locs → lv_has ls 4 [(0, .ref b), (1, .ref (base + a1)), (2, .ref (base + a2)), (3, .int i3)] → W p l e (room_1) s m #[Value.ref b] below meth c H locs 73 2316 (lw_Z below #[Value.ref b] s) (F0 m 780 ls []) := by
  intro hP hS hl
  obtain ⟨hx, hb, hml, hown, hts⟩ := hC.1
  unfold L_law_b780 at h
  obtain ⟨i3_1, hi3_1, h⟩ := obn h
  refine lv_iinc (v := i3_1) (lv' := [(3, .int i3_1), (0, .ref b), (1, .ref (base + a1)), (2, .ref (base + a2))]) hx hb dL_law_780 hl (k := 3) rfl (Option.some.inj hi3_1) (by decide) rfl (fun ls hl => ?_)
  refine lv_goto (tgt := 18) hx hb dL_law_783 (by decide) ?_
  exact ih h hP hS (lv_sub hl [1, 2, 3, 0] rfl)
set_option maxRecDepth 100000 in
set_option maxHeartbeats 4000000 in
theorem L_law_k18 {L : Nat} {xs : Nat → Int32} {b : Nat} (hC : Cx p m c cL_law 4 s #[Value.ref b] RL base D cI cJ tS) (hr : meth.sig.returnType = ret) (hlocks : meth.locks = false) (hX : lw_X s base b L xs) {n : Nat} (ih : (∀ {a1 : Nat} {a2 : Nat} {i3 : Int32} {σ : Sg}  {H : Heap} {locs : List Loc} {ls : Array Slot}, L_law_run n L xs a1 a2 i3 σ = some () → Dy base D cI cJ σ H → va_S (fun q => base ≤ q) s.heap H locs → lv_has ls 4 [(0, .ref b), (1, .ref (base + a1)), (2, .ref (base + a2)), (3, .int i3)] → W p l e (room_1) s m #[Value.ref b] below meth c H locs 73 2316 (lw_Z below #[Value.ref b] s) (F0 m 18 ls []))) {a1 : Nat} {a2 : Nat} {i3 : Int32} {σ : Sg}  {H : Heap} {locs : List Loc} {ls : Array Slot} (h : L_law_b18 n L xs (L_law_run n L xs) a1 a2 i3 σ = some ()) : Dy base D cI cJ σ H → va_S (fun q => base ≤ q) s.heap H locs → lv_has ls 4 [(0, .ref b), (1, .ref (base + a1)), (2, .ref (base + a2)), (3, .int i3)] → W p l e (room_1) s m #[Value.ref b] below meth c H locs 73 2316 (lw_Z below #[Value.ref b] s) (F0 m 18 ls []) := by
  intro hP hS hl
  obtain ⟨hx, hb, hml, hown, hts⟩ := hC.1
  unfold L_law_b18 at h
  refine lv_iload_n hx hb dL_law_18 rfl (lv_at hl 3 rfl) ?_
  refine lv_aload_n hx hb dL_law_19 rfl (lv_at hl 0 rfl) ?_
  refine w_slen hC hX hS dL_law_20 ?_
  refine lv_iconst (v := 4) hx hb dL_law_21 (by decide) ?_
  refine lv_isub hx hb dL_law_22 ?_
  refine lv_icmp_gt (tgt := 786) hx hb dL_law_23 (by decide) (fun c_2 => ?_) (fun c_2 => ?_)
  · rw [if_pos c_2] at h
    refine lv_iconst (v := 1) hx hb dL_law_786 (by decide) ?_
    refine va_forget (fun q hq => by rw [← hX.1]; exact hS.2.2 q hq) ?_
    refine W.widen (k := 73) (n := 2316) (by decide) (by decide) ?_
    exact lw_ret hx hb hr hlocks dL_law_787
  · rw [if_neg c_2] at h
    refine lv_aload_n hx hb dL_law_26 rfl (lv_at hl 0 rfl) ?_
    refine lv_iload_n hx hb dL_law_27 rfl (lv_at hl 3 rfl) ?_
    obtain ⟨v_3, hv_3, h⟩ := obn h
    refine w_sx hC hX hS hv_3 dL_law_28 ?_
    refine lv_bipush (v := 31) hx hb dL_law_29 (by decide) ?_
    refine lv_iand hx hb dL_law_31 ?_
    obtain ⟨x_4, hx_4, h⟩ := obn h
    refine w_eqi (Option.some.inj hx_4) ?_
    by_cases c_16 : x_4 = 0
    · rw [if_pos c_16] at h
      refine lv_tableIn (off := 108) (tgt := 140) hx hb dL_law_32 (by rw [c_16]; decide) (by rw [c_16]; decide) (by rw [c_16]; rfl) (by decide) ?_
      refine lv_aload_n hx hb dL_law_140 rfl (lv_at hl 1 rfl) ?_
      refine lv_aload_n hx hb dL_law_141 rfl (lv_at hl 0 rfl) ?_
      refine lv_iload_n hx hb dL_law_142 rfl (lv_at hl 3 rfl) ?_
      refine lv_iconst (v := 1) hx hb dL_law_143 (by decide) ?_
      refine lv_iadd hx hb dL_law_144 ?_
      obtain ⟨v_5, hv_5, h⟩ := obn h
      refine w_sx hC hX hS hv_5 dL_law_145 ?_
      refine lv_aload_n hx hb dL_law_146 rfl (lv_at hl 0 rfl) ?_
      refine lv_iload_n hx hb dL_law_147 rfl (lv_at hl 3 rfl) ?_
      refine lv_iconst (v := 2) hx hb dL_law_148 (by decide) ?_
      refine lv_iadd hx hb dL_law_149 ?_
      obtain ⟨v_6, hv_6, h⟩ := obn h
      refine w_sx hC hX hS hv_6 dL_law_150 ?_
      refine lv_aload_n hx hb dL_law_151 rfl (lv_at hl 0 rfl) ?_
      refine lv_iload_n hx hb dL_law_152 rfl (lv_at hl 3 rfl) ?_
      refine lv_iconst (v := 3) hx hb dL_law_153 (by decide) ?_
      refine lv_iadd hx hb dL_law_154 ?_
      obtain ⟨v_7, hv_7, h⟩ := obn h
      refine w_sx hC hX hS hv_7 dL_law_155 ?_
      obtain ⟨u_8, hu_8, h⟩ := obn h
      obtain ⟨w_9, hw_9, h⟩ := obn h
      refine k_I (r_virt (As := [.int v_5, .int v_6, .int v_7]) (rest := []) hC hP hS (ci := 4) rfl (by decide) hu_8 (c_X4_stop (l := l) (base := base) (D := D) (cI := cI) (cJ := cJ) (tS := tS) hw_9) wl_441 wl_442 wl_443 wl_98 wl_440 rfl rfl hd_X4_stop ⟨Nat.le_of_ble_eq_true rfl, Nat.le_of_ble_eq_true rfl⟩ rfl hl.1 rfl (Nat.le_of_ble_eq_true rfl) dL_law_156 ⟨Nat.le_of_ble_eq_true rfl, Nat.le_of_ble_eq_true rfl⟩) hS (fun H locs hP hS => ?_)
      refine lv_aload_n hx hb dL_law_159 rfl (lv_at hl 2 rfl) ?_
      refine lv_aload_n hx hb dL_law_160 rfl (lv_at hl 0 rfl) ?_
      refine lv_iload_n hx hb dL_law_161 rfl (lv_at hl 3 rfl) ?_
      refine lv_iconst (v := 1) hx hb dL_law_162 (by decide) ?_
      refine lv_iadd hx hb dL_law_163 ?_
      obtain ⟨v_10, hv_10, h⟩ := obn h
      refine w_sx hC hX hS hv_10 dL_law_164 ?_
      refine lv_aload_n hx hb dL_law_165 rfl (lv_at hl 0 rfl) ?_
      refine lv_iload_n hx hb dL_law_166 rfl (lv_at hl 3 rfl) ?_
      refine lv_iconst (v := 2) hx hb dL_law_167 (by decide) ?_
      refine lv_iadd hx hb dL_law_168 ?_
      obtain ⟨v_11, hv_11, h⟩ := obn h
      refine w_sx hC hX hS hv_11 dL_law_169 ?_
      refine lv_aload_n hx hb dL_law_170 rfl (lv_at hl 0 rfl) ?_
      refine lv_iload_n hx hb dL_law_171 rfl (lv_at hl 3 rfl) ?_
      refine lv_iconst (v := 3) hx hb dL_law_172 (by decide) ?_
      refine lv_iadd hx hb dL_law_173 ?_
      obtain ⟨v_12, hv_12, h⟩ := obn h
      refine w_sx hC hX hS hv_12 dL_law_174 ?_
      obtain ⟨u_13, hu_13, h⟩ := obn h
      obtain ⟨w_14, hw_14, h⟩ := obn h
      refine k_I (r_virt (As := [.int v_10, .int v_11, .int v_12]) (rest := [.int w_9.1]) hC hP hS (ci := 5) rfl (by decide) hu_13 (c_X5_stop (l := l) (base := base) (D := D) (cI := cI) (cJ := cJ) (tS := tS) hw_14) wl_445 wl_446 wl_447 wl_113 wl_444 rfl rfl hd_X5_stop ⟨Nat.le_of_ble_eq_true rfl, Nat.le_of_ble_eq_true rfl⟩ rfl hl.1 rfl (Nat.le_of_ble_eq_true rfl) dL_law_175 ⟨Nat.le_of_ble_eq_true rfl, Nat.le_of_ble_eq_true rfl⟩) hS (fun H locs hP hS => ?_)
      refine lv_icmp_eq (tgt := 780) hx hb dL_law_178 (by decide) (fun c_15 => ?_) (fun c_15 => ?_)
      · rw [if_pos c_15] at h
        exact L_law_k780 hC hr hlocks hX ih h hP hS (lv_sub hl [0, 1, 2, 3] rfl)
      · rw [if_neg c_15] at h
        refine lv_iconst (v := 0) hx hb dL_law_181 (by decide) ?_
        cases h
    rw [if_neg c_16] at h
    by_cases c_26 : x_4 = 1
    · rw [if_pos c_26] at h
      refine lv_tableIn (off := 151) (tgt := 183) hx hb dL_law_32 (by rw [c_26]; decide) (by rw [c_26]; decide) (by rw [c_26]; rfl) (by decide) ?_
      refine lv_aload_n hx hb dL_law_183 rfl (lv_at hl 1 rfl) ?_
      refine lv_aload_n hx hb dL_law_184 rfl (lv_at hl 0 rfl) ?_
      refine lv_iload_n hx hb dL_law_185 rfl (lv_at hl 3 rfl) ?_
      refine lv_iconst (v := 1) hx hb dL_law_186 (by decide) ?_
      refine lv_iadd hx hb dL_law_187 ?_
      obtain ⟨v_17, hv_17, h⟩ := obn h
      refine w_sx hC hX hS hv_17 dL_law_188 ?_
      refine lv_aload_n hx hb dL_law_189 rfl (lv_at hl 0 rfl) ?_
      refine lv_iload_n hx hb dL_law_190 rfl (lv_at hl 3 rfl) ?_
      refine lv_iconst (v := 2) hx hb dL_law_191 (by decide) ?_
      refine lv_iadd hx hb dL_law_192 ?_
      obtain ⟨v_18, hv_18, h⟩ := obn h
      refine w_sx hC hX hS hv_18 dL_law_193 ?_
      obtain ⟨u_19, hu_19, h⟩ := obn h
      obtain ⟨w_20, hw_20, h⟩ := obn h
      refine k_I (r_virt (As := [.int v_17, .int v_18]) (rest := []) hC hP hS (ci := 4) rfl (by decide) hu_19 (c_X4_bus (l := l) (base := base) (D := D) (cI := cI) (cJ := cJ) (tS := tS) hw_20) wl_449 wl_450 wl_451 wl_98 wl_448 rfl rfl hd_X4_bus ⟨Nat.le_of_ble_eq_true rfl, Nat.le_of_ble_eq_true rfl⟩ rfl hl.1 rfl (Nat.le_of_ble_eq_true rfl) dL_law_194 ⟨Nat.le_of_ble_eq_true rfl, Nat.le_of_ble_eq_true rfl⟩) hS (fun H locs hP hS => ?_)
      refine lv_aload_n hx hb dL_law_197 rfl (lv_at hl 2 rfl) ?_
      refine lv_aload_n hx hb dL_law_198 rfl (lv_at hl 0 rfl) ?_
      refine lv_iload_n hx hb dL_law_199 rfl (lv_at hl 3 rfl) ?_
      refine lv_iconst (v := 1) hx hb dL_law_200 (by decide) ?_
      refine lv_iadd hx hb dL_law_201 ?_
      obtain ⟨v_21, hv_21, h⟩ := obn h
      refine w_sx hC hX hS hv_21 dL_law_202 ?_
      refine lv_aload_n hx hb dL_law_203 rfl (lv_at hl 0 rfl) ?_
      refine lv_iload_n hx hb dL_law_204 rfl (lv_at hl 3 rfl) ?_
      refine lv_iconst (v := 2) hx hb dL_law_205 (by decide) ?_
      refine lv_iadd hx hb dL_law_206 ?_
      obtain ⟨v_22, hv_22, h⟩ := obn h
      refine w_sx hC hX hS hv_22 dL_law_207 ?_
      obtain ⟨u_23, hu_23, h⟩ := obn h
      obtain ⟨w_24, hw_24, h⟩ := obn h
      refine k_I (r_virt (As := [.int v_21, .int v_22]) (rest := [.int w_20.1]) hC hP hS (ci := 5) rfl (by decide) hu_23 (c_X5_bus (l := l) (base := base) (D := D) (cI := cI) (cJ := cJ) (tS := tS) hw_24) wl_453 wl_454 wl_455 wl_113 wl_452 rfl rfl hd_X5_bus ⟨Nat.le_of_ble_eq_true rfl, Nat.le_of_ble_eq_true rfl⟩ rfl hl.1 rfl (Nat.le_of_ble_eq_true rfl) dL_law_208 ⟨Nat.le_of_ble_eq_true rfl, Nat.le_of_ble_eq_true rfl⟩) hS (fun H locs hP hS => ?_)
      refine lv_icmp_eq (tgt := 780) hx hb dL_law_211 (by decide) (fun c_25 => ?_) (fun c_25 => ?_)
      · rw [if_pos c_25] at h
        exact L_law_k780 hC hr hlocks hX ih h hP hS (lv_sub hl [0, 1, 2, 3] rfl)
      · rw [if_neg c_25] at h
        refine lv_iconst (v := 0) hx hb dL_law_214 (by decide) ?_
        cases h
    rw [if_neg c_26] at h
    by_cases c_36 : x_4 = 2
    · rw [if_pos c_36] at h
      refine lv_tableIn (off := 184) (tgt := 216) hx hb dL_law_32 (by rw [c_36]; decide) (by rw [c_36]; decide) (by rw [c_36]; rfl) (by decide) ?_
      refine lv_aload_n hx hb dL_law_216 rfl (lv_at hl 1 rfl) ?_
      refine lv_aload_n hx hb dL_law_217 rfl (lv_at hl 0 rfl) ?_
      refine lv_iload_n hx hb dL_law_218 rfl (lv_at hl 3 rfl) ?_
      refine lv_iconst (v := 1) hx hb dL_law_219 (by decide) ?_
      refine lv_iadd hx hb dL_law_220 ?_
      obtain ⟨v_27, hv_27, h⟩ := obn h
      refine w_sx hC hX hS hv_27 dL_law_221 ?_
      refine lv_aload_n hx hb dL_law_222 rfl (lv_at hl 0 rfl) ?_
      refine lv_iload_n hx hb dL_law_223 rfl (lv_at hl 3 rfl) ?_
      refine lv_iconst (v := 2) hx hb dL_law_224 (by decide) ?_
      refine lv_iadd hx hb dL_law_225 ?_
      obtain ⟨v_28, hv_28, h⟩ := obn h
      refine w_sx hC hX hS hv_28 dL_law_226 ?_
      obtain ⟨u_29, hu_29, h⟩ := obn h
      obtain ⟨w_30, hw_30, h⟩ := obn h
      refine k_I (r_virt (As := [.int v_27, .int v_28]) (rest := []) hC hP hS (ci := 4) rfl (by decide) hu_29 (c_X4_set (l := l) (base := base) (D := D) (cI := cI) (cJ := cJ) (tS := tS) hw_30) wl_457 wl_458 wl_459 wl_98 wl_456 rfl rfl hd_X4_set ⟨Nat.le_of_ble_eq_true rfl, Nat.le_of_ble_eq_true rfl⟩ rfl hl.1 rfl (Nat.le_of_ble_eq_true rfl) dL_law_227 ⟨Nat.le_of_ble_eq_true rfl, Nat.le_of_ble_eq_true rfl⟩) hS (fun H locs hP hS => ?_)
      refine lv_aload_n hx hb dL_law_230 rfl (lv_at hl 2 rfl) ?_
      refine lv_aload_n hx hb dL_law_231 rfl (lv_at hl 0 rfl) ?_
      refine lv_iload_n hx hb dL_law_232 rfl (lv_at hl 3 rfl) ?_
      refine lv_iconst (v := 1) hx hb dL_law_233 (by decide) ?_
      refine lv_iadd hx hb dL_law_234 ?_
      obtain ⟨v_31, hv_31, h⟩ := obn h
      refine w_sx hC hX hS hv_31 dL_law_235 ?_
      refine lv_aload_n hx hb dL_law_236 rfl (lv_at hl 0 rfl) ?_
      refine lv_iload_n hx hb dL_law_237 rfl (lv_at hl 3 rfl) ?_
      refine lv_iconst (v := 2) hx hb dL_law_238 (by decide) ?_
      refine lv_iadd hx hb dL_law_239 ?_
      obtain ⟨v_32, hv_32, h⟩ := obn h
      refine w_sx hC hX hS hv_32 dL_law_240 ?_
      obtain ⟨u_33, hu_33, h⟩ := obn h
      obtain ⟨w_34, hw_34, h⟩ := obn h
      refine k_I (r_virt (As := [.int v_31, .int v_32]) (rest := [.int w_30.1]) hC hP hS (ci := 5) rfl (by decide) hu_33 (c_X5_set (l := l) (base := base) (D := D) (cI := cI) (cJ := cJ) (tS := tS) hw_34) wl_461 wl_462 wl_463 wl_113 wl_460 rfl rfl hd_X5_set ⟨Nat.le_of_ble_eq_true rfl, Nat.le_of_ble_eq_true rfl⟩ rfl hl.1 rfl (Nat.le_of_ble_eq_true rfl) dL_law_241 ⟨Nat.le_of_ble_eq_true rfl, Nat.le_of_ble_eq_true rfl⟩) hS (fun H locs hP hS => ?_)
      refine lv_icmp_eq (tgt := 780) hx hb dL_law_244 (by decide) (fun c_35 => ?_) (fun c_35 => ?_)
      · rw [if_pos c_35] at h
        exact L_law_k780 hC hr hlocks hX ih h hP hS (lv_sub hl [0, 1, 2, 3] rfl)
      · rw [if_neg c_35] at h
        refine lv_iconst (v := 0) hx hb dL_law_247 (by decide) ?_
        cases h
    rw [if_neg c_36] at h
    by_cases c_48 : x_4 = 3
    · rw [if_pos c_48] at h
      refine lv_tableIn (off := 217) (tgt := 249) hx hb dL_law_32 (by rw [c_48]; decide) (by rw [c_48]; decide) (by rw [c_48]; rfl) (by decide) ?_
      refine lv_aload_n hx hb dL_law_249 rfl (lv_at hl 1 rfl) ?_
      refine lv_aload_n hx hb dL_law_250 rfl (lv_at hl 0 rfl) ?_
      refine lv_iload_n hx hb dL_law_251 rfl (lv_at hl 3 rfl) ?_
      refine lv_iconst (v := 1) hx hb dL_law_252 (by decide) ?_
      refine lv_iadd hx hb dL_law_253 ?_
      obtain ⟨v_37, hv_37, h⟩ := obn h
      refine w_sx hC hX hS hv_37 dL_law_254 ?_
      refine lv_aload_n hx hb dL_law_255 rfl (lv_at hl 0 rfl) ?_
      refine lv_iload_n hx hb dL_law_256 rfl (lv_at hl 3 rfl) ?_
      refine lv_iconst (v := 2) hx hb dL_law_257 (by decide) ?_
      refine lv_iadd hx hb dL_law_258 ?_
      obtain ⟨v_38, hv_38, h⟩ := obn h
      refine w_sx hC hX hS hv_38 dL_law_259 ?_
      refine lv_aload_n hx hb dL_law_260 rfl (lv_at hl 0 rfl) ?_
      refine lv_iload_n hx hb dL_law_261 rfl (lv_at hl 3 rfl) ?_
      refine lv_iconst (v := 3) hx hb dL_law_262 (by decide) ?_
      refine lv_iadd hx hb dL_law_263 ?_
      obtain ⟨v_39, hv_39, h⟩ := obn h
      refine w_sx hC hX hS hv_39 dL_law_264 ?_
      obtain ⟨u_40, hu_40, h⟩ := obn h
      obtain ⟨w_41, hw_41, h⟩ := obn h
      refine k_I (r_virt (As := [.int v_37, .int v_38, .int v_39]) (rest := []) hC hP hS (ci := 4) rfl (by decide) hu_40 (c_X4_late (l := l) (base := base) (D := D) (cI := cI) (cJ := cJ) (tS := tS) hw_41) wl_465 wl_466 wl_467 wl_98 wl_464 rfl rfl hd_X4_late ⟨Nat.le_of_ble_eq_true rfl, Nat.le_of_ble_eq_true rfl⟩ rfl hl.1 rfl (Nat.le_of_ble_eq_true rfl) dL_law_265 ⟨Nat.le_of_ble_eq_true rfl, Nat.le_of_ble_eq_true rfl⟩) hS (fun H locs hP hS => ?_)
      refine lv_aload_n hx hb dL_law_268 rfl (lv_at hl 2 rfl) ?_
      refine lv_aload_n hx hb dL_law_269 rfl (lv_at hl 0 rfl) ?_
      refine lv_iload_n hx hb dL_law_270 rfl (lv_at hl 3 rfl) ?_
      refine lv_iconst (v := 1) hx hb dL_law_271 (by decide) ?_
      refine lv_iadd hx hb dL_law_272 ?_
      obtain ⟨v_42, hv_42, h⟩ := obn h
      refine w_sx hC hX hS hv_42 dL_law_273 ?_
      refine lv_aload_n hx hb dL_law_274 rfl (lv_at hl 0 rfl) ?_
      refine lv_iload_n hx hb dL_law_275 rfl (lv_at hl 3 rfl) ?_
      refine lv_iconst (v := 2) hx hb dL_law_276 (by decide) ?_
      refine lv_iadd hx hb dL_law_277 ?_
      obtain ⟨v_43, hv_43, h⟩ := obn h
      refine w_sx hC hX hS hv_43 dL_law_278 ?_
      refine lv_aload_n hx hb dL_law_279 rfl (lv_at hl 0 rfl) ?_
      refine lv_iload_n hx hb dL_law_280 rfl (lv_at hl 3 rfl) ?_
      refine lv_iconst (v := 3) hx hb dL_law_281 (by decide) ?_
      refine lv_iadd hx hb dL_law_282 ?_
      obtain ⟨v_44, hv_44, h⟩ := obn h
      refine w_sx hC hX hS hv_44 dL_law_283 ?_
      obtain ⟨u_45, hu_45, h⟩ := obn h
      obtain ⟨w_46, hw_46, h⟩ := obn h
      refine k_I (r_virt (As := [.int v_42, .int v_43, .int v_44]) (rest := [.int w_41.1]) hC hP hS (ci := 5) rfl (by decide) hu_45 (c_X5_late (l := l) (base := base) (D := D) (cI := cI) (cJ := cJ) (tS := tS) hw_46) wl_469 wl_470 wl_471 wl_113 wl_468 rfl rfl hd_X5_late ⟨Nat.le_of_ble_eq_true rfl, Nat.le_of_ble_eq_true rfl⟩ rfl hl.1 rfl (Nat.le_of_ble_eq_true rfl) dL_law_284 ⟨Nat.le_of_ble_eq_true rfl, Nat.le_of_ble_eq_true rfl⟩) hS (fun H locs hP hS => ?_)
      refine lv_icmp_eq (tgt := 780) hx hb dL_law_287 (by decide) (fun c_47 => ?_) (fun c_47 => ?_)
      · rw [if_pos c_47] at h
        exact L_law_k780 hC hr hlocks hX ih h hP hS (lv_sub hl [0, 1, 2, 3] rfl)
      · rw [if_neg c_47] at h
        refine lv_iconst (v := 0) hx hb dL_law_290 (by decide) ?_
        cases h
    rw [if_neg c_48] at h
    by_cases c_54 : x_4 = 4
    · rw [if_pos c_54] at h
      refine lv_tableIn (off := 260) (tgt := 292) hx hb dL_law_32 (by rw [c_54]; decide) (by rw [c_54]; decide) (by rw [c_54]; rfl) (by decide) ?_
      refine lv_aload_n hx hb dL_law_292 rfl (lv_at hl 1 rfl) ?_
      obtain ⟨u_49, hu_49, h⟩ := obn h
      obtain ⟨w_50, hw_50, h⟩ := obn h
      refine k_I (r_virt (As := []) (rest := []) hC hP hS (ci := 4) rfl (by decide) hu_49 (c_X4_mend (l := l) (base := base) (D := D) (cI := cI) (cJ := cJ) (tS := tS) hw_50) wl_473 wl_474 wl_475 wl_98 wl_472 rfl rfl hd_X4_mend ⟨Nat.le_of_ble_eq_true rfl, Nat.le_of_ble_eq_true rfl⟩ rfl hl.1 rfl (Nat.le_of_ble_eq_true rfl) dL_law_293 ⟨Nat.le_of_ble_eq_true rfl, Nat.le_of_ble_eq_true rfl⟩) hS (fun H locs hP hS => ?_)
      refine lv_aload_n hx hb dL_law_296 rfl (lv_at hl 2 rfl) ?_
      obtain ⟨u_51, hu_51, h⟩ := obn h
      obtain ⟨w_52, hw_52, h⟩ := obn h
      refine k_I (r_virt (As := []) (rest := [.int w_50.1]) hC hP hS (ci := 5) rfl (by decide) hu_51 (c_X5_mend (l := l) (base := base) (D := D) (cI := cI) (cJ := cJ) (tS := tS) hw_52) wl_477 wl_478 wl_479 wl_113 wl_476 rfl rfl hd_X5_mend ⟨Nat.le_of_ble_eq_true rfl, Nat.le_of_ble_eq_true rfl⟩ rfl hl.1 rfl (Nat.le_of_ble_eq_true rfl) dL_law_297 ⟨Nat.le_of_ble_eq_true rfl, Nat.le_of_ble_eq_true rfl⟩) hS (fun H locs hP hS => ?_)
      refine lv_icmp_eq (tgt := 780) hx hb dL_law_300 (by decide) (fun c_53 => ?_) (fun c_53 => ?_)
      · rw [if_pos c_53] at h
        exact L_law_k780 hC hr hlocks hX ih h hP hS (lv_sub hl [0, 1, 2, 3] rfl)
      · rw [if_neg c_53] at h
        refine lv_iconst (v := 0) hx hb dL_law_303 (by decide) ?_
        cases h
    rw [if_neg c_54] at h
    by_cases c_64 : x_4 = 5
    · rw [if_pos c_64] at h
      refine lv_tableIn (off := 273) (tgt := 305) hx hb dL_law_32 (by rw [c_64]; decide) (by rw [c_64]; decide) (by rw [c_64]; rfl) (by decide) ?_
      refine lv_aload_n hx hb dL_law_305 rfl (lv_at hl 1 rfl) ?_
      refine lv_aload_n hx hb dL_law_306 rfl (lv_at hl 0 rfl) ?_
      refine lv_iload_n hx hb dL_law_307 rfl (lv_at hl 3 rfl) ?_
      refine lv_iconst (v := 1) hx hb dL_law_308 (by decide) ?_
      refine lv_iadd hx hb dL_law_309 ?_
      obtain ⟨v_55, hv_55, h⟩ := obn h
      refine w_sx hC hX hS hv_55 dL_law_310 ?_
      refine lv_aload_n hx hb dL_law_311 rfl (lv_at hl 0 rfl) ?_
      refine lv_iload_n hx hb dL_law_312 rfl (lv_at hl 3 rfl) ?_
      refine lv_iconst (v := 2) hx hb dL_law_313 (by decide) ?_
      refine lv_iadd hx hb dL_law_314 ?_
      obtain ⟨v_56, hv_56, h⟩ := obn h
      refine w_sx hC hX hS hv_56 dL_law_315 ?_
      obtain ⟨u_57, hu_57, h⟩ := obn h
      obtain ⟨w_58, hw_58, h⟩ := obn h
      refine k_I (r_virt (As := [.int v_55, .int v_56]) (rest := []) hC hP hS (ci := 4) rfl (by decide) hu_57 (c_X4_turn (l := l) (base := base) (D := D) (cI := cI) (cJ := cJ) (tS := tS) hw_58) wl_481 wl_482 wl_483 wl_98 wl_480 rfl rfl hd_X4_turn ⟨Nat.le_of_ble_eq_true rfl, Nat.le_of_ble_eq_true rfl⟩ rfl hl.1 rfl (Nat.le_of_ble_eq_true rfl) dL_law_316 ⟨Nat.le_of_ble_eq_true rfl, Nat.le_of_ble_eq_true rfl⟩) hS (fun H locs hP hS => ?_)
      refine lv_aload_n hx hb dL_law_319 rfl (lv_at hl 2 rfl) ?_
      refine lv_aload_n hx hb dL_law_320 rfl (lv_at hl 0 rfl) ?_
      refine lv_iload_n hx hb dL_law_321 rfl (lv_at hl 3 rfl) ?_
      refine lv_iconst (v := 1) hx hb dL_law_322 (by decide) ?_
      refine lv_iadd hx hb dL_law_323 ?_
      obtain ⟨v_59, hv_59, h⟩ := obn h
      refine w_sx hC hX hS hv_59 dL_law_324 ?_
      refine lv_aload_n hx hb dL_law_325 rfl (lv_at hl 0 rfl) ?_
      refine lv_iload_n hx hb dL_law_326 rfl (lv_at hl 3 rfl) ?_
      refine lv_iconst (v := 2) hx hb dL_law_327 (by decide) ?_
      refine lv_iadd hx hb dL_law_328 ?_
      obtain ⟨v_60, hv_60, h⟩ := obn h
      refine w_sx hC hX hS hv_60 dL_law_329 ?_
      obtain ⟨u_61, hu_61, h⟩ := obn h
      obtain ⟨w_62, hw_62, h⟩ := obn h
      refine k_I (r_virt (As := [.int v_59, .int v_60]) (rest := [.int w_58.1]) hC hP hS (ci := 5) rfl (by decide) hu_61 (c_X5_turn (l := l) (base := base) (D := D) (cI := cI) (cJ := cJ) (tS := tS) hw_62) wl_485 wl_486 wl_487 wl_113 wl_484 rfl rfl hd_X5_turn ⟨Nat.le_of_ble_eq_true rfl, Nat.le_of_ble_eq_true rfl⟩ rfl hl.1 rfl (Nat.le_of_ble_eq_true rfl) dL_law_330 ⟨Nat.le_of_ble_eq_true rfl, Nat.le_of_ble_eq_true rfl⟩) hS (fun H locs hP hS => ?_)
      refine lv_icmp_eq (tgt := 780) hx hb dL_law_333 (by decide) (fun c_63 => ?_) (fun c_63 => ?_)
      · rw [if_pos c_63] at h
        exact L_law_k780 hC hr hlocks hX ih h hP hS (lv_sub hl [0, 1, 2, 3] rfl)
      · rw [if_neg c_63] at h
        refine lv_iconst (v := 0) hx hb dL_law_336 (by decide) ?_
        cases h
    rw [if_neg c_64] at h
    by_cases c_76 : x_4 = 6
    · rw [if_pos c_76] at h
      refine lv_tableIn (off := 306) (tgt := 338) hx hb dL_law_32 (by rw [c_76]; decide) (by rw [c_76]; decide) (by rw [c_76]; rfl) (by decide) ?_
      refine lv_aload_n hx hb dL_law_338 rfl (lv_at hl 1 rfl) ?_
      refine lv_aload_n hx hb dL_law_339 rfl (lv_at hl 0 rfl) ?_
      refine lv_iload_n hx hb dL_law_340 rfl (lv_at hl 3 rfl) ?_
      refine lv_iconst (v := 1) hx hb dL_law_341 (by decide) ?_
      refine lv_iadd hx hb dL_law_342 ?_
      obtain ⟨v_65, hv_65, h⟩ := obn h
      refine w_sx hC hX hS hv_65 dL_law_343 ?_
      refine lv_aload_n hx hb dL_law_344 rfl (lv_at hl 0 rfl) ?_
      refine lv_iload_n hx hb dL_law_345 rfl (lv_at hl 3 rfl) ?_
      refine lv_iconst (v := 2) hx hb dL_law_346 (by decide) ?_
      refine lv_iadd hx hb dL_law_347 ?_
      obtain ⟨v_66, hv_66, h⟩ := obn h
      refine w_sx hC hX hS hv_66 dL_law_348 ?_
      refine lv_aload_n hx hb dL_law_349 rfl (lv_at hl 0 rfl) ?_
      refine lv_iload_n hx hb dL_law_350 rfl (lv_at hl 3 rfl) ?_
      refine lv_iconst (v := 3) hx hb dL_law_351 (by decide) ?_
      refine lv_iadd hx hb dL_law_352 ?_
      obtain ⟨v_67, hv_67, h⟩ := obn h
      refine w_sx hC hX hS hv_67 dL_law_353 ?_
      obtain ⟨u_68, hu_68, h⟩ := obn h
      obtain ⟨w_69, hw_69, h⟩ := obn h
      refine k_I (r_virt (As := [.int v_65, .int v_66, .int v_67]) (rest := []) hC hP hS (ci := 4) rfl (by decide) hu_68 (c_X4_at (l := l) (base := base) (D := D) (cI := cI) (cJ := cJ) (tS := tS) hw_69) wl_489 wl_490 wl_491 wl_98 wl_488 rfl rfl hd_X4_at ⟨Nat.le_of_ble_eq_true rfl, Nat.le_of_ble_eq_true rfl⟩ rfl hl.1 rfl (Nat.le_of_ble_eq_true rfl) dL_law_354 ⟨Nat.le_of_ble_eq_true rfl, Nat.le_of_ble_eq_true rfl⟩) hS (fun H locs hP hS => ?_)
      refine lv_aload_n hx hb dL_law_357 rfl (lv_at hl 2 rfl) ?_
      refine lv_aload_n hx hb dL_law_358 rfl (lv_at hl 0 rfl) ?_
      refine lv_iload_n hx hb dL_law_359 rfl (lv_at hl 3 rfl) ?_
      refine lv_iconst (v := 1) hx hb dL_law_360 (by decide) ?_
      refine lv_iadd hx hb dL_law_361 ?_
      obtain ⟨v_70, hv_70, h⟩ := obn h
      refine w_sx hC hX hS hv_70 dL_law_362 ?_
      refine lv_aload_n hx hb dL_law_363 rfl (lv_at hl 0 rfl) ?_
      refine lv_iload_n hx hb dL_law_364 rfl (lv_at hl 3 rfl) ?_
      refine lv_iconst (v := 2) hx hb dL_law_365 (by decide) ?_
      refine lv_iadd hx hb dL_law_366 ?_
      obtain ⟨v_71, hv_71, h⟩ := obn h
      refine w_sx hC hX hS hv_71 dL_law_367 ?_
      refine lv_aload_n hx hb dL_law_368 rfl (lv_at hl 0 rfl) ?_
      refine lv_iload_n hx hb dL_law_369 rfl (lv_at hl 3 rfl) ?_
      refine lv_iconst (v := 3) hx hb dL_law_370 (by decide) ?_
      refine lv_iadd hx hb dL_law_371 ?_
      obtain ⟨v_72, hv_72, h⟩ := obn h
      refine w_sx hC hX hS hv_72 dL_law_372 ?_
      obtain ⟨u_73, hu_73, h⟩ := obn h
      obtain ⟨w_74, hw_74, h⟩ := obn h
      refine k_I (r_virt (As := [.int v_70, .int v_71, .int v_72]) (rest := [.int w_69.1]) hC hP hS (ci := 5) rfl (by decide) hu_73 (c_X5_at (l := l) (base := base) (D := D) (cI := cI) (cJ := cJ) (tS := tS) hw_74) wl_493 wl_494 wl_495 wl_113 wl_492 rfl rfl hd_X5_at ⟨Nat.le_of_ble_eq_true rfl, Nat.le_of_ble_eq_true rfl⟩ rfl hl.1 rfl (Nat.le_of_ble_eq_true rfl) dL_law_373 ⟨Nat.le_of_ble_eq_true rfl, Nat.le_of_ble_eq_true rfl⟩) hS (fun H locs hP hS => ?_)
      refine lv_icmp_eq (tgt := 780) hx hb dL_law_376 (by decide) (fun c_75 => ?_) (fun c_75 => ?_)
      · rw [if_pos c_75] at h
        exact L_law_k780 hC hr hlocks hX ih h hP hS (lv_sub hl [0, 1, 2, 3] rfl)
      · rw [if_neg c_75] at h
        refine lv_iconst (v := 0) hx hb dL_law_379 (by decide) ?_
        cases h
    rw [if_neg c_76] at h
    by_cases c_84 : x_4 = 7
    · rw [if_pos c_84] at h
      refine lv_tableIn (off := 349) (tgt := 381) hx hb dL_law_32 (by rw [c_84]; decide) (by rw [c_84]; decide) (by rw [c_84]; rfl) (by decide) ?_
      refine lv_aload_n hx hb dL_law_381 rfl (lv_at hl 1 rfl) ?_
      refine lv_aload_n hx hb dL_law_382 rfl (lv_at hl 0 rfl) ?_
      refine lv_iload_n hx hb dL_law_383 rfl (lv_at hl 3 rfl) ?_
      refine lv_iconst (v := 1) hx hb dL_law_384 (by decide) ?_
      refine lv_iadd hx hb dL_law_385 ?_
      obtain ⟨v_77, hv_77, h⟩ := obn h
      refine w_sx hC hX hS hv_77 dL_law_386 ?_
      obtain ⟨u_78, hu_78, h⟩ := obn h
      obtain ⟨w_79, hw_79, h⟩ := obn h
      refine k_I (r_virt (As := [.int v_77]) (rest := []) hC hP hS (ci := 4) rfl (by decide) hu_78 (c_X4_say (l := l) (base := base) (D := D) (cI := cI) (cJ := cJ) (tS := tS) hw_79) wl_497 wl_498 wl_499 wl_98 wl_496 rfl rfl hd_X4_say ⟨Nat.le_of_ble_eq_true rfl, Nat.le_of_ble_eq_true rfl⟩ rfl hl.1 rfl (Nat.le_of_ble_eq_true rfl) dL_law_387 ⟨Nat.le_of_ble_eq_true rfl, Nat.le_of_ble_eq_true rfl⟩) hS (fun H locs hP hS => ?_)
      refine lv_aload_n hx hb dL_law_390 rfl (lv_at hl 2 rfl) ?_
      refine lv_aload_n hx hb dL_law_391 rfl (lv_at hl 0 rfl) ?_
      refine lv_iload_n hx hb dL_law_392 rfl (lv_at hl 3 rfl) ?_
      refine lv_iconst (v := 1) hx hb dL_law_393 (by decide) ?_
      refine lv_iadd hx hb dL_law_394 ?_
      obtain ⟨v_80, hv_80, h⟩ := obn h
      refine w_sx hC hX hS hv_80 dL_law_395 ?_
      obtain ⟨u_81, hu_81, h⟩ := obn h
      obtain ⟨w_82, hw_82, h⟩ := obn h
      refine k_I (r_virt (As := [.int v_80]) (rest := [.int w_79.1]) hC hP hS (ci := 5) rfl (by decide) hu_81 (c_X5_say (l := l) (base := base) (D := D) (cI := cI) (cJ := cJ) (tS := tS) hw_82) wl_501 wl_502 wl_503 wl_113 wl_500 rfl rfl hd_X5_say ⟨Nat.le_of_ble_eq_true rfl, Nat.le_of_ble_eq_true rfl⟩ rfl hl.1 rfl (Nat.le_of_ble_eq_true rfl) dL_law_396 ⟨Nat.le_of_ble_eq_true rfl, Nat.le_of_ble_eq_true rfl⟩) hS (fun H locs hP hS => ?_)
      refine lv_icmp_eq (tgt := 780) hx hb dL_law_399 (by decide) (fun c_83 => ?_) (fun c_83 => ?_)
      · rw [if_pos c_83] at h
        exact L_law_k780 hC hr hlocks hX ih h hP hS (lv_sub hl [0, 1, 2, 3] rfl)
      · rw [if_neg c_83] at h
        refine lv_iconst (v := 0) hx hb dL_law_402 (by decide) ?_
        cases h
    rw [if_neg c_84] at h
    by_cases c_90 : x_4 = 8
    · rw [if_pos c_90] at h
      refine lv_tableIn (off := 372) (tgt := 404) hx hb dL_law_32 (by rw [c_90]; decide) (by rw [c_90]; decide) (by rw [c_90]; rfl) (by decide) ?_
      refine lv_aload_n hx hb dL_law_404 rfl (lv_at hl 1 rfl) ?_
      obtain ⟨u_85, hu_85, h⟩ := obn h
      obtain ⟨w_86, hw_86, h⟩ := obn h
      refine k_I (r_virt (As := []) (rest := []) hC hP hS (ci := 4) rfl (by decide) hu_85 (c_X4_wipe (l := l) (base := base) (D := D) (cI := cI) (cJ := cJ) (tS := tS) hw_86) wl_505 wl_506 wl_507 wl_98 wl_504 rfl rfl hd_X4_wipe ⟨Nat.le_of_ble_eq_true rfl, Nat.le_of_ble_eq_true rfl⟩ rfl hl.1 rfl (Nat.le_of_ble_eq_true rfl) dL_law_405 ⟨Nat.le_of_ble_eq_true rfl, Nat.le_of_ble_eq_true rfl⟩) hS (fun H locs hP hS => ?_)
      refine lv_aload_n hx hb dL_law_408 rfl (lv_at hl 2 rfl) ?_
      obtain ⟨u_87, hu_87, h⟩ := obn h
      obtain ⟨w_88, hw_88, h⟩ := obn h
      refine k_I (r_virt (As := []) (rest := [.int w_86.1]) hC hP hS (ci := 5) rfl (by decide) hu_87 (c_X5_wipe (l := l) (base := base) (D := D) (cI := cI) (cJ := cJ) (tS := tS) hw_88) wl_509 wl_510 wl_511 wl_113 wl_508 rfl rfl hd_X5_wipe ⟨Nat.le_of_ble_eq_true rfl, Nat.le_of_ble_eq_true rfl⟩ rfl hl.1 rfl (Nat.le_of_ble_eq_true rfl) dL_law_409 ⟨Nat.le_of_ble_eq_true rfl, Nat.le_of_ble_eq_true rfl⟩) hS (fun H locs hP hS => ?_)
      refine lv_icmp_eq (tgt := 780) hx hb dL_law_412 (by decide) (fun c_89 => ?_) (fun c_89 => ?_)
      · rw [if_pos c_89] at h
        exact L_law_k780 hC hr hlocks hX ih h hP hS (lv_sub hl [0, 1, 2, 3] rfl)
      · rw [if_neg c_89] at h
        refine lv_iconst (v := 0) hx hb dL_law_415 (by decide) ?_
        cases h
    rw [if_neg c_90] at h
    by_cases c_96 : x_4 = 9
    · rw [if_pos c_96] at h
      refine lv_tableIn (off := 385) (tgt := 417) hx hb dL_law_32 (by rw [c_96]; decide) (by rw [c_96]; decide) (by rw [c_96]; rfl) (by decide) ?_
      refine lv_aload_n hx hb dL_law_417 rfl (lv_at hl 1 rfl) ?_
      obtain ⟨u_91, hu_91, h⟩ := obn h
      obtain ⟨w_92, hw_92, h⟩ := obn h
      refine k_I (r_virt (As := []) (rest := []) hC hP hS (ci := 4) rfl (by decide) hu_91 (c_X4_fault (l := l) (base := base) (D := D) (cI := cI) (cJ := cJ) (tS := tS) hw_92) wl_513 wl_514 wl_515 wl_98 wl_512 rfl rfl hd_X4_fault ⟨Nat.le_of_ble_eq_true rfl, Nat.le_of_ble_eq_true rfl⟩ rfl hl.1 rfl (Nat.le_of_ble_eq_true rfl) dL_law_418 ⟨Nat.le_of_ble_eq_true rfl, Nat.le_of_ble_eq_true rfl⟩) hS (fun H locs hP hS => ?_)
      refine lv_aload_n hx hb dL_law_421 rfl (lv_at hl 2 rfl) ?_
      obtain ⟨u_93, hu_93, h⟩ := obn h
      obtain ⟨w_94, hw_94, h⟩ := obn h
      refine k_I (r_virt (As := []) (rest := [.int w_92.1]) hC hP hS (ci := 5) rfl (by decide) hu_93 (c_X5_fault (l := l) (base := base) (D := D) (cI := cI) (cJ := cJ) (tS := tS) hw_94) wl_517 wl_518 wl_519 wl_113 wl_516 rfl rfl hd_X5_fault ⟨Nat.le_of_ble_eq_true rfl, Nat.le_of_ble_eq_true rfl⟩ rfl hl.1 rfl (Nat.le_of_ble_eq_true rfl) dL_law_422 ⟨Nat.le_of_ble_eq_true rfl, Nat.le_of_ble_eq_true rfl⟩) hS (fun H locs hP hS => ?_)
      refine lv_icmp_eq (tgt := 780) hx hb dL_law_425 (by decide) (fun c_95 => ?_) (fun c_95 => ?_)
      · rw [if_pos c_95] at h
        exact L_law_k780 hC hr hlocks hX ih h hP hS (lv_sub hl [0, 1, 2, 3] rfl)
      · rw [if_neg c_95] at h
        refine lv_iconst (v := 0) hx hb dL_law_428 (by decide) ?_
        cases h
    rw [if_neg c_96] at h
    by_cases c_102 : x_4 = 10
    · rw [if_pos c_102] at h
      refine lv_tableIn (off := 398) (tgt := 430) hx hb dL_law_32 (by rw [c_102]; decide) (by rw [c_102]; decide) (by rw [c_102]; rfl) (by decide) ?_
      refine lv_aload_n hx hb dL_law_430 rfl (lv_at hl 1 rfl) ?_
      obtain ⟨u_97, hu_97, h⟩ := obn h
      obtain ⟨w_98, hw_98, h⟩ := obn h
      refine k_I (r_virt (As := []) (rest := []) hC hP hS (ci := 4) rfl (by decide) hu_97 (c_X4_rule (l := l) (base := base) (D := D) (cI := cI) (cJ := cJ) (tS := tS) hw_98) wl_521 wl_522 wl_523 wl_98 wl_520 rfl rfl hd_X4_rule ⟨Nat.le_of_ble_eq_true rfl, Nat.le_of_ble_eq_true rfl⟩ rfl hl.1 rfl (Nat.le_of_ble_eq_true rfl) dL_law_431 ⟨Nat.le_of_ble_eq_true rfl, Nat.le_of_ble_eq_true rfl⟩) hS (fun H locs hP hS => ?_)
      refine lv_aload_n hx hb dL_law_434 rfl (lv_at hl 2 rfl) ?_
      obtain ⟨u_99, hu_99, h⟩ := obn h
      obtain ⟨w_100, hw_100, h⟩ := obn h
      refine k_I (r_virt (As := []) (rest := [.int w_98.1]) hC hP hS (ci := 5) rfl (by decide) hu_99 (c_X5_rule (l := l) (base := base) (D := D) (cI := cI) (cJ := cJ) (tS := tS) hw_100) wl_525 wl_526 wl_527 wl_113 wl_524 rfl rfl hd_X5_rule ⟨Nat.le_of_ble_eq_true rfl, Nat.le_of_ble_eq_true rfl⟩ rfl hl.1 rfl (Nat.le_of_ble_eq_true rfl) dL_law_435 ⟨Nat.le_of_ble_eq_true rfl, Nat.le_of_ble_eq_true rfl⟩) hS (fun H locs hP hS => ?_)
      refine lv_icmp_eq (tgt := 780) hx hb dL_law_438 (by decide) (fun c_101 => ?_) (fun c_101 => ?_)
      · rw [if_pos c_101] at h
        exact L_law_k780 hC hr hlocks hX ih h hP hS (lv_sub hl [0, 1, 2, 3] rfl)
      · rw [if_neg c_101] at h
        refine lv_iconst (v := 0) hx hb dL_law_441 (by decide) ?_
        cases h
    rw [if_neg c_102] at h
    by_cases c_108 : x_4 = 11
    · rw [if_pos c_108] at h
      refine lv_tableIn (off := 411) (tgt := 443) hx hb dL_law_32 (by rw [c_108]; decide) (by rw [c_108]; decide) (by rw [c_108]; rfl) (by decide) ?_
      refine lv_aload_n hx hb dL_law_443 rfl (lv_at hl 1 rfl) ?_
      obtain ⟨u_103, hu_103, h⟩ := obn h
      obtain ⟨w_104, hw_104, h⟩ := obn h
      refine k_I (r_virt (As := []) (rest := []) hC hP hS (ci := 4) rfl (by decide) hu_103 (c_X4_free (l := l) (base := base) (D := D) (cI := cI) (cJ := cJ) (tS := tS) hw_104) wl_529 wl_530 wl_531 wl_98 wl_528 rfl rfl hd_X4_free ⟨Nat.le_of_ble_eq_true rfl, Nat.le_of_ble_eq_true rfl⟩ rfl hl.1 rfl (Nat.le_of_ble_eq_true rfl) dL_law_444 ⟨Nat.le_of_ble_eq_true rfl, Nat.le_of_ble_eq_true rfl⟩) hS (fun H locs hP hS => ?_)
      refine lv_aload_n hx hb dL_law_447 rfl (lv_at hl 2 rfl) ?_
      obtain ⟨u_105, hu_105, h⟩ := obn h
      obtain ⟨w_106, hw_106, h⟩ := obn h
      refine k_I (r_virt (As := []) (rest := [.int w_104.1]) hC hP hS (ci := 5) rfl (by decide) hu_105 (c_X5_free (l := l) (base := base) (D := D) (cI := cI) (cJ := cJ) (tS := tS) hw_106) wl_533 wl_534 wl_535 wl_113 wl_532 rfl rfl hd_X5_free ⟨Nat.le_of_ble_eq_true rfl, Nat.le_of_ble_eq_true rfl⟩ rfl hl.1 rfl (Nat.le_of_ble_eq_true rfl) dL_law_448 ⟨Nat.le_of_ble_eq_true rfl, Nat.le_of_ble_eq_true rfl⟩) hS (fun H locs hP hS => ?_)
      refine lv_icmp_eq (tgt := 780) hx hb dL_law_451 (by decide) (fun c_107 => ?_) (fun c_107 => ?_)
      · rw [if_pos c_107] at h
        exact L_law_k780 hC hr hlocks hX ih h hP hS (lv_sub hl [0, 1, 2, 3] rfl)
      · rw [if_neg c_107] at h
        refine lv_iconst (v := 0) hx hb dL_law_454 (by decide) ?_
        cases h
    rw [if_neg c_108] at h
    by_cases c_118 : x_4 = 12
    · rw [if_pos c_118] at h
      refine lv_tableIn (off := 424) (tgt := 456) hx hb dL_law_32 (by rw [c_118]; decide) (by rw [c_118]; decide) (by rw [c_118]; rfl) (by decide) ?_
      refine lv_aload_n hx hb dL_law_456 rfl (lv_at hl 1 rfl) ?_
      refine lv_aload_n hx hb dL_law_457 rfl (lv_at hl 0 rfl) ?_
      refine lv_iload_n hx hb dL_law_458 rfl (lv_at hl 3 rfl) ?_
      refine lv_iconst (v := 1) hx hb dL_law_459 (by decide) ?_
      refine lv_iadd hx hb dL_law_460 ?_
      obtain ⟨v_109, hv_109, h⟩ := obn h
      refine w_sx hC hX hS hv_109 dL_law_461 ?_
      refine lv_aload_n hx hb dL_law_462 rfl (lv_at hl 0 rfl) ?_
      refine lv_iload_n hx hb dL_law_463 rfl (lv_at hl 3 rfl) ?_
      refine lv_iconst (v := 2) hx hb dL_law_464 (by decide) ?_
      refine lv_iadd hx hb dL_law_465 ?_
      obtain ⟨v_110, hv_110, h⟩ := obn h
      refine w_sx hC hX hS hv_110 dL_law_466 ?_
      obtain ⟨u_111, hu_111, h⟩ := obn h
      obtain ⟨w_112, hw_112, h⟩ := obn h
      refine k_I (r_virt (As := [.int v_109, .int v_110]) (rest := []) hC hP hS (ci := 4) rfl (by decide) hu_111 (c_X4_follow (l := l) (base := base) (D := D) (cI := cI) (cJ := cJ) (tS := tS) hw_112) wl_537 wl_538 wl_539 wl_98 wl_536 rfl rfl hd_X4_follow ⟨Nat.le_of_ble_eq_true rfl, Nat.le_of_ble_eq_true rfl⟩ rfl hl.1 rfl (Nat.le_of_ble_eq_true rfl) dL_law_467 ⟨Nat.le_of_ble_eq_true rfl, Nat.le_of_ble_eq_true rfl⟩) hS (fun H locs hP hS => ?_)
      refine lv_aload_n hx hb dL_law_470 rfl (lv_at hl 2 rfl) ?_
      refine lv_aload_n hx hb dL_law_471 rfl (lv_at hl 0 rfl) ?_
      refine lv_iload_n hx hb dL_law_472 rfl (lv_at hl 3 rfl) ?_
      refine lv_iconst (v := 1) hx hb dL_law_473 (by decide) ?_
      refine lv_iadd hx hb dL_law_474 ?_
      obtain ⟨v_113, hv_113, h⟩ := obn h
      refine w_sx hC hX hS hv_113 dL_law_475 ?_
      refine lv_aload_n hx hb dL_law_476 rfl (lv_at hl 0 rfl) ?_
      refine lv_iload_n hx hb dL_law_477 rfl (lv_at hl 3 rfl) ?_
      refine lv_iconst (v := 2) hx hb dL_law_478 (by decide) ?_
      refine lv_iadd hx hb dL_law_479 ?_
      obtain ⟨v_114, hv_114, h⟩ := obn h
      refine w_sx hC hX hS hv_114 dL_law_480 ?_
      obtain ⟨u_115, hu_115, h⟩ := obn h
      obtain ⟨w_116, hw_116, h⟩ := obn h
      refine k_I (r_virt (As := [.int v_113, .int v_114]) (rest := [.int w_112.1]) hC hP hS (ci := 5) rfl (by decide) hu_115 (c_X5_follow (l := l) (base := base) (D := D) (cI := cI) (cJ := cJ) (tS := tS) hw_116) wl_541 wl_542 wl_543 wl_113 wl_540 rfl rfl hd_X5_follow ⟨Nat.le_of_ble_eq_true rfl, Nat.le_of_ble_eq_true rfl⟩ rfl hl.1 rfl (Nat.le_of_ble_eq_true rfl) dL_law_481 ⟨Nat.le_of_ble_eq_true rfl, Nat.le_of_ble_eq_true rfl⟩) hS (fun H locs hP hS => ?_)
      refine lv_icmp_eq (tgt := 780) hx hb dL_law_484 (by decide) (fun c_117 => ?_) (fun c_117 => ?_)
      · rw [if_pos c_117] at h
        exact L_law_k780 hC hr hlocks hX ih h hP hS (lv_sub hl [0, 1, 2, 3] rfl)
      · rw [if_neg c_117] at h
        refine lv_iconst (v := 0) hx hb dL_law_487 (by decide) ?_
        cases h
    rw [if_neg c_118] at h
    by_cases c_126 : x_4 = 13
    · rw [if_pos c_126] at h
      refine lv_tableIn (off := 457) (tgt := 489) hx hb dL_law_32 (by rw [c_126]; decide) (by rw [c_126]; decide) (by rw [c_126]; rfl) (by decide) ?_
      refine lv_aload_n hx hb dL_law_489 rfl (lv_at hl 1 rfl) ?_
      refine lv_aload_n hx hb dL_law_490 rfl (lv_at hl 0 rfl) ?_
      refine lv_iload_n hx hb dL_law_491 rfl (lv_at hl 3 rfl) ?_
      refine lv_iconst (v := 1) hx hb dL_law_492 (by decide) ?_
      refine lv_iadd hx hb dL_law_493 ?_
      obtain ⟨v_119, hv_119, h⟩ := obn h
      refine w_sx hC hX hS hv_119 dL_law_494 ?_
      obtain ⟨u_120, hu_120, h⟩ := obn h
      obtain ⟨w_121, hw_121, h⟩ := obn h
      refine k_I (r_virt (As := [.int v_119]) (rest := []) hC hP hS (ci := 4) rfl (by decide) hu_120 (c_X4_one (l := l) (base := base) (D := D) (cI := cI) (cJ := cJ) (tS := tS) hw_121) wl_545 wl_546 wl_547 wl_98 wl_544 rfl rfl hd_X4_one ⟨Nat.le_of_ble_eq_true rfl, Nat.le_of_ble_eq_true rfl⟩ rfl hl.1 rfl (Nat.le_of_ble_eq_true rfl) dL_law_495 ⟨Nat.le_of_ble_eq_true rfl, Nat.le_of_ble_eq_true rfl⟩) hS (fun H locs hP hS => ?_)
      refine lv_aload_n hx hb dL_law_498 rfl (lv_at hl 2 rfl) ?_
      refine lv_aload_n hx hb dL_law_499 rfl (lv_at hl 0 rfl) ?_
      refine lv_iload_n hx hb dL_law_500 rfl (lv_at hl 3 rfl) ?_
      refine lv_iconst (v := 1) hx hb dL_law_501 (by decide) ?_
      refine lv_iadd hx hb dL_law_502 ?_
      obtain ⟨v_122, hv_122, h⟩ := obn h
      refine w_sx hC hX hS hv_122 dL_law_503 ?_
      obtain ⟨u_123, hu_123, h⟩ := obn h
      obtain ⟨w_124, hw_124, h⟩ := obn h
      refine k_I (r_virt (As := [.int v_122]) (rest := [.int w_121.1]) hC hP hS (ci := 5) rfl (by decide) hu_123 (c_X5_one (l := l) (base := base) (D := D) (cI := cI) (cJ := cJ) (tS := tS) hw_124) wl_549 wl_550 wl_551 wl_113 wl_548 rfl rfl hd_X5_one ⟨Nat.le_of_ble_eq_true rfl, Nat.le_of_ble_eq_true rfl⟩ rfl hl.1 rfl (Nat.le_of_ble_eq_true rfl) dL_law_504 ⟨Nat.le_of_ble_eq_true rfl, Nat.le_of_ble_eq_true rfl⟩) hS (fun H locs hP hS => ?_)
      refine lv_icmp_eq (tgt := 780) hx hb dL_law_507 (by decide) (fun c_125 => ?_) (fun c_125 => ?_)
      · rw [if_pos c_125] at h
        exact L_law_k780 hC hr hlocks hX ih h hP hS (lv_sub hl [0, 1, 2, 3] rfl)
      · rw [if_neg c_125] at h
        refine lv_iconst (v := 0) hx hb dL_law_510 (by decide) ?_
        cases h
    rw [if_neg c_126] at h
    by_cases c_132 : x_4 = 14
    · rw [if_pos c_132] at h
      refine lv_tableIn (off := 480) (tgt := 512) hx hb dL_law_32 (by rw [c_132]; decide) (by rw [c_132]; decide) (by rw [c_132]; rfl) (by decide) ?_
      refine lv_aload_n hx hb dL_law_512 rfl (lv_at hl 1 rfl) ?_
      obtain ⟨u_127, hu_127, h⟩ := obn h
      obtain ⟨w_128, hw_128, h⟩ := obn h
      refine k_I (r_virt (As := []) (rest := []) hC hP hS (ci := 4) rfl (by decide) hu_127 (c_X4_began (l := l) (base := base) (D := D) (cI := cI) (cJ := cJ) (tS := tS) hw_128) wl_553 wl_554 wl_555 wl_98 wl_552 rfl rfl hd_X4_began ⟨Nat.le_of_ble_eq_true rfl, Nat.le_of_ble_eq_true rfl⟩ rfl hl.1 rfl (Nat.le_of_ble_eq_true rfl) dL_law_513 ⟨Nat.le_of_ble_eq_true rfl, Nat.le_of_ble_eq_true rfl⟩) hS (fun H locs hP hS => ?_)
      refine lv_aload_n hx hb dL_law_516 rfl (lv_at hl 2 rfl) ?_
      obtain ⟨u_129, hu_129, h⟩ := obn h
      obtain ⟨w_130, hw_130, h⟩ := obn h
      refine k_I (r_virt (As := []) (rest := [.int w_128.1]) hC hP hS (ci := 5) rfl (by decide) hu_129 (c_X5_began (l := l) (base := base) (D := D) (cI := cI) (cJ := cJ) (tS := tS) hw_130) wl_557 wl_558 wl_559 wl_113 wl_556 rfl rfl hd_X5_began ⟨Nat.le_of_ble_eq_true rfl, Nat.le_of_ble_eq_true rfl⟩ rfl hl.1 rfl (Nat.le_of_ble_eq_true rfl) dL_law_517 ⟨Nat.le_of_ble_eq_true rfl, Nat.le_of_ble_eq_true rfl⟩) hS (fun H locs hP hS => ?_)
      refine lv_icmp_eq (tgt := 780) hx hb dL_law_520 (by decide) (fun c_131 => ?_) (fun c_131 => ?_)
      · rw [if_pos c_131] at h
        exact L_law_k780 hC hr hlocks hX ih h hP hS (lv_sub hl [0, 1, 2, 3] rfl)
      · rw [if_neg c_131] at h
        refine lv_iconst (v := 0) hx hb dL_law_523 (by decide) ?_
        cases h
    rw [if_neg c_132] at h
    by_cases c_140 : x_4 = 15
    · rw [if_pos c_140] at h
      refine lv_tableIn (off := 493) (tgt := 525) hx hb dL_law_32 (by rw [c_140]; decide) (by rw [c_140]; decide) (by rw [c_140]; rfl) (by decide) ?_
      refine lv_aload_n hx hb dL_law_525 rfl (lv_at hl 1 rfl) ?_
      refine lv_aload_n hx hb dL_law_526 rfl (lv_at hl 0 rfl) ?_
      refine lv_iload_n hx hb dL_law_527 rfl (lv_at hl 3 rfl) ?_
      refine lv_iconst (v := 1) hx hb dL_law_528 (by decide) ?_
      refine lv_iadd hx hb dL_law_529 ?_
      obtain ⟨v_133, hv_133, h⟩ := obn h
      refine w_sx hC hX hS hv_133 dL_law_530 ?_
      obtain ⟨u_134, hu_134, h⟩ := obn h
      obtain ⟨w_135, hw_135, h⟩ := obn h
      refine k_I (r_virt (As := [.int v_133]) (rest := []) hC hP hS (ci := 4) rfl (by decide) hu_134 (c_X4_spread (l := l) (base := base) (D := D) (cI := cI) (cJ := cJ) (tS := tS) hw_135) wl_561 wl_562 wl_563 wl_98 wl_560 rfl rfl hd_X4_spread ⟨Nat.le_of_ble_eq_true rfl, Nat.le_of_ble_eq_true rfl⟩ rfl hl.1 rfl (Nat.le_of_ble_eq_true rfl) dL_law_531 ⟨Nat.le_of_ble_eq_true rfl, Nat.le_of_ble_eq_true rfl⟩) hS (fun H locs hP hS => ?_)
      refine lv_aload_n hx hb dL_law_534 rfl (lv_at hl 2 rfl) ?_
      refine lv_aload_n hx hb dL_law_535 rfl (lv_at hl 0 rfl) ?_
      refine lv_iload_n hx hb dL_law_536 rfl (lv_at hl 3 rfl) ?_
      refine lv_iconst (v := 1) hx hb dL_law_537 (by decide) ?_
      refine lv_iadd hx hb dL_law_538 ?_
      obtain ⟨v_136, hv_136, h⟩ := obn h
      refine w_sx hC hX hS hv_136 dL_law_539 ?_
      obtain ⟨u_137, hu_137, h⟩ := obn h
      obtain ⟨w_138, hw_138, h⟩ := obn h
      refine k_I (r_virt (As := [.int v_136]) (rest := [.int w_135.1]) hC hP hS (ci := 5) rfl (by decide) hu_137 (c_X5_spread (l := l) (base := base) (D := D) (cI := cI) (cJ := cJ) (tS := tS) hw_138) wl_565 wl_566 wl_567 wl_113 wl_564 rfl rfl hd_X5_spread ⟨Nat.le_of_ble_eq_true rfl, Nat.le_of_ble_eq_true rfl⟩ rfl hl.1 rfl (Nat.le_of_ble_eq_true rfl) dL_law_540 ⟨Nat.le_of_ble_eq_true rfl, Nat.le_of_ble_eq_true rfl⟩) hS (fun H locs hP hS => ?_)
      refine lv_icmp_eq (tgt := 780) hx hb dL_law_543 (by decide) (fun c_139 => ?_) (fun c_139 => ?_)
      · rw [if_pos c_139] at h
        exact L_law_k780 hC hr hlocks hX ih h hP hS (lv_sub hl [0, 1, 2, 3] rfl)
      · rw [if_neg c_139] at h
        refine lv_iconst (v := 0) hx hb dL_law_546 (by decide) ?_
        cases h
    rw [if_neg c_140] at h
    by_cases c_150 : x_4 = 16
    · rw [if_pos c_150] at h
      refine lv_tableIn (off := 516) (tgt := 548) hx hb dL_law_32 (by rw [c_150]; decide) (by rw [c_150]; decide) (by rw [c_150]; rfl) (by decide) ?_
      refine lv_aload_n hx hb dL_law_548 rfl (lv_at hl 1 rfl) ?_
      refine lv_aload_n hx hb dL_law_549 rfl (lv_at hl 0 rfl) ?_
      refine lv_iload_n hx hb dL_law_550 rfl (lv_at hl 3 rfl) ?_
      refine lv_iconst (v := 1) hx hb dL_law_551 (by decide) ?_
      refine lv_iadd hx hb dL_law_552 ?_
      obtain ⟨v_141, hv_141, h⟩ := obn h
      refine w_sx hC hX hS hv_141 dL_law_553 ?_
      refine lv_aload_n hx hb dL_law_554 rfl (lv_at hl 0 rfl) ?_
      refine lv_iload_n hx hb dL_law_555 rfl (lv_at hl 3 rfl) ?_
      refine lv_iconst (v := 2) hx hb dL_law_556 (by decide) ?_
      refine lv_iadd hx hb dL_law_557 ?_
      obtain ⟨v_142, hv_142, h⟩ := obn h
      refine w_sx hC hX hS hv_142 dL_law_558 ?_
      obtain ⟨u_143, hu_143, h⟩ := obn h
      obtain ⟨w_144, hw_144, h⟩ := obn h
      refine k_I (r_virt (As := [.int v_141, .int v_142]) (rest := []) hC hP hS (ci := 4) rfl (by decide) hu_143 (c_X4_waited (l := l) (base := base) (D := D) (cI := cI) (cJ := cJ) (tS := tS) hw_144) wl_569 wl_570 wl_571 wl_98 wl_568 rfl rfl hd_X4_waited ⟨Nat.le_of_ble_eq_true rfl, Nat.le_of_ble_eq_true rfl⟩ rfl hl.1 rfl (Nat.le_of_ble_eq_true rfl) dL_law_559 ⟨Nat.le_of_ble_eq_true rfl, Nat.le_of_ble_eq_true rfl⟩) hS (fun H locs hP hS => ?_)
      refine lv_aload_n hx hb dL_law_562 rfl (lv_at hl 2 rfl) ?_
      refine lv_aload_n hx hb dL_law_563 rfl (lv_at hl 0 rfl) ?_
      refine lv_iload_n hx hb dL_law_564 rfl (lv_at hl 3 rfl) ?_
      refine lv_iconst (v := 1) hx hb dL_law_565 (by decide) ?_
      refine lv_iadd hx hb dL_law_566 ?_
      obtain ⟨v_145, hv_145, h⟩ := obn h
      refine w_sx hC hX hS hv_145 dL_law_567 ?_
      refine lv_aload_n hx hb dL_law_568 rfl (lv_at hl 0 rfl) ?_
      refine lv_iload_n hx hb dL_law_569 rfl (lv_at hl 3 rfl) ?_
      refine lv_iconst (v := 2) hx hb dL_law_570 (by decide) ?_
      refine lv_iadd hx hb dL_law_571 ?_
      obtain ⟨v_146, hv_146, h⟩ := obn h
      refine w_sx hC hX hS hv_146 dL_law_572 ?_
      obtain ⟨u_147, hu_147, h⟩ := obn h
      obtain ⟨w_148, hw_148, h⟩ := obn h
      refine k_I (r_virt (As := [.int v_145, .int v_146]) (rest := [.int w_144.1]) hC hP hS (ci := 5) rfl (by decide) hu_147 (c_X5_waited (l := l) (base := base) (D := D) (cI := cI) (cJ := cJ) (tS := tS) hw_148) wl_573 wl_574 wl_575 wl_113 wl_572 rfl rfl hd_X5_waited ⟨Nat.le_of_ble_eq_true rfl, Nat.le_of_ble_eq_true rfl⟩ rfl hl.1 rfl (Nat.le_of_ble_eq_true rfl) dL_law_573 ⟨Nat.le_of_ble_eq_true rfl, Nat.le_of_ble_eq_true rfl⟩) hS (fun H locs hP hS => ?_)
      refine lv_icmp_eq (tgt := 780) hx hb dL_law_576 (by decide) (fun c_149 => ?_) (fun c_149 => ?_)
      · rw [if_pos c_149] at h
        exact L_law_k780 hC hr hlocks hX ih h hP hS (lv_sub hl [0, 1, 2, 3] rfl)
      · rw [if_neg c_149] at h
        refine lv_iconst (v := 0) hx hb dL_law_579 (by decide) ?_
        cases h
    rw [if_neg c_150] at h
    by_cases c_162 : x_4 = 17
    · rw [if_pos c_162] at h
      refine lv_tableIn (off := 549) (tgt := 581) hx hb dL_law_32 (by rw [c_162]; decide) (by rw [c_162]; decide) (by rw [c_162]; rfl) (by decide) ?_
      refine lv_aload_n hx hb dL_law_581 rfl (lv_at hl 1 rfl) ?_
      refine lv_aload_n hx hb dL_law_582 rfl (lv_at hl 0 rfl) ?_
      refine lv_iload_n hx hb dL_law_583 rfl (lv_at hl 3 rfl) ?_
      refine lv_iconst (v := 1) hx hb dL_law_584 (by decide) ?_
      refine lv_iadd hx hb dL_law_585 ?_
      obtain ⟨v_151, hv_151, h⟩ := obn h
      refine w_sx hC hX hS hv_151 dL_law_586 ?_
      refine lv_aload_n hx hb dL_law_587 rfl (lv_at hl 0 rfl) ?_
      refine lv_iload_n hx hb dL_law_588 rfl (lv_at hl 3 rfl) ?_
      refine lv_iconst (v := 2) hx hb dL_law_589 (by decide) ?_
      refine lv_iadd hx hb dL_law_590 ?_
      obtain ⟨v_152, hv_152, h⟩ := obn h
      refine w_sx hC hX hS hv_152 dL_law_591 ?_
      refine lv_aload_n hx hb dL_law_592 rfl (lv_at hl 0 rfl) ?_
      refine lv_iload_n hx hb dL_law_593 rfl (lv_at hl 3 rfl) ?_
      refine lv_iconst (v := 3) hx hb dL_law_594 (by decide) ?_
      refine lv_iadd hx hb dL_law_595 ?_
      obtain ⟨v_153, hv_153, h⟩ := obn h
      refine w_sx hC hX hS hv_153 dL_law_596 ?_
      obtain ⟨u_154, hu_154, h⟩ := obn h
      obtain ⟨w_155, hw_155, h⟩ := obn h
      refine k_J (r_virt (As := [.int v_151, .int v_152, .int v_153]) (rest := []) hC hP hS (ci := 4) rfl (by decide) hu_154 (c_X4_mean (l := l) (base := base) (D := D) (cI := cI) (cJ := cJ) (tS := tS) hw_155) wl_577 wl_578 wl_579 wl_98 wl_576 rfl rfl hd_X4_mean ⟨Nat.le_of_ble_eq_true rfl, Nat.le_of_ble_eq_true rfl⟩ rfl hl.1 rfl (Nat.le_of_ble_eq_true rfl) dL_law_597 ⟨Nat.le_of_ble_eq_true rfl, Nat.le_of_ble_eq_true rfl⟩) hS (fun H locs hP hS => ?_)
      refine lv_aload_n hx hb dL_law_600 rfl (lv_at hl 2 rfl) ?_
      refine lv_aload_n hx hb dL_law_601 rfl (lv_at hl 0 rfl) ?_
      refine lv_iload_n hx hb dL_law_602 rfl (lv_at hl 3 rfl) ?_
      refine lv_iconst (v := 1) hx hb dL_law_603 (by decide) ?_
      refine lv_iadd hx hb dL_law_604 ?_
      obtain ⟨v_156, hv_156, h⟩ := obn h
      refine w_sx hC hX hS hv_156 dL_law_605 ?_
      refine lv_aload_n hx hb dL_law_606 rfl (lv_at hl 0 rfl) ?_
      refine lv_iload_n hx hb dL_law_607 rfl (lv_at hl 3 rfl) ?_
      refine lv_iconst (v := 2) hx hb dL_law_608 (by decide) ?_
      refine lv_iadd hx hb dL_law_609 ?_
      obtain ⟨v_157, hv_157, h⟩ := obn h
      refine w_sx hC hX hS hv_157 dL_law_610 ?_
      refine lv_aload_n hx hb dL_law_611 rfl (lv_at hl 0 rfl) ?_
      refine lv_iload_n hx hb dL_law_612 rfl (lv_at hl 3 rfl) ?_
      refine lv_iconst (v := 3) hx hb dL_law_613 (by decide) ?_
      refine lv_iadd hx hb dL_law_614 ?_
      obtain ⟨v_158, hv_158, h⟩ := obn h
      refine w_sx hC hX hS hv_158 dL_law_615 ?_
      obtain ⟨u_159, hu_159, h⟩ := obn h
      obtain ⟨w_160, hw_160, h⟩ := obn h
      refine k_J (r_virt (As := [.int v_156, .int v_157, .int v_158]) (rest := [.long w_155.1]) hC hP hS (ci := 5) rfl (by decide) hu_159 (c_X5_mean (l := l) (base := base) (D := D) (cI := cI) (cJ := cJ) (tS := tS) hw_160) wl_581 wl_582 wl_583 wl_113 wl_580 rfl rfl hd_X5_mean ⟨Nat.le_of_ble_eq_true rfl, Nat.le_of_ble_eq_true rfl⟩ rfl hl.1 rfl (Nat.le_of_ble_eq_true rfl) dL_law_616 ⟨Nat.le_of_ble_eq_true rfl, Nat.le_of_ble_eq_true rfl⟩) hS (fun H locs hP hS => ?_)
      refine W.lcmp hx hb dL_law_619 ?_
      refine lv_if_eq (tgt := 780) hx hb dL_law_620 (by decide) (fun c_161 => ?_) (fun c_161 => ?_)
      · rw [if_pos c_161] at h
        exact L_law_k780 hC hr hlocks hX ih h hP hS (lv_sub hl [0, 1, 2, 3] rfl)
      · rw [if_neg c_161] at h
        refine lv_iconst (v := 0) hx hb dL_law_623 (by decide) ?_
        cases h
    rw [if_neg c_162] at h
    by_cases c_170 : x_4 = 18
    · rw [if_pos c_170] at h
      refine lv_tableIn (off := 593) (tgt := 625) hx hb dL_law_32 (by rw [c_170]; decide) (by rw [c_170]; decide) (by rw [c_170]; rfl) (by decide) ?_
      refine lv_aload_n hx hb dL_law_625 rfl (lv_at hl 1 rfl) ?_
      refine lv_aload_n hx hb dL_law_626 rfl (lv_at hl 0 rfl) ?_
      refine lv_iload_n hx hb dL_law_627 rfl (lv_at hl 3 rfl) ?_
      refine lv_iconst (v := 1) hx hb dL_law_628 (by decide) ?_
      refine lv_iadd hx hb dL_law_629 ?_
      obtain ⟨v_163, hv_163, h⟩ := obn h
      refine w_sx hC hX hS hv_163 dL_law_630 ?_
      obtain ⟨u_164, hu_164, h⟩ := obn h
      obtain ⟨w_165, hw_165, h⟩ := obn h
      refine k_I (r_virt (As := [.int v_163]) (rest := []) hC hP hS (ci := 4) rfl (by decide) hu_164 (c_X4_all (l := l) (base := base) (D := D) (cI := cI) (cJ := cJ) (tS := tS) hw_165) wl_585 wl_586 wl_587 wl_98 wl_584 rfl rfl hd_X4_all ⟨Nat.le_of_ble_eq_true rfl, Nat.le_of_ble_eq_true rfl⟩ rfl hl.1 rfl (Nat.le_of_ble_eq_true rfl) dL_law_631 ⟨Nat.le_of_ble_eq_true rfl, Nat.le_of_ble_eq_true rfl⟩) hS (fun H locs hP hS => ?_)
      refine lv_aload_n hx hb dL_law_634 rfl (lv_at hl 2 rfl) ?_
      refine lv_aload_n hx hb dL_law_635 rfl (lv_at hl 0 rfl) ?_
      refine lv_iload_n hx hb dL_law_636 rfl (lv_at hl 3 rfl) ?_
      refine lv_iconst (v := 1) hx hb dL_law_637 (by decide) ?_
      refine lv_iadd hx hb dL_law_638 ?_
      obtain ⟨v_166, hv_166, h⟩ := obn h
      refine w_sx hC hX hS hv_166 dL_law_639 ?_
      obtain ⟨u_167, hu_167, h⟩ := obn h
      obtain ⟨w_168, hw_168, h⟩ := obn h
      refine k_I (r_virt (As := [.int v_166]) (rest := [.int w_165.1]) hC hP hS (ci := 5) rfl (by decide) hu_167 (c_X5_all (l := l) (base := base) (D := D) (cI := cI) (cJ := cJ) (tS := tS) hw_168) wl_589 wl_590 wl_591 wl_113 wl_588 rfl rfl hd_X5_all ⟨Nat.le_of_ble_eq_true rfl, Nat.le_of_ble_eq_true rfl⟩ rfl hl.1 rfl (Nat.le_of_ble_eq_true rfl) dL_law_640 ⟨Nat.le_of_ble_eq_true rfl, Nat.le_of_ble_eq_true rfl⟩) hS (fun H locs hP hS => ?_)
      refine lv_icmp_eq (tgt := 780) hx hb dL_law_643 (by decide) (fun c_169 => ?_) (fun c_169 => ?_)
      · rw [if_pos c_169] at h
        exact L_law_k780 hC hr hlocks hX ih h hP hS (lv_sub hl [0, 1, 2, 3] rfl)
      · rw [if_neg c_169] at h
        refine lv_iconst (v := 0) hx hb dL_law_646 (by decide) ?_
        cases h
    rw [if_neg c_170] at h
    by_cases c_182 : x_4 = 19
    · rw [if_pos c_182] at h
      refine lv_tableIn (off := 616) (tgt := 648) hx hb dL_law_32 (by rw [c_182]; decide) (by rw [c_182]; decide) (by rw [c_182]; rfl) (by decide) ?_
      refine lv_aload_n hx hb dL_law_648 rfl (lv_at hl 1 rfl) ?_
      refine lv_aload_n hx hb dL_law_649 rfl (lv_at hl 0 rfl) ?_
      refine lv_iload_n hx hb dL_law_650 rfl (lv_at hl 3 rfl) ?_
      refine lv_iconst (v := 1) hx hb dL_law_651 (by decide) ?_
      refine lv_iadd hx hb dL_law_652 ?_
      obtain ⟨v_171, hv_171, h⟩ := obn h
      refine w_sx hC hX hS hv_171 dL_law_653 ?_
      refine lv_aload_n hx hb dL_law_654 rfl (lv_at hl 0 rfl) ?_
      refine lv_iload_n hx hb dL_law_655 rfl (lv_at hl 3 rfl) ?_
      refine lv_iconst (v := 2) hx hb dL_law_656 (by decide) ?_
      refine lv_iadd hx hb dL_law_657 ?_
      obtain ⟨v_172, hv_172, h⟩ := obn h
      refine w_sx hC hX hS hv_172 dL_law_658 ?_
      refine lv_aload_n hx hb dL_law_659 rfl (lv_at hl 0 rfl) ?_
      refine lv_iload_n hx hb dL_law_660 rfl (lv_at hl 3 rfl) ?_
      refine lv_iconst (v := 3) hx hb dL_law_661 (by decide) ?_
      refine lv_iadd hx hb dL_law_662 ?_
      obtain ⟨v_173, hv_173, h⟩ := obn h
      refine w_sx hC hX hS hv_173 dL_law_663 ?_
      obtain ⟨u_174, hu_174, h⟩ := obn h
      obtain ⟨w_175, hw_175, h⟩ := obn h
      refine k_I (r_virt (As := [.int v_171, .int v_172, .int v_173]) (rest := []) hC hP hS (ci := 4) rfl (by decide) hu_174 (c_X4_held (l := l) (base := base) (D := D) (cI := cI) (cJ := cJ) (tS := tS) hw_175) wl_593 wl_594 wl_595 wl_98 wl_592 rfl rfl hd_X4_held ⟨Nat.le_of_ble_eq_true rfl, Nat.le_of_ble_eq_true rfl⟩ rfl hl.1 rfl (Nat.le_of_ble_eq_true rfl) dL_law_664 ⟨Nat.le_of_ble_eq_true rfl, Nat.le_of_ble_eq_true rfl⟩) hS (fun H locs hP hS => ?_)
      refine lv_aload_n hx hb dL_law_667 rfl (lv_at hl 2 rfl) ?_
      refine lv_aload_n hx hb dL_law_668 rfl (lv_at hl 0 rfl) ?_
      refine lv_iload_n hx hb dL_law_669 rfl (lv_at hl 3 rfl) ?_
      refine lv_iconst (v := 1) hx hb dL_law_670 (by decide) ?_
      refine lv_iadd hx hb dL_law_671 ?_
      obtain ⟨v_176, hv_176, h⟩ := obn h
      refine w_sx hC hX hS hv_176 dL_law_672 ?_
      refine lv_aload_n hx hb dL_law_673 rfl (lv_at hl 0 rfl) ?_
      refine lv_iload_n hx hb dL_law_674 rfl (lv_at hl 3 rfl) ?_
      refine lv_iconst (v := 2) hx hb dL_law_675 (by decide) ?_
      refine lv_iadd hx hb dL_law_676 ?_
      obtain ⟨v_177, hv_177, h⟩ := obn h
      refine w_sx hC hX hS hv_177 dL_law_677 ?_
      refine lv_aload_n hx hb dL_law_678 rfl (lv_at hl 0 rfl) ?_
      refine lv_iload_n hx hb dL_law_679 rfl (lv_at hl 3 rfl) ?_
      refine lv_iconst (v := 3) hx hb dL_law_680 (by decide) ?_
      refine lv_iadd hx hb dL_law_681 ?_
      obtain ⟨v_178, hv_178, h⟩ := obn h
      refine w_sx hC hX hS hv_178 dL_law_682 ?_
      obtain ⟨u_179, hu_179, h⟩ := obn h
      obtain ⟨w_180, hw_180, h⟩ := obn h
      refine k_I (r_virt (As := [.int v_176, .int v_177, .int v_178]) (rest := [.int w_175.1]) hC hP hS (ci := 5) rfl (by decide) hu_179 (c_X5_held (l := l) (base := base) (D := D) (cI := cI) (cJ := cJ) (tS := tS) hw_180) wl_597 wl_598 wl_599 wl_113 wl_596 rfl rfl hd_X5_held ⟨Nat.le_of_ble_eq_true rfl, Nat.le_of_ble_eq_true rfl⟩ rfl hl.1 rfl (Nat.le_of_ble_eq_true rfl) dL_law_683 ⟨Nat.le_of_ble_eq_true rfl, Nat.le_of_ble_eq_true rfl⟩) hS (fun H locs hP hS => ?_)
      refine lv_icmp_eq (tgt := 780) hx hb dL_law_686 (by decide) (fun c_181 => ?_) (fun c_181 => ?_)
      · rw [if_pos c_181] at h
        exact L_law_k780 hC hr hlocks hX ih h hP hS (lv_sub hl [0, 1, 2, 3] rfl)
      · rw [if_neg c_181] at h
        refine lv_iconst (v := 0) hx hb dL_law_689 (by decide) ?_
        cases h
    rw [if_neg c_182] at h
    by_cases c_194 : x_4 = 20
    · rw [if_pos c_194] at h
      refine lv_tableIn (off := 659) (tgt := 691) hx hb dL_law_32 (by rw [c_194]; decide) (by rw [c_194]; decide) (by rw [c_194]; rfl) (by decide) ?_
      refine lv_aload_n hx hb dL_law_691 rfl (lv_at hl 1 rfl) ?_
      refine lv_aload_n hx hb dL_law_692 rfl (lv_at hl 0 rfl) ?_
      refine lv_iload_n hx hb dL_law_693 rfl (lv_at hl 3 rfl) ?_
      refine lv_iconst (v := 1) hx hb dL_law_694 (by decide) ?_
      refine lv_iadd hx hb dL_law_695 ?_
      obtain ⟨v_183, hv_183, h⟩ := obn h
      refine w_sx hC hX hS hv_183 dL_law_696 ?_
      refine lv_aload_n hx hb dL_law_697 rfl (lv_at hl 0 rfl) ?_
      refine lv_iload_n hx hb dL_law_698 rfl (lv_at hl 3 rfl) ?_
      refine lv_iconst (v := 2) hx hb dL_law_699 (by decide) ?_
      refine lv_iadd hx hb dL_law_700 ?_
      obtain ⟨v_184, hv_184, h⟩ := obn h
      refine w_sx hC hX hS hv_184 dL_law_701 ?_
      refine lv_aload_n hx hb dL_law_702 rfl (lv_at hl 0 rfl) ?_
      refine lv_iload_n hx hb dL_law_703 rfl (lv_at hl 3 rfl) ?_
      refine lv_iconst (v := 3) hx hb dL_law_704 (by decide) ?_
      refine lv_iadd hx hb dL_law_705 ?_
      obtain ⟨v_185, hv_185, h⟩ := obn h
      refine w_sx hC hX hS hv_185 dL_law_706 ?_
      obtain ⟨u_186, hu_186, h⟩ := obn h
      obtain ⟨w_187, hw_187, h⟩ := obn h
      refine k_I (r_virt (As := [.int v_183, .int v_184, .int v_185]) (rest := []) hC hP hS (ci := 4) rfl (by decide) hu_186 (c_X4_board (l := l) (base := base) (D := D) (cI := cI) (cJ := cJ) (tS := tS) hw_187) wl_601 wl_602 wl_603 wl_98 wl_600 rfl rfl hd_X4_board ⟨Nat.le_of_ble_eq_true rfl, Nat.le_of_ble_eq_true rfl⟩ rfl hl.1 rfl (Nat.le_of_ble_eq_true rfl) dL_law_707 ⟨Nat.le_of_ble_eq_true rfl, Nat.le_of_ble_eq_true rfl⟩) hS (fun H locs hP hS => ?_)
      refine lv_aload_n hx hb dL_law_710 rfl (lv_at hl 2 rfl) ?_
      refine lv_aload_n hx hb dL_law_711 rfl (lv_at hl 0 rfl) ?_
      refine lv_iload_n hx hb dL_law_712 rfl (lv_at hl 3 rfl) ?_
      refine lv_iconst (v := 1) hx hb dL_law_713 (by decide) ?_
      refine lv_iadd hx hb dL_law_714 ?_
      obtain ⟨v_188, hv_188, h⟩ := obn h
      refine w_sx hC hX hS hv_188 dL_law_715 ?_
      refine lv_aload_n hx hb dL_law_716 rfl (lv_at hl 0 rfl) ?_
      refine lv_iload_n hx hb dL_law_717 rfl (lv_at hl 3 rfl) ?_
      refine lv_iconst (v := 2) hx hb dL_law_718 (by decide) ?_
      refine lv_iadd hx hb dL_law_719 ?_
      obtain ⟨v_189, hv_189, h⟩ := obn h
      refine w_sx hC hX hS hv_189 dL_law_720 ?_
      refine lv_aload_n hx hb dL_law_721 rfl (lv_at hl 0 rfl) ?_
      refine lv_iload_n hx hb dL_law_722 rfl (lv_at hl 3 rfl) ?_
      refine lv_iconst (v := 3) hx hb dL_law_723 (by decide) ?_
      refine lv_iadd hx hb dL_law_724 ?_
      obtain ⟨v_190, hv_190, h⟩ := obn h
      refine w_sx hC hX hS hv_190 dL_law_725 ?_
      obtain ⟨u_191, hu_191, h⟩ := obn h
      obtain ⟨w_192, hw_192, h⟩ := obn h
      refine k_I (r_virt (As := [.int v_188, .int v_189, .int v_190]) (rest := [.int w_187.1]) hC hP hS (ci := 5) rfl (by decide) hu_191 (c_X5_board (l := l) (base := base) (D := D) (cI := cI) (cJ := cJ) (tS := tS) hw_192) wl_605 wl_606 wl_607 wl_113 wl_604 rfl rfl hd_X5_board ⟨Nat.le_of_ble_eq_true rfl, Nat.le_of_ble_eq_true rfl⟩ rfl hl.1 rfl (Nat.le_of_ble_eq_true rfl) dL_law_726 ⟨Nat.le_of_ble_eq_true rfl, Nat.le_of_ble_eq_true rfl⟩) hS (fun H locs hP hS => ?_)
      refine lv_icmp_eq (tgt := 780) hx hb dL_law_729 (by decide) (fun c_193 => ?_) (fun c_193 => ?_)
      · rw [if_pos c_193] at h
        exact L_law_k780 hC hr hlocks hX ih h hP hS (lv_sub hl [0, 1, 2, 3] rfl)
      · rw [if_neg c_193] at h
        refine lv_iconst (v := 0) hx hb dL_law_732 (by decide) ?_
        cases h
    rw [if_neg c_194] at h
    by_cases c_202 : x_4 = 21
    · rw [if_pos c_202] at h
      refine lv_tableIn (off := 702) (tgt := 734) hx hb dL_law_32 (by rw [c_202]; decide) (by rw [c_202]; decide) (by rw [c_202]; rfl) (by decide) ?_
      refine lv_aload_n hx hb dL_law_734 rfl (lv_at hl 1 rfl) ?_
      refine lv_aload_n hx hb dL_law_735 rfl (lv_at hl 0 rfl) ?_
      refine lv_iload_n hx hb dL_law_736 rfl (lv_at hl 3 rfl) ?_
      refine lv_iconst (v := 1) hx hb dL_law_737 (by decide) ?_
      refine lv_iadd hx hb dL_law_738 ?_
      obtain ⟨v_195, hv_195, h⟩ := obn h
      refine w_sx hC hX hS hv_195 dL_law_739 ?_
      obtain ⟨u_196, hu_196, h⟩ := obn h
      obtain ⟨w_197, hw_197, h⟩ := obn h
      refine k_I (r_virt (As := [.int v_195]) (rest := []) hC hP hS (ci := 4) rfl (by decide) hu_196 (c_X4_best (l := l) (base := base) (D := D) (cI := cI) (cJ := cJ) (tS := tS) hw_197) wl_609 wl_610 wl_611 wl_98 wl_608 rfl rfl hd_X4_best ⟨Nat.le_of_ble_eq_true rfl, Nat.le_of_ble_eq_true rfl⟩ rfl hl.1 rfl (Nat.le_of_ble_eq_true rfl) dL_law_740 ⟨Nat.le_of_ble_eq_true rfl, Nat.le_of_ble_eq_true rfl⟩) hS (fun H locs hP hS => ?_)
      refine lv_aload_n hx hb dL_law_743 rfl (lv_at hl 2 rfl) ?_
      refine lv_aload_n hx hb dL_law_744 rfl (lv_at hl 0 rfl) ?_
      refine lv_iload_n hx hb dL_law_745 rfl (lv_at hl 3 rfl) ?_
      refine lv_iconst (v := 1) hx hb dL_law_746 (by decide) ?_
      refine lv_iadd hx hb dL_law_747 ?_
      obtain ⟨v_198, hv_198, h⟩ := obn h
      refine w_sx hC hX hS hv_198 dL_law_748 ?_
      obtain ⟨u_199, hu_199, h⟩ := obn h
      obtain ⟨w_200, hw_200, h⟩ := obn h
      refine k_I (r_virt (As := [.int v_198]) (rest := [.int w_197.1]) hC hP hS (ci := 5) rfl (by decide) hu_199 (c_X5_best (l := l) (base := base) (D := D) (cI := cI) (cJ := cJ) (tS := tS) hw_200) wl_613 wl_614 wl_615 wl_113 wl_612 rfl rfl hd_X5_best ⟨Nat.le_of_ble_eq_true rfl, Nat.le_of_ble_eq_true rfl⟩ rfl hl.1 rfl (Nat.le_of_ble_eq_true rfl) dL_law_749 ⟨Nat.le_of_ble_eq_true rfl, Nat.le_of_ble_eq_true rfl⟩) hS (fun H locs hP hS => ?_)
      refine lv_icmp_eq (tgt := 780) hx hb dL_law_752 (by decide) (fun c_201 => ?_) (fun c_201 => ?_)
      · rw [if_pos c_201] at h
        exact L_law_k780 hC hr hlocks hX ih h hP hS (lv_sub hl [0, 1, 2, 3] rfl)
      · rw [if_neg c_201] at h
        refine lv_iconst (v := 0) hx hb dL_law_755 (by decide) ?_
        cases h
    rw [if_neg c_202] at h
    by_cases c_210 : x_4 = 22
    · rw [if_pos c_210] at h
      refine lv_tableIn (off := 725) (tgt := 757) hx hb dL_law_32 (by rw [c_210]; decide) (by rw [c_210]; decide) (by rw [c_210]; rfl) (by decide) ?_
      refine lv_aload_n hx hb dL_law_757 rfl (lv_at hl 1 rfl) ?_
      refine lv_aload_n hx hb dL_law_758 rfl (lv_at hl 0 rfl) ?_
      refine lv_iload_n hx hb dL_law_759 rfl (lv_at hl 3 rfl) ?_
      refine lv_iconst (v := 1) hx hb dL_law_760 (by decide) ?_
      refine lv_iadd hx hb dL_law_761 ?_
      obtain ⟨v_203, hv_203, h⟩ := obn h
      refine w_sx hC hX hS hv_203 dL_law_762 ?_
      obtain ⟨u_204, hu_204, h⟩ := obn h
      obtain ⟨w_205, hw_205, h⟩ := obn h
      refine k_I (r_virt (As := [.int v_203]) (rest := []) hC hP hS (ci := 4) rfl (by decide) hu_204 (c_X4_told (l := l) (base := base) (D := D) (cI := cI) (cJ := cJ) (tS := tS) hw_205) wl_617 wl_618 wl_619 wl_98 wl_616 rfl rfl hd_X4_told ⟨Nat.le_of_ble_eq_true rfl, Nat.le_of_ble_eq_true rfl⟩ rfl hl.1 rfl (Nat.le_of_ble_eq_true rfl) dL_law_763 ⟨Nat.le_of_ble_eq_true rfl, Nat.le_of_ble_eq_true rfl⟩) hS (fun H locs hP hS => ?_)
      refine lv_aload_n hx hb dL_law_766 rfl (lv_at hl 2 rfl) ?_
      refine lv_aload_n hx hb dL_law_767 rfl (lv_at hl 0 rfl) ?_
      refine lv_iload_n hx hb dL_law_768 rfl (lv_at hl 3 rfl) ?_
      refine lv_iconst (v := 1) hx hb dL_law_769 (by decide) ?_
      refine lv_iadd hx hb dL_law_770 ?_
      obtain ⟨v_206, hv_206, h⟩ := obn h
      refine w_sx hC hX hS hv_206 dL_law_771 ?_
      obtain ⟨u_207, hu_207, h⟩ := obn h
      obtain ⟨w_208, hw_208, h⟩ := obn h
      refine k_I (r_virt (As := [.int v_206]) (rest := [.int w_205.1]) hC hP hS (ci := 5) rfl (by decide) hu_207 (c_X5_told (l := l) (base := base) (D := D) (cI := cI) (cJ := cJ) (tS := tS) hw_208) wl_621 wl_622 wl_623 wl_113 wl_620 rfl rfl hd_X5_told ⟨Nat.le_of_ble_eq_true rfl, Nat.le_of_ble_eq_true rfl⟩ rfl hl.1 rfl (Nat.le_of_ble_eq_true rfl) dL_law_772 ⟨Nat.le_of_ble_eq_true rfl, Nat.le_of_ble_eq_true rfl⟩) hS (fun H locs hP hS => ?_)
      refine lv_icmp_eq (tgt := 780) hx hb dL_law_775 (by decide) (fun c_209 => ?_) (fun c_209 => ?_)
      · rw [if_pos c_209] at h
        exact L_law_k780 hC hr hlocks hX ih h hP hS (lv_sub hl [0, 1, 2, 3] rfl)
      · rw [if_neg c_209] at h
        refine lv_iconst (v := 0) hx hb dL_law_778 (by decide) ?_
        cases h
    rw [if_neg c_210] at h
    have hnt : x_4.toInt < 0 ∨ 22 < x_4.toInt := by
      have nc_16 := lv_neT (a := 0) c_16 (by decide)
      have nc_26 := lv_neT (a := 1) c_26 (by decide)
      have nc_36 := lv_neT (a := 2) c_36 (by decide)
      have nc_48 := lv_neT (a := 3) c_48 (by decide)
      have nc_54 := lv_neT (a := 4) c_54 (by decide)
      have nc_64 := lv_neT (a := 5) c_64 (by decide)
      have nc_76 := lv_neT (a := 6) c_76 (by decide)
      have nc_84 := lv_neT (a := 7) c_84 (by decide)
      have nc_90 := lv_neT (a := 8) c_90 (by decide)
      have nc_96 := lv_neT (a := 9) c_96 (by decide)
      have nc_102 := lv_neT (a := 10) c_102 (by decide)
      have nc_108 := lv_neT (a := 11) c_108 (by decide)
      have nc_118 := lv_neT (a := 12) c_118 (by decide)
      have nc_126 := lv_neT (a := 13) c_126 (by decide)
      have nc_132 := lv_neT (a := 14) c_132 (by decide)
      have nc_140 := lv_neT (a := 15) c_140 (by decide)
      have nc_150 := lv_neT (a := 16) c_150 (by decide)
      have nc_162 := lv_neT (a := 17) c_162 (by decide)
      have nc_170 := lv_neT (a := 18) c_170 (by decide)
      have nc_182 := lv_neT (a := 19) c_182 (by decide)
      have nc_194 := lv_neT (a := 20) c_194 (by decide)
      have nc_202 := lv_neT (a := 21) c_202 (by decide)
      have nc_210 := lv_neT (a := 22) c_210 (by decide)
      omega
    refine lv_tableOut (tgt := 780) hx hb dL_law_32 hnt (by decide) ?_
    exact L_law_k780 hC hr hlocks hX ih h hP hS (lv_sub hl [0, 1, 2, 3] rfl)
set_option maxRecDepth 100000 in
set_option maxHeartbeats 4000000 in
theorem L_law_k0 {L : Nat} {xs : Nat → Int32} {b : Nat} (hC : Cx p m c cL_law 4 s #[Value.ref b] RL base D cI cJ tS) (hr : meth.sig.returnType = ret) (hlocks : meth.locks = false) (hX : lw_X s base b L xs) {n : Nat} (ih : (∀ {a1 : Nat} {a2 : Nat} {i3 : Int32} {σ : Sg}  {H : Heap} {locs : List Loc} {ls : Array Slot}, L_law_run n L xs a1 a2 i3 σ = some () → Dy base D cI cJ σ H → va_S (fun q => base ≤ q) s.heap H locs → lv_has ls 4 [(0, .ref b), (1, .ref (base + a1)), (2, .ref (base + a2)), (3, .int i3)] → W p l e (room_1) s m #[Value.ref b] below meth c H locs 73 2316 (lw_Z below #[Value.ref b] s) (F0 m 18 ls []))) {σ : Sg}  {H : Heap} {locs : List Loc} {ls : Array Slot} (h : L_law_b0 n L xs (L_law_run n L xs) σ = some ()) : Dy base D cI cJ σ H → va_S (fun q => base ≤ q) s.heap H locs → lv_has ls 4 [(0, .ref b)] → W p l e (room_1) s m #[Value.ref b] below meth c H locs 0 0 (lw_Z below #[Value.ref b] s) (F0 m 0 ls []) := by
  intro hP hS hl
  obtain ⟨hx, hb, hml, hown, hts⟩ := hC.1
  unfold L_law_b0 at h
  obtain ⟨w_211, hw_211, h⟩ := obn h
  refine w_new (ci := 4) hC hP hS rfl inlX4 tyX4 tyX4_ok (by decide) dflX4 wl_624 wl_625 wl_98 (Nat.le_of_ble_eq_true rfl) (Nat.le_of_ble_eq_true rfl) hw_211 dL_law_0 (fun H hP hS => ?_)
  refine lv_dup hx hb dL_law_3 rfl ?_
  obtain ⟨w_212, hw_212, h⟩ := obn h
  refine k_V (r_ctor (As := []) (rest := [.ref (base + w_211.1)]) hC hP hS (c_X4_init (l := l) (base := base) (D := D) (cI := cI) (cJ := cJ) (tS := tS) hw_212) wl_627 wl_628 wl_98 wl_626 rfl rfl rfl hd_X4_init ⟨Nat.le_of_ble_eq_true rfl, Nat.le_of_ble_eq_true rfl⟩ rfl hl.1 rfl (Nat.le_of_ble_eq_true rfl) dL_law_4 ⟨Nat.le_of_ble_eq_true rfl, Nat.le_of_ble_eq_true rfl⟩) hS (fun H locs hP hS => ?_)
  refine lv_astore_n (lv' := [(1, .ref (base + w_211.1)), (0, .ref b)]) hx hb dL_law_7 rfl hl (by decide) rfl (fun ls hl => ?_)
  obtain ⟨w_213, hw_213, h⟩ := obn h
  refine w_new (ci := 5) hC hP hS rfl inlX5 tyX5 tyX5_ok (by decide) dflX5 wl_629 wl_630 wl_113 (Nat.le_of_ble_eq_true rfl) (Nat.le_of_ble_eq_true rfl) hw_213 dL_law_8 (fun H hP hS => ?_)
  refine lv_dup hx hb dL_law_11 rfl ?_
  obtain ⟨w_214, hw_214, h⟩ := obn h
  refine k_V (r_ctor (As := []) (rest := [.ref (base + w_213.1)]) hC hP hS (c_X5_init (l := l) (base := base) (D := D) (cI := cI) (cJ := cJ) (tS := tS) hw_214) wl_632 wl_633 wl_113 wl_631 rfl rfl rfl hd_X5_init ⟨Nat.le_of_ble_eq_true rfl, Nat.le_of_ble_eq_true rfl⟩ rfl hl.1 rfl (Nat.le_of_ble_eq_true rfl) dL_law_12 ⟨Nat.le_of_ble_eq_true rfl, Nat.le_of_ble_eq_true rfl⟩) hS (fun H locs hP hS => ?_)
  refine lv_astore_n (lv' := [(2, .ref (base + w_213.1)), (1, .ref (base + w_211.1)), (0, .ref b)]) hx hb dL_law_15 rfl hl (by decide) rfl (fun ls hl => ?_)
  refine lv_iconst (v := 0) hx hb dL_law_16 (by decide) ?_
  refine lv_istore_n (lv' := [(3, .int 0), (2, .ref (base + w_213.1)), (1, .ref (base + w_211.1)), (0, .ref b)]) hx hb dL_law_17 rfl hl (by decide) rfl (fun ls hl => ?_)
  exact ih h hP hS (lv_sub hl [3, 2, 1, 0] rfl)
set_option maxRecDepth 100000 in
set_option maxHeartbeats 4000000 in
theorem L_law_all {L : Nat} {xs : Nat → Int32} {b : Nat} (hC : Cx p m c cL_law 4 s #[Value.ref b] RL base D cI cJ tS) (hr : meth.sig.returnType = ret) (hlocks : meth.locks = false) (hX : lw_X s base b L xs) : ∀ n : Nat, (∀ {a1 : Nat} {a2 : Nat} {i3 : Int32} {σ : Sg}  {H : Heap} {locs : List Loc} {ls : Array Slot}, L_law_run n L xs a1 a2 i3 σ = some () → Dy base D cI cJ σ H → va_S (fun q => base ≤ q) s.heap H locs → lv_has ls 4 [(0, .ref b), (1, .ref (base + a1)), (2, .ref (base + a2)), (3, .int i3)] → W p l e (room_1) s m #[Value.ref b] below meth c H locs 73 2316 (lw_Z below #[Value.ref b] s) (F0 m 18 ls [])) := by
  intro n
  induction n with
  | zero => exact fun h => (by cases h)
  | succ n ih => exact fun h => L_law_k18 hC hr hlocks hX ih h
end
