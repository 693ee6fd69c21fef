set_option maxHeartbeats 4000000 in
theorem pc_visit {σ : Sg} {S : Se} {X : Nat} (hS : SeOk S X) (h : Hp σ) (hL : CLine σ S) {x y s b n : Nat} (hx : Cr x) (hy : Ru y) (hR : CRule σ y S) (hE : CEx σ x S) {P : Ps} (hs : s < 10) (hV : Vis S X s b P) (hn : 20 ≤ n) {V W : Nat → Prop} (hC : CRel x σ P V W) (hVb : ∀ k, k < s → V (10 * b + k)) (hWb : W (10 * b + s)) :
    ∃ τ, f_X0_visit n x 1 y (nI b) (nI s) σ = some τ ∧ FC x σ τ ∧ τ.2.1 (x + 11) = σ.2.1 (x + 11) ∧ CRel x τ (sv S s b P) (fun c => V c ∨ c = 10 * b + s) W := by
  have hV0 := hV
  obtain ⟨⟨hb, hsf, hB, hraw, htk⟩, ⟨v1, v2, v3, v4, v5⟩, ⟨l1, l2, l3, l4, l5, l6, l7, l8, l9⟩, ⟨w1, w2, w3, w4, w5, w6⟩⟩ := hV
  obtain ⟨c1, c2, c3, c4, c5, c6, c7⟩ := hC
  have hX := hS.2.2.2.2.2.2.2.2.2.2.2
  have hT := tU9 hX
  have hB8 := hS.1
  have hc : 10 * b + s < 80 := by omega
  have hset := hS.2.2.2.2.2.1.2.2.2.1
  have f1 : FC x σ (sI σ (x + 1) (10 * b + s) (nI (vC S s b P))) := FC.rf.sI (by omega) (by omega) (by omega)
  have e1 : f_X0_visit n x 1 y (nI b) (nI s) σ = X0_visit_b38 n x 1 y (nI b) (nI s) (nI (10 * b + s)) (sI σ (x + 1) (10 * b + s) (nI (vC S s b P))) := by
    have z3 : aI 5 3 σ = some (σ.2.1 5 3) := aI_5 (j := 3) h (by decide)
    unfold f_X0_visit
    rw [pc_cell, ob, gR_1_1_3 h, ob, z3, ob, hL.2.2.2.2.1 3 (by decide)]
    by_cases e : eSet S 3 = 0
    · have eC : vC S s b P = max (P 0 (10 * b + s)) (P 14 0) := by unfold vC; rw [if_pos e]
      rw [if_pos ((nI_0' (by omega)).mpr e), gRc_0 h hx, ob, ob, aIc_1 h hx hc, ob, gIc_13 h hx, ob, c2 _ hWb, c6, max_nI (by omega) (by omega), ← eC, xIc_1 h hx hc, ob]
    · have eC : vC S s b P = P 0 (10 * b + s) := by unfold vC; rw [if_neg e]
      rw [if_neg (fun z => e ((nI_0' (by omega)).mp z)), sI_same (by rw [eC]; exact c2 _ hWb)]
  have e2 : X0_visit_b38 n x 1 y (nI b) (nI s) (nI (10 * b + s)) (sI σ (x + 1) (10 * b + s) (nI (vC S s b P))) = X0_visit_b88 n x 1 y (nI b) (nI s) (nI (10 * b + s)) (nI (vB s b P)) (sJ (sI σ (x + 1) (10 * b + s) (nI (vC S s b P))) x 10 (lN (sv S s b P 9 0))) := by
    unfold X0_visit_b38
    by_cases e : s = 0
    · have eB : vB s b P = 0 := by unfold vB; rw [if_pos e]
      rw [if_pos ((nI_le0 (by omega)).mpr e), eB, sv_9, if_pos e, sJ_same (by rw [rJ_I]; exact c4)]
      rfl
    · have eB : vB s b P = P 4 (10 * b + s - 1) := by unfold vB; rw [if_neg e]
      have ei : nI (10 * b + s) - 1 = nI (10 * b + s - 1) := nsub (b := 1) (by omega)
      have hVp := c1 (10 * b + (s - 1)) (hVb (s - 1) (by omega))
      rw [show 10 * b + (s - 1) = 10 * b + s - 1 by omega] at hVp
      have h1 := f1.hp h
      have hseat := (hS.2.2.2.2.2.2.1 b hb).2.2.1
      have hpc : P 0 (10 * b + s - 1) ≤ vC S s b P := by rw [← l9 e]; exact l5
      rw [if_neg (fun z => e ((nI_le0 (by omega)).mp z)), gRc_4 h1 hx, ob, ei, aIc_5 h1 hx (by omega), ob, rI_ne (by omega), hVp.2.2.2.2.1, gJc_10 h1 hx, ob, rJ_I, c4, gRc_0 h1 hx, ob, aIc_1 h1 hx hc, ob, rI_eq, show upd (σ.2.1 (x + 1)) (10 * b + s) (nI (vC S s b P)) (10 * b + s) = nI (vC S s b P) from pk_us, ob, aIc_1 h1 hx (by omega), ob, rI, if_neg (by omega), hVp.1, nsub hpc, nl (by omega), nl (by omega), lN_mul, lN_add, pJc_10 h1 hx, ob, ← eB, sv_9, if_neg e]
  have f2 : FC x σ (sJ (sI σ (x + 1) (10 * b + s) (nI (vC S s b P))) x 10 (lN (sv S s b P 9 0))) := f1.sJ (by omega) (by omega)
  obtain ⟨τ, t0, t1, t2, t3, t4, t5, t6, t7, t8, t9, t10, t11, t12, t13, t14, t15⟩ := pc_visit2 hS (f2.hp h) (f2.line hx hL) hx hy (f2.rule hx hy hR) (f2.ex hE) (n := n) hs hV0 hn
    (fun k hk => by rw [rI_J, rI_ne (by omega)]; exact (c1 _ (hVb k hk)).2.2.1)
    (by rw [rI_J, rI_eq]; exact pk_us)
    (by
      rw [rI_J, rI]
      unfold vF
      by_cases e : s = 0
      · rw [if_pos ⟨rfl, by omega⟩, if_pos e]
      · rw [if_neg (by omega), if_neg e]
        exact (c1 (10 * b + 0) (hVb 0 (by omega))).1)
    (by rw [rI_J, rI_ne (by omega)]; exact (c3 s hs).1)
    (by rw [rJ_ne (by omega), rJ_I]; exact (c3 s hs).2.1)
    (by rw [rI_J, rI_ne (by omega)]; exact (c3 s hs).2.2)
    (by rw [rI_J, rI_ne (by omega)]; exact c5)
    (by rw [rI_J, rI_ne (by omega)]; exact c6)
    (by rw [rI_J, rI_ne (by omega)]; exact c7)
  refine ⟨τ, by rw [e1, e2]; exact t0, f2.tr t1, ?_, ?_⟩
  · rw [t2, rI_J, rI_ne (by omega)]
  have hcome : ∀ c, (V c ∨ W c ∨ c = 10 * b + s) → τ.2.1 (x + 1) c = nI (sv S s b P 0 c) := by
    intro c hcc
    rw [t3, rI_J, rI, sv_0]
    by_cases z : c = 10 * b + s
    · rw [if_pos ⟨rfl, z⟩, if_pos z]
    · rw [if_neg (fun q => z q.2), if_neg z]
      rcases hcc with hcc | hcc | hcc
      · exact (c1 c hcc).1
      · exact c2 c hcc
      · exact absurd hcc z
  refine ⟨fun c hcc => ?_, fun c hcc => hcome c (Or.inr (Or.inl hcc)), fun k hk => ?_, ?_, t13, t14, t15⟩
  · refine ⟨hcome c (by rcases hcc with hcc | hcc; exact Or.inl hcc; exact Or.inr (Or.inr hcc)), ?_⟩
    rw [t4, t5, t6, t7, t8, sv_1, sv_2, sv_3, sv_4, sv_5, rI_J, rI_ne (by omega), rI_ne (by omega), rI_ne (by omega), rI_ne (by omega), rI_ne (by omega)]
    by_cases z : c = 10 * b + s
    · rw [if_pos z, if_pos z, if_pos z, if_pos z, if_pos z, if_pos z, if_pos z, if_pos z, if_pos z, if_pos z]
      exact ⟨rfl, rfl, rfl, rfl, rfl⟩
    · rw [if_neg z, if_neg z, if_neg z, if_neg z, if_neg z, if_neg z, if_neg z, if_neg z, if_neg z, if_neg z]
      rcases hcc with hcc | hcc
      · exact (c1 c hcc).2
      · exact absurd hcc z
  · rw [t9, t10, t11, rI_J, rI_ne (by omega), rI_ne (by omega), rJ_ne (by omega), rJ_I]
    by_cases z : k = s
    · rw [if_pos z, if_pos z, if_pos z, z]
      exact ⟨rfl, rfl, rfl⟩
    · rw [if_neg z, if_neg z, if_neg z, sv_6, sv_7, sv_8, if_neg z, if_neg z, if_neg (fun q => z q.1)]
      exact c3 k hk
  · rw [t12, rJ_eq]
    exact pk_uLs
