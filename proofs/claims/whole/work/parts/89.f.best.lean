/-! best -/
theorem pcost_lt {S : Se} (hS : SeOk S 600) : pcost (ply S 10) < 2 ^ 31 ∧ ply S 10 10 0 ≤ 640 := by
  have hB := Bd_ply hS 10 (Nat.le_refl _)
  have eT : tU 600 9 = 296000 := rfl
  have h7 : ∀ k, ply S 10 7 k ≤ 640 * 296000 := fun k => by have := (ply_st hS k).2.1; rw [eT] at this; exact this
  have h9 : ply S 10 9 0 ≤ 80 * (8 * 296000) := by
    refine Nat.le_trans hB.2.2.1.2.1 (Nat.mul_le_mul (Nat.le_refl _) ?_)
    exact fb_sm_bound (fun k _ => by have := hB.2.2.1.2.2.2.1 k; rw [eT] at this; exact this)
  have h10 : ply S 10 10 0 ≤ 640 := by
    refine Nat.le_trans hB.2.2.1.2.2.2.2 (Nat.le_trans (fb_sm_bound (c := 80) (fun k _ => ?_)) (by decide))
    show (if _ then 0 else 80) ≤ 80
    split
    · exact Nat.zero_le _
    · exact Nat.le_refl _
  have hd : ∀ m s, dsum (ply S 10 7) m s ≤ m * (640 * 296000) := by
    intro m
    induction m with
    | zero => intro s; exact Nat.zero_le _
    | succ m ih =>
      intro s
      have h1 := ih (s + 1)
      have h2 := h7 s
      show ply S 10 7 s + dsum (ply S 10 7) m (s + 1) ≤ (m + 1) * (640 * 296000)
      rw [Nat.succ_mul]
      omega
  have := hd 9 0
  unfold pcost
  exact ⟨by omega, h10⟩
section
variable {W : Wd}
theorem gS_k (hW : Ok W) {s g : Nat} (hg : g ≤ 600) : SeOk (gS W s g) 600 := gS_ok hW.1 (by have := hW.2.1.1; omega) hW.2.1.2 hg
theorem cst_lt (hW : Ok W) (i : Nat) : cst W i < 2 ^ 31 := (pcost_lt (gS_k hW (by have := Nat.mod_lt i (show 0 < 11 by decide); omega))).1
theorem cst_sg {s g : Nat} (hg : g < 11) : cst W (11 * s + g) = pcost (ply (gS W s (60 * g)) 10) := by
  unfold cst
  rw [show (11 * s + g) / 11 = s by omega, show (11 * s + g) % 11 = g by omega]
def jB (W : Wd) (i : Nat) : Int64 := if i = 0 then 0 else lN (cst W (bst W (i - 1)))
theorem jB_0 : jB W 0 = 0 := by unfold jB; rw [if_pos rfl]
theorem bst_le : ∀ i, bst W i ≤ i := by
  intro i
  induction i with
  | zero => exact Nat.le_refl _
  | succ i ih =>
    unfold bst
    split
    · exact Nat.le_refl _
    · omega
theorem pc_keep {y n s g : Nat} {σ : Sg} (hy : Ru y) (h : Hp σ) (hn : 100 ≤ n) (hs : s < 10) (hg : g ≤ 999) : ∃ τ, f_X2_keepOnlyGap n y (nI s) (nI g) σ = some τ ∧ τ.1 = σ.1 ∧ τ.2.2.2 = σ.2.2.2 ∧ τ.2.2.1 = σ.2.2.1 ∧ (∀ k, (k < y ∨ y + 2 < k) → τ.2.1 k = σ.2.1 k) ∧ CRule τ y (gS W s g) := by
  obtain ⟨τ, t1, t2, t3, t4, t5, t6, t7⟩ := pc_clear hy h hn
  have h1 : Hp τ := Hp_eq t2 t3 h
  have h2 : Hp (sI τ (y + 1) s 103) := h1
  have h3 : Hp (sI (sI τ (y + 1) s 103) (y + 2) s (nI g)) := h1
  unfold f_X2_keepOnlyGap
  rw [ckr h hy, ob, t1, ob, gRr_0 h1 hy, ob, xIr_1 h1 hy hs, ob, gRr_1 h2 hy, ob, xIr_2 h2 hy hs, ob, pIr_2 h3 hy, ob]
  refine ⟨_, rfl, t2, t3, t4, fun k hk => by rw [rI_ne (by omega), rI_ne (by omega), rI_ne (by omega)]; exact t5 k hk, fun k hk => ?_⟩
  show (if k = s then 2 else 0) ≤ 2 ∧ (if k = s then g else 0) ≤ 999 ∧ _ = ltr (if k = s then 2 else 0) ∧ _ = nI (if k = s then g else 0)
  rw [rI_ne (by omega), rI_ne (by omega), rI, rI_ne (by omega), rI, rI_ne (by omega), (t6 k hk).1, (t6 k hk).2]
  by_cases e : k = s
  · rw [if_pos e, if_pos e, if_pos ⟨rfl, e⟩, if_pos ⟨rfl, e⟩]
    exact ⟨Nat.le_refl _, hg, rfl, rfl⟩
  · rw [if_neg e, if_neg e, if_neg (fun z => e z.2), if_neg (fun z => e z.2)]
    exact ⟨Nat.zero_le _, Nat.zero_le _, rfl, rfl⟩
/-- while the class tries all -/
def BQ (W : Wd) (i : Nat) (σ0 σ : Sg) : Prop := σ.1 = σ0.1 ∧ σ.2.2.2 = σ0.2.2.2 ∧ (∀ k, k ≠ 0 → (k < 26 ∨ 37 < k) → (k < sp σ0 ∨ sp σ0 + 2 < k) → σ.2.1 k = σ0.2.1 k) ∧ (∀ j, j ≠ 8 → j ≠ 9 → σ.2.1 0 j = σ0.2.1 0 j) ∧ (∀ k, (k < 26 ∨ 37 < k) → σ.2.2.1 k = σ0.2.2.1 k) ∧ CEx σ 26 (xS W (fun _ => false)) ∧ (i ≠ 0 → σ.2.1 0 8 = nI (bst W (i - 1) / 11) ∧ σ.2.1 0 9 = nI (60 * (bst W (i - 1) % 11)))
set_option maxHeartbeats 1000000 in
theorem fb_step (hW : Ok W) {σ0 : Sg} (h0 : Hp σ0) (hL0 : CLine σ0 W.1) {s g n : Nat} (hs : s < 9) (hg : g < 11) (hn : 250 ≤ n) {σ : Sg} (hQ : BQ W (11 * s + g) σ0 σ) :
    ∃ τ, X4_findBest_run (n + 1) 26 0 (jB W (11 * s + g)) (nI s) (nI (60 * g)) σ = X4_findBest_run n 26 0 (jB W (11 * s + g + 1)) (nI s) (nI (60 * (g + 1))) τ ∧ BQ W (11 * s + g + 1) σ0 τ := by
  obtain ⟨b1, b2, b3, b4, b5, b6, b7⟩ := hQ
  have h : Hp σ := Hp_eq b1 b2 h0
  have hsp : sp σ = sp σ0 := sp_of b2
  have hru := rp_or h0
  have hy := sp_Ru h0
  have hS := gS_k hW (s := s) (g := 60 * g) (by omega)
  have hx : Cr 26 := Or.inr rfl
  have hB8 : eB W.1 ≤ 8 := hW.1.1
  have q0 : ∀ k, 1 ≤ k → k < 26 → σ.2.1 k = σ0.2.1 k := fun k k1 k2 => b3 k (by omega) (by omega) (by omega)
  have hL : CLine σ W.1 := by
    unfold CLine
    rw [q0 1 (by decide) (by decide), q0 2 (by decide) (by decide), q0 3 (by decide) (by decide), q0 4 (by decide) (by decide), q0 5 (by decide) (by decide), q0 6 (by decide) (by decide), q0 7 (by decide) (by decide), q0 8 (by decide) (by decide)]
    exact hL0
  obtain ⟨τ, t1, t2, t3, t4, t5, t6⟩ := pc_keep (W := W) (n := n) (s := s) (g := 60 * g) hy h (by omega) (by omega) (by omega)
  have h1 : Hp τ := Hp_eq t2 t3 h
  have hsp1 : sp τ = sp σ0 := (sp_of t3).trans hsp
  have hL1 : CLine τ W.1 := by
    unfold CLine
    rw [t5 1 (by omega), t5 2 (by omega), t5 3 (by omega), t5 4 (by omega), t5 5 (by omega), t5 6 (by omega), t5 7 (by omega), t5 8 (by omega)]
    exact hL
  have hE1 : CEx τ 26 (gS W s (60 * g)) := by
    intro b hb k hk
    rw [t5 (26 + 7) (by omega)]
    exact b6 b hb k hk
  obtain ⟨ρ, r1, r2, r3⟩ := pc_play hS (x := 26) (y := sp σ0) (n := n) hx hy (by omega) h1 hL1 t6 hE1
  have h2 := r2.hp h1
  have hp10 := (pcost_lt hS).2
  have d1 : dsum (ply (gS W s (60 * g)) 10 7) 10 0 = dsum (ply (gS W s (60 * g)) 10 7) 9 0 := dsum_10 hS
  have ec : cst W (11 * s + g) = dsum (ply (gS W s (60 * g)) 10 7) 9 0 + ply (gS W s (60 * g)) 10 9 0 + 1000 * ply (gS W s (60 * g)) 10 10 0 := cst_sg hg
  -- the frame
  have fr : ∀ υ : Sg, υ.1 = ρ.1 → υ.2.2.2 = ρ.2.2.2 → υ.2.2.1 = ρ.2.2.1 → (∀ k, k ≠ 0 → υ.2.1 k = ρ.2.1 k) → (∀ j, j ≠ 8 → j ≠ 9 → υ.2.1 0 j = ρ.2.1 0 j) → (υ.2.1 0 8 = nI (bst W (11 * s + g) / 11) ∧ υ.2.1 0 9 = nI (60 * (bst W (11 * s + g) % 11))) → BQ W (11 * s + g + 1) σ0 υ := by
    intro υ u1 u2 u3 u4 u5 u6
    refine ⟨by rw [u1, r2.1, t2, b1], by rw [u2, r2.2.1, t3, b2], fun k k1 k2 k3 => by rw [u4 k k1, r2.2.2.1 k (by omega), t5 k k3, b3 k k1 k2 k3], fun j j1 j2 => by rw [u5 j j1 j2, r2.2.2.1 0 (by decide), t5 0 (by omega), b4 j j1 j2], fun k hk => by rw [u3, r2.2.2.2 k (by omega), t4, b5 k hk], fun b hb k hk => ?_, fun _ => ?_⟩
    · rw [u4 (26 + 7) (by decide), r2.2.2.1 (26 + 7) (by decide), t5 (26 + 7) (by omega)]
      exact b6 b hb k hk
    · rw [show 11 * s + g + 1 - 1 = 11 * s + g by omega]
      exact u6
  have f0 : ρ.2.1 0 = σ.2.1 0 := by rw [r2.2.2.1 0 (by decide), t5 0 (by omega)]
  have take : bst W (11 * s + g) = 11 * s + g → ∃ τ, X4_findBest_b117 n (X4_findBest_run n) 0 (nI s) (nI (60 * g)) (lN (cst W (11 * s + g))) ρ = X4_findBest_run n 26 0 (jB W (11 * s + g + 1)) (nI s) (nI (60 * (g + 1))) τ ∧ BQ W (11 * s + g + 1) σ0 τ := by
    intro eb
    have h3 : Hp (sI ρ 0 8 (nI s)) := h2
    unfold X4_findBest_b117 X4_findBest_b131
    rw [pI_4_0_8 h2, ob, pI_4_0_9 h3, ob, show nI (60 * g) + 60 = nI (60 * (g + 1)) by rw [show (60 : Int32) = nI 60 from rfl, nI_add]; congr 1, ob]
    refine ⟨_, ?_, fr (sI (sI ρ 0 8 (nI s)) 0 9 (nI (60 * g))) rfl rfl rfl (fun k hk => by rw [rI_ne hk, rI_ne hk]) (fun j j1 j2 => by rw [rI, if_neg (fun z => j2 z.2), rI, if_neg (fun z => j1 z.2)]) ⟨?_, ?_⟩⟩
    · unfold jB
      rw [if_neg (by omega), show 11 * s + g + 1 - 1 = 11 * s + g by omega, eb]
    · rw [rI, if_neg (by decide), rI, if_pos ⟨rfl, rfl⟩, eb, show (11 * s + g) / 11 = s by omega]
    · rw [rI, if_pos ⟨rfl, rfl⟩, eb, show (11 * s + g) % 11 = g by omega]
  have keep : 11 * s + g ≠ 0 → bst W (11 * s + g) = bst W (11 * s + g - 1) → ∃ τ, X4_findBest_b131 n (X4_findBest_run n) 0 (jB W (11 * s + g)) (nI s) (nI (60 * g)) ρ = X4_findBest_run n 26 0 (jB W (11 * s + g + 1)) (nI s) (nI (60 * (g + 1))) τ ∧ BQ W (11 * s + g + 1) σ0 τ := by
    intro e0 eb
    unfold X4_findBest_b131
    rw [show nI (60 * g) + 60 = nI (60 * (g + 1)) by rw [show (60 : Int32) = nI 60 from rfl, nI_add]; congr 1, ob]
    refine ⟨ρ, ?_, fr ρ rfl rfl rfl (fun _ _ => rfl) (fun _ _ _ => rfl) ?_⟩
    · unfold jB
      rw [if_neg e0, if_neg (by omega), show 11 * s + g + 1 - 1 = 11 * s + g by omega, eb]
    · rw [f0, eb]
      exact b7 e0
  show ∃ τ, X4_findBest_b26 n (X4_findBest_run n) 0 (jB W (11 * s + g)) (nI s) (nI (60 * g)) σ = _ ∧ _
  unfold X4_findBest_b26
  rw [if_neg (show ¬ 600 < nI (60 * g) from nI_nlt (a := 600) (by omega) (by decide)), gR_4_0_5 h, ob, hsp, ckr h hy, ob, t1, ob, gR_4_0_3 h1, ob, gR_4_0_0 h1, ob, gR_4_0_5 h1, ob, hsp1, ck26 h1, ob, r1, ob, gR_4_0_3 h2, ob, ck26 h2, ob, pc_sum hx h2 (fun k hk => (r3.2.1 k hk).2.1) (by omega), ob, gR_4_0_3 h2, ob, gJc_10 h2 hx, ob, r3.2.2.1, ob, gIc_11 h2 hx, ob, r3.2.2.2, d1, nI_l (by omega), show (1000 : Int64) = lN 1000 from rfl, lN_mul, lN_add, lN_add, ← ec, ob]
  have nz : 11 * s + g ≠ 0 → ∃ τ, X4_findBest_b102 n (X4_findBest_run n) 0 (jB W (11 * s + g)) (nI s) (nI (60 * g)) (lN (cst W (11 * s + g))) ρ = X4_findBest_run n 26 0 (jB W (11 * s + g + 1)) (nI s) (nI (60 * (g + 1))) τ ∧ BQ W (11 * s + g + 1) σ0 τ := by
    intro e0
    have ej : jB W (11 * s + g) = lN (cst W (bst W (11 * s + g - 1))) := by unfold jB; rw [if_neg e0]
    have c1 := cst_lt hW (11 * s + g)
    have c2 := cst_lt hW (bst W (11 * s + g - 1))
    have eb : bst W (11 * s + g) = if cst W (11 * s + g) < cst W (bst W (11 * s + g - 1)) then 11 * s + g else bst W (11 * s + g - 1) := by
      obtain ⟨z, hz⟩ : ∃ z, 11 * s + g = z + 1 := ⟨11 * s + g - 1, by omega⟩
      rw [hz, show z + 1 - 1 = z by omega]
      rfl
    unfold X4_findBest_b102 X4_findBest_b103
    rw [if_pos rfl]
    by_cases e : cst W (11 * s + g) < cst W (bst W (11 * s + g - 1))
    · rw [if_neg (fun z => by rw [lg_cmp_ge, ej, pk_lLE (by omega) (by omega)] at z; omega)]
      rw [if_pos e] at eb
      exact take eb
    · rw [if_pos (by rw [lg_cmp_ge, ej, pk_lLE (by omega) (by omega)]; omega)]
      rw [if_neg e] at eb
      exact keep e0 eb
  by_cases es : s = 0
  · rw [if_pos ((nI_0' (by omega)).mpr es)]
    by_cases eg : g = 0
    · rw [if_pos ((nI_0' (by omega)).mpr (by omega))]
      unfold X4_findBest_b103
      rw [if_neg z10]
      refine take ?_
      rw [es, eg]
      rfl
    · rw [if_neg (fun z => by have := (nI_0' (by omega)).mp z; omega)]
      exact nz (by omega)
  · rw [if_neg (fun z => es ((nI_0' (by omega)).mp z))]
    exact nz (by omega)
theorem fb_in (hW : Ok W) {σ0 : Sg} (h0 : Hp σ0) (hL0 : CLine σ0 W.1) {s : Nat} (hs : s < 9) : ∀ (m g N : Nat) (σ : Sg), g + m = 11 → 250 + m ≤ N → BQ W (11 * s + g) σ0 σ →
    ∃ τ N', N ≤ N' + m ∧ X4_findBest_run N 26 0 (jB W (11 * s + g)) (nI s) (nI (60 * g)) σ = X4_findBest_run N' 26 0 (jB W (11 * (s + 1))) (nI s) (nI 660) τ ∧ BQ W (11 * (s + 1)) σ0 τ := by
  intro m
  induction m with
  | zero =>
    intro g N σ hg hn hQ
    have e : g = 11 := by omega
    subst e
    rw [show 11 * s + 11 = 11 * (s + 1) by omega] at hQ ⊢
    exact ⟨σ, N, by omega, rfl, hQ⟩
  | succ m ih =>
    intro g N σ hg hn hQ
    obtain ⟨q, rfl⟩ : ∃ q, N = q + 1 := ⟨N - 1, by omega⟩
    obtain ⟨τ, t1, t2⟩ := fb_step hW h0 hL0 hs (show g < 11 by omega) (show 250 ≤ q by omega) hQ
    obtain ⟨ρ, N', r0, r1, r2⟩ := ih (g + 1) q τ (by omega) (by omega) t2
    rw [t1]
    exact ⟨ρ, N', by omega, r1, r2⟩
theorem fb_17 {N : Nat} {j : Int64} {s : Nat} {σ : Sg} : X4_findBest_run (N + 1) 17 0 j (nI s) 0 σ = X4_findBest_b17 N (X4_findBest_run N) 0 j (nI s) σ := rfl
theorem fb_26 {N : Nat} {j : Int64} {s : Nat} {g : Int32} {σ : Sg} : X4_findBest_run (N + 1) 26 0 j (nI s) g σ = X4_findBest_b26 N (X4_findBest_run N) 0 j (nI s) g σ := rfl
theorem fb_out (hW : Ok W) {σ0 : Sg} (h0 : Hp σ0) (hL0 : CLine σ0 W.1) : ∀ (m s N : Nat) (σ : Sg), s + m = 9 → 251 + 13 * m ≤ N → BQ W (11 * s) σ0 σ →
    ∃ τ, X4_findBest_run N 17 0 (jB W (11 * s)) (nI s) 0 σ = some τ ∧ BQ W 99 σ0 τ := by
  intro m
  induction m with
  | zero =>
    intro s N σ hs hn hQ
    obtain ⟨q, rfl⟩ : ∃ q, N = q + 1 := ⟨N - 1, by omega⟩
    have e : 11 * s = 99 := by omega
    rw [e] at hQ
    rw [fb_17]
    unfold X4_findBest_b17
    rw [if_pos (show (9 : Int32) ≤ nI s by rw [show s = 9 by omega]; decide)]
    exact ⟨σ, rfl, hQ⟩
  | succ m ih =>
    intro s N σ hs hn hQ
    obtain ⟨q, rfl⟩ : ∃ q, N = q + 1 := ⟨N - 1, by omega⟩
    obtain ⟨τ, N', t0, t1, t2⟩ := fb_in hW h0 hL0 (s := s) (by omega) 11 0 q σ rfl (by omega) hQ
    rw [Nat.add_zero, Nat.mul_zero, nI_0] at t1
    obtain ⟨p, rfl⟩ : ∃ p, N' = p + 1 := ⟨N' - 1, by omega⟩
    rw [fb_17]
    unfold X4_findBest_b17
    rw [if_neg (show ¬ (9 : Int32) ≤ nI s from nI_ge (b := 9) (by omega) (by decide)), t1, fb_26]
    unfold X4_findBest_b26
    rw [if_pos (show 600 < nI 660 by decide), nI_1, ob]
    exact ih (s + 1) p τ (by omega) (by omega) t2
theorem best_c (hW : Ok W) {n : Nat} (hn : 400 ≤ n) {w : Nat} (hw : w ≤ 1) (hB : 1 ≤ eB W.1) : CZ (f_X4_best n 0 (nI w)) W W (nI (if w = 0 then bst W 98 / 11 else 60 * (bst W 98 % 11))) := by
  intro σ h hI
  have hB8 : eB W.1 ≤ 8 := hW.1.1
  have fin : ∀ υ : Sg, Hp υ → υ.2.1 0 8 = nI (bst W 98 / 11) → υ.2.1 0 9 = nI (60 * (bst W 98 % 11)) → X4_best_b42 n 0 (nI w) υ = some (nI (if w = 0 then bst W 98 / 11 else 60 * (bst W 98 % 11)), υ) := by
    intro υ hu u1 u2
    unfold X4_best_b42
    by_cases ew : w = 0
    · rw [if_pos ((nI_0' (by omega)).mpr ew), if_pos ew, gI_4_0_8 hu, ob, u1]
    · rw [if_neg (fun z => ew ((nI_0' (by omega)).mp z)), if_neg ew, gI_4_0_9 hu, ob, u2]
  unfold f_X4_best
  rw [if_neg (nI_pos (by omega)), if_pos (show nI w ≤ 1 from nI_le (b := 1) hw (by decide)), gR_4_0_0 h, ob, gI_1_1_7 h, ob, hI.1.1, if_pos (show (1 : Int32) ≤ nI (eB W.1) from nI_le (a := 1) hB (by omega)), gI_4_0_7 h, ob]
  by_cases e7 : σ.2.1 0 7 = 0
  · obtain ⟨τ, t1, t2, t3⟩ := pc_lays hW.2.1.1 hW.2.1.2 (x := 26) (n := n) (Or.inr rfl) sk_no (by omega) h hI.2.2.1
    have h1 := t2.hp h
    obtain ⟨ρ, r1, r2⟩ := fb_out hW h1 (t2.line (Or.inr rfl) hI.1) 9 0 n τ rfl (by omega) ⟨rfl, rfl, fun _ _ _ _ => rfl, fun _ _ _ => rfl, fun _ _ => rfl, fun b hb k hk => t3 b k (by have : b < eB W.1 := hb; omega) hk, fun z => absurd rfl z⟩
    rw [show 11 * 0 = 0 from rfl, jB_0] at r1
    have r1' : X4_findBest_run n 17 0 0 0 0 τ = some ρ := r1
    obtain ⟨b1, b2, b3, b4, b5, b6, b7⟩ := r2
    have h2 : Hp ρ := Hp_eq b1 b2 h1
    have efb : f_X4_findBest n 0 σ = some ρ := by
      unfold f_X4_findBest X4_findBest_b0
      rw [gR_4_0_3 h, ob, gR_4_0_0 h, ob, ck26 h, ob, t1, ob, r1']
    have h3 : Hp (sI ρ 0 7 1) := h2
    rw [show 99 - 1 = 98 from rfl] at b7
    obtain ⟨v8, v9⟩ := b7 (by decide)
    have w8 : (sI ρ 0 7 1).2.1 0 8 = nI (bst W 98 / 11) := by rw [rI, if_neg (by decide)]; exact v8
    have w9 : (sI ρ 0 7 1).2.1 0 9 = nI (60 * (bst W 98 % 11)) := by rw [rI, if_neg (by decide)]; exact v9
    have hru := rp_or h
    have hsp : sp τ = sp σ := sp_of t2.2.1
    have hcell : ∀ k, k ≠ 0 → (k < 26 ∨ 37 < k) → (k < sp σ ∨ sp σ + 2 < k) → (sI ρ 0 7 1).2.1 k = σ.2.1 k := fun k k1 k2 k3 => by rw [rI_ne k1, b3 k k1 k2 (by rw [hsp]; exact k3), t2.2.2.1 k k2]
    have hJ : ∀ k, (k < 26 ∨ 37 < k) → (sI ρ 0 7 1).2.2.1 k = σ.2.2.1 k := fun k hk => by rw [rJ_I, b5 k hk, t2.2.2.2 k hk]
    have hR : (sI ρ 0 7 1).2.2.2 = σ.2.2.2 := by show ρ.2.2.2 = _; rw [b2, t2.2.1]
    have h06 : (sI ρ 0 7 1).2.1 0 6 = σ.2.1 0 6 := by rw [rI, if_neg (by decide), b4 6 (by decide) (by decide), t2.2.2.1 0 (by decide)]
    rw [if_pos e7, ck_0 h, ob, efb, ob, pI_4_0_7 h2, ob]
    refine ⟨sI ρ 0 7 1, fin _ h3 w8 w9, h3, ?_, fun k hk => hcell k (by omega) (by omega) (by omega)⟩
    obtain ⟨a1, a2, a3, a4, a5, a6, a7⟩ := hI
    refine ⟨?_, ?_, ?_, ?_, ?_, ?_, fun _ _ => ⟨w8, w9⟩⟩
    · unfold CLine
      rw [hcell 1 (by decide) (by omega) (by omega), hcell 2 (by decide) (by omega) (by omega), hcell 3 (by decide) (by omega) (by omega), hcell 4 (by decide) (by omega) (by omega), hcell 5 (by decide) (by omega) (by omega), hcell 6 (by decide) (by omega) (by omega), hcell 7 (by decide) (by omega) (by omega), hcell 8 (by decide) (by omega) (by omega)]
      exact a1
    · rw [rp_of hR]
      unfold CRule
      rw [hcell (rp σ + 1) (by omega) (by omega) (by omega), hcell (rp σ + 2) (by omega) (by omega) (by omega)]
      exact a2
    · unfold CLate
      rw [hcell 1 (by decide) (by omega) (by omega), hcell 9 (by decide) (by omega) (by omega), hcell 10 (by decide) (by omega) (by omega), hcell 11 (by decide) (by omega) (by omega)]
      exact a3
    · unfold CSig
      rw [hcell 12 (by decide) (by omega) (by omega), hcell 13 (by decide) (by omega) (by omega)]
      exact a4
    · rw [rp_of hR, hcell (rp σ) (by omega) (by omega) (by omega)]
      exact a5
    · rw [h06]
      unfold CRb
      rw [hcell 14 (by decide) (by omega) (by omega), hcell (14 + 1) (by decide) (by omega) (by omega), hcell (14 + 2) (by decide) (by omega) (by omega), hcell (14 + 3) (by decide) (by omega) (by omega), hcell (14 + 4) (by decide) (by omega) (by omega), hcell (14 + 5) (by decide) (by omega) (by omega), hcell (14 + 6) (by decide) (by omega) (by omega), hcell (14 + 8) (by decide) (by omega) (by omega), hcell (14 + 10) (by decide) (by omega) (by omega), hJ 14 (by omega), hJ (14 + 9) (by omega)]
      exact a6
  · obtain ⟨u1, u2⟩ := hI.2.2.2.2.2.2 e7 hB
    rw [if_neg e7]
    exact ⟨σ, fin σ h u1 u2, h, hI, fun _ _ => rfl⟩
end
