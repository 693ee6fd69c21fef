/-! what a play keeps to -/
theorem ply_bd {S : Se} {X : Nat} (hS : SeOk S X) {b k : Nat} (hb : b < eB S) (hk : k ≤ eFin S b) : ply S 10 0 (10 * b + k) ≤ ply S 10 1 (10 * b + k) ∧ ply S 10 1 (10 * b + k) ≤ tU X 9 := by
  have hB := Bd_ply hS 10 (Nat.le_refl _)
  have hf := (hS.2.2.2.2.2.2.1 b hb).2.2.2.2
  have h1 := ((hB.1.1 b hb).1 k (by omega)).1
  have h2 := hB.1.2 b hb k (by omega)
  have h3 := tU_mono (X := X) (show k ≤ 9 by omega)
  exact ⟨h1, by omega⟩
theorem ply_go {S : Se} {X : Nat} (hS : SeOk S X) {b k : Nat} (hb : b < eB S) (hk : k < eFin S b) : ply S 10 1 (10 * b + k) + 10 ≤ ply S 10 0 (10 * b + (k + 1)) := by
  have hB := Bd_ply hS 10 (Nat.le_refl _)
  have hf := (hS.2.2.2.2.2.2.1 b hb).2.2.2.2
  have h1 := (hB.1.1 b hb).2.1 k (by omega)
  have := (hS.2.1 k (by omega)).1
  omega
theorem ply_st {S : Se} {X : Nat} (hS : SeOk S X) (k : Nat) : ply S 10 6 k ≤ 640 ∧ ply S 10 7 k ≤ 640 * tU X 9 ∧ ply S 10 8 k ≤ tU X 9 := by
  have hB := Bd_ply hS 10 (Nat.le_refl _)
  obtain ⟨h1, h2, h3⟩ := hB.2.2.2.1 k
  exact ⟨h1, Nat.le_trans h2 (Nat.mul_le_mul h1 (Nat.le_refl _)), h3⟩
theorem svs_7 {S : Se} {s k : Nat} : ∀ {r : List Nat} {P : Ps}, (∀ b ∈ r, eFin S b ≤ s) → svs S s r P 7 k = P 7 k := by
  intro r
  induction r with
  | nil => intro P _; rfl
  | cons b r ih =>
    intro P h
    show svs S s r (sv S s b P) 7 k = _
    rw [ih (fun a ha => h a (List.mem_cons_of_mem _ ha)), sv_7]
    by_cases e : k = s
    · have hf := h b List.mem_cons_self
      have hz : vN S s b P = 0 := by unfold vN; rw [if_neg (by omega)]
      rw [if_pos e, hz, e]
      simp
    · rw [if_neg e]
theorem ply_79 {S : Se} {X : Nat} (hS : SeOk S X) : ply S 10 7 9 = 0 := by
  show stp S 9 (ply S 9) 7 9 = 0
  unfold stp
  rw [svs_7 (fun b hb => (hS.2.2.2.2.2.2.1 b (ordC_mem.mp hb).1).2.2.2.2)]
  exact ((Bd_ply hS 9 (by decide)).2.2.2.2 9 (Nat.le_refl _)).2.1
theorem dsum_last {f : Nat → Nat} : ∀ {m s : Nat}, dsum f (m + 1) s = dsum f m s + f (s + m) := by
  intro m
  induction m with
  | zero => intro s; show f s + 0 = 0 + f s; omega
  | succ m ih =>
    intro s
    show f s + dsum f (m + 1) (s + 1) = f s + dsum f m (s + 1) + f (s + (m + 1))
    rw [ih, show s + 1 + m = s + (m + 1) by omega]
    omega
theorem dsum_10 {S : Se} {X : Nat} (hS : SeOk S X) : dsum (ply S 10 7) 10 0 = dsum (ply S 10 7) 9 0 := by
  rw [dsum_last, show 0 + 9 = 9 from rfl, ply_79 hS]
  rfl
theorem pc_sum_run {x : Nat} (hx : Cr x) {f : Nat → Nat} {σ : Sg} (h : Hp σ) (hf : ∀ k, k < 10 → σ.2.2.1 (x + 9) k = lN (f k)) : ∀ (m i n a : Nat), i + m = 10 → m < n → X0_sumOfWaits_run n x (lN a) (nI i) σ = some (lN (a + dsum f m i), σ) := by
  intro m
  induction m with
  | zero =>
    intro i n a hi hn
    obtain ⟨n, rfl⟩ : ∃ q, n = q + 1 := ⟨n - 1, by omega⟩
    have e : i = 10 := by omega
    subst e
    show X0_sumOfWaits_b4 n (X0_sumOfWaits_run n) x (lN a) (nI 10) σ = _
    unfold X0_sumOfWaits_b4
    rw [if_pos (show (10 : Int32) ≤ nI 10 by decide)]
    rfl
  | succ m ih =>
    intro i n a hi hn
    obtain ⟨n, rfl⟩ : ∃ q, n = q + 1 := ⟨n - 1, by omega⟩
    show X0_sumOfWaits_b4 n (X0_sumOfWaits_run n) x (lN a) (nI i) σ = _
    unfold X0_sumOfWaits_b4
    rw [if_neg (show ¬ (10 : Int32) ≤ nI i from nI_ge (b := 10) (by omega) (by decide)), gRc_8 h hx, ob, aJc_9 h hx (by omega), ob, hf i (by omega), lN_add, ob, nI_1, ob, ih (i + 1) n (a + f i) (by omega) (by omega)]
    show some (lN (a + f i + dsum f m (i + 1)), σ) = some (lN (a + (f i + dsum f m (i + 1))), σ)
    rw [Nat.add_assoc]
theorem pc_sum {x n : Nat} (hx : Cr x) {f : Nat → Nat} {σ : Sg} (h : Hp σ) (hf : ∀ k, k < 10 → σ.2.2.1 (x + 9) k = lN (f k)) (hn : 20 ≤ n) : f_X0_sumOfWaits n x σ = some (lN (dsum f 10 0), σ) := by
  unfold f_X0_sumOfWaits X0_sumOfWaits_b0
  have := pc_sum_run hx h hf 10 0 n 0 rfl (by omega)
  rw [Nat.zero_add] at this
  exact this
theorem pm_sum_run {f : Nat → Nat} {σ : Sg} (h : Hp σ) (hf : ∀ k, k < 9 → σ.2.1 67 k = nI (f k)) : ∀ (m i n a : Nat), i + m = 9 → m < n → X5_allWaited_run n 44 (nI a) (nI i) σ = some (nI (a + dsum f m i), σ) := by
  intro m
  induction m with
  | zero =>
    intro i n a hi hn
    obtain ⟨n, rfl⟩ : ∃ q, n = q + 1 := ⟨n - 1, by omega⟩
    have e : i = 9 := by omega
    subst e
    show X5_allWaited_b4 n (X5_allWaited_run n) 44 (nI a) (nI 9) σ = _
    unfold X5_allWaited_b4
    rw [if_pos (show (9 : Int32) ≤ nI 9 by decide)]
    rfl
  | succ m ih =>
    intro i n a hi hn
    obtain ⟨n, rfl⟩ : ∃ q, n = q + 1 := ⟨n - 1, by omega⟩
    show X5_allWaited_b4 n (X5_allWaited_run n) 44 (nI a) (nI i) σ = _
    unfold X5_allWaited_b4
    rw [if_neg (show ¬ (9 : Int32) ≤ nI i from nI_ge (b := 9) (by omega) (by decide)), gR_5_44_26 h, ob, aI_67 h (by omega), ob, hf i (by omega), nI_add, ob, nI_1, ob, ih (i + 1) n (a + f i) (by omega) (by omega)]
    show some (nI (a + f i + dsum f m (i + 1)), σ) = some (nI (a + (f i + dsum f m (i + 1))), σ)
    rw [Nat.add_assoc]
theorem pm_sum {n : Nat} {f : Nat → Nat} {σ : Sg} (h : Hp σ) (hf : ∀ k, k < 9 → σ.2.1 67 k = nI (f k)) (hn : 20 ≤ n) : f_X5_allWaited n 44 σ = some (nI (dsum f 9 0), σ) := by
  unfold f_X5_allWaited X5_allWaited_b0
  have := pm_sum_run h hf 9 0 n 0 rfl (by omega)
  rw [Nat.zero_add] at this
  exact this
section
variable {W : Wd}
theorem Ok.x (hW : Ok W) : SeOk (xS W (fun _ => false)) 9990 := xS_ok hW.1 (by have := hW.2.1.1; omega) hW.2.1.2 _
theorem Ok.bd (hW : Ok W) {b k : Nat} (hb : b < eB W.1) (hk : k ≤ eFin W.1 b) : pl W 0 (10 * b + k) ≤ pl W 1 (10 * b + k) ∧ pl W 1 (10 * b + k) < 2 ^ 21 := by
  have := ply_bd hW.x hb hk
  have e : tU 9990 9 = 1047200 := rfl
  rw [e] at this
  exact ⟨this.1, by have := this.2; unfold pl; omega⟩
theorem ck14 {σ : Sg} (h : Hp σ) : ck 0 14 σ = some () := ck_g h (by decide) (by decide)
-- at
theorem z_at (hW : Ok W) {n : Nat} (hn : 400 ≤ n) (i j k : Int32) : Pz (f_X4_at n 0 i j k) (f_X5_at n 44 i j k) W := by
  have hB8 : eB W.1 ≤ 8 := hW.1.1
  by_cases hb : ∃ b, b < eB W.1 ∧ i = nI b
  · obtain ⟨b, b1, rfl⟩ := hb
    by_cases hs : Rg j 0 9
    · by_cases hk : Rg k 0 5
      · have hs2 := hs
        have hk2 := hk
        obtain ⟨s, s1, s2, rfl⟩ := hs
        obtain ⟨w, w1, w2, rfl⟩ := hk
        have hc : 10 * b + s < 80 := by omega
        by_cases e : s ≤ eFin W.1 b
        · have hbd := hW.bd b1 e
          refine ⟨W, nI (pl W w (10 * b + s)), hW, fun σ h hI => ?_, fun σ h hI => ?_⟩
          · obtain ⟨τ, t1, t2, t3, t4, t5, t6⟩ := pc_pres hW (n := n) (by omega) h hI
            refine ⟨τ, ?_, t2, t3, fun q hq => (t5 q (by omega)).1⟩
            have hcm := pc_comes hW.x h hI.1 (n := n) b1 (show s < 10 by omega)
            have e' : s ≤ eFin (xS W (fun _ => false)) b := e
            rw [if_pos e'] at hcm
            unfold f_X4_at
            rw [gR_4_0_0 h, ob, ck_1 h, ob, hb_y h hI.1.1 hB8 b1, ob, if_neg z10, st_y hs2, ob, if_neg z10, if_neg (nI_pos (by omega)), if_pos (show nI w ≤ 5 from nI_le (b := 5) w2 (by decide)), gR_4_0_0 h, ob, ck_1 h, ob, hcm, ob, if_neg z10, ck_0 h, ob, t1, ob, pc_cell, ob, ck14 t2, ob]
            obtain ⟨v0, v1, v2, v3, v4, v5⟩ := t4.1 (10 * b + s) ⟨b, s, b1, by omega, e, rfl⟩
            unfold f_X0_tellVisit
            rw [ob]
            have hx : Cr 14 := Or.inl rfl
            have hcase : w = 0 ∨ w = 1 ∨ w = 2 ∨ w = 3 ∨ w = 4 ∨ w = 5 := by omega
            rcases hcase with q | q | q | q | q | q <;> subst q
            · rw [if_pos (show nI 0 = 0 from rfl), gRc_0 t2 hx, ob, aIc_1 t2 hx hc, ob, v0, ob]
            · rw [if_neg (show ¬ nI 1 = 0 by decide), if_pos (show nI 1 = 1 from rfl), gRc_1 t2 hx, ob, aIc_2 t2 hx hc, ob, v1, ob]
            · rw [if_neg (show ¬ nI 2 = 0 by decide), if_neg (show ¬ nI 2 = 1 by decide), if_pos (show nI 2 = 2 from rfl), gRc_2 t2 hx, ob, aIc_3 t2 hx hc, ob, v2, ob]
            · rw [if_neg (show ¬ nI 3 = 0 by decide), if_neg (show ¬ nI 3 = 1 by decide), if_neg (show ¬ nI 3 = 2 by decide), if_pos (show nI 3 = 3 from rfl), gRc_3 t2 hx, ob, aIc_4 t2 hx hc, ob, v3, ob]
            · rw [if_neg (show ¬ nI 4 = 0 by decide), if_neg (show ¬ nI 4 = 1 by decide), if_neg (show ¬ nI 4 = 2 by decide), if_neg (show ¬ nI 4 = 3 by decide), if_pos (show nI 4 = 4 from rfl), gRc_4 t2 hx, ob, aIc_5 t2 hx hc, ob, v4, ob]
            · rw [if_neg (show ¬ nI 5 = 0 by decide), if_neg (show ¬ nI 5 = 1 by decide), if_neg (show ¬ nI 5 = 2 by decide), if_neg (show ¬ nI 5 = 3 by decide), if_neg (show ¬ nI 5 = 4 by decide), gRc_5 t2 hx, ob, aIc_6 t2 hx hc, ob, v5, ob]
          · obtain ⟨τ, t1, t2, t3⟩ := pm_prs hW hn h hI
            have h1 := t2.hp h
            refine ⟨τ, ?_, h1, InvM_fn hI t2, fun q hq => t2.2.2.2.1 q (Or.inl hq), t2.2.2.1, t2.2.1⟩
            obtain ⟨m0, m1, m2⟩ := t3.1 b b1 s (by omega)
            have e' : s ≤ eFin (xS W (fun _ => false)) b := e
            rw [if_pos e'] at m0 m1
            obtain ⟨m3, m4, m5, m6⟩ := m2 e'
            unfold f_X5_at
            rw [ck_44 h, ob, ib_y h hI.1.1 hB8 b1, ob, if_neg z10, iy_0_9 hs2, ob, if_neg z10, iy_0_5 hk2, ob, if_neg z10, ck_44 h, ob, t1, ob, p10, ob, gR_5_44_17 h1, ob, aI_58 h1 hc, ob, m0, if_pos (nI_pos' (by have := hbd; unfold pl at this; omega))]
            have hcase : w = 0 ∨ w = 1 ∨ w = 2 ∨ w = 3 ∨ w = 4 ∨ w = 5 := by omega
            rcases hcase with q | q | q | q | q | q <;> subst q
            · rw [if_pos (show nI 0 = 0 from rfl), ob, aI_58 h1 hc, ob, m0]; rfl
            · rw [if_neg (show ¬ nI 1 = 0 by decide), if_pos (show nI 1 = 1 from rfl), gR_5_44_18 h1, ob, aI_59 h1 hc, ob, m1]; rfl
            · rw [if_neg (show ¬ nI 2 = 0 by decide), if_neg (show ¬ nI 2 = 1 by decide), if_pos (show nI 2 = 2 from rfl), gR_5_44_19 h1, ob, aI_60 h1 hc, ob, m3]; rfl
            · rw [if_neg (show ¬ nI 3 = 0 by decide), if_neg (show ¬ nI 3 = 1 by decide), if_neg (show ¬ nI 3 = 2 by decide), if_pos (show nI 3 = 3 from rfl), gR_5_44_20 h1, ob, aI_61 h1 hc, ob, m4]; rfl
            · rw [if_neg (show ¬ nI 4 = 0 by decide), if_neg (show ¬ nI 4 = 1 by decide), if_neg (show ¬ nI 4 = 2 by decide), if_neg (show ¬ nI 4 = 3 by decide), if_pos (show nI 4 = 4 from rfl), gR_5_44_21 h1, ob, aI_62 h1 hc, ob, m5]; rfl
            · rw [if_neg (show ¬ nI 5 = 0 by decide), if_neg (show ¬ nI 5 = 1 by decide), if_neg (show ¬ nI 5 = 2 by decide), if_neg (show ¬ nI 5 = 3 by decide), if_neg (show ¬ nI 5 = 4 by decide), gR_5_44_22 h1, ob, aI_63 h1 hc, ob, m6]; rfl
        · refine ⟨W, (-6), hW, CZ_no (fun σ h hI => ?_), fun σ h hI => ?_⟩
          · have hcm := pc_comes hW.x h hI.1 (n := n) b1 (show s < 10 by omega)
            have e' : ¬ s ≤ eFin (xS W (fun _ => false)) b := e
            rw [if_neg e'] at hcm
            unfold f_X4_at
            rw [gR_4_0_0 h, ob, ck_1 h, ob, hb_y h hI.1.1 hB8 b1, ob, if_neg z10, st_y hs2, ob, if_neg z10, if_neg (nI_pos (by omega)), if_pos (show nI w ≤ 5 from nI_le (b := 5) w2 (by decide)), gR_4_0_0 h, ob, ck_1 h, ob, hcm, ob, if_pos rfl]
          · obtain ⟨τ, t1, t2, t3⟩ := pm_prs hW hn h hI
            have h1 := t2.hp h
            refine ⟨τ, ?_, h1, InvM_fn hI t2, fun q hq => t2.2.2.2.1 q (Or.inl hq), t2.2.2.1, t2.2.1⟩
            obtain ⟨m0, m1, m2⟩ := t3.1 b b1 s (by omega)
            have e' : ¬ s ≤ eFin (xS W (fun _ => false)) b := e
            rw [if_neg e'] at m0
            unfold f_X5_at
            rw [ck_44 h, ob, ib_y h hI.1.1 hB8 b1, ob, if_neg z10, iy_0_9 hs2, ob, if_neg z10, iy_0_5 hk2, ob, if_neg z10, ck_44 h, ob, t1, ob, p10, ob, gR_5_44_17 h1, ob, aI_58 h1 hc, ob, m0, if_neg (show ¬ (0 : Int32) ≤ -6 by decide)]
      · refine ⟨W, (-2), hW, CZ_no (fun σ h hI => ?_), MZ_no (fun σ h hI => ?_)⟩
        · unfold f_X4_at X4_at_b29
          rw [gR_4_0_0 h, ob, ck_1 h, ob, hb_y h hI.1.1 hB8 b1, ob, if_neg z10, st_y hs, ob, if_neg z10]
          rcases nRg (lo := 0) (by decide) (by decide) hk with z | z
          · rw [if_pos (show k < 0 from z)]
          · rw [if_neg (show ¬ k ≤ 5 from i_nle (by decide) z), ite_self]
        · unfold f_X5_at
          rw [ck_44 h, ob, ib_y h hI.1.1 hB8 b1, ob, if_neg z10, iy_0_9 hs, ob, if_neg z10, im_0_5 hk, ob, if_pos rfl]
    · refine ⟨W, (-1), hW, CZ_no (fun σ h hI => ?_), MZ_no (fun σ h hI => ?_)⟩
      · unfold f_X4_at X4_at_b18
        rw [gR_4_0_0 h, ob, ck_1 h, ob, hb_y h hI.1.1 hB8 b1, ob, if_neg z10, st_n hs, ob, if_pos rfl]
      · unfold f_X5_at X5_at_b18
        rw [ck_44 h, ob, ib_y h hI.1.1 hB8 b1, ob, if_neg z10, im_0_9 hs, ob, if_pos rfl]
  · refine ⟨W, (-1), hW, CZ_no (fun σ h hI => ?_), MZ_no (fun σ h hI => ?_)⟩
    · unfold f_X4_at X4_at_b18
      rw [gR_4_0_0 h, ob, ck_1 h, ob, hb_n h hI.1.1 hB8 hb, ob, if_pos rfl]
    · unfold f_X5_at X5_at_b18
      rw [ck_44 h, ob, ib_n h hI.1.1 hB8 hb, ob, if_pos rfl]
-- waited
theorem z_waited (hW : Ok W) {n : Nat} (hn : 400 ≤ n) (i j : Int32) : Pz (f_X4_waited n 0 i j) (f_X5_waited n 44 i j) W := by
  by_cases hi : Rg i 0 8
  · by_cases hj : Rg j 0 2
    · have hi2 := hi
      have hj2 := hj
      obtain ⟨s, s1, s2, rfl⟩ := hi
      obtain ⟨w, w1, w2, rfl⟩ := hj
      have hcase : w = 0 ∨ w = 1 ∨ w = 2 := by omega
      refine ⟨W, nI (pl W (6 + w) s), hW, fun σ h hI => ?_, fun σ h hI => ?_⟩
      · obtain ⟨τ, t1, t2, t3, t4, t5, t6⟩ := pc_pres hW (n := n) (by omega) h hI
        refine ⟨τ, ?_, t2, t3, fun q hq => (t5 q (by omega)).1⟩
        have hx : Cr 14 := Or.inl rfl
        obtain ⟨v0, v1, v2⟩ := t4.2.1 s (by omega)
        unfold f_X4_waited
        rw [go_y hi2, ob, if_neg z10, if_neg (nI_pos (by omega)), if_pos (show nI w ≤ 2 from nI_le (b := 2) w2 (by decide)), ck_0 h, ob, t1, ob, ck14 t2, ob]
        unfold f_X0_tellWaits
        rw [ob]
        rcases hcase with q | q | q <;> subst q
        · rw [if_pos (show nI 0 = 0 from rfl), gRc_7 t2 hx, ob, aIc_8 t2 hx (by omega), ob, v0, ob]
        · rw [if_neg (show ¬ nI 1 = 0 by decide), if_pos (show nI 1 = 1 from rfl), gRc_8 t2 hx, ob, aJc_9 t2 hx (by omega), ob, v1, lN_i, ob]
        · rw [if_neg (show ¬ nI 2 = 0 by decide), if_neg (show ¬ nI 2 = 1 by decide), gRc_9 t2 hx, ob, aIc_10 t2 hx (by omega), ob, v2, ob]
      · obtain ⟨τ, t1, t2, t3⟩ := pm_prs hW hn h hI
        have h1 := t2.hp h
        refine ⟨τ, ?_, h1, InvM_fn hI t2, fun q hq => t2.2.2.2.1 q (Or.inl hq), t2.2.2.1, t2.2.1⟩
        obtain ⟨v0, v1, v2⟩ := t3.2.1 s (by omega)
        unfold f_X5_waited
        rw [on_y hi2, ob, if_neg z10, iy_0_2 hj2, ob, if_neg z10, ck_44 h, ob, t1, ob]
        rcases hcase with q | q | q <;> subst q
        · rw [if_pos (show nI 0 = 0 from rfl), gR_5_44_25 h1, ob, aI_66 h1 (by omega), ob, v0]; rfl
        · rw [if_neg (show ¬ nI 1 = 0 by decide), if_pos (show nI 1 = 1 from rfl), gR_5_44_26 h1, ob, aI_67 h1 (by omega), ob, v1]; rfl
        · rw [if_neg (show ¬ nI 2 = 0 by decide), if_neg (show ¬ nI 2 = 1 by decide), gR_5_44_27 h1, ob, aI_68 h1 (by omega), ob, v2]; rfl
    · refine ⟨W, (-2), hW, CZ_no (fun σ h hI => ?_), MZ_no (fun σ h hI => ?_)⟩
      · unfold f_X4_waited X4_waited_b18
        rw [go_y hi, ob, if_neg z10]
        rcases nRg (lo := 0) (by decide) (by decide) hj with z | z
        · rw [if_pos (show j < 0 from z)]
        · rw [if_neg (show ¬ j ≤ 2 from i_nle (by decide) z), ite_self]
      · unfold f_X5_waited
        rw [on_y hi, ob, if_neg z10, im_0_2 hj, ob, if_pos rfl]
  · refine ⟨W, (-1), hW, CZ_no (fun σ h hI => ?_), MZ_no (fun σ h hI => ?_)⟩
    · unfold f_X4_waited
      rw [go_n hi, ob, if_pos rfl]
    · unfold f_X5_waited
      rw [on_n hi, ob, if_pos rfl]
-- all
theorem z_all (hW : Ok W) {n : Nat} (hn : 400 ≤ n) (i : Int32) : Pz (f_X4_all n 0 i) (f_X5_all n 44 i) W := by
  by_cases hi : Rg i 0 2
  · have hi2 := hi
    obtain ⟨w, w1, w2, rfl⟩ := hi
    have hcase : w = 0 ∨ w = 1 ∨ w = 2 := by omega
    refine ⟨W, nI (if w = 0 then dsum (pl W 7) 9 0 else pl W (8 + w) 0), hW, fun σ h hI => ?_, fun σ h hI => ?_⟩
    · obtain ⟨τ, t1, t2, t3, t4, t5, t6⟩ := pc_pres hW (n := n) (by omega) h hI
      refine ⟨τ, ?_, t2, t3, fun q hq => (t5 q (by omega)).1⟩
      have hx : Cr 14 := Or.inl rfl
      unfold f_X4_all
      rw [if_neg (nI_pos (by omega)), if_pos (show nI w ≤ 2 from nI_le (b := 2) w2 (by decide)), ck_0 h, ob, t1, ob, ob]
      rcases hcase with q | q | q <;> subst q
      · rw [if_pos (show nI 0 = 0 from rfl), ck14 t2, ob, pc_sum hx t2 (fun k hk => (t4.2.1 k hk).2.1) (by omega), ob, lN_i, if_pos rfl]
        have := dsum_10 hW.x
        show some (nI (dsum (ply (xS W (fun _ => false)) 10 7) 10 0), τ) = some (nI (dsum (ply (xS W (fun _ => false)) 10 7) 9 0), τ)
        rw [this]
      · rw [if_neg (show ¬ nI 1 = 0 by decide), if_pos (show nI 1 = 1 from rfl), gJc_10 t2 hx, ob, t4.2.2.1, lN_i]; rfl
      · rw [if_neg (show ¬ nI 2 = 0 by decide), if_neg (show ¬ nI 2 = 1 by decide), gIc_11 t2 hx, ob, t4.2.2.2]; rfl
    · obtain ⟨τ, t1, t2, t3⟩ := pm_prs hW hn h hI
      have h1 := t2.hp h
      refine ⟨τ, ?_, h1, InvM_fn hI t2, fun q hq => t2.2.2.2.1 q (Or.inl hq), t2.2.2.1, t2.2.1⟩
      unfold f_X5_all
      rw [iy_0_2 hi2, ob, if_neg z10, ck_44 h, ob, t1, ob]
      rcases hcase with q | q | q <;> subst q
      · rw [if_pos (show nI 0 = 0 from rfl), ck_44 h1, ob, pm_sum h1 (fun k hk => (t3.2.1 k hk).2.1) (by omega), ob]; rfl
      · rw [if_neg (show ¬ nI 1 = 0 by decide), if_pos (show nI 1 = 1 from rfl), gI_5_44_29 h1, ob, t3.2.2.1]; rfl
      · rw [if_neg (show ¬ nI 2 = 0 by decide), if_neg (show ¬ nI 2 = 1 by decide), gI_5_44_30 h1, ob, t3.2.2.2]; rfl
  · refine ⟨W, (-2), hW, CZ_no (fun σ h hI => ?_), MZ_no (fun σ h hI => ?_)⟩
    · unfold f_X4_all X4_all_b9
      rcases nRg (lo := 0) (by decide) (by decide) hi with z | z
      · rw [if_pos (show i < 0 from z)]
      · rw [if_neg (show ¬ i ≤ 2 from i_nle (by decide) z), ite_self]
    · unfold f_X5_all
      rw [im_0_2 hi, ob, if_pos rfl]
end
