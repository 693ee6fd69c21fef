/-! THE COURSE AS IT IS: class and model play what is set -/
theorem exL_9 {lb ls lq : Nat → Nat} {sk : Nat → Bool} {b : Nat} : ∀ {l : Nat}, (∀ i, i < l → ls i < 9) → exL lb ls lq sk b 9 l = 0 := by
  intro l
  induction l with
  | zero => intro _; rfl
  | succ l ih =>
    intro h
    unfold exL
    rw [ih (fun i hi => h i (by omega)), if_neg]
    have := h l (by omega)
    rintro ⟨_, _, h3⟩
    omega
theorem exL_sum {lb ls lq : Nat → Nat} {sk : Nat → Bool} {s : Nat} : ∀ {l : Nat}, (∀ i, i < l → lq i ≤ 900) → fb_sm (fun b => exL lb ls lq sk b s l) 8 ≤ 900 * l := by
  intro l
  induction l with
  | zero => intro _; show fb_sm (fun b => 0) 8 ≤ _; rw [fb_sm_const]; omega
  | succ l ih =>
    intro h
    have h1 := ih (fun i hi => h i (by omega))
    have h2 := h l (by omega)
    show fb_sm (fun b => exL lb ls lq sk b s l + (if sk l = false ∧ lb l = b ∧ ls l = s then lq l else 0)) 8 ≤ _
    rw [fb_sm_add]
    have h3 : fb_sm (fun b => if sk l = false ∧ lb l = b ∧ ls l = s then lq l else 0) 8 ≤ 900 := by
      refine Nat.le_trans (fb_sm_le (g := fun b => if b = lb l then lq l else 0) (fun k _ => ?_)) ?_
      · show (if sk l = false ∧ lb l = k ∧ ls l = s then lq l else 0) ≤ (if k = lb l then lq l else 0)
        by_cases e : k = lb l
        · rw [if_pos e]
          split
          · exact Nat.le_refl _
          · exact Nat.zero_le _
        · rw [if_neg (show ¬ (sk l = false ∧ lb l = k ∧ ls l = s) from fun z => e z.2.1.symm)]
          exact Nat.zero_le _
      · by_cases e : lb l < 8
        · have := fb_sm_upd (fun _ => 0) (lq l) e
          have h4 := fb_sm_const 0 8
          omega
        · rw [fb_sm_out (fun _ => 0) (lq l) (by omega), fb_sm_const]
          omega
    omega
theorem exL_congr {lb ls lq lb' ls' lq' : Nat → Nat} {sk : Nat → Bool} {b s : Nat} : ∀ {l : Nat}, (∀ i, i < l → lb' i = lb i ∧ ls' i = ls i ∧ lq' i = lq i) → exL lb' ls' lq' sk b s l = exL lb ls lq sk b s l := by
  intro l
  induction l with
  | zero => intro _; rfl
  | succ l ih =>
    intro h
    unfold exL
    rw [ih (fun i hi => h i (by omega)), (h l (by omega)).1, (h l (by omega)).2.1, (h l (by omega)).2.2]
theorem xS_ok {W : Wd} (hS : SeOk (wE W.1 (fun _ _ => 0)) 9990) (hl : W.2.1.1 ≤ 11) (hL : Lo W) (sk : Nat → Bool) : SeOk (xS W sk) 9990 := by
  obtain ⟨o1, o2, o3, o4, o5, o6, o7, o8, o9, o10, o11, o12⟩ := hS
  refine ⟨o1, o2, o3, o4, o5, o6, o7, o8, fun s => ?_, fun b => ?_, o11, o12⟩
  · refine Nat.le_trans (exL_sum (fun i hi => (hL i hi).2.2)) (by omega)
  · exact exL_9 (fun i hi => (hL i hi).2.1)
theorem gS_ok {W : Wd} (hS : SeOk (wE W.1 (fun _ _ => 0)) 9990) (hl : W.2.1.1 ≤ 11) (hL : Lo W) {s g : Nat} (hg : g ≤ 600) : SeOk (gS W s g) 600 := by
  obtain ⟨o1, o2, o3, o4, o5, o6, o7, o8, o9, o10, o11, o12⟩ := xS_ok hS hl hL (fun _ => false)
  refine ⟨o1, o2, o3, o4, o5, o6, o7, o8, o9, o10, fun k _ => ?_, by decide⟩
  show ((if k = s then 2 else 0) = 1 → 10 * (if k = s then g else 0) ≤ 600) ∧ ((if k = s then 2 else 0) = 2 → (if k = s then g else 0) ≤ 600)
  by_cases e : k = s
  · rw [if_pos e, if_pos e]; exact ⟨fun z => by omega, fun _ => hg⟩
  · rw [if_neg e, if_neg e]; exact ⟨fun z => by omega, fun z => by omega⟩
/-- a course, and what it costs, outside of it nothing -/
def FD (x : Nat) (σ τ : Sg) : Prop := τ.1 = σ.1 ∧ τ.2.2.2 = σ.2.2.2 ∧ (∀ k, (k < x ∨ x + 11 < k) → τ.2.1 k = σ.2.1 k) ∧ (∀ k, (k < x ∨ x + 11 < k) → τ.2.2.1 k = σ.2.2.1 k)
theorem FD.rf {x : Nat} {σ : Sg} : FD x σ σ := ⟨rfl, rfl, fun _ _ => rfl, fun _ _ => rfl⟩
theorem FD.tr {x : Nat} {σ τ ρ : Sg} (h1 : FD x σ τ) (h2 : FD x τ ρ) : FD x σ ρ := ⟨h2.1.trans h1.1, h2.2.1.trans h1.2.1, fun k hk => (h2.2.2.1 k hk).trans (h1.2.2.1 k hk), fun k hk => (h2.2.2.2 k hk).trans (h1.2.2.2 k hk)⟩
theorem FC.fd {x : Nat} {σ τ : Sg} (h : FC x σ τ) : FD x σ τ := ⟨h.1, h.2.1, fun k hk => h.2.2.1 k (by omega), h.2.2.2⟩
theorem FD.hp {x : Nat} {σ τ : Sg} (h : FD x σ τ) (hp : Hp σ) : Hp τ := Hp_eq h.1 h.2.1 hp
theorem FD.line {x : Nat} {σ τ : Sg} {S : Se} (hx : Cr x) (h : FD x σ τ) (hL : CLine σ S) : CLine τ S := by
  have e : ∀ k, k < 14 → τ.2.1 k = σ.2.1 k := fun k hk => h.2.2.1 k (by omega)
  unfold CLine
  rw [e 1 (by decide), e 2 (by decide), e 3 (by decide), e 4 (by decide), e 5 (by decide), e 6 (by decide), e 7 (by decide), e 8 (by decide)]
  exact hL
theorem FD.rule {x y : Nat} {σ τ : Sg} {S : Se} (hx : Cr x) (hy : Ru y) (h : FD x σ τ) (hR : CRule σ y S) : CRule τ y S := by
  intro s hs
  rw [h.2.2.1 (y + 1) (by omega), h.2.2.1 (y + 2) (by omega)]
  exact hR s hs
theorem FD.late {x : Nat} {σ τ : Sg} {W : Wd} (hx : Cr x) (h : FD x σ τ) (hL : CLate σ W) : CLate τ W := by
  have e : ∀ k, k < 14 → τ.2.1 k = σ.2.1 k := fun k hk => h.2.2.1 k (by omega)
  unfold CLate
  rw [e 1 (by decide), e 9 (by decide), e 10 (by decide), e 11 (by decide)]
  exact hL
theorem pc_lays_run {W : Wd} (hl : W.2.1.1 ≤ 10) (hLo : Lo W) {x : Nat} (hx : Cr x) {w : Int32} {sk : Nat → Bool} (hw : ∀ i, i < 11 → (nI i = w ↔ sk i = true)) :
    ∀ (m i n : Nat) (σ : Sg), i + m = W.2.1.1 → m < n → Hp σ → CLate σ W → (∀ b s, b < 8 → s < 10 → σ.2.1 (x + 7) (10 * b + s) = nI (exL W.2.1.2.1 W.2.1.2.2.1 W.2.1.2.2.2 sk b s i)) →
    ∃ τ, X0_layLatenesses_run n x 1 w (nI i) σ = some τ ∧ FD x σ τ ∧ (∀ b s, b < 8 → s < 10 → τ.2.1 (x + 7) (10 * b + s) = nI (exL W.2.1.2.1 W.2.1.2.2.1 W.2.1.2.2.2 sk b s W.2.1.1)) := by
  intro m
  induction m with
  | zero =>
    intro i n σ hi hn h hL hE
    obtain ⟨n, rfl⟩ : ∃ q, n = q + 1 := ⟨n - 1, by omega⟩
    have e : i = W.2.1.1 := by omega
    subst e
    show ∃ τ, X0_layLatenesses_b10 n (X0_layLatenesses_run n) x 1 w (nI W.2.1.1) σ = _ ∧ _
    unfold X0_layLatenesses_b10
    rw [gI_1_1_11 h, ob, hL.1, if_pos (nI_le (Nat.le_refl _) (by omega))]
    exact ⟨σ, rfl, FD.rf, hE⟩
  | succ m ih =>
    intro i n σ hi hn h hL hE
    obtain ⟨n, rfl⟩ : ∃ q, n = q + 1 := ⟨n - 1, by omega⟩
    have ex : ∀ b s, exL W.2.1.2.1 W.2.1.2.2.1 W.2.1.2.2.2 sk b s (i + 1) = exL W.2.1.2.1 W.2.1.2.2.1 W.2.1.2.2.2 sk b s i + (if sk i = false ∧ W.2.1.2.1 i = b ∧ W.2.1.2.2.1 i = s then W.2.1.2.2.2 i else 0) := fun _ _ => rfl
    obtain ⟨p1, p2, p3⟩ := hLo i (by omega)
    obtain ⟨l1, l2, l3⟩ := hL.2 i (by omega)
    show ∃ τ, X0_layLatenesses_b10 n (X0_layLatenesses_run n) x 1 w (nI i) σ = _ ∧ _
    unfold X0_layLatenesses_b10
    rw [gI_1_1_11 h, ob, hL.1, if_neg (nI_ge (by omega) (by omega))]
    by_cases e1 : sk i = true
    · rw [if_pos ((hw i (by omega)).mpr e1)]
      unfold X0_layLatenesses_b52
      rw [nI_1, ob]
      refine ih (i + 1) n σ (by omega) (by omega) h hL (fun b s hb hs => ?_)
      rw [hE b s hb hs, ex, if_neg (fun z => by rw [e1] at z; exact absurd z.1 (by decide))]; rfl
    · have e0 : sk i = false := by cases hk : sk i; rfl; exact absurd hk e1
      have hc : 10 * W.2.1.2.1 i + W.2.1.2.2.1 i < 80 := by omega
      rw [if_neg (fun z => e1 ((hw i (by omega)).mp z)), gRc_6 h hx, ob, gR_1_1_8 h, ob, aI_9 h (by omega), ob, l1, gR_1_1_9 h, ob, aI_10 h (by omega), ob, l2, pc_cell, ob, aIc_7 h hx hc, ob, gR_1_1_10 h, ob, aI_11 h (by omega), ob, l3, xIc_7 h hx hc, ob, hE _ _ p1 (by omega), nI_add]
      unfold X0_layLatenesses_b52
      rw [nI_1, ob]
      have f1 : FD x σ (sI σ (x + 7) (10 * W.2.1.2.1 i + W.2.1.2.2.1 i) (nI (exL W.2.1.2.1 W.2.1.2.2.1 W.2.1.2.2.2 sk (W.2.1.2.1 i) (W.2.1.2.2.1 i) i + W.2.1.2.2.2 i))) := ⟨rfl, rfl, fun k hk => rI_ne (by omega), fun _ _ => rfl⟩
      obtain ⟨τ, t1, t2, t3⟩ := ih (i + 1) n _ (by omega) (by omega) (f1.hp h) (f1.late hx hL) (fun b s hb hs => by
        rw [rI, ex]
        by_cases e : 10 * b + s = 10 * W.2.1.2.1 i + W.2.1.2.2.1 i
        · have z1 : W.2.1.2.1 i = b := by omega
          have z2 : W.2.1.2.2.1 i = s := by omega
          have c1 : sk i = false ∧ W.2.1.2.1 i = b ∧ W.2.1.2.2.1 i = s := ⟨e0, z1, z2⟩
          rw [if_pos ⟨rfl, e⟩, if_pos c1, z1, z2]
        · have c1 : ¬ (sk i = false ∧ W.2.1.2.1 i = b ∧ W.2.1.2.2.1 i = s) := fun z => by omega
          rw [if_neg (fun z => e z.2), hE b s hb hs, if_neg c1]; rfl)
      exact ⟨τ, t1, f1.tr t2, t3⟩
theorem pc_lays {W : Wd} (hl : W.2.1.1 ≤ 10) (hLo : Lo W) {x n : Nat} (hx : Cr x) {w : Int32} {sk : Nat → Bool} (hw : ∀ i, i < 11 → (nI i = w ↔ sk i = true)) (hn : 100 ≤ n) {σ : Sg} (h : Hp σ) (hL : CLate σ W) :
    ∃ τ, f_X0_layLatenesses n x 1 w σ = some τ ∧ FD x σ τ ∧ (∀ b s, b < 8 → s < 10 → τ.2.1 (x + 7) (10 * b + s) = nI (exL W.2.1.2.1 W.2.1.2.2.1 W.2.1.2.2.2 sk b s W.2.1.1)) := by
  have k7 : kd (x + 7) = 6 ∧ ln (x + 7) = 80 := by rcases hx with rfl | rfl <;> decide
  unfold f_X0_layLatenesses X0_layLatenesses_b0
  rw [gRc_6 h hx, ob, pc_fill h k7.1 (by omega) k7.2 (by decide) hn, ob]
  have f1 : FD x σ (sA σ (x + 7) (fun j => if j < 80 then 0 else σ.2.1 (x + 7) j)) := ⟨rfl, rfl, fun k hk => sA_ne (by omega), fun _ _ => rfl⟩
  obtain ⟨τ, t1, t2, t3⟩ := pc_lays_run hl hLo hx hw W.2.1.1 0 n _ (by omega) (by omega) (f1.hp h) (f1.late hx hL) (fun b s hb hs => by
    rw [sA_eq, if_pos (by omega)]; rfl)
  exact ⟨τ, t1, f1.tr t2, t3⟩
theorem sk_no : ∀ i, i < 11 → (nI i = (-6) ↔ (fun _ => false : Nat → Bool) i = true) := by
  intro i hi
  constructor
  · intro z
    have := congrArg Int32.toInt z
    rw [nI_toInt (by omega)] at this
    have e : (-6 : Int32).toInt = -6 := by decide
    omega
  · intro z
    exact absurd z Bool.false_ne_true
theorem sk_i {k : Nat} (hk : k < 11) : ∀ i, i < 11 → (nI i = nI k ↔ (fun q => decide (q = k) : Nat → Bool) i = true) := by
  intro i hi
  rw [nI_eq (by omega) (by omega)]
  exact decide_eq_true_iff.symm
/-- what the caches need -/
theorem InvC_26 {σ τ : Sg} {W : Wd} (hI : InvC σ W) (hp : Hp σ) (h : FD 26 σ τ) : InvC τ W := by
  have hr : rp σ = 38 ∨ rp σ = 41 := rp_Ru hp
  unfold InvC CLine CRule CLate CSig CRb
  rw [rp_of h.2.1, h.2.2.1 0 (by decide), h.2.2.1 1 (by decide), h.2.2.1 2 (by decide), h.2.2.1 3 (by decide), h.2.2.1 4 (by decide), h.2.2.1 5 (by decide), h.2.2.1 6 (by decide), h.2.2.1 7 (by decide), h.2.2.1 8 (by decide), h.2.2.1 9 (by decide), h.2.2.1 10 (by decide), h.2.2.1 11 (by decide), h.2.2.1 12 (by decide), h.2.2.1 13 (by decide), h.2.2.1 (rp σ) (by omega), h.2.2.1 (rp σ + 1) (by omega), h.2.2.1 (rp σ + 2) (by omega), h.2.2.1 14 (by decide), h.2.2.1 (14 + 1) (by decide), h.2.2.1 (14 + 2) (by decide), h.2.2.1 (14 + 3) (by decide), h.2.2.1 (14 + 4) (by decide), h.2.2.1 (14 + 5) (by decide), h.2.2.1 (14 + 6) (by decide), h.2.2.1 (14 + 8) (by decide), h.2.2.1 (14 + 10) (by decide), h.2.2.2 14 (by decide), h.2.2.2 (14 + 9) (by decide)]
  exact hI
/-- presentCourse: what is set has been played -/
theorem pc_pres {W : Wd} (hW : Ok W) {n : Nat} (hn : 200 ≤ n) {σ : Sg} (h : Hp σ) (hI : InvC σ W) :
    ∃ τ, f_X4_presentCourse n 0 σ = some (14, τ) ∧ Hp τ ∧ InvC τ W ∧ CRb 14 τ (pl W) (Vd W.1 10) ∧ (∀ k, 26 ≤ k → τ.2.1 k = σ.2.1 k ∧ τ.2.2.1 k = σ.2.2.1 k) ∧ τ.2.2.2 = σ.2.2.2 := by
  unfold f_X4_presentCourse X4_presentCourse_b40
  rw [gI_4_0_6 h, ob]
  by_cases e : σ.2.1 0 6 = 0
  · have hS := xS_ok hW.1 (by have := hW.2.1.1; omega) hW.2.1.2 (fun _ => false)
    have hr : rp σ = 38 ∨ rp σ = 41 := rp_Ru h
    obtain ⟨τ, t1, t2, t3⟩ := pc_lays hW.2.1.1 hW.2.1.2 (x := 14) (n := n) (Or.inl rfl) sk_no (by omega) h hI.2.2.1
    have h1 := t2.hp h
    have er : rp τ = rp σ := rp_of t2.2.1
    obtain ⟨ρ, r1, r2, r3⟩ := pc_play hS (x := 14) (y := rp σ) (n := n) (Or.inl rfl) (rp_Ru h) hn h1 (t2.line (Or.inl rfl) hI.1) (t2.rule (Or.inl rfl) (rp_Ru h) hI.2.1) (fun b hb s hs => t3 b s (by have := hW.1.1; have : b < eB W.1 := hb; have : eB W.1 ≤ 8 := hW.1.1; omega) hs)
    have h2 := r2.hp h1
    rw [if_pos e, gR_4_0_2 h, ob, gR_4_0_0 h, ob, ck_g h (show kd 14 = 0 by decide) (by decide), ob, t1, ob, gR_4_0_2 h1, ob, gR_4_0_0 h1, ob, gR_4_0_4 h1, ob, er, ck_g h1 (show kd 14 = 0 by decide) (by decide), ob, r1, ob, pI_4_0_6 h2, ob]
    have h3 : Hp (sI ρ 0 6 1) := h2
    rw [gR_4_0_2 h3, ob]
    have fd := t2.tr r2.fd
    have er3 : rp ρ = rp σ := rp_of fd.2.1
    have hCR : CRb 14 (sI ρ 0 6 1) (pl W) (Vd W.1 10) := by
      unfold CRb
      rw [rI_ne (by decide), rI_ne (by decide), rI_ne (by decide), rI_ne (by decide), rI_ne (by decide), rI_ne (by decide), rI_ne (by decide), rI_ne (by decide), rI_ne (by decide)]
      exact r3
    refine ⟨sI ρ 0 6 1, rfl, h3, ⟨?_, ?_, ?_, ?_, ?_, fun _ => hCR, ?_⟩, hCR, fun k hk => ⟨by rw [rI_ne (by omega)]; exact fd.2.2.1 k (by omega), fd.2.2.2 k (by omega)⟩, fd.2.1⟩
    · have := fd.line (Or.inl rfl) hI.1
      unfold CLine
      rw [rI_ne (by decide), rI_ne (by decide), rI_ne (by decide), rI_ne (by decide), rI_ne (by decide), rI_ne (by decide), rI_ne (by decide), rI_ne (by decide)]
      exact this
    · have := fd.rule (Or.inl rfl) (rp_Ru h) hI.2.1
      show CRule _ (rp ρ) _
      rw [er3]
      unfold CRule
      rw [rI_ne (by omega), rI_ne (by omega)]
      exact this
    · have := fd.late (Or.inl rfl) hI.2.2.1
      unfold CLate
      rw [rI_ne (by decide), rI_ne (by decide), rI_ne (by decide), rI_ne (by decide)]
      exact this
    · unfold CSig
      rw [rI_ne (by decide), rI_ne (by decide), fd.2.2.1 12 (by decide), fd.2.2.1 13 (by decide)]
      exact hI.2.2.2.1
    · show (sI ρ 0 6 1).2.1 (rp ρ) 2 = _
      rw [er3, rI_ne (by omega), fd.2.2.1 (rp σ) (by omega)]
      exact hI.2.2.2.2.1
    · rw [rI, if_neg (by decide), rI, if_neg (by decide), rI, if_neg (by decide), fd.2.2.1 0 (by decide)]
      exact hI.2.2.2.2.2.2
  · rw [if_neg e, gR_4_0_2 h, ob]
    exact ⟨σ, rfl, h, hI, hI.2.2.2.2.2.1 e, fun _ _ => ⟨rfl, rfl⟩, rfl⟩
/-- the model's scratch -/
def FN (σ τ : Sg) : Prop := τ.1 = σ.1 ∧ τ.2.2.2 = σ.2.2.2 ∧ τ.2.2.1 = σ.2.2.1 ∧ (∀ k, (k < 44 ∨ (44 < k ∧ k < 58)) → τ.2.1 k = σ.2.1 k) ∧ (∀ j, j < 29 → τ.2.1 44 j = σ.2.1 44 j)
theorem FN.rf {σ : Sg} : FN σ σ := ⟨rfl, rfl, rfl, fun _ _ => rfl, fun _ _ => rfl⟩
theorem FN.tr {σ τ ρ : Sg} (h1 : FN σ τ) (h2 : FN τ ρ) : FN σ ρ := ⟨h2.1.trans h1.1, h2.2.1.trans h1.2.1, h2.2.2.1.trans h1.2.2.1, fun k hk => (h2.2.2.2.1 k hk).trans (h1.2.2.2.1 k hk), fun j hj => (h2.2.2.2.2 j hj).trans (h1.2.2.2.2 j hj)⟩
theorem FM.fn {σ τ : Sg} (h : FM σ τ) : FN σ τ := ⟨h.1, h.2.1, h.2.2.1, fun k hk => h.2.2.2.1 k (by omega), fun j hj => h.2.2.2.2 j (by omega) (by omega) (by omega)⟩
theorem FN.hp {σ τ : Sg} (h : FN σ τ) (hp : Hp σ) : Hp τ := Hp_eq h.1 h.2.1 hp
theorem InvM_fn {σ τ : Sg} {W : Wd} (hI : InvM σ W) (h : FN σ τ) : InvM τ W := by
  unfold InvM MLine MRu MLt MSig
  rw [h.2.2.2.2 3 (by decide), h.2.2.2.2 8 (by decide), h.2.2.2.2 12 (by decide), h.2.2.2.2 14 (by decide), h.2.2.2.1 45 (by decide), h.2.2.2.1 46 (by decide), h.2.2.2.1 47 (by decide), h.2.2.2.1 48 (by decide), h.2.2.2.1 49 (by decide), h.2.2.2.1 50 (by decide), h.2.2.2.1 51 (by decide), h.2.2.2.1 52 (by decide), h.2.2.2.1 53 (by decide), h.2.2.2.1 54 (by decide), h.2.2.2.1 55 (by decide), h.2.2.2.1 56 (by decide), h.2.2.2.1 57 (by decide)]
  exact hI
theorem MEx_of {W : Wd} (hl : W.2.1.1 ≤ 11) (hLo : Lo W) {S : Se} {w : Int32} {sk : Nat → Bool} (hw : ∀ i, i < 11 → (nI i = w ↔ sk i = true)) (hB8 : eB S ≤ 8) (hS : ∀ b s, eEx S b s = exL W.2.1.2.1 W.2.1.2.2.1 W.2.1.2.2.2 sk b s W.2.1.1) {σ : Sg} (h : Hp σ) (hL : MLt σ W) : MEx σ S w := by
  intro τ hf n hn b hb s hs
  have hM : MLate σ W.2.1.2.1 W.2.1.2.2.1 W.2.1.2.2.2 W.2.1.1 := ⟨hL.1, hl, fun i hi => ⟨hL.2 i hi, (hLo i hi).1, (hLo i hi).2.1⟩⟩
  rw [hS]
  exact pm_lateAt (hf.hp h) (hf.late hM) hw (by omega) hs hn
theorem pm_pres {W : Wd} (hS : SeOk (wE W.1 (fun _ _ => 0)) 9990) (hl : W.2.1.1 ≤ 11) (hLo : Lo W) (hr : ∀ s, s < 10 → eHow W.1 s ≤ 2 ∧ eBy W.1 s ≤ 999) {w : Int32} {sk : Nat → Bool} (hw : ∀ i, i < 11 → (nI i = w ↔ sk i = true)) {n : Nat} (hn : 400 ≤ n) {σ : Sg} (h : Hp σ) (h1 : MLine σ W.1) (h2 : MRu σ W.1) (h3 : MLt σ W) :
    ∃ τ, f_X5_lay n 44 w σ = some τ ∧ FM σ τ ∧ MFin (xS W sk) τ := by
  have hB8 : eB W.1 ≤ 8 := hS.1
  refine pm_lay (xS_ok hS hl hLo sk) hn h h1 (fun s hs => ⟨(hr s hs).1, (hr s hs).2, (h2 s hs).1, fun _ => (h2 s hs).2⟩) (MEx_of (S := xS W sk) hl hLo hw hB8 (fun b s => rfl) h h3)
theorem pm_prs {W : Wd} (hW : Ok W) {n : Nat} (hn : 400 ≤ n) {σ : Sg} (h : Hp σ) (hI : InvM σ W) : ∃ τ, f_X5_lay n 44 (-6) σ = some τ ∧ FN σ τ ∧ MFin (xS W (fun _ => false)) τ := by
  obtain ⟨τ, t1, t2, t3⟩ := pm_pres hW.1 (by have := hW.2.1.1; omega) hW.2.1.2 hW.2.2.2.1 sk_no hn h hI.1 hI.2.1 hI.2.2.1
  exact ⟨τ, t1, t2.fn, t3⟩
