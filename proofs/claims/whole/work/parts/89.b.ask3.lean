/-! spread, began, held, mean -/
def spr (g : Nat → Nat) : Nat → Nat → Nat → Nat → Nat
  | 0, _, mx, mn => mx - mn
  | m + 1, i, mx, mn => spr g m (i + 1) (max mx (g i)) (min mn (g i))
theorem pc_spr_run {S : Se} {X : Nat} (hS : SeOk S X) {x s : Nat} (hx : Cr x) (hs : s < 9) {σ : Sg} (h : Hp σ) (hC : CRb x σ (ply S 10) (Vd S 10)) (hA : Arr (σ.2.1 (x + 11)) (lvR S s (ply S 10) (eB S))) :
    ∀ (m i n mx mn : Nat), m = lvN S s (ply S 10) - i → 1 ≤ i → i ≤ 9 → m < n → mn ≤ mx → mx < 2 ^ 29 → X0_spreadOfGaps_run n x (nI s) (nI (lvN S s (ply S 10))) (nI mx) (nI mn) (nI i) σ = some (nI (spr (gpV S s (ply S 10)) m i mx mn), σ) := by
  intro m
  have hB8 := hS.1
  have hl := lvN_le (S := S) (s := s) (P := ply S 10)
  induction m with
  | zero =>
    intro i n mx mn hm hi hi9 hn h1 h2
    obtain ⟨n, rfl⟩ : ∃ q, n = q + 1 := ⟨n - 1, by omega⟩
    show X0_spreadOfGaps_b30 n (X0_spreadOfGaps_run n) x _ _ _ _ _ σ = _
    unfold X0_spreadOfGaps_b30
    rw [if_pos (nI_le (by omega) (by omega)), nsub h1]
    rfl
  | succ m ih =>
    intro i n mx mn hm hi hi9 hn h1 h2
    obtain ⟨n, rfl⟩ : ∃ q, n = q + 1 := ⟨n - 1, by omega⟩
    have hi2 : i < lvN S s (ply S 10) := by omega
    have hg := gpV_lt hS hi2
    show X0_spreadOfGaps_b30 n (X0_spreadOfGaps_run n) x _ _ _ _ _ σ = _
    unfold X0_spreadOfGaps_b30
    rw [if_neg (nI_ge hi2 (by omega)), ckc h hx, ob, pc_gap hS hx hs h hC hA hi hi2, ob, max_nI (by omega) (by omega), ob, min_nI (by omega) (by omega), ob, nI_1, ob, ih (i + 1) n _ _ (by omega) (by omega) (by omega) (by omega) (by omega) (by omega)]
    rfl
theorem pm_spr_run {S : Se} {X : Nat} (hS : SeOk S X) {s : Nat} (hs : s < 9) {σ : Sg} (h : Hp σ) (hM : MFin S σ) (hc : σ.2.1 44 32 = nI (lvN S s (ply S 10))) (hA : Arr (σ.2.1 70) (lvR S s (ply S 10) (eB S))) :
    ∀ (m i n mx mn : Nat), m = lvN S s (ply S 10) - i → 1 ≤ i → i ≤ 9 → m < n → mn ≤ mx → mx < 2 ^ 29 → X5_spread_run n 44 (nI s) (nI mn) (nI mx) (nI i) σ = some (nI (spr (gpV S s (ply S 10)) m i mx mn), σ) := by
  intro m
  have hB8 := hS.1
  have hl := lvN_le (S := S) (s := s) (P := ply S 10)
  induction m with
  | zero =>
    intro i n mx mn hm hi hi9 hn h1 h2
    obtain ⟨n, rfl⟩ : ∃ q, n = q + 1 := ⟨n - 1, by omega⟩
    show X5_spread_b43 n (X5_spread_run n) 44 _ _ _ _ σ = _
    unfold X5_spread_b43
    rw [gI_5_44_32 h, ob, hc, if_pos (nI_le (by omega) (by omega)), nsub h1]
    rfl
  | succ m ih =>
    intro i n mx mn hm hi hi9 hn h1 h2
    obtain ⟨n, rfl⟩ : ∃ q, n = q + 1 := ⟨n - 1, by omega⟩
    have hi2 : i < lvN S s (ply S 10) := by omega
    have hg := gpV_lt hS hi2
    have e73 : ∀ mn' : Nat, X5_spread_b73 n (X5_spread_run n) 44 (nI s) (nI mx) (nI i) (nI (gpV S s (ply S 10) i)) (nI mn') σ = X5_spread_run n 44 (nI s) (nI mn') (nI (max mx (gpV S s (ply S 10) i))) (nI (i + 1)) σ := by
      intro mn'
      unfold X5_spread_b73 X5_spread_b86
      by_cases e : gpV S s (ply S 10) i ≤ mx
      · rw [if_pos (nI_le e (by omega)), nI_1, ob, Nat.max_eq_left e]
      · rw [if_neg (nI_ge (by omega) (by omega)), nI_1, ob, Nat.max_eq_right (by omega)]
    show X5_spread_b43 n (X5_spread_run n) 44 _ _ _ _ σ = _
    unfold X5_spread_b43
    rw [gI_5_44_32 h, ob, hc, if_neg (nI_ge hi2 (by omega)), ck_44 h, ob, pm_gap hS hs h hM hA hi hi2, ob]
    have this := ih (i + 1) n (max mx (gpV S s (ply S 10) i)) (min mn (gpV S s (ply S 10) i)) (by omega) (by omega) (by omega) (by omega) (by omega) (by omega)
    by_cases e : mn ≤ gpV S s (ply S 10) i
    · rw [if_pos (nI_le e (by omega)), e73]
      rw [Nat.min_eq_left e] at this
      rw [this, show spr (gpV S s (ply S 10)) (m + 1) i mx mn = spr (gpV S s (ply S 10)) m (i + 1) (max mx (gpV S s (ply S 10) i)) (min mn (gpV S s (ply S 10) i)) from rfl, Nat.min_eq_left e]
    · rw [if_neg (nI_ge (by omega) (by omega)), e73]
      rw [Nat.min_eq_right (by omega)] at this
      rw [this, show spr (gpV S s (ply S 10)) (m + 1) i mx mn = spr (gpV S s (ply S 10)) m (i + 1) (max mx (gpV S s (ply S 10) i)) (min mn (gpV S s (ply S 10) i)) from rfl, Nat.min_eq_right (by omega)]
section
variable {W : Wd}
theorem z_spread (hW : Ok W) {n : Nat} (hn : 400 ≤ n) (i : Int32) : Pz (f_X4_spread n 0 i) (f_X5_spread n 44 i) W := by
  by_cases hi : Rg i 0 8
  · have hi2 := hi
    obtain ⟨s, s1, s2, rfl⟩ := hi
    have hB8 := hW.x.1
    have hl := lvN_le (S := xS W (fun _ => false)) (s := s) (P := ply (xS W (fun _ => false)) 10)
    refine ⟨W, if 2 ≤ lvN (xS W (fun _ => false)) s (ply (xS W (fun _ => false)) 10) then nI (spr (gpV (xS W (fun _ => false)) s (ply (xS W (fun _ => false)) 10)) (lvN (xS W (fun _ => false)) s (ply (xS W (fun _ => false)) 10) - 2) 2 (gpV (xS W (fun _ => false)) s (ply (xS W (fun _ => false)) 10) 1) (gpV (xS W (fun _ => false)) s (ply (xS W (fun _ => false)) 10) 1)) else (-6), hW, fun σ h hI => ?_, fun σ h hI => ?_⟩
    · obtain ⟨τ, t1, t2, t3, t4, t5, t6⟩ := pc_pres hW (n := n) (by omega) h hI
      obtain ⟨A, q1, q2⟩ := pc_orderLeaving hW.x (x := 14) (s := s) (n := n) (Or.inl rfl) (by omega) (by omega) t2 t3.1 t4
      have fo : FO 14 τ (sA τ (14 + 11) A) := FO.sA
      refine ⟨sA τ (14 + 11) A, ?_, fo.hp t2, fo.inv t3 t2, fun k hk => by rw [fo.2.2.2 k (by omega)]; exact (t5 k (by omega)).1⟩
      unfold f_X4_spread
      rw [go_y hi2, ob, if_neg z10, ck_0 h, ob, t1, ob, gR_4_0_0 t2, ob, ck14 t2, ob]
      unfold f_X0_spreadOfGaps X0_spreadOfGaps_b0
      rw [ck14 t2, ob, q1, ob]
      by_cases e : 2 ≤ lvN (xS W (fun _ => false)) s (ply (xS W (fun _ => false)) 10)
      · have hg := gpV_lt hW.x (show 1 < lvN (xS W (fun _ => false)) s (ply (xS W (fun _ => false)) 10) by omega)
        have g1 := pc_gap hW.x (x := 14) (i := 1) (n := n) (Or.inl rfl) (show s < 9 by omega) (fo.hp t2) (fo.crb t4) (by rw [sA_eq]; exact q2) (Nat.le_refl _) (by omega)
        have g1' : f_X0_gapAhead n 14 (nI s) 1 (sA τ (14 + 11) A) = some (nI (gpV (xS W (fun _ => false)) s (ply (xS W (fun _ => false)) 10) 1), sA τ (14 + 11) A) := g1
        have g2 := pc_spr_run hW.x (x := 14) (Or.inl rfl) (show s < 9 by omega) (fo.hp t2) (fo.crb t4) (by rw [sA_eq]; exact q2) (lvN (xS W (fun _ => false)) s (ply (xS W (fun _ => false)) 10) - 2) 2 n (gpV (xS W (fun _ => false)) s (ply (xS W (fun _ => false)) 10) 1) (gpV (xS W (fun _ => false)) s (ply (xS W (fun _ => false)) 10) 1) rfl (by decide) (by decide) (by omega) (Nat.le_refl _) hg
        have g2' : X0_spreadOfGaps_run n 14 (nI s) (nI (lvN (xS W (fun _ => false)) s (ply (xS W (fun _ => false)) 10))) (nI (gpV (xS W (fun _ => false)) s (ply (xS W (fun _ => false)) 10) 1)) (nI (gpV (xS W (fun _ => false)) s (ply (xS W (fun _ => false)) 10) 1)) 2 (sA τ (14 + 11) A) = _ := g2
        rw [if_pos (show (2 : Int32) ≤ nI _ from nI_le (a := 2) e (by omega)), ck14 (fo.hp t2), ob, g1', ob, g2', ob, if_pos e]
      · rw [if_neg (show ¬ (2 : Int32) ≤ nI _ from nI_ge (b := 2) (by omega) (by decide)), ob, if_neg e]
    · obtain ⟨τ, t1, t2, t3⟩ := pm_prs hW hn h hI
      have h1 := t2.hp h
      obtain ⟨ρ, r1, r2, r3, r4⟩ := pm_layGoing hW.x (s := s) (n := n) (by omega) (by omega) h1 (InvM_fn hI t2).1 t3
      have h2 := r2.hp h1
      have fn := t2.tr r2.fn
      refine ⟨ρ, ?_, h2, InvM_fn hI fn, fun q hq => fn.2.2.2.1 q (Or.inl hq), fn.2.2.1, fn.2.1⟩
      unfold f_X5_spread X5_spread_b0
      rw [on_y hi2, ob, if_neg z10, ck_44 h, ob, t1, ob, ck_44 h1, ob, r1, ob, gI_5_44_32 h2, ob, r3]
      by_cases e : 2 ≤ lvN (xS W (fun _ => false)) s (ply (xS W (fun _ => false)) 10)
      · have hg := gpV_lt hW.x (show 1 < lvN (xS W (fun _ => false)) s (ply (xS W (fun _ => false)) 10) by omega)
        have g1 := pm_gap hW.x (i := 1) (n := n) (show s < 9 by omega) h2 (r2.fin t3) r4 (Nat.le_refl _) (by omega)
        have g1' : f_X5_followOf n 44 (nI s) 1 ρ = some (nI (gpV (xS W (fun _ => false)) s (ply (xS W (fun _ => false)) 10) 1), ρ) := g1
        have g2 := pm_spr_run hW.x (show s < 9 by omega) h2 (r2.fin t3) r3 r4 (lvN (xS W (fun _ => false)) s (ply (xS W (fun _ => false)) 10) - 2) 2 n (gpV (xS W (fun _ => false)) s (ply (xS W (fun _ => false)) 10) 1) (gpV (xS W (fun _ => false)) s (ply (xS W (fun _ => false)) 10) 1) rfl (by decide) (by decide) (by omega) (Nat.le_refl _) hg
        have g2' : X5_spread_run n 44 (nI s) (nI (gpV (xS W (fun _ => false)) s (ply (xS W (fun _ => false)) 10) 1)) (nI (gpV (xS W (fun _ => false)) s (ply (xS W (fun _ => false)) 10) 1)) 2 ρ = _ := g2
        rw [if_pos (show (2 : Int32) ≤ nI _ from nI_le (a := 2) e (by omega)), ck_44 h2, ob, g1', ob, g2', if_pos e]
      · rw [if_neg (show ¬ (2 : Int32) ≤ nI _ from nI_ge (b := 2) (by omega) (by decide)), if_neg e]
  · refine ⟨W, (-1), hW, CZ_no (fun σ h hI => ?_), MZ_no (fun σ h hI => ?_)⟩
    · unfold f_X4_spread
      rw [go_n hi, ob, if_pos rfl]
    · unfold f_X5_spread X5_spread_b0
      rw [on_n hi, ob, if_pos rfl]
-- began
def skI (i : Nat) : Nat → Bool := fun q => decide (q = i)
def bgn (W : Wd) : Nat → Int32
  | 0 => 0
  | i + 1 => if onS (xS W (skI i)) (ply (xS W (skI i)) 10) = 9 then bgn W i ||| ((1 : Int32) <<< (nI i &&& 31)) else bgn W i
theorem ck26 {σ : Sg} (h : Hp σ) : ck 0 26 σ = some () := ck_g h (by decide) (by decide)
theorem pc_bgn_run (hW : Ok W) : ∀ (m i n : Nat) (σ : Sg), i + m = W.2.1.1 → 300 + m < n → Hp σ → InvC σ W → ∃ τ, X4_began_run n 0 (bgn W i) (nI i) σ = some (bgn W W.2.1.1, τ) ∧ Hp τ ∧ InvC τ W ∧ ∀ k, 44 ≤ k → τ.2.1 k = σ.2.1 k := by
  intro m
  have hl := hW.2.1.1
  have hB8 : eB W.1 ≤ 8 := hW.1.1
  induction m with
  | zero =>
    intro i n σ hi hn h hI
    obtain ⟨n, rfl⟩ : ∃ q, n = q + 1 := ⟨n - 1, by omega⟩
    have e : i = W.2.1.1 := by omega
    subst e
    show ∃ τ, X4_began_b22 n (X4_began_run n) 0 _ _ σ = _ ∧ _
    unfold X4_began_b22
    rw [gR_4_0_0 h, ob, gI_1_1_11 h, ob, hI.2.2.1.1, if_pos (nI_le (Nat.le_refl _) (by omega))]
    exact ⟨σ, rfl, h, hI, fun _ _ => rfl⟩
  | succ m ih =>
    intro i n σ hi hn h hI
    obtain ⟨n, rfl⟩ : ∃ q, n = q + 1 := ⟨n - 1, by omega⟩
    have hS := xS_ok hW.1 (by omega) hW.2.1.2 (skI i)
    show ∃ τ, X4_began_b22 n (X4_began_run n) 0 _ _ σ = _ ∧ _
    unfold X4_began_b22
    obtain ⟨τ, t1, t2, t3⟩ := pc_lays hl hW.2.1.2 (x := 26) (n := n) (w := nI i) (sk := skI i) (Or.inr rfl) (sk_i (by omega)) (by omega) h hI.2.2.1
    have h1 := t2.hp h
    have er : rp τ = rp σ := rp_of t2.2.1
    obtain ⟨ρ, r1, r2, r3⟩ := pc_play hS (x := 26) (y := rp σ) (n := n) (Or.inr rfl) (rp_Ru h) (by omega) h1 (t2.line (Or.inr rfl) hI.1) (t2.rule (Or.inr rfl) (rp_Ru h) hI.2.1) (fun b hb s hs => t3 b s (by have : b < eB W.1 := hb; omega) hs)
    have h2 := r2.hp h1
    have fd := t2.tr r2.fd
    obtain ⟨υ, u1, u2⟩ := pc_fcs hS (x := 26) (n := n) (Or.inr rfl) (by omega) h2 (fd.line (Or.inr rfl) hI.1) r3
    have h3 := u2.hp h2
    have fd2 := fd.tr u2.fd
    have hI3 := InvC_26 hI h fd2
    rw [gR_4_0_0 h, ob, gI_1_1_11 h, ob, hI.2.2.1.1, if_neg (nI_ge (by omega) (by omega)), gR_4_0_3 h, ob, ob, ck26 h, ob, t1, ob, gR_4_0_3 h1, ob, gR_4_0_0 h1, ob, gR_4_0_4 h1, ob, er, ck26 h1, ob, r1, ob, gR_4_0_3 h2, ob, gR_4_0_0 h2, ob, ck26 h2, ob, u1, ob]
    have ex : bgn W (i + 1) = if onS (xS W (skI i)) (ply (xS W (skI i)) 10) = 9 then bgn W i ||| ((1 : Int32) <<< (nI i &&& 31)) else bgn W i := rfl
    obtain ⟨ω, o1, o2, o3, o4⟩ := ih (i + 1) n υ (by omega) (by omega) h3 hI3
    refine ⟨ω, ?_, o2, o3, fun k hk => by rw [o4 k hk]; exact fd2.2.2.1 k (by omega)⟩
    unfold X4_began_b82
    by_cases e : onS (xS W (skI i)) (ply (xS W (skI i)) 10) = 9
    · rw [if_pos (onA_6.mpr e), ob, nI_1, ob]
      rw [ex, if_pos e] at o1
      exact o1
    · rw [if_neg (fun z => e (onA_6.mp z)), nI_1, ob]
      rw [ex, if_neg e] at o1
      exact o1
theorem pm_bgn_run (hW : Ok W) : ∀ (m i n : Nat) (σ : Sg), i + m = W.2.1.1 → 400 + m < n → Hp σ → InvM σ W → ∃ τ, X5_began_run n 44 (bgn W i) (nI i) σ = some (bgn W W.2.1.1, τ) ∧ FN σ τ := by
  intro m
  have hl := hW.2.1.1
  induction m with
  | zero =>
    intro i n σ hi hn h hI
    obtain ⟨n, rfl⟩ : ∃ q, n = q + 1 := ⟨n - 1, by omega⟩
    have e : i = W.2.1.1 := by omega
    subst e
    show ∃ τ, X5_began_b19 n (X5_began_run n) 44 _ _ σ = _ ∧ _
    unfold X5_began_b19
    rw [gI_5_44_8 h, ob, hI.2.2.1.1, if_pos (nI_le (Nat.le_refl _) (by omega))]
    exact ⟨σ, rfl, FN.rf⟩
  | succ m ih =>
    intro i n σ hi hn h hI
    obtain ⟨n, rfl⟩ : ∃ q, n = q + 1 := ⟨n - 1, by omega⟩
    have hS := xS_ok hW.1 (by omega) hW.2.1.2 (skI i)
    show ∃ τ, X5_began_b19 n (X5_began_run n) 44 _ _ σ = _ ∧ _
    unfold X5_began_b19
    obtain ⟨τ, t1, t2, t3⟩ := pm_pres hW.1 (by omega) hW.2.1.2 hW.2.2.2.1 (w := nI i) (sk := skI i) (sk_i (by omega)) (n := n) (by omega) h hI.1 hI.2.1 hI.2.2.1
    have h1 := t2.hp h
    obtain ⟨ρ, r1, r2, r3⟩ := pm_oneOf hS (n := n) (by omega) h1 (t2.line hI.1) t3
    have h2 := r2.hp h1
    have fn := t2.fn.tr r2.fn
    rw [gI_5_44_8 h, ob, hI.2.2.1.1, if_neg (nI_ge (by omega) (by omega)), ck_44 h, ob, t1, ob, ck_44 h1, ob, r1, ob]
    have ex : bgn W (i + 1) = if onS (xS W (skI i)) (ply (xS W (skI i)) 10) = 9 then bgn W i ||| ((1 : Int32) <<< (nI i &&& 31)) else bgn W i := rfl
    obtain ⟨ω, o1, o2⟩ := ih (i + 1) n ρ (by omega) (by omega) h2 (InvM_fn hI fn)
    refine ⟨ω, ?_, fn.tr o2⟩
    unfold X5_began_b47
    by_cases e : onS (xS W (skI i)) (ply (xS W (skI i)) 10) = 9
    · rw [if_neg (fun z => onA_0.mp z e), ob, nI_1, ob]
      rw [ex, if_pos e] at o1
      exact o1
    · rw [if_pos (onA_0.mpr e), Int32.or_zero, ob, nI_1, ob]
      rw [ex, if_neg e] at o1
      exact o1
theorem z_began (hW : Ok W) {n : Nat} (hn : 500 ≤ n) : Pz (f_X4_began n 0) (f_X5_began n 44) W := by
  have hl := hW.2.1.1
  refine ⟨W, if onS (xS W (fun _ => false)) (ply (xS W (fun _ => false)) 10) = 9 then 0 else bgn W W.2.1.1, hW, fun σ h hI => ?_, fun σ h hI => ?_⟩
  · obtain ⟨τ, t1, t2, t3, t4, t5, t6⟩ := pc_pres hW (n := n) (by omega) h hI
    obtain ⟨ρ, r1, r2⟩ := pc_fcs hW.x (x := 14) (n := n) (Or.inl rfl) (by omega) t2 t3.1 t4
    have h2 := r2.hp t2
    have hI2 := r2.inv t3 t2
    have k2 : ∀ k, 44 ≤ k → ρ.2.1 k = σ.2.1 k := fun k hk => by rw [r2.2.2.2 k (by omega)]; exact (t5 k (by omega)).1
    unfold f_X4_began X4_began_b0
    rw [ck_0 h, ob, t1, ob, gR_4_0_0 t2, ob, ck14 t2, ob, r1, ob]
    by_cases e : onS (xS W (fun _ => false)) (ply (xS W (fun _ => false)) 10) = 9
    · rw [if_pos (onA_6.mpr e), if_pos e]
      exact ⟨ρ, rfl, h2, hI2, k2⟩
    · rw [if_neg (fun z => e (onA_6.mp z)), if_neg e]
      obtain ⟨υ, u1, u2, u3, u4⟩ := pc_bgn_run hW W.2.1.1 0 n ρ (by omega) (by omega) h2 hI2
      exact ⟨υ, u1, u2, u3, fun k hk => by rw [u4 k hk]; exact k2 k hk⟩
  · obtain ⟨τ, t1, t2, t3⟩ := pm_prs hW (n := n) (by omega) h hI
    have h1 := t2.hp h
    obtain ⟨ρ, r1, r2, r3⟩ := pm_oneOf hW.x (n := n) (by omega) h1 (InvM_fn hI t2).1 t3
    have h2 := r2.hp h1
    have fn := t2.tr r2.fn
    unfold f_X5_began X5_began_b0
    rw [ck_44 h, ob, t1, ob, ck_44 h1, ob, r1, ob]
    by_cases e : onS (xS W (fun _ => false)) (ply (xS W (fun _ => false)) 10) = 9
    · rw [if_neg (fun z => onA_0.mp z e), if_pos e]
      exact ⟨ρ, rfl, h2, InvM_fn hI fn, fun q hq => fn.2.2.2.1 q (Or.inl hq), fn.2.2.1, fn.2.1⟩
    · rw [if_pos (onA_0.mpr e), if_neg e]
      obtain ⟨υ, u1, u2⟩ := pm_bgn_run hW W.2.1.1 0 n ρ (by omega) (by omega) h2 (InvM_fn hI fn)
      have fn2 := fn.tr u2
      exact ⟨υ, u1, fn2.hp h, InvM_fn hI fn2, fun q hq => fn2.2.2.2.1 q (Or.inl hq), fn2.2.2.1, fn2.2.1⟩
end
