/-! mean: fractions -/
theorem gcd_st {a b : Nat} : Nat.gcd a b = Nat.gcd b (a % b) := by
  rw [Nat.gcd_comm a b, Nat.gcd_rec b a, Nat.gcd_comm]
theorem lc0 {b : Nat} (hb : b < 2 ^ 31) : (lg_cmp (lN b) 0 = 0) ↔ b = 0 := by
  rw [lg_cmp_eq, show (0 : Int64) = lN 0 from rfl, pk_lEQ (by omega) (by decide)]
theorem dv0 {b : Nat} (hb : b < 2 ^ 31) (h0 : 0 < b) : dvJ (lN b) = some () := by
  unfold dvJ
  rw [if_pos]
  rw [show (0 : Int64) = lN 0 from rfl, pk_lEQ (by omega) (by decide)]
  omega
theorem rem_half {b r : Nat} (h0 : 0 < r) (h : r < b) {k : Nat} (hb : b < 2 ^ (k + 1)) : b % r < 2 ^ k := by
  rw [Nat.pow_succ] at hb
  rcases Nat.lt_or_ge (2 * r) (b + 1) with z | z
  · have := Nat.mod_lt b h0
    omega
  · rw [Nat.mod_eq_sub_mod (by omega), Nat.mod_eq_of_lt (by omega)]
    omega
theorem pc_gcd {σ : Sg} : ∀ (k a b i n : Nat), a < 2 ^ 31 → b < 2 ^ 31 → b < 2 ^ k → i + 2 * k < 99 → 2 * k + 1 ≤ n → X4_commonDivisor_run n (lN a) (lN b) (nI i) σ = some (lN (Nat.gcd a b), σ) := by
  intro k
  have base : ∀ (a i n : Nat), i < 100 → X4_commonDivisor_run (n + 1) (lN a) (lN 0) (nI i) σ = some (lN (Nat.gcd a 0), σ) := by
    intro a i n hi
    show X4_commonDivisor_b9 n (X4_commonDivisor_run n) (lN a) (lN 0) (nI i) σ = _
    unfold X4_commonDivisor_b9 X4_commonDivisor_b44
    rw [if_neg (show ¬ (100 : Int32) ≤ nI i from nI_ge (b := 100) hi (by decide)), if_pos ((lc0 (by decide)).mpr rfl), Nat.gcd_zero_right]
  have step : ∀ (a b i n : Nat), a < 2 ^ 31 → b < 2 ^ 31 → 0 < b → i < 100 → X4_commonDivisor_run (n + 1) (lN a) (lN b) (nI i) σ = X4_commonDivisor_run n (lN b) (lN (a % b)) (nI (i + 1)) σ := by
    intro a b i n ha hb h0 hi
    show X4_commonDivisor_b9 n (X4_commonDivisor_run n) (lN a) (lN b) (nI i) σ = _
    unfold X4_commonDivisor_b9
    rw [if_neg (show ¬ (100 : Int32) ≤ nI i from nI_ge (b := 100) hi (by decide)), if_neg (fun z => by have := (lc0 hb).mp z; omega), dv0 hb h0, ob, pk_lRem (by omega) h0 (by omega), ob, nI_1, ob]
  induction k with
  | zero =>
    intro a b i n ha hb hk hi hn
    obtain ⟨n, rfl⟩ : ∃ q, n = q + 1 := ⟨n - 1, by omega⟩
    have e : b = 0 := by simpa using hk
    subst e
    exact base a i n (by omega)
  | succ k ih =>
    intro a b i n ha hb hk hi hn
    obtain ⟨n, rfl⟩ : ∃ q, n = q + 2 := ⟨n - 2, by omega⟩
    by_cases e : b = 0
    · subst e
      exact base a i (n + 1) (by omega)
    · have hr := Nat.mod_lt a (show 0 < b by omega)
      rw [step a b i (n + 1) ha hb (by omega) (by omega), gcd_st]
      by_cases e2 : a % b = 0
      · rw [e2]
        exact base b (i + 1) n (by omega)
      · rw [step b (a % b) (i + 1) n hb (by omega) (by omega) (by omega), gcd_st (a := b) (b := a % b)]
        have hq := Nat.mod_lt b (show 0 < a % b by omega)
        exact ih (a % b) (b % (a % b)) (i + 2) n (by omega) (by omega) (rem_half (by omega) hr hk) (by omega) (by omega)
theorem pm_gcd {σ : Sg} {j0 j2 : Int64} {w : Int32} : ∀ (k a b n : Nat), a < 2 ^ 31 → b < 2 ^ 31 → b < 2 ^ k → 2 * k + 1 ≤ n → 0 < Nat.gcd a b → X5_term_run n j0 j2 w (lN a) (lN b) σ = some (if w = 0 then j0 / lN (Nat.gcd a b) else j2 / lN (Nat.gcd a b), σ) := by
  intro k
  have base : ∀ (a n : Nat), a < 2 ^ 31 → 0 < Nat.gcd a 0 → X5_term_run (n + 1) j0 j2 w (lN a) (lN 0) σ = some (if w = 0 then j0 / lN (Nat.gcd a 0) else j2 / lN (Nat.gcd a 0), σ) := by
    intro a n ha hg
    rw [Nat.gcd_zero_right] at hg ⊢
    show X5_term_b16 n (X5_term_run n) j0 j2 w (lN a) (lN 0) σ = _
    unfold X5_term_b16
    rw [if_pos ((lc0 (by decide)).mpr rfl)]
    by_cases e : w = 0
    · rw [if_pos e, if_pos e, dv0 ha hg, ob]
    · rw [if_neg e, if_neg e, dv0 ha hg, ob]
  have step : ∀ (a b n : Nat), a < 2 ^ 31 → b < 2 ^ 31 → 0 < b → X5_term_run (n + 1) j0 j2 w (lN a) (lN b) σ = X5_term_run n j0 j2 w (lN b) (lN (a % b)) σ := by
    intro a b n ha hb h0
    show X5_term_b16 n (X5_term_run n) j0 j2 w (lN a) (lN b) σ = _
    unfold X5_term_b16
    rw [if_neg (fun z => by have := (lc0 hb).mp z; omega), dv0 hb h0, ob, pk_lRem (by omega) h0 (by omega), ob]
  induction k with
  | zero =>
    intro a b n ha hb hk hn hg
    obtain ⟨n, rfl⟩ : ∃ q, n = q + 1 := ⟨n - 1, by omega⟩
    have e : b = 0 := by simpa using hk
    subst e
    exact base a n ha hg
  | succ k ih =>
    intro a b n ha hb hk hn hg
    obtain ⟨n, rfl⟩ : ∃ q, n = q + 2 := ⟨n - 2, by omega⟩
    by_cases e : b = 0
    · subst e
      exact base a (n + 1) ha hg
    · have hr := Nat.mod_lt a (show 0 < b by omega)
      rw [gcd_st] at hg
      rw [step a b (n + 1) ha hb (by omega), gcd_st]
      by_cases e2 : a % b = 0
      · rw [e2] at hg ⊢
        exact base b n hb hg
      · rw [gcd_st (a := b) (b := a % b)] at hg
        rw [step b (a % b) n hb (by omega) (by omega), gcd_st (a := b) (b := a % b)]
        have hq := Nat.mod_lt b (show 0 < a % b by omega)
        exact ih (a % b) (b % (a % b)) n (by omega) (by omega) (rem_half (by omega) hr hk) (by omega) hg
def frc (a b : Nat) (w : Nat) : Int64 := if b = 0 then (if w = 0 then 0 else 1) else if w = 0 then lN a / lN (Nat.gcd a b) else lN b / lN (Nat.gcd a b)
theorem pc_part {σ : Sg} {a b w n : Nat} (ha : a < 2 ^ 31) (hb : b < 1024) (hw : w ≤ 1) (hn : 40 ≤ n) : f_X4_partOfFraction n (lN a) (lN b) (nI w) σ = some (frc a b w, σ) := by
  unfold f_X4_partOfFraction frc
  by_cases e : b = 0
  · subst e
    rw [if_pos rfl, if_pos (show lg_cmp (lN 0) 0 ≤ 0 by decide)]
    unfold X4_partOfFraction_b15
    rw [if_neg (show ¬ 0 < lg_cmp 0 0 by decide)]
    by_cases ew : w = 0
    · rw [if_pos ew, if_pos ((nI_0' (by omega)).mpr ew)]
    · rw [if_neg ew, if_neg (fun z => ew ((nI_0' (by omega)).mp z))]
  · have hg : 0 < Nat.gcd a b := Nat.gcd_pos_of_pos_right a (by omega)
    have hg2 : Nat.gcd a b ≤ b := Nat.gcd_le_right a (by omega)
    have key : f_X4_commonDivisor n (lN a) (lN b) σ = some (lN (Nat.gcd a b), σ) := pc_gcd 10 a b 0 n ha (by omega) (by omega) (by omega) (by omega)
    have hneg : ¬ lg_cmp (lN b) 0 ≤ 0 := by
      rw [lg_cmp_le, show (0 : Int64) = lN 0 from rfl, pk_lLE (by omega) (by decide)]
      omega
    have hpos : 0 < lg_cmp (lN (Nat.gcd a b)) 0 := by
      rw [lg_cmp_gt, show (0 : Int64) = lN 0 from rfl, pk_lLT (by decide) (by omega)]
      exact hg
    rw [if_neg hneg, key, ob, if_neg e]
    unfold X4_partOfFraction_b15 X4_partOfFraction_b45
    rw [if_pos hpos]
    by_cases ew : w = 0
    · rw [if_pos ew, if_pos ((nI_0' (by omega)).mpr ew), dv0 (by omega) hg, ob]
    · rw [if_neg ew, if_neg (fun z => ew ((nI_0' (by omega)).mp z)), dv0 (by omega) hg, ob]
theorem pm_term {σ : Sg} {a b w n : Nat} (ha : a < 2 ^ 31) (hb : b < 1024) (hw : w ≤ 1) (hn : 40 ≤ n) : f_X5_term n (lN a) (lN b) (nI w) σ = some (frc a b w, σ) := by
  unfold f_X5_term X5_term_b0 frc
  by_cases e : b = 0
  · subst e
    rw [if_pos ((lc0 (by decide)).mpr rfl), if_pos rfl]
    have hc : w = 0 ∨ w = 1 := by omega
    rcases hc with q | q <;> subst q <;> rfl
  · have hg : 0 < Nat.gcd a b := Nat.gcd_pos_of_pos_right a (by omega)
    rw [if_neg (fun z => e ((lc0 (by omega)).mp z)), if_neg e, pm_gcd 10 a b n ha (by omega) (by omega) (by omega) hg]
    by_cases ew : w = 0
    · rw [if_pos ew, if_pos ((nI_0' (by omega)).mpr ew)]
    · rw [if_neg ew, if_neg (fun z => ew ((nI_0' (by omega)).mp z))]
/-- all gaps together -/
theorem pc_sumg_run {S : Se} {X : Nat} (hS : SeOk S X) {x s : Nat} (hx : Cr x) (hs : s < 9) {σ : Sg} (h : Hp σ) (hC : CRb x σ (ply S 10) (Vd S 10)) (hA : Arr (σ.2.1 (x + 11)) (lvR S s (ply S 10) (eB S))) :
    ∀ (m i n : Nat), i + m = lvN S s (ply S 10) → 1 ≤ i → m < n → X0_sumOfGaps_run n x (nI s) (nI (lvN S s (ply S 10))) (nI (lvT s (ply S 10) (lvD S s (ply S 10) (i - 1)) - lvT s (ply S 10) (lvD S s (ply S 10) 0))) (nI i) σ = some (nI (lvT s (ply S 10) (lvD S s (ply S 10) (lvN S s (ply S 10) - 1)) - lvT s (ply S 10) (lvD S s (ply S 10) 0)), σ) := by
  intro m
  have hB8 := hS.1
  have hl := lvN_le (S := S) (s := s) (P := ply S 10)
  induction m with
  | zero =>
    intro i n hm hi hn
    obtain ⟨n, rfl⟩ : ∃ q, n = q + 1 := ⟨n - 1, by omega⟩
    show X0_sumOfGaps_b5 n (X0_sumOfGaps_run n) x _ _ _ _ σ = _
    unfold X0_sumOfGaps_b5
    rw [if_pos (nI_le (by omega) (by omega)), show lvN S s (ply S 10) = i by omega]
  | succ m ih =>
    intro i n hm hi hn
    obtain ⟨n, rfl⟩ : ∃ q, n = q + 1 := ⟨n - 1, by omega⟩
    have hi2 : i < lvN S s (ply S 10) := by omega
    have o1 := lvD_le (S := S) (s := s) (P := ply S 10) (show i - 1 < i by omega) hi2
    have o2 : lvT s (ply S 10) (lvD S s (ply S 10) 0) ≤ lvT s (ply S 10) (lvD S s (ply S 10) (i - 1)) := by
      by_cases e : i - 1 = 0
      · rw [e]; exact Nat.le_refl _
      · exact lvD_le (by omega) (by omega)
    show X0_sumOfGaps_b5 n (X0_sumOfGaps_run n) x _ _ _ _ σ = _
    unfold X0_sumOfGaps_b5
    rw [if_neg (nI_ge hi2 (by omega)), ckc h hx, ob, pc_gap hS hx hs h hC hA hi hi2, ob, nI_add, ob, nI_1, ob]
    have := ih (i + 1) n (by omega) (by omega) (by omega)
    rw [show i + 1 - 1 = i by omega] at this
    have e : lvT s (ply S 10) (lvD S s (ply S 10) (i - 1)) - lvT s (ply S 10) (lvD S s (ply S 10) 0) + gpV S s (ply S 10) i = lvT s (ply S 10) (lvD S s (ply S 10) i) - lvT s (ply S 10) (lvD S s (ply S 10) 0) := by
      unfold gpV
      omega
    rw [e]
    exact this
section
variable {W : Wd}
def mnR (W : Wd) (s v w : Nat) : Int64 := if v = 0 then frc (pl W 7 s) (pl W 6 s) w else if 2 ≤ lvN (xS W (fun _ => false)) s (pl W) then frc (lvT s (pl W) (lvD (xS W (fun _ => false)) s (pl W) (lvN (xS W (fun _ => false)) s (pl W) - 1)) - lvT s (pl W) (lvD (xS W (fun _ => false)) s (pl W) 0)) (2 * (lvN (xS W (fun _ => false)) s (pl W) - 1)) w else (if w = 0 then 0 else 1)
set_option maxHeartbeats 1000000 in
theorem mn_c (hW : Ok W) {n : Nat} (hn : 400 ≤ n) {s v w : Nat} (hs : s < 9) (hv : v ≤ 1) (hw : w ≤ 1) : CZ (f_X4_mean n 0 (nI s) (nI v) (nI w)) W W (mnR W s v w) := by
  intro σ h hI
  have hB8 := hW.x.1
  have hl := lvN_le (S := xS W (fun _ => false)) (s := s) (P := ply (xS W (fun _ => false)) 10)
  obtain ⟨τ, t1, t2, t3, t4, t5, t6⟩ := pc_pres hW (n := n) (by omega) h hI
  have hx : Cr 14 := Or.inl rfl
  have hst := ply_st hW.x s
  have eT : tU 9990 9 = 1047200 := rfl
  rw [eT] at hst
  unfold f_X4_mean
  rw [go_y ⟨s, Nat.zero_le _, by omega, rfl⟩, ob, if_neg z10, if_neg (nI_pos (by omega)), if_neg (show ¬ (1 : Int32) < nI v from nI_nlt (a := 1) hv (by decide)), if_neg (nI_pos (by omega)), if_pos (show nI w ≤ 1 from nI_le (b := 1) hw (by decide)), ck_0 h, ob, t1, ob]
  by_cases ev : v = 0
  · obtain ⟨v0, v1, v2⟩ := t4.2.1 s (by omega)
    refine ⟨τ, ?_, t2, t3, fun q hq => (t5 q (by omega)).1⟩
    have hst6 : pl W 6 s ≤ 640 := hst.1
    have hst7 : pl W 7 s ≤ 640 * 1047200 := hst.2.1
    rw [if_pos ((nI_0' (by omega)).mpr ev), gRc_8 t2 hx, ob, aJc_9 t2 hx (by omega), ob, v1, gRc_7 t2 hx, ob, aIc_8 t2 hx (by omega), ob, v0, nI_l (by omega), pc_part (by omega) (by omega) hw (by omega), ob]
    unfold mnR
    rw [if_pos ev]
  · obtain ⟨A, q1, q2⟩ := pc_orderLeaving hW.x (x := 14) (s := s) (n := n) hx hs (by omega) t2 t3.1 t4
    have fo : FO 14 τ (sA τ (14 + 11) A) := FO.sA
    refine ⟨sA τ (14 + 11) A, ?_, fo.hp t2, fo.inv t3 t2, fun k hk => by rw [fo.2.2.2 k (by omega)]; exact (t5 k (by omega)).1⟩
    rw [if_neg (fun z => ev ((nI_0' (by omega)).mp z)), gR_4_0_0 t2, ob, ck14 t2, ob, q1, ob, ck14 (fo.hp t2), ob]
    unfold mnR
    rw [if_neg ev]
    by_cases e : 2 ≤ lvN (xS W (fun _ => false)) s (ply (xS W (fun _ => false)) 10)
    · have e' : 2 ≤ lvN (xS W (fun _ => false)) s (pl W) := e
      have m1 := lvD_mem (show lvN (xS W (fun _ => false)) s (ply (xS W (fun _ => false)) 10) - 1 < lvN (xS W (fun _ => false)) s (ply (xS W (fun _ => false)) 10) by omega)
      have hb := (ply_bd hW.x m1.1 (show s ≤ _ by omega)).2
      rw [eT] at hb
      have g2 := pc_sumg_run hW.x (x := 14) hx hs (fo.hp t2) (fo.crb t4) (by rw [sA_eq]; exact q2) (lvN (xS W (fun _ => false)) s (ply (xS W (fun _ => false)) 10) - 1) 1 n (by omega) (Nat.le_refl _) (by omega)
      rw [show 1 - 1 = 0 from rfl, Nat.sub_self] at g2
      have g2' : f_X0_sumOfGaps n 14 (nI s) (nI (lvN (xS W (fun _ => false)) s (ply (xS W (fun _ => false)) 10))) (sA τ (14 + 11) A) = _ := g2
      have e2 : (2 : Int64) * ((nI (lvN (xS W (fun _ => false)) s (ply (xS W (fun _ => false)) 10)) - 1).toInt64) = lN (2 * (lvN (xS W (fun _ => false)) s (ply (xS W (fun _ => false)) 10) - 1)) := by
        rw [show nI (lvN (xS W (fun _ => false)) s (ply (xS W (fun _ => false)) 10)) - 1 = nI (lvN (xS W (fun _ => false)) s (ply (xS W (fun _ => false)) 10) - 1) from nsub (b := 1) (by omega), nI_l (by omega), show (2 : Int64) = lN 2 from rfl, lN_mul]
      rw [g2', ob, nI_l (by unfold lvT; omega), e2, pc_part (by unfold lvT; omega) (by omega) hw (by omega), ob, if_pos e']
      rfl
    · have e' : ¬ 2 ≤ lvN (xS W (fun _ => false)) s (pl W) := e
      have g2 : f_X0_sumOfGaps n 14 (nI s) (nI (lvN (xS W (fun _ => false)) s (ply (xS W (fun _ => false)) 10))) (sA τ (14 + 11) A) = some (0, sA τ (14 + 11) A) := by
        obtain ⟨n, rfl⟩ : ∃ q, n = q + 1 := ⟨n - 1, by omega⟩
        show X0_sumOfGaps_b5 n (X0_sumOfGaps_run n) 14 _ _ 0 1 _ = _
        unfold X0_sumOfGaps_b5
        rw [if_pos (show nI _ ≤ (1 : Int32) from nI_le (b := 1) (by omega) (by decide))]
      have e2 : lg_cmp ((2 : Int64) * ((nI (lvN (xS W (fun _ => false)) s (ply (xS W (fun _ => false)) 10)) - 1).toInt64)) 0 ≤ 0 := by
        have hc : lvN (xS W (fun _ => false)) s (ply (xS W (fun _ => false)) 10) = 0 ∨ lvN (xS W (fun _ => false)) s (ply (xS W (fun _ => false)) 10) = 1 := by omega
        rcases hc with z | z <;> rw [z] <;> decide
      rw [g2, ob]
      unfold f_X4_partOfFraction X4_partOfFraction_b15
      rw [if_pos e2, if_neg (show ¬ 0 < lg_cmp 0 0 by decide), if_neg e']
      by_cases ew : w = 0
      · rw [if_pos ew, if_pos ((nI_0' (by omega)).mpr ew), ob]
      · rw [if_neg ew, if_neg (fun z => ew ((nI_0' (by omega)).mp z)), ob]
set_option maxHeartbeats 1000000 in
theorem mn_m (hW : Ok W) {n : Nat} (hn : 400 ≤ n) {s v w : Nat} (hs : s < 9) (hv : v ≤ 1) (hw : w ≤ 1) : MZ (f_X5_mean n 44 (nI s) (nI v) (nI w)) W W (mnR W s v w) := by
  intro σ h hI
  have hB8 := hW.x.1
  have hl := lvN_le (S := xS W (fun _ => false)) (s := s) (P := ply (xS W (fun _ => false)) 10)
  obtain ⟨τ, t1, t2, t3⟩ := pm_prs hW hn h hI
  have h1 := t2.hp h
  have hst := ply_st hW.x s
  have eT : tU 9990 9 = 1047200 := rfl
  rw [eT] at hst
  unfold f_X5_mean
  rw [on_y ⟨s, Nat.zero_le _, by omega, rfl⟩, ob, if_neg z10, iy_0_1 ⟨v, Nat.zero_le _, hv, rfl⟩, ob, if_neg z10, iy_0_1 ⟨w, Nat.zero_le _, hw, rfl⟩, ob, if_neg z10, ck_44 h, ob, t1, ob]
  by_cases ev : v = 0
  · obtain ⟨v0, v1, v2⟩ := t3.2.1 s (by omega)
    refine ⟨τ, ?_, h1, InvM_fn hI t2, fun q hq => t2.2.2.2.1 q (Or.inl hq), t2.2.2.1, t2.2.1⟩
    rw [if_pos ((nI_0' (by omega)).mpr ev), gR_5_44_26 h1, ob, aI_67 h1 (by omega), ob, v1, gR_5_44_25 h1, ob, aI_66 h1 (by omega), ob, v0, nI_l (by omega), nI_l (by omega), pm_term (by omega) (by omega) hw (by omega), ob]
    unfold mnR
    rw [if_pos ev]
    rfl
  · obtain ⟨ρ, r1, r2, r3, r4⟩ := pm_layGoing hW.x (s := s) (n := n) hs (by omega) h1 (InvM_fn hI t2).1 t3
    have h2 := r2.hp h1
    have fn := t2.tr r2.fn
    have hM2 := r2.fin t3
    refine ⟨ρ, ?_, h2, InvM_fn hI fn, fun q hq => fn.2.2.2.1 q (Or.inl hq), fn.2.2.1, fn.2.1⟩
    rw [if_neg (fun z => ev ((nI_0' (by omega)).mp z)), ck_44 h1, ob, r1, ob, gI_5_44_32 h2, ob, r3]
    unfold mnR
    rw [if_neg ev]
    by_cases e : 2 ≤ lvN (xS W (fun _ => false)) s (ply (xS W (fun _ => false)) 10)
    · have e' : 2 ≤ lvN (xS W (fun _ => false)) s (pl W) := e
      have m1 := lvD_mem (show lvN (xS W (fun _ => false)) s (ply (xS W (fun _ => false)) 10) - 1 < lvN (xS W (fun _ => false)) s (ply (xS W (fun _ => false)) 10) by omega)
      have m2 := lvD_mem (show 0 < lvN (xS W (fun _ => false)) s (ply (xS W (fun _ => false)) 10) by omega)
      have hb := (ply_bd hW.x m1.1 (show s ≤ _ by omega)).2
      rw [eT] at hb
      have a1 : ρ.2.1 70 (lvN (xS W (fun _ => false)) s (ply (xS W (fun _ => false)) 10) - 1) = nI (lvD (xS W (fun _ => false)) s (ply (xS W (fun _ => false)) 10) (lvN (xS W (fun _ => false)) s (ply (xS W (fun _ => false)) 10) - 1)) := Arr_get r4 (show lvN (xS W (fun _ => false)) s (ply (xS W (fun _ => false)) 10) - 1 < lvN (xS W (fun _ => false)) s (ply (xS W (fun _ => false)) 10) by omega)
      have a2 : ρ.2.1 70 0 = nI (lvD (xS W (fun _ => false)) s (ply (xS W (fun _ => false)) 10) 0) := Arr_get r4 (show 0 < lvN (xS W (fun _ => false)) s (ply (xS W (fun _ => false)) 10) by omega)
      have z0' : aI 70 0 ρ = some (ρ.2.1 70 0) := aI_70 (j := 0) h2 (by decide)
      have c1 := (hM2.1 _ m1.1 s (by omega)).2.1
      have c2 := (hM2.1 _ m2.1 s (by omega)).2.1
      rw [if_pos (by omega)] at c1 c2
      have ole := lvD_le (S := xS W (fun _ => false)) (s := s) (P := ply (xS W (fun _ => false)) 10) (show 0 < lvN (xS W (fun _ => false)) s (ply (xS W (fun _ => false)) 10) - 1 by omega) (by omega)
      unfold lvT at ole
      have e2 : (2 : Int64) * ((nI (lvN (xS W (fun _ => false)) s (ply (xS W (fun _ => false)) 10)) - 1).toInt64) = lN (2 * (lvN (xS W (fun _ => false)) s (ply (xS W (fun _ => false)) 10) - 1)) := by
        rw [show nI (lvN (xS W (fun _ => false)) s (ply (xS W (fun _ => false)) 10)) - 1 = nI (lvN (xS W (fun _ => false)) s (ply (xS W (fun _ => false)) 10) - 1) from nsub (b := 1) (by omega), nI_l (by omega), show (2 : Int64) = lN 2 from rfl, lN_mul]
      rw [if_pos (show (2 : Int32) ≤ nI _ from nI_le (a := 2) e (by omega)), gR_5_44_18 h2, ob, gR_5_44_33 h2, ob, ob, show nI (lvN (xS W (fun _ => false)) s (ply (xS W (fun _ => false)) 10)) - 1 = nI (lvN (xS W (fun _ => false)) s (ply (xS W (fun _ => false)) 10) - 1) from nsub (b := 1) (by omega), aI_70 h2 (by omega), ob, a1, p10, aI_59 h2 (by omega), ob, c1, ob, ob, z0', ob, a2, p10, aI_59 h2 (by omega), ob, c2, nsub ole, ob, ob, nI_l (by omega), e2, pm_term (by omega) (by omega) hw (by omega), ob, if_pos e']
      rfl
    · have e' : ¬ 2 ≤ lvN (xS W (fun _ => false)) s (pl W) := e
      rw [if_neg (show ¬ (2 : Int32) ≤ nI _ from nI_ge (b := 2) (by omega) (by decide)), if_neg e']
      have hc : w = 0 ∨ w = 1 := by omega
      rcases hc with q | q <;> subst q <;> rfl
theorem z_mean (hW : Ok W) {n : Nat} (hn : 400 ≤ n) (i j k : Int32) : Pz (f_X4_mean n 0 i j k) (f_X5_mean n 44 i j k) W := by
  by_cases hi : Rg i 0 8
  · by_cases hj : Rg j 0 1
    · by_cases hk : Rg k 0 1
      · obtain ⟨s, s1, s2, rfl⟩ := hi
        obtain ⟨v, v1, v2, rfl⟩ := hj
        obtain ⟨w, w1, w2, rfl⟩ := hk
        exact ⟨W, mnR W s v w, hW, mn_c hW hn (by omega) v2 w2, mn_m hW hn (by omega) v2 w2⟩
      · refine ⟨W, (-1000000000000000002), hW, CZ_no (fun σ h hI => ?_), MZ_no (fun σ h hI => ?_)⟩
        · unfold f_X4_mean X4_mean_b29
          rw [go_y hi, ob, if_neg z10]
          rcases nRg (lo := 0) (by decide) (by decide) hk with z | z
          · rw [if_pos (show k < 0 from z), ite_self, ite_self]
          · rw [if_neg (show ¬ k ≤ 1 from i_nle (by decide) z), ite_self, ite_self, ite_self]
        · unfold f_X5_mean X5_mean_b29
          rw [on_y hi, ob, if_neg z10, iy_0_1 hj, ob, if_neg z10, im_0_1 hk, ob, if_pos rfl]
    · refine ⟨W, (-1000000000000000002), hW, CZ_no (fun σ h hI => ?_), MZ_no (fun σ h hI => ?_)⟩
      · unfold f_X4_mean X4_mean_b29
        rw [go_y hi, ob, if_neg z10]
        rcases nRg (lo := 0) (by decide) (by decide) hj with z | z
        · rw [if_pos (show j < 0 from z)]
        · rw [if_pos (show 1 < j from nI_le_lt (by decide) z), ite_self]
      · unfold f_X5_mean X5_mean_b29
        rw [on_y hi, ob, if_neg z10, im_0_1 hj, ob, if_pos rfl]
  · refine ⟨W, (-1000000000000000001), hW, CZ_no (fun σ h hI => ?_), MZ_no (fun σ h hI => ?_)⟩
    · unfold f_X4_mean
      rw [go_n hi, ob, if_pos rfl]
    · unfold f_X5_mean
      rw [on_n hi, ob, if_pos rfl]
end
