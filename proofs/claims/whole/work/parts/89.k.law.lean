/-! THE LAW: every call of every script -/
section
variable {W : Wd}
theorem Pz_go {α : Type} {f g : Sg → Option (α × Sg)} (hP : Pz f g W) {σ : Sg} (h : Hp σ) (hC : InvC σ W) (hM : InvM σ W) : ∃ W' r τ ρ, Ok W' ∧ f σ = some (r, τ) ∧ Hp τ ∧ g τ = some (r, ρ) ∧ Hp ρ ∧ InvC ρ W' ∧ InvM ρ W' := by
  obtain ⟨W', r, hW', hc, hm⟩ := hP
  obtain ⟨τ, t1, t2, t3, t4⟩ := hc σ h hC
  obtain ⟨ρ, r1, r2, r3, r4, r5, r6⟩ := hm τ t2 (InvM_fr hM t4)
  exact ⟨W', r, τ, ρ, hW', t1, t2, r1, r2, InvC_fr t3 r4 r5 r6 t2, r3⟩
theorem law_I {f g : Sg → Option (Int32 × Sg)} (hP : Pz f g W) {σ : Sg} (h : Hp σ) (hC : InvC σ W) (hM : InvM σ W) {B : Sg → Option Unit} (hB : ∀ W' ρ, Ok W' → Hp ρ → InvC ρ W' → InvM ρ W' → B ρ = some ()) : ((f σ).bind fun w => (ck 5 44 w.2).bind fun _ => (g w.2).bind fun v => if w.1 = v.1 then B v.2 else none) = some () := by
  obtain ⟨W', r, τ, ρ, a1, a2, a3, a4, a5, a6, a7⟩ := Pz_go hP h hC hM
  rw [a2, ob, ck_44 a3, ob, a4, ob, if_pos rfl]
  exact hB W' ρ a1 a5 a6 a7
theorem law_J {f g : Sg → Option (Int64 × Sg)} (hP : Pz f g W) {σ : Sg} (h : Hp σ) (hC : InvC σ W) (hM : InvM σ W) {B : Sg → Option Unit} (hB : ∀ W' ρ, Ok W' → Hp ρ → InvC ρ W' → InvM ρ W' → B ρ = some ()) : ((f σ).bind fun w => (ck 5 44 w.2).bind fun _ => (g w.2).bind fun v => if lg_cmp w.1 v.1 = 0 then B v.2 else none) = some () := by
  obtain ⟨W', r, τ, ρ, a1, a2, a3, a4, a5, a6, a7⟩ := Pz_go hP h hC hM
  rw [a2, ob, ck_44 a3, ob, a4, ob, if_pos ((lg_cmp_eq _ _).mpr rfl)]
  exact hB W' ρ a1 a5 a6 a7
end
theorem sx_g {L : Nat} {xs : Nat → Int32} {j : Nat} (hL : L ≤ 2048) (hj : j < L) : sx L xs (nI j) = some (xs j) := by
  unfold sx
  rw [if_pos (nI_in hj (by omega)), nI_clamp (by omega)]
theorem lw_cmp {L i : Nat} (hL : L ≤ 2048) (hi : i ≤ 4096) : Int32.ofNat L - 4 < nI i ↔ L < i + 4 := by
  show nI L - 4 < nI i ↔ _
  by_cases e : 4 ≤ L
  · rw [show nI L - 4 = nI (L - 4) from nsub (b := 4) e]
    constructor
    · intro z
      rcases Nat.lt_or_ge (L - 4) i with w | w
      · omega
      · exact absurd z (nI_nlt w (by omega))
    · intro z
      exact nI_lt (by omega) (by omega)
  · refine ⟨fun _ => by omega, fun _ => Int32.lt_of_lt_of_le ?_ (nI_pos' (show i < 2 ^ 31 by omega))⟩
    have hc : L = 0 ∨ L = 1 ∨ L = 2 ∨ L = 3 := by omega
    rcases hc with z | z | z | z <;> subst z <;> decide
set_option maxHeartbeats 4000000 in
set_option maxRecDepth 10000 in
theorem law_all {L : Nat} {xs : Nat → Int32} (hL : L ≤ 2048) : ∀ (m i n : Nat) (σ : Sg) (W : Wd), L ≤ i + 4 * m + 3 → i ≤ 2048 → 1000 + m < n → Ok W → Hp σ → InvC σ W → InvM σ W → L_law_run n L xs 0 44 (nI i) σ = some () := by
  intro m
  induction m with
  | zero =>
    intro i n σ W hm hi hn hW h hC hM
    obtain ⟨n, rfl⟩ : ∃ q, n = q + 1 := ⟨n - 1, by omega⟩
    show L_law_b18 n L xs (L_law_run n L xs) 0 44 (nI i) σ = _
    unfold L_law_b18
    rw [if_pos ((lw_cmp hL (by omega)).mpr (by omega))]
  | succ m ih =>
    intro i n σ W hm hi hn hW h hC hM
    obtain ⟨n, rfl⟩ : ∃ q, n = q + 1 := ⟨n - 1, by omega⟩
    show L_law_b18 n L xs (L_law_run n L xs) 0 44 (nI i) σ = _
    by_cases e : L < i + 4
    · unfold L_law_b18
      rw [if_pos ((lw_cmp hL (by omega)).mpr e)]
    · have hB : ∀ W' ρ, Ok W' → Hp ρ → InvC ρ W' → InvM ρ W' → L_law_b780 n L xs (L_law_run n L xs) 0 44 (nI i) ρ = some () := by
        intro W' ρ a1 a2 a3 a4
        unfold L_law_b780
        rw [show nI i + 4 = nI (i + 4) from nI_add i 4, ob]
        exact ih (i + 4) n ρ W' (by omega) (by omega) (by omega) a1 a2 a3 a4
      have hn0 : 1000 ≤ n := by omega
      generalize L_law_run n L xs = K at hB
      have x0 : sx L xs (nI i) = some (xs i) := sx_g hL (by omega)
      have x1 : sx L xs (nI i + 1) = some (xs (i + 1)) := by rw [nI_1]; exact sx_g hL (by omega)
      have x2 : sx L xs (nI i + 2) = some (xs (i + 2)) := by rw [show nI i + 2 = nI (i + 2) from nI_add i 2]; exact sx_g hL (by omega)
      have x3 : sx L xs (nI i + 3) = some (xs (i + 3)) := by rw [show nI i + 3 = nI (i + 3) from nI_add i 3]; exact sx_g hL (by omega)
      unfold L_law_b18
      rw [if_neg (fun z => e ((lw_cmp hL (by omega)).mp z)), x0, ob, ob]
      generalize xs i &&& 31 = x
      simp only [x1, x2, x3, ck_0 h, ob]
      by_cases e0 : x = 0
      · rw [if_pos e0]
        exact law_I (z_stop hW n _ _ _) h hC hM hB
      rw [if_neg e0]
      by_cases e1 : x = 1
      · rw [if_pos e1]
        exact law_I (z_bus hW n _ _) h hC hM hB
      rw [if_neg e1]
      by_cases e2 : x = 2
      · rw [if_pos e2]
        exact law_I (z_set hW n _ _) h hC hM hB
      rw [if_neg e2]
      by_cases e3 : x = 3
      · rw [if_pos e3]
        exact law_I (z_late hW n _ _ _) h hC hM hB
      rw [if_neg e3]
      by_cases e4 : x = 4
      · rw [if_pos e4]
        exact law_I (z_mend hW n) h hC hM hB
      rw [if_neg e4]
      by_cases e5 : x = 5
      · rw [if_pos e5]
        exact law_I (z_turn hW n _ _) h hC hM hB
      rw [if_neg e5]
      by_cases e6 : x = 6
      · rw [if_pos e6]
        exact law_I (z_at hW (n := n) (by omega) _ _ _) h hC hM hB
      rw [if_neg e6]
      by_cases e7 : x = 7
      · rw [if_pos e7]
        exact law_I (z_say hW n _) h hC hM hB
      rw [if_neg e7]
      by_cases e8 : x = 8
      · rw [if_pos e8]
        exact law_I (z_wipe hW n) h hC hM hB
      rw [if_neg e8]
      by_cases e9 : x = 9
      · rw [if_pos e9]
        exact law_I (z_fault hW (n := n) (by omega)) h hC hM hB
      rw [if_neg e9]
      by_cases e10 : x = 10
      · rw [if_pos e10]
        exact law_I (z_rule hW (n := n) (by omega)) h hC hM hB
      rw [if_neg e10]
      by_cases e11 : x = 11
      · rw [if_pos e11]
        exact law_I (z_free hW (n := n) (by omega)) h hC hM hB
      rw [if_neg e11]
      by_cases e12 : x = 12
      · rw [if_pos e12]
        exact law_I (z_follow hW (n := n) (by omega) _ _) h hC hM hB
      rw [if_neg e12]
      by_cases e13 : x = 13
      · rw [if_pos e13]
        exact law_I (z_one hW (n := n) (by omega) _) h hC hM hB
      rw [if_neg e13]
      by_cases e14 : x = 14
      · rw [if_pos e14]
        exact law_I (z_began hW (n := n) (by omega)) h hC hM hB
      rw [if_neg e14]
      by_cases e15 : x = 15
      · rw [if_pos e15]
        exact law_I (z_spread hW (n := n) (by omega) _) h hC hM hB
      rw [if_neg e15]
      by_cases e16 : x = 16
      · rw [if_pos e16]
        exact law_I (z_waited hW (n := n) (by omega) _ _) h hC hM hB
      rw [if_neg e16]
      by_cases e17 : x = 17
      · rw [if_pos e17]
        exact law_J (z_mean hW (n := n) (by omega) _ _ _) h hC hM hB
      rw [if_neg e17]
      by_cases e18 : x = 18
      · rw [if_pos e18]
        exact law_I (z_all hW (n := n) (by omega) _) h hC hM hB
      rw [if_neg e18]
      by_cases e19 : x = 19
      · rw [if_pos e19]
        exact law_I (z_held hW (n := n) (by omega) _ _ _) h hC hM hB
      rw [if_neg e19]
      by_cases e20 : x = 20
      · rw [if_pos e20]
        exact law_I (z_board hW (n := n) (by omega) _ _ _) h hC hM hB
      rw [if_neg e20]
      by_cases e21 : x = 21
      · rw [if_pos e21]
        exact law_I (z_best hW (n := n) (by omega) _) h hC hM hB
      rw [if_neg e21]
      by_cases e22 : x = 22
      · rw [if_pos e22]
        exact law_I (z_told hW n _) h hC hM hB
      rw [if_neg e22]
      exact hB W σ hW h hC hM
theorem law_whole {L : Nat} (hL : L ≤ 2048) (xs : Nat → Int32) : ∃ n, f_L_law n L xs sg0 = some () := by
  obtain ⟨n, τ, hn, h1, h2, h3, h4⟩ := start_st
  have key : L_law_run n L xs 0 44 (nI 0) τ = some () := law_all hL 600 0 n τ W0 (by omega) (by omega) (by omega) W0_ok h2 h3 h4
  refine ⟨n, ?_⟩
  unfold ini at h1
  unfold f_L_law L_law_b0
  have e0 : nO 4 sg0 = some (0, sN sg0) := rfl
  rw [e0, ob] at h1 ⊢
  cases e1 : f_X4_init n 0 (sN sg0) with
  | none => rw [e1] at h1; cases h1
  | some a =>
    rw [e1, ob] at h1
    rw [ob]
    cases e2 : nO 5 a with
    | none => rw [e2] at h1; cases h1
    | some b =>
      rw [e2, ob] at h1
      rw [ob]
      cases e3 : f_X5_init n b.1 b.2 with
      | none => rw [e3] at h1; cases h1
      | some c =>
        rw [e3, ob] at h1
        rw [ob]
        have h5 := Option.some.inj h1
        have h6 : b.1 = 44 := congrArg Prod.fst h5
        have h7 : c = τ := congrArg Prod.snd h5
        rw [h6, h7]
        exact key
