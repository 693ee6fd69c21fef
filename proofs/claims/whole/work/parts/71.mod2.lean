set_option maxHeartbeats 4000000 in
/-- GETTING ON -/
theorem pm_getOn {σ : Sg} {S : Se} {X : Nat} (hS : SeOk S X) (h : Hp σ) (hL : MLine σ S) {b s n C fr tk lo W N : Nat} (hb : b < eB S) (hs : s < 10) (hsf : s ≤ eFin S b) (hC : σ.2.1 58 (10 * b + s) = nI C) (htk : σ.2.1 44 31 = nI tk) (hlo : s < 9 → σ.2.1 68 s = nI lo)
    (b1 : C < 2 ^ 30) (b4 : tk ≤ 640) (b6 : lo < 2 ^ 31) (b7 : fr ≤ 80) (d1 : tk ≤ (if eGap S s = 0 then 0 else C / eGap S s)) (eW : W = (if eGap S s = 0 then 0 else C / eGap S s) - tk) (eN : N = if s < eFin S b then min fr W else 0) :
    ∃ τ, f_X5_getOn n 44 (nI b) (nI s) (nI fr) σ = some (nI N, τ) ∧ FM σ τ ∧ τ.2.1 44 29 = σ.2.1 44 29 ∧ τ.2.1 44 30 = σ.2.1 44 30 ∧ τ.2.1 44 31 = nI (tk + N) ∧ (∀ q, q ≠ 44 → q ≠ 60 → q ≠ 63 → q ≠ 64 → q ≠ 65 → q ≠ 66 → q ≠ 67 → q ≠ 68 → τ.2.1 q = σ.2.1 q) ∧
      (∀ k, τ.2.1 60 k = if k = 10 * b + s then nI N else σ.2.1 60 k) ∧ (∀ k, τ.2.1 63 k = if k = 10 * b + s then nI (W - N) else σ.2.1 63 k) ∧
      (∀ k, τ.2.1 64 k = if k = 10 * b + eGoal S s ∧ 0 < N then σ.2.1 64 k + nI N else σ.2.1 64 k) ∧ (∀ k, τ.2.1 65 k = if k = 10 * b + eGoal S s ∧ 0 < N then σ.2.1 65 k + nI (N * C) else σ.2.1 65 k) ∧
      (∀ k, τ.2.1 66 k = if k = s ∧ 0 < N then σ.2.1 66 k + nI N else σ.2.1 66 k) ∧ (∀ k, τ.2.1 67 k = if k = s ∧ 0 < N then σ.2.1 67 k + nI (N * C - eGap S s * (N * tk + N * (N + 1) / 2)) else σ.2.1 67 k) ∧ (∀ k, τ.2.1 68 k = if k = s ∧ 0 < N then nI (max lo (C - eGap S s * (tk + 1))) else σ.2.1 68 k) := by
  have hB := hS.1
  have hfin := (hS.2.2.2.2.2.2.1 b hb).2.2.2.2
  have hgap := hS.2.2.1 s
  have hc : 10 * b + s < 80 := by omega
  have hWb : (if eGap S s = 0 then 0 else C / eGap S s) ≤ C := by
    split
    · omega
    · exact Nat.div_le_self _ _
  have hNW : N ≤ W ∧ N ≤ fr := by
    rw [eN]
    split
    · exact ⟨Nat.min_le_right _ _, Nat.min_le_left _ _⟩
    · exact ⟨Nat.zero_le _, Nat.zero_le _⟩
  -- to b84 with there and who gets on
  have e84 : f_X5_getOn n 44 (nI b) (nI s) (nI fr) σ = X5_getOn_b84 n 44 (nI b) (nI s) (nI (10 * b + s)) (nI W) (nI N) σ := by
    have e60 : ∀ z : Nat, (s < eFin S b → z = N) → X5_getOn_b60 n 44 (nI b) (nI s) (nI (10 * b + s)) (nI W) (nI z) σ = X5_getOn_b84 n 44 (nI b) (nI s) (nI (10 * b + s)) (nI W) (nI N) σ := by
      intro z hz
      unfold X5_getOn_b60
      rw [gR_5_44_6 h, ob, aI_50 h (by omega), ob, (hL.2.2.2.2.2 b hb).2.2]
      by_cases e : s < eFin S b
      · rw [if_neg (fun q => by have := (nI_eq (by omega) (by omega)).mp q; omega), if_neg (fun q => by have := (nI_eq (b := 9) (by omega) (by decide)).mp q; omega), hz e]
      · have e2 : eFin S b = s := by omega
        have e3 : N = 0 := by rw [eN, if_neg e]
        rw [if_pos (by rw [e2]), e3]
        rfl
    have e46 : X5_getOn_b46 n 44 (nI b) (nI s) (nI fr) (nI (10 * b + s)) (nI W) σ = X5_getOn_b84 n 44 (nI b) (nI s) (nI (10 * b + s)) (nI W) (nI N) σ := by
      unfold X5_getOn_b46
      by_cases e : fr ≤ W
      · rw [if_pos (nI_le e (by omega))]
        exact e60 fr (fun q => by rw [eN, if_pos q, Nat.min_eq_left e])
      · rw [if_neg (nI_ge (by omega) (by omega))]
        exact e60 W (fun q => by rw [eN, if_pos q, Nat.min_eq_right (by omega)])
    unfold f_X5_getOn
    rw [p10, ob]
    by_cases e9 : s = 9
    · rw [if_pos (by rw [e9]; rfl)]
      have hg9 : eGap S s = 0 := by rw [e9]; exact hS.2.2.2.1
      have hW0 : W = 0 := by rw [if_pos hg9] at eW; omega
      rw [hW0] at e46 ⊢
      exact e46
    · rw [if_neg (show ¬ nI s = 9 from fun q => e9 ((nI_eq (b := 9) (by omega) (by decide)).mp q)), gR_5_44_1 h, ob, aI_46 h (by omega), ob, hL.2.2.1 s (by omega)]
      by_cases eg : eGap S s = 0
      · rw [if_pos ((nI_0' (by omega)).mpr eg)]
        have hW0 : W = 0 := by rw [if_pos eg] at eW; omega
        rw [hW0] at e46 ⊢
        exact e46
      · rw [if_neg (fun q => eg ((nI_0' (by omega)).mp q)), gR_5_44_17 h, ob, aI_58 h hc, ob, hC, ob, aI_46 h (by omega), ob, hL.2.2.1 s (by omega)]
        rw [if_neg eg] at d1 eW
        unfold dv
        rw [if_pos (nI_ne0 (by omega) (by omega)), ob, gI_5_44_31 h, ob, htk, pk_div (by omega) (by omega) (by omega), nsub d1, ← eW]
        exact e46
  rw [e84]
  unfold X5_getOn_b84
  rw [gR_5_44_22 h, ob, nsub hNW.1, xI_63 h hc, ob]
  have h1 : Hp (sI σ 63 (10 * b + s) (nI (W - N))) := h
  rw [gR_5_44_19 h1, ob, xI_60 h1 hc, ob]
  have f2 : FM σ (sI (sI σ 63 (10 * b + s) (nI (W - N))) 60 (10 * b + s) (nI N)) := (FM.rf.wI (by decide) (by decide)).wI (by decide) (by decide)
  have q60 : ∀ k, (sI (sI σ 63 (10 * b + s) (nI (W - N))) 60 (10 * b + s) (nI N)).2.1 60 k = if k = 10 * b + s then nI N else σ.2.1 60 k := fun k => by
    rw [rI, rI_ne (by decide)]
    by_cases z : k = 10 * b + s
    · rw [if_pos ⟨rfl, z⟩, if_pos z]
    · rw [if_neg (fun q => z q.2), if_neg z]
  have q63 : ∀ k, (sI (sI σ 63 (10 * b + s) (nI (W - N))) 60 (10 * b + s) (nI N)).2.1 63 k = if k = 10 * b + s then nI (W - N) else σ.2.1 63 k := fun k => by
    rw [rI_ne (by decide), rI]
    by_cases z : k = 10 * b + s
    · rw [if_pos ⟨rfl, z⟩, if_pos z]
    · rw [if_neg (fun q => z q.2), if_neg z]
  have qq : ∀ q, q ≠ 60 → q ≠ 63 → (sI (sI σ 63 (10 * b + s) (nI (W - N))) 60 (10 * b + s) (nI N)).2.1 q = σ.2.1 q := fun q z1 z2 => by rw [rI_ne z1, rI_ne z2]
  generalize (sI (sI σ 63 (10 * b + s) (nI (W - N))) 60 (10 * b + s) (nI N)) = τ at f2 q60 q63 qq ⊢
  have hτ := f2.hp h
  have hLτ := f2.line hL
  by_cases e : N = 0
  · rw [if_pos ((nI_le0 (by omega)).mpr e)]
    unfold X5_getOn_b303
    refine ⟨τ, rfl, f2, by rw [qq 44 (by decide) (by decide)], by rw [qq 44 (by decide) (by decide)], by rw [qq 44 (by decide) (by decide), htk, e]; rfl, fun q _ z2 z3 _ _ _ _ _ => qq q z2 z3, q60, q63, fun k => ?_, fun k => ?_, fun k => ?_, fun k => ?_, fun k => ?_⟩
    · rw [if_neg (by omega), qq 64 (by decide) (by decide)]
    · rw [if_neg (by omega), qq 65 (by decide) (by decide)]
    · rw [if_neg (by omega), qq 66 (by decide) (by decide)]
    · rw [if_neg (by omega), qq 67 (by decide) (by decide)]
    · rw [if_neg (by omega), qq 68 (by decide) (by decide)]
  · have hsf2 : s < eFin S b := by
      rcases Nat.lt_or_ge s (eFin S b) with q | q
      · exact q
      · rw [if_neg (by omega)] at eN; exact absurd eN e
    have hs9 : s < 9 := by omega
    have hgp : ¬ eGap S s = 0 := by
      intro z
      rw [z, if_pos rfl] at eW
      omega
    rw [if_neg hgp] at d1 eW
    have c2 : eGap S s * (tk + 1) ≤ C := by
      have : tk + 1 ≤ C / eGap S s := by omega
      exact Nat.le_trans (Nat.mul_le_mul (Nat.le_refl _) this) (Nat.mul_div_le _ _)
    have c1 : eGap S s * (N * tk + N * (N + 1) / 2) ≤ N * C := by
      have h4 : eGap S s * (tk + N) ≤ C := by
        have : tk + N ≤ C / eGap S s := by omega
        exact Nat.le_trans (Nat.mul_le_mul (Nat.le_refl _) this) (Nat.mul_div_le _ _)
      have h5 : N * tk + N * (N + 1) / 2 ≤ N * (tk + N) := by
        have h6 : N * (N + 1) / 2 ≤ N * N := by
          apply Nat.div_le_of_le_mul
          have : N * (N + 1) ≤ N * (2 * N) := Nat.mul_le_mul (Nat.le_refl _) (by omega)
          rw [Nat.mul_left_comm] at this
          exact this
        have h7 : N * (tk + N) = N * tk + N * N := Nat.mul_add _ _ _
        rw [h7]
        omega
      refine Nat.le_trans (Nat.mul_le_mul (Nat.le_refl _) h5) ?_
      rw [Nat.mul_left_comm]
      exact Nat.mul_le_mul (Nat.le_refl _) h4
    have hgo := goal_in hS hs9
    have hgk : 10 * b + eGoal S s < 80 := by omega
    have htrip := hS.2.2.2.2.1 s hs9
    have e138 : (if (nI s + nI (eTrip S s)) ≤ 9 then (gR 5 44 2 τ).bind fun q_45 => (aI q_45 (nI s) τ).bind fun v_46 => X5_getOn_b138 n 44 (nI b) (nI s) (nI (10 * b + s)) (nI N) (nI s + v_46) τ else X5_getOn_b138 n 44 (nI b) (nI s) (nI (10 * b + s)) (nI N) 9 τ) = X5_getOn_b138 n 44 (nI b) (nI s) (nI (10 * b + s)) (nI N) (nI (eGoal S s)) τ := by
      rw [gR_5_44_2 hτ, ob, aI_47 hτ (by omega), ob, hLτ.2.2.2.1 s hs9, nI_add]
      unfold eGoal
      by_cases z : 9 < s + eTrip S s
      · rw [if_neg (show ¬ nI (s + eTrip S s) ≤ 9 from nI_ge (a := 9) z (by omega)), if_pos z]
        rfl
      · rw [if_pos (show nI (s + eTrip S s) ≤ 9 from nI_le (b := 9) (by omega) (by decide)), if_neg z]
    rw [if_neg (fun z => e ((nI_le0 (by omega)).mp z)), gR_5_44_2 hτ, ob, aI_47 hτ (by omega), ob, hLτ.2.2.2.1 s hs9]
    rw [gR_5_44_2 hτ] at e138
    rw [e138]
    unfold X5_getOn_b138
    have k58 : τ.2.1 58 (10 * b + s) = nI C := by rw [qq 58 (by decide) (by decide)]; exact hC
    have k31 : τ.2.1 44 31 = nI tk := by rw [qq 44 (by decide) (by decide)]; exact htk
    have kg : τ.2.1 46 s = nI (eGap S s) := hLτ.2.2.1 s hs9
    have k68 : τ.2.1 68 s = nI lo := by rw [qq 68 (by decide) (by decide)]; exact hlo hs9
    rw [gR_5_44_23 hτ, ob, p10, aI_64 hτ hgk, ob, xI_64 hτ hgk, ob]
    have h3 : Hp (sI τ 64 (10 * b + eGoal S s) (τ.2.1 64 (10 * b + eGoal S s) + nI N)) := hτ
    rw [gR_5_44_24 h3, ob, aI_65 h3 hgk, ob, gR_5_44_17 h3, ob, aI_58 h3 hc, ob, rI_ne (by decide), rI_ne (by decide), k58, pk_mul, xI_65 h3 hgk, ob]
    have f4 : FM σ (sI (sI τ 64 (10 * b + eGoal S s) (τ.2.1 64 (10 * b + eGoal S s) + nI N)) 65 (10 * b + eGoal S s) (τ.2.1 65 (10 * b + eGoal S s) + nI (N * C))) := (f2.wI (by decide) (by decide)).wI (by decide) (by decide)
    have r64 : ∀ k, (sI (sI τ 64 (10 * b + eGoal S s) (τ.2.1 64 (10 * b + eGoal S s) + nI N)) 65 (10 * b + eGoal S s) (τ.2.1 65 (10 * b + eGoal S s) + nI (N * C))).2.1 64 k = if k = 10 * b + eGoal S s ∧ 0 < N then σ.2.1 64 k + nI N else σ.2.1 64 k := fun k => by
      rw [rI_ne (by decide), rI, qq 64 (by decide) (by decide)]
      by_cases z : k = 10 * b + eGoal S s
      · rw [if_pos ⟨rfl, z⟩, if_pos ⟨z, by omega⟩, z]
      · rw [if_neg (fun q => z q.2), if_neg (fun q => z q.1)]
    have r65 : ∀ k, (sI (sI τ 64 (10 * b + eGoal S s) (τ.2.1 64 (10 * b + eGoal S s) + nI N)) 65 (10 * b + eGoal S s) (τ.2.1 65 (10 * b + eGoal S s) + nI (N * C))).2.1 65 k = if k = 10 * b + eGoal S s ∧ 0 < N then σ.2.1 65 k + nI (N * C) else σ.2.1 65 k := fun k => by
      rw [rI, rI_ne (by decide), qq 65 (by decide) (by decide)]
      by_cases z : k = 10 * b + eGoal S s
      · rw [if_pos ⟨rfl, z⟩, if_pos ⟨z, by omega⟩, z]
      · rw [if_neg (fun q => z q.2), if_neg (fun q => z q.1)]
    have rq : ∀ q, q ≠ 64 → q ≠ 65 → (sI (sI τ 64 (10 * b + eGoal S s) (τ.2.1 64 (10 * b + eGoal S s) + nI N)) 65 (10 * b + eGoal S s) (τ.2.1 65 (10 * b + eGoal S s) + nI (N * C))).2.1 q = τ.2.1 q := fun q z1 z2 => by rw [rI_ne z2, rI_ne z1]
    generalize (sI (sI τ 64 (10 * b + eGoal S s) (τ.2.1 64 (10 * b + eGoal S s) + nI N)) 65 (10 * b + eGoal S s) (τ.2.1 65 (10 * b + eGoal S s) + nI (N * C))) = ρ at f4 r64 r65 rq ⊢
    have hρ := f4.hp h
    have hm : N * (N + 1) ≤ 80 * 81 := Nat.mul_le_mul (by omega) (by omega)
    have esum : nI N * nI C - nI (eGap S s) * (nI N * nI tk + nI N * (nI N + 1) / 2) = nI (N * C - eGap S s * (N * tk + N * (N + 1) / 2)) := by
      rw [nI_1, pk_mul, pk_mul, pk_mul, show (2 : Int32) = nI 2 from rfl, pk_div (by omega) (by decide) (by decide), nI_add, pk_mul, nsub c1]
    have efw : nI C - nI (eGap S s) * (nI tk + 1) = nI (C - eGap S s * (tk + 1)) := by rw [nI_1, pk_mul, nsub c2]
    unfold dv
    rw [gR_5_44_17 hρ, ob, aI_58 hρ hc, ob, rq 58 (by decide) (by decide), k58, gR_5_44_1 hρ, ob, aI_46 hρ (by omega), ob, rq 46 (by decide) (by decide), kg, gI_5_44_31 hρ, ob, rq 44 (by decide) (by decide), k31, if_pos (show ¬ (2 : Int32) = 0 by decide), ob, esum, ob, gR_5_44_25 hρ, ob, aI_66 hρ (by omega), ob, xI_66 hρ (by omega), ob]
    have h5 : Hp (sI ρ 66 s (ρ.2.1 66 s + nI N)) := hρ
    rw [gR_5_44_26 h5, ob, aI_67 h5 (by omega), ob, rI_ne (by decide), xI_67 h5 (by omega), ob]
    have f6 : FM σ (sI (sI ρ 66 s (ρ.2.1 66 s + nI N)) 67 s (ρ.2.1 67 s + nI (N * C - eGap S s * (N * tk + N * (N + 1) / 2)))) := (f4.wI (by decide) (by decide)).wI (by decide) (by decide)
    have s66 : ∀ k, (sI (sI ρ 66 s (ρ.2.1 66 s + nI N)) 67 s (ρ.2.1 67 s + nI (N * C - eGap S s * (N * tk + N * (N + 1) / 2)))).2.1 66 k = if k = s ∧ 0 < N then σ.2.1 66 k + nI N else σ.2.1 66 k := fun k => by
      rw [rI_ne (by decide), rI, rq 66 (by decide) (by decide), qq 66 (by decide) (by decide)]
      by_cases z : k = s
      · rw [if_pos ⟨rfl, z⟩, if_pos ⟨z, by omega⟩, z]
      · rw [if_neg (fun q => z q.2), if_neg (fun q => z q.1)]
    have s67 : ∀ k, (sI (sI ρ 66 s (ρ.2.1 66 s + nI N)) 67 s (ρ.2.1 67 s + nI (N * C - eGap S s * (N * tk + N * (N + 1) / 2)))).2.1 67 k = if k = s ∧ 0 < N then σ.2.1 67 k + nI (N * C - eGap S s * (N * tk + N * (N + 1) / 2)) else σ.2.1 67 k := fun k => by
      rw [rI, rI_ne (by decide), rq 67 (by decide) (by decide), qq 67 (by decide) (by decide)]
      by_cases z : k = s
      · rw [if_pos ⟨rfl, z⟩, if_pos ⟨z, by omega⟩, z]
      · rw [if_neg (fun q => z q.2), if_neg (fun q => z q.1)]
    have sq : ∀ q, q ≠ 66 → q ≠ 67 → (sI (sI ρ 66 s (ρ.2.1 66 s + nI N)) 67 s (ρ.2.1 67 s + nI (N * C - eGap S s * (N * tk + N * (N + 1) / 2)))).2.1 q = ρ.2.1 q := fun q z1 z2 => by rw [rI_ne z2, rI_ne z1]
    generalize (sI (sI ρ 66 s (ρ.2.1 66 s + nI N)) 67 s (ρ.2.1 67 s + nI (N * C - eGap S s * (N * tk + N * (N + 1) / 2)))) = π at f6 s66 s67 sq ⊢
    have hπ := f6.hp h
    have fin : ∀ z : Nat, X5_getOn_b291 n 44 (nI N) 68 (nI s) (nI z) π = some (nI N, sI (sI π 68 s (nI z)) 44 31 (nI (tk + N))) := by
      intro z
      unfold X5_getOn_b291
      rw [xI_68 hπ (by omega), ob]
      have h7 : Hp (sI π 68 s (nI z)) := hπ
      rw [gI_5_44_31 h7, ob, rI_ne (by decide), sq 44 (by decide) (by decide), rq 44 (by decide) (by decide), k31, nI_add, pI_5_44_31 h7, ob]
      rfl
    have k68' : π.2.1 68 s = nI lo := by rw [sq 68 (by decide) (by decide), rq 68 (by decide) (by decide)]; exact k68
    rw [gR_5_44_17 hπ, ob, aI_58 hπ hc, ob, sq 58 (by decide) (by decide), rq 58 (by decide) (by decide), k58, gR_5_44_1 hπ, ob, aI_46 hπ (by omega), ob, sq 46 (by decide) (by decide), rq 46 (by decide) (by decide), kg, gI_5_44_31 hπ, ob, sq 44 (by decide) (by decide), rq 44 (by decide) (by decide), k31, efw, ob, gR_5_44_27 hπ, ob, ob, aI_68 hπ (by omega), ob, k68']
    have hend : (if nI (C - eGap S s * (tk + 1)) ≤ nI lo then (some 68).bind fun q_35 => (aI q_35 (nI s) π).bind fun v_36 => X5_getOn_b291 n 44 (nI N) 68 (nI s) v_36 π else X5_getOn_b291 n 44 (nI N) 68 (nI s) (nI (C - eGap S s * (tk + 1))) π) = some (nI N, sI (sI π 68 s (nI (max lo (C - eGap S s * (tk + 1))))) 44 31 (nI (tk + N))) := by
      by_cases z : C - eGap S s * (tk + 1) ≤ lo
      · rw [if_pos (nI_le z b6), ob, aI_68 hπ (by omega), ob, k68', fin, Nat.max_eq_left z]
      · rw [if_neg (nI_ge (by omega) (by omega)), fin, Nat.max_eq_right (by omega)]
    rw [hend]
    have eq1 : ∀ q, q ≠ 44 → q ≠ 68 → (sI (sI π 68 s (nI (max lo (C - eGap S s * (tk + 1))))) 44 31 (nI (tk + N))).2.1 q = π.2.1 q := fun q z1 z2 => by rw [rI_ne z1, rI_ne z2]
    refine ⟨_, rfl, (f6.wI (by decide) (by decide)).wF (Or.inr (Or.inr rfl)), ?_, ?_, ?_, fun q z1 z2 z3 z4 z5 z6 z7 z8 => ?_, fun k => ?_, fun k => ?_, fun k => ?_, fun k => ?_, fun k => ?_, fun k => ?_, fun k => ?_⟩
    · rw [rI, if_neg (by omega), rI_ne (by decide), sq 44 (by decide) (by decide), rq 44 (by decide) (by decide), qq 44 (by decide) (by decide)]
    · rw [rI, if_neg (by omega), rI_ne (by decide), sq 44 (by decide) (by decide), rq 44 (by decide) (by decide), qq 44 (by decide) (by decide)]
    · rw [rI, if_pos ⟨rfl, rfl⟩]
    · rw [eq1 q z1 z8, sq q z6 z7, rq q z4 z5, qq q z2 z3]
    · rw [eq1 60 (by decide) (by decide), sq 60 (by decide) (by decide), rq 60 (by decide) (by decide)]; exact q60 k
    · rw [eq1 63 (by decide) (by decide), sq 63 (by decide) (by decide), rq 63 (by decide) (by decide)]; exact q63 k
    · rw [eq1 64 (by decide) (by decide), sq 64 (by decide) (by decide)]; exact r64 k
    · rw [eq1 65 (by decide) (by decide), sq 65 (by decide) (by decide)]; exact r65 k
    · rw [eq1 66 (by decide) (by decide)]; exact s66 k
    · rw [eq1 67 (by decide) (by decide)]; exact s67 k
    · rw [rI_ne (by decide), rI, sq 68 (by decide) (by decide), rq 68 (by decide) (by decide), qq 68 (by decide) (by decide)]
      by_cases z : k = s
      · rw [if_pos ⟨rfl, z⟩, if_pos ⟨z, by omega⟩]
      · rw [if_neg (fun q => z q.2), if_neg (fun q => z q.1)]
