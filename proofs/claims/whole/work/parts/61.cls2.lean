theorem sI_same {σ : Sg} {k j : Nat} {v : Int32} (h : σ.2.1 k j = v) : sI σ k j v = σ := by
  subst h
  have e : va_up σ.2.1 k (upd (σ.2.1 k) j (σ.2.1 k j)) = σ.2.1 := by
    funext q i
    unfold va_up upd
    by_cases e1 : q = k
    · rw [if_pos e1]
      by_cases e2 : i = j
      · rw [if_pos e2, e1, e2]
      · rw [if_neg e2, e1]
    · rw [if_neg e1]
  unfold sI
  rw [e]
theorem sJ_same {σ : Sg} {k j : Nat} {v : Int64} (h : σ.2.2.1 k j = v) : sJ σ k j v = σ := by
  subst h
  have e : va_up σ.2.2.1 k (vp_updL (σ.2.2.1 k) j (σ.2.2.1 k j)) = σ.2.2.1 := by
    funext q i
    unfold va_up vp_updL
    by_cases e1 : q = k
    · rw [if_pos e1]
      by_cases e2 : i = j
      · rw [if_pos e2, e1, e2]
      · rw [if_neg e2, e1]
    · rw [if_neg e1]
  unfold sJ
  rw [e]
theorem rI {σ : Sg} {k j q i : Nat} {v : Int32} : (sI σ k j v).2.1 q i = if q = k ∧ i = j then v else σ.2.1 q i := by
  show va_up σ.2.1 k (upd (σ.2.1 k) j v) q i = _
  unfold va_up upd
  by_cases e1 : q = k
  · subst e1
    rw [if_pos rfl]
    by_cases e2 : i = j
    · rw [if_pos e2, if_pos ⟨rfl, e2⟩]
    · rw [if_neg e2, if_neg (fun z => e2 z.2)]
  · rw [if_neg e1, if_neg (fun z => e1 z.1)]
theorem rJ {σ : Sg} {k j q i : Nat} {v : Int64} : (sJ σ k j v).2.2.1 q i = if q = k ∧ i = j then v else σ.2.2.1 q i := by
  show va_up σ.2.2.1 k (vp_updL (σ.2.2.1 k) j v) q i = _
  unfold va_up vp_updL
  by_cases e1 : q = k
  · subst e1
    rw [if_pos rfl]
    by_cases e2 : i = j
    · rw [if_pos e2, if_pos ⟨rfl, e2⟩]
    · rw [if_neg e2, if_neg (fun z => e2 z.2)]
  · rw [if_neg e1, if_neg (fun z => e1 z.1)]
theorem nl {n : Nat} (h : n < 2 ^ 31) : (nI n).toInt64 = lN n := nI_l h
/-- the waits of those who get on -/
theorem pc_noteWaits {σ : Sg} (h : Hp σ) {x s n C N G tk wt lo : Nat} (hx : Cr x) (hs : s < 10) (htk : σ.2.1 (x + 8) s = nI tk) (hwt : σ.2.2.1 (x + 9) s = lN wt) (hlo : σ.2.1 (x + 10) s = nI lo)
    (b1 : C < 2 ^ 30) (b2 : N ≤ 80) (b3 : G ≤ 900) (b4 : tk ≤ 640) (b6 : lo < 2 ^ 31) (c1 : G * (N * tk + N * (N + 1) / 2) ≤ N * C) (c2 : G * (tk + 1) ≤ C) :
    f_X0_noteWaits n x (nI s) (nI C) (nI N) (nI G) σ = some (sI (sJ σ (x + 9) s (lN (wt + (N * C - G * (N * tk + N * (N + 1) / 2))))) (x + 10) s (nI (max lo (C - G * (tk + 1))))) := by
  have hm : N * (N + 1) ≤ 80 * 81 := Nat.mul_le_mul b2 (by omega)
  unfold f_X0_noteWaits
  rw [gRc_7 h hx, ob, aIc_8 h hx hs, ob, htk]
  unfold dvJ
  rw [if_pos (show ¬ (2 : Int64) = 0 by decide), ob]
  have e5 : (nI N).toInt64 * (nI tk).toInt64 + (nI N).toInt64 * (nI N + 1).toInt64 / 2 = lN (N * tk + N * (N + 1) / 2) := by
    rw [nI_1, nl (by omega), nl (by omega), nl (by omega), lN_mul, lN_mul, show (2 : Int64) = lN 2 from rfl, pk_lDiv (by omega) (by decide) (by decide), lN_add]
  rw [e5, ob, gRc_8 h hx, ob, aJc_9 h hx hs, ob, hwt]
  have e6 : lN wt + ((nI N).toInt64 * (nI C).toInt64 - (nI G).toInt64 * lN (N * tk + N * (N + 1) / 2)) = lN (wt + (N * C - G * (N * tk + N * (N + 1) / 2))) := by
    rw [nl (by omega), nl (by omega), nl (by omega), lN_mul, lN_mul, lN_sub c1, lN_add]
  rw [e6, xJc_9 h hx hs, ob]
  have h7 : Hp (sJ σ (x + 9) s (lN (wt + (N * C - G * (N * tk + N * (N + 1) / 2))))) := h
  rw [gRc_7 h7 hx, ob, aIc_8 h7 hx hs, ob, rI_J, htk]
  have e7 : nI C - nI G * (nI tk + 1) = nI (C - G * (tk + 1)) := by rw [nI_1, pk_mul, nsub c2]
  rw [e7, ob, gRc_9 h7 hx, ob, aIc_10 h7 hx hs, ob, rI_J, hlo]
  by_cases e : C - G * (tk + 1) ≤ lo
  · rw [if_pos (nI_le e b6), Nat.max_eq_left e, sI_same (by rw [rI_J]; exact hlo)]
  · rw [if_neg (nI_ge (by omega) (by omega)), ob, xIc_10 h7 hx hs, ob, Nat.max_eq_right (by omega)]
theorem pc_pickUp {σ : Sg} {S : Se} {X : Nat} (hS : SeOk S X) (h : Hp σ) (hL : CLine σ S) {x b s n C st tk wt lo W N : Nat} (hx : Cr x) (hb : b < eB S) (hs : s < 10) (hC : σ.2.1 (x + 1) (10 * b + s) = nI C) (htk : σ.2.1 (x + 8) s = nI tk) (hwt : σ.2.2.1 (x + 9) s = lN wt) (hlo : σ.2.1 (x + 10) s = nI lo)
    (b1 : C < 2 ^ 30) (b4 : tk ≤ 640) (b6 : lo < 2 ^ 31) (d1 : tk ≤ (if eGap S s = 0 then 0 else C / eGap S s)) (d2 : st ≤ eSeat S b) (eW : W = (if eGap S s = 0 then 0 else C / eGap S s) - tk) (eN : N = min (eSeat S b - st) W) :
    f_X0_pickUp n x 1 (nI b) (nI s) (nI st) σ = some (sI (sI (sJ (sI (sI (sI σ (x + 3) (10 * b + s) (nI N)) (x + 6) (10 * b + s) (nI (W - N))) (x + 5) (10 * b + s) (nI (st + N))) (x + 9) s (lN (wt + (N * C - eGap S s * (N * tk + N * (N + 1) / 2))))) (x + 10) s (nI (if 0 < N then max lo (C - eGap S s * (tk + 1)) else lo))) (x + 8) s (nI (tk + N))) := by
  have hB := hS.1
  have hseat := (hS.2.2.2.2.2.2.1 b hb).2.2.1
  have hgap := hS.2.2.1 s
  have hc : 10 * b + s < 80 := by omega
  have hWb : (if eGap S s = 0 then 0 else C / eGap S s) ≤ C := by
    split
    · omega
    · exact Nat.div_le_self _ _
  have hN1 : N ≤ eSeat S b - st := by rw [eN]; exact Nat.min_le_left _ _
  have hN2 : N ≤ W := by rw [eN]; exact Nat.min_le_right _ _
  unfold f_X0_pickUp
  rw [pc_cell, ob, gRc_0 h hx, ob, aIc_1 h hx hc, ob, ck_1 h, ob, hC, pc_come hS h hL hs (by omega), ob, gRc_7 h hx, ob, aIc_8 h hx hs, ob, htk, nsub d1, ← eW, ob, gR_1_1_5 h, ob, aI_7 h (by omega), ob, (hL.2.2.2.2.2 b hb).2.1, nsub d2, min_nI (by omega) (by omega), ← eN, ob, gRc_2 h hx, ob, xIc_3 h hx hc, ob]
  have h1 : Hp (sI σ (x + 3) (10 * b + s) (nI N)) := h
  rw [gRc_5 h1 hx, ob, nsub hN2, xIc_6 h1 hx hc, ob]
  have h2 : Hp (sI (sI σ (x + 3) (10 * b + s) (nI N)) (x + 6) (10 * b + s) (nI (W - N))) := h
  rw [gRc_4 h2 hx, ob, nI_add, xIc_5 h2 hx hc, ob]
  have h3 : Hp (sI (sI (sI σ (x + 3) (10 * b + s) (nI N)) (x + 6) (10 * b + s) (nI (W - N))) (x + 5) (10 * b + s) (nI (st + N))) := h
  have k8 : (sI (sI (sI σ (x + 3) (10 * b + s) (nI N)) (x + 6) (10 * b + s) (nI (W - N))) (x + 5) (10 * b + s) (nI (st + N))).2.1 (x + 8) s = nI tk := by
    rw [rI_ne (by omega), rI_ne (by omega), rI_ne (by omega)]; exact htk
  have k10 : (sI (sI (sI σ (x + 3) (10 * b + s) (nI N)) (x + 6) (10 * b + s) (nI (W - N))) (x + 5) (10 * b + s) (nI (st + N))).2.1 (x + 10) s = nI lo := by
    rw [rI_ne (by omega), rI_ne (by omega), rI_ne (by omega)]; exact hlo
  have k1 : (sI (sI (sI σ (x + 3) (10 * b + s) (nI N)) (x + 6) (10 * b + s) (nI (W - N))) (x + 5) (10 * b + s) (nI (st + N))).2.1 (x + 1) (10 * b + s) = nI C := by
    rw [rI_ne (by omega), rI_ne (by omega), rI_ne (by omega)]; exact hC
  have kg : (sI (sI (sI σ (x + 3) (10 * b + s) (nI N)) (x + 6) (10 * b + s) (nI (W - N))) (x + 5) (10 * b + s) (nI (st + N))).2.1 3 s = nI (eGap S s) := by
    rw [rI_ne (by omega), rI_ne (by omega), rI_ne (by omega)]; exact hL.2.2.1 s hs
  have k9 : (sI (sI (sI σ (x + 3) (10 * b + s) (nI N)) (x + 6) (10 * b + s) (nI (W - N))) (x + 5) (10 * b + s) (nI (st + N))).2.2.1 (x + 9) s = lN wt := hwt
  generalize sI (sI (sI σ (x + 3) (10 * b + s) (nI N)) (x + 6) (10 * b + s) (nI (W - N))) (x + 5) (10 * b + s) (nI (st + N)) = τ at h3 k8 k10 k1 kg k9 ⊢
  by_cases e : N = 0
  · rw [if_pos ((nI_le0 (by omega)).mpr e), if_neg (by omega)]
    have e2 : wt + (N * C - eGap S s * (N * tk + N * (N + 1) / 2)) = wt := by rw [e]; simp
    rw [e2, sJ_same k9, sI_same k10, e]
    exact congrArg some (sI_same k8).symm
  · have hgp : ¬ eGap S s = 0 := by
      intro z
      rw [z, if_pos rfl] at eW
      omega
    rw [if_neg hgp] at d1 eW
    have c2 : eGap S s * (tk + 1) ≤ C := by
      have : tk + 1 ≤ C / eGap S s := by omega
      exact Nat.le_trans (Nat.mul_le_mul (Nat.le_refl _) this) (Nat.mul_div_le _ _)
    have c1 : eGap S s * (N * tk + N * (N + 1) / 2) ≤ N * C := by
      have h4 : eGap S s * (tk + N) ≤ C := by
        have : tk + N ≤ C / eGap S s := by omega
        exact Nat.le_trans (Nat.mul_le_mul (Nat.le_refl _) this) (Nat.mul_div_le _ _)
      have h5 : N * tk + N * (N + 1) / 2 ≤ N * (tk + N) := by
        have h6 : N * (N + 1) / 2 ≤ N * N := by
          apply Nat.div_le_of_le_mul
          have : N * (N + 1) ≤ N * (2 * N) := Nat.mul_le_mul (Nat.le_refl _) (by omega)
          rw [Nat.mul_left_comm] at this
          exact this
        have h7 : N * (tk + N) = N * tk + N * N := Nat.mul_add _ _ _
        rw [h7]
        omega
      refine Nat.le_trans (Nat.mul_le_mul (Nat.le_refl _) h5) ?_
      rw [Nat.mul_left_comm]
      exact Nat.mul_le_mul (Nat.le_refl _) h4
    rw [if_neg (fun z => e ((nI_le0 (by omega)).mp z)), if_pos (by omega), gRc_0 h3 hx, ob, aIc_1 h3 hx hc, ob, k1, gR_1_1_1 h3, ob, aI_3 h3 hs, ob, kg, ckc h3 hx, ob, pc_noteWaits h3 hx hs k8 k9 k10 b1 (by omega) hgap b4 b6 c1 c2, ob]
    have h4 : Hp (sI (sJ τ (x + 9) s (lN (wt + (N * C - eGap S s * (N * tk + N * (N + 1) / 2))))) (x + 10) s (nI (max lo (C - eGap S s * (tk + 1))))) := h3
    rw [gRc_7 h4 hx, ob, aIc_8 h4 hx hs, ob, rI_ne (by omega), rI_J, k8, nI_add, xIc_8 h4 hx hs, ob]
theorem pc_emptyOut {σ : Sg} {S : Se} {X : Nat} (hS : SeOk S X) (h : Hp σ) (hL : CLine σ S) {x c s n C tk : Nat} (hx : Cr x) (hc : c < 80) (hs : s < 10) (hC : σ.2.1 (x + 1) c = nI C) (htk : σ.2.1 (x + 8) s = nI tk) (b1 : C < 2 ^ 30) (d1 : tk ≤ (if eGap S s = 0 then 0 else C / eGap S s)) :
    f_X0_emptyOut n x 1 (nI s) (nI c) σ = some (sI (sI (sI σ (x + 3) c (nI 0)) (x + 5) c (nI 0)) (x + 6) c (nI ((if eGap S s = 0 then 0 else C / eGap S s) - tk))) := by
  unfold f_X0_emptyOut
  rw [gRc_2 h hx, ob, xIc_3 h hx hc, ob]
  have h1 : Hp (sI σ (x + 3) c 0) := h
  rw [gRc_4 h1 hx, ob, xIc_5 h1 hx hc, ob]
  have h2 : Hp (sI (sI σ (x + 3) c 0) (x + 5) c 0) := h
  have hL2 : CLine (sI (sI σ (x + 3) c 0) (x + 5) c 0) S := by
    refine ⟨?_, fun j hj => ?_, fun j hj => ?_, fun j hj => ?_, fun j hj => ?_, fun j hj => ?_⟩
    · rw [rI_ne (by omega), rI_ne (by omega)]; exact hL.1
    · rw [rI_ne (by omega), rI_ne (by omega)]; exact hL.2.1 j hj
    · rw [rI_ne (by omega), rI_ne (by omega)]; exact hL.2.2.1 j hj
    · rw [rI_ne (by omega), rI_ne (by omega)]; exact hL.2.2.2.1 j hj
    · rw [rI_ne (by omega), rI_ne (by omega)]; exact hL.2.2.2.2.1 j hj
    · rw [rI_ne (by omega), rI_ne (by omega), rI_ne (by omega), rI_ne (by omega), rI_ne (by omega), rI_ne (by omega)]; exact hL.2.2.2.2.2 j hj
  rw [gRc_5 h2 hx, ob, gRc_0 h2 hx, ob, aIc_1 h2 hx hc, ob, ck_1 h2, ob, rI_ne (by omega), rI_ne (by omega), hC, pc_come hS h2 hL2 hs (by omega), ob, gRc_7 h2 hx, ob, aIc_8 h2 hx hs, ob, rI_ne (by omega), rI_ne (by omega), htk, nsub d1, xIc_6 h2 hx hc, ob]
  rfl
theorem lgI_lt {q L : Nat} (hq : q < 2 ^ 31) (hL : L + 1 < 2 ^ 31) : (if lgI q < nI L then nI L else lgI q) = lgI (max q (L + 1)) := by
  by_cases e : q = 0
  · subst e
    have h1 : lgI 0 < nI L := by
      rw [show lgI 0 = (-6 : Int32) from rfl, Int32.lt_iff_toInt_lt, nI_toInt (by omega)]
      have : ((-6 : Int32)).toInt = -6 := by decide
      omega
    rw [if_pos h1, Nat.max_eq_right (by omega)]
    unfold lgI
    rw [if_neg (by omega), Nat.add_sub_cancel]
  · have e2 : lgI q = nI (q - 1) := by unfold lgI; rw [if_neg e]
    rw [e2, max_nI (by omega) (by omega)]
    unfold lgI
    rw [if_neg (by omega)]
    congr 1
    omega
theorem pc_waitByRule {σ : Sg} {S : Se} (h : Hp σ) {x y b s n F L q : Nat} (hx : Cr x) (hy : Ru y) (hR : CRule σ y S) (hb : b < 8) (hs : s < 10) (hF : σ.2.1 (x + 1) (10 * b) = nI F) (hq : σ.2.1 x 14 = lgI q) (hLv : σ.2.1 (x + 2) (10 * b + s) = nI L) (b1 : F < 2 ^ 29) (b2 : L < 2 ^ 29) (b3 : q < 2 ^ 29) :
    f_X0_waitByRule n x y (nI b) (nI s) σ = some (sI (sI σ (x + 2) (10 * b + s) (nI (max L (if eHow S s = 1 then F + 10 * eBy S s else if eHow S s = 2 ∧ q ≠ 0 then q - 1 + eBy S s else 0)))) x 14 (lgI (max q (max L (if eHow S s = 1 then F + 10 * eBy S s else if eHow S s = 2 ∧ q ≠ 0 then q - 1 + eBy S s else 0) + 1)))) := by
  have hc : 10 * b + s < 80 := by omega
  have hby := (hR s hs).2.1
  have hQ : (if eHow S s = 1 then F + 10 * eBy S s else if eHow S s = 2 ∧ q ≠ 0 then q - 1 + eBy S s else 0) < 2 ^ 30 := by
    split
    · omega
    · split <;> omega
  have hc0 : f_X4_cell n (nI b) 0 σ = some (nI (10 * b), σ) := pc_cell n b 0 σ
  unfold f_X0_waitByRule
  rw [pc_cell, ob, gRc_0 h hx, ob, hc0, ob, aIc_1 h hx (by omega), ob, hF, gIc_14 h hx, ob, hq, ckr h hy, ob, pc_soonest h hy hR hs (by omega), ob, gRc_1 h hx, ob, ob, aIc_2 h hx hc, ob, hLv, max_nI (by omega) (by omega), xIc_2 h hx hc, ob]
  generalize (if eHow S s = 1 then F + 10 * eBy S s else if eHow S s = 2 ∧ q ≠ 0 then q - 1 + eBy S s else 0) = z at hQ ⊢
  have h1 : Hp (sI σ (x + 2) (10 * b + s) (nI (max L z))) := h
  have hm : max L z < 2 ^ 30 := Nat.max_lt.mpr ⟨by omega, hQ⟩
  rw [gIc_14 h1 hx, ob, rI_ne (by omega), hq, gRc_1 h1 hx, ob, aIc_2 h1 hx hc, ob, rI_eq, show upd (σ.2.1 (x + 2)) (10 * b + s) (nI (max L z)) (10 * b + s) = nI (max L z) from pk_us, lgI_lt (by omega) (by omega), pIc_14 h1 hx, ob]
