/-- nothing changed but a course's own cells; its latenesses stay -/
def FC (x : Nat) (σ τ : Sg) : Prop := τ.1 = σ.1 ∧ τ.2.2.2 = σ.2.2.2 ∧ (∀ k, (k < x ∨ x + 11 < k ∨ k = x + 7) → τ.2.1 k = σ.2.1 k) ∧ (∀ k, (k < x ∨ x + 11 < k) → τ.2.2.1 k = σ.2.2.1 k)
theorem FC.rf {x : Nat} {σ : Sg} : FC x σ σ := ⟨rfl, rfl, fun _ _ => rfl, fun _ _ => rfl⟩
theorem FC.tr {x : Nat} {σ τ ρ : Sg} (h1 : FC x σ τ) (h2 : FC x τ ρ) : FC x σ ρ := ⟨h2.1.trans h1.1, h2.2.1.trans h1.2.1, fun k hk => (h2.2.2.1 k hk).trans (h1.2.2.1 k hk), fun k hk => (h2.2.2.2 k hk).trans (h1.2.2.2 k hk)⟩
theorem FC.sI {x : Nat} {σ τ : Sg} {k j : Nat} {v : Int32} (h : FC x σ τ) (h1 : x ≤ k) (h2 : k ≤ x + 11) (h3 : k ≠ x + 7) : FC x σ (sI τ k j v) :=
  ⟨h.1, h.2.1, fun q hq => (rI_ne (by omega)).trans (h.2.2.1 q hq), fun q hq => h.2.2.2 q hq⟩
theorem FC.sJ {x : Nat} {σ τ : Sg} {k j : Nat} {v : Int64} (h : FC x σ τ) (h1 : x ≤ k) (h2 : k ≤ x + 11) : FC x σ (sJ τ k j v) :=
  ⟨h.1, h.2.1, fun q hq => h.2.2.1 q hq, fun q hq => (rJ_ne (by omega)).trans (h.2.2.2 q hq)⟩
theorem Hp_eq {σ τ : Sg} (h1 : τ.1 = σ.1) (h2 : τ.2.2.2 = σ.2.2.2) (h : Hp σ) : Hp τ := by
  unfold Hp
  rw [h1, h2]
  exact h
theorem FC.hp {x : Nat} {σ τ : Sg} (h : FC x σ τ) (hp : Hp σ) : Hp τ := Hp_eq h.1 h.2.1 hp
theorem FC.line {x : Nat} {σ τ : Sg} {S : Se} (hx : Cr x) (h : FC x σ τ) (hL : CLine σ S) : CLine τ S := by
  have e : ∀ k, k < 14 → τ.2.1 k = σ.2.1 k := fun k hk => h.2.2.1 k (by omega)
  unfold CLine
  rw [e 1 (by decide), e 2 (by decide), e 3 (by decide), e 4 (by decide), e 5 (by decide), e 6 (by decide), e 7 (by decide), e 8 (by decide)]
  exact hL
theorem FC.rule {x y : Nat} {σ τ : Sg} {S : Se} (hx : Cr x) (hy : Ru y) (h : FC x σ τ) (hR : CRule σ y S) : CRule τ y S := by
  intro s hs
  rw [h.2.2.1 (y + 1) (by omega), h.2.2.1 (y + 2) (by omega)]
  exact hR s hs
theorem FC.ex {x : Nat} {σ τ : Sg} {S : Se} (h : FC x σ τ) (hE : CEx σ x S) : CEx τ x S := by
  intro b hb s hs
  rw [h.2.2.1 (x + 7) (by omega)]
  exact hE b hb s hs
def CRel (x : Nat) (σ : Sg) (P : Ps) (V W : Nat → Prop) : Prop :=
  (∀ c, V c → σ.2.1 (x + 1) c = nI (P 0 c) ∧ σ.2.1 (x + 2) c = nI (P 1 c) ∧ σ.2.1 (x + 3) c = nI (P 2 c) ∧ σ.2.1 (x + 4) c = nI (P 3 c) ∧ σ.2.1 (x + 5) c = nI (P 4 c) ∧ σ.2.1 (x + 6) c = nI (P 5 c)) ∧
  (∀ c, W c → σ.2.1 (x + 1) c = nI (P 0 c)) ∧
  (∀ k, k < 10 → σ.2.1 (x + 8) k = nI (P 6 k) ∧ σ.2.2.1 (x + 9) k = lN (P 7 k) ∧ σ.2.1 (x + 10) k = nI (P 8 k)) ∧
  (σ.2.2.1 x 10 = lN (P 9 0) ∧ σ.2.1 x 11 = nI (P 10 0) ∧ σ.2.1 x 13 = nI (P 14 0) ∧ σ.2.1 x 14 = lgI (P 15 0))
theorem tU9 {X : Nat} (h : X ≤ 9990) : tU X 9 < 2 ^ 21 := by
  unfold tU
  omega
theorem vT_d {S : Se} {s b : Nat} {P : Ps} (h : tkOk S s b P) : P 6 s ≤ (if eGap S s = 0 then 0 else vC S s b P / eGap S s) := by
  unfold tkOk at h
  split
  · rename_i e
    rw [if_pos e] at h
    omega
  · rename_i e
    rw [if_neg e] at h
    exact h
theorem sv_8s {S : Se} {s b : Nat} {P : Ps} : sv S s b P 8 s = if 0 < vN S s b P then max (P 8 s) (vC S s b P - eGap S s * (P 6 s + 1)) else P 8 s := by
  rw [sv_8]
  by_cases z : 0 < vN S s b P
  · rw [if_pos z, if_pos ⟨rfl, z⟩]
  · rw [if_neg z, if_neg (fun q => z q.2)]
set_option maxHeartbeats 4000000 in
theorem pc_visit_end {τ : Sg} (h : Hp τ) {x c n la L : Nat} (hx : Cr x) (hc : c < 80) (hla : τ.2.1 x 13 = nI la) (hL : τ.2.1 (x + 2) c = nI L) (b1 : la < 2 ^ 31) (b2 : L < 2 ^ 31) : X0_visit_b223 n x (nI c) τ = some (sI τ x 13 (nI (max la L))) := by
  unfold X0_visit_b223
  rw [gIc_13 h hx, ob, gRc_1 h hx, ob, aIc_2 h hx hc, ob, hla, hL, max_nI b1 b2, pIc_13 h hx, ob]
set_option maxHeartbeats 4000000 in
/-- a visit, from where the come is known and those who ride are counted -/
theorem pc_visit2 {σ : Sg} {S : Se} {X : Nat} (hS : SeOk S X) (h : Hp σ) (hL : CLine σ S) {x y s b n : Nat} (hx : Cr x) (hy : Ru y) (hR : CRule σ y S) (hE : CEx σ x S) {P : Ps} (hs : s < 10) (hV : Vis S X s b P) (hn : 20 ≤ n)
    (hon : ∀ k, k < s → σ.2.1 (x + 3) (10 * b + k) = nI (P 2 (10 * b + k))) (hC : σ.2.1 (x + 1) (10 * b + s) = nI (vC S s b P)) (hF : σ.2.1 (x + 1) (10 * b) = nI (vF S s b P)) (h8 : σ.2.1 (x + 8) s = nI (P 6 s)) (h9 : σ.2.2.1 (x + 9) s = lN (P 7 s)) (h10 : σ.2.1 (x + 10) s = nI (P 8 s)) (h11 : σ.2.1 x 11 = nI (P 10 0)) (h13 : σ.2.1 x 13 = nI (P 14 0)) (h14 : σ.2.1 x 14 = lgI (P 15 0)) :
    ∃ τ, X0_visit_b88 n x 1 y (nI b) (nI s) (nI (10 * b + s)) (nI (vB s b P)) σ = some τ ∧ FC x σ τ ∧ τ.2.1 (x + 11) = σ.2.1 (x + 11) ∧
      τ.2.1 (x + 1) = σ.2.1 (x + 1) ∧ (∀ c, τ.2.1 (x + 2) c = if c = 10 * b + s then nI (vL S s b P) else σ.2.1 (x + 2) c) ∧ (∀ c, τ.2.1 (x + 3) c = if c = 10 * b + s then nI (vN S s b P) else σ.2.1 (x + 3) c) ∧ (∀ c, τ.2.1 (x + 4) c = if c = 10 * b + s then nI (vO s b P) else σ.2.1 (x + 4) c) ∧
      (∀ c, τ.2.1 (x + 5) c = if c = 10 * b + s then nI (vS S s b P + vN S s b P) else σ.2.1 (x + 5) c) ∧ (∀ c, τ.2.1 (x + 6) c = if c = 10 * b + s then nI (vT S s b P - vN S s b P) else σ.2.1 (x + 6) c) ∧
      (∀ k, τ.2.1 (x + 8) k = if k = s then nI (sv S s b P 6 s) else σ.2.1 (x + 8) k) ∧ (∀ k, τ.2.2.1 (x + 9) k = if k = s then lN (sv S s b P 7 s) else σ.2.2.1 (x + 9) k) ∧ (∀ k, τ.2.1 (x + 10) k = if k = s then nI (sv S s b P 8 s) else σ.2.1 (x + 10) k) ∧
      τ.2.2.1 x = σ.2.2.1 x ∧ τ.2.1 x 11 = nI (sv S s b P 10 0) ∧ τ.2.1 x 13 = nI (sv S s b P 14 0) ∧ τ.2.1 x 14 = lgI (sv S s b P 15 0) := by
  obtain ⟨⟨hb, hsf, hB, hraw, htk⟩, ⟨v1, v2, v3, v4, v5⟩, ⟨l1, l2, l3, l4, l5, l6, l7, l8, l9⟩, ⟨w1, w2, w3, w4, w5, w6⟩⟩ := hV
  have hX := hS.2.2.2.2.2.2.2.2.2.2.2
  have hT := tU9 hX
  have hB8 := hS.1
  have hc : 10 * b + s < 80 := by omega
  have hseat := (hS.2.2.2.2.2.2.1 b hb).2.2.1
  have hvO : og S P b s s = vO s b P := by
    have := (hB.2.2.1 hsf).1 s (Nat.le_refl _) hs
    exact this.1.symm
  have hd := vT_d htk
  have hex : ∀ τ, FC x σ τ → τ.2.1 (x + 7) (10 * b + s) = nI (eEx S b s) := fun τ hf => hf.ex hE b hb s hs
  have hvG : vG S s b P ≤ 80 := vG_le l1 l2 (by omega)
  unfold X0_visit_b88
  rw [gRc_3 h hx, ob, ckc h hx, ob, pc_countAtGoal hS h hL hx (by omega) hs hon hn, ob, hvO, xIc_4 h hx hc, ob]
  have f1 : FC x σ (sI σ (x + 4) (10 * b + s) (nI (vO s b P))) := FC.rf.sI (by omega) (by omega) (by omega)
  rw [ck_1 (f1.hp h), ob, pc_goesOn hS (f1.hp h) (f1.line hx hL) hb hs, ob]
  by_cases e : s < eFin S b
  · rw [if_pos e, if_neg (show ¬ (1 : Int32) = 0 by decide)]
    have eS : vS S s b P = vB s b P - vO s b P := by unfold vS; rw [if_pos e]
    have eG : vG S s b P = vO s b P := by unfold vG; rw [if_pos e]
    have eN : vN S s b P = min (eSeat S b - vS S s b P) (vT S s b P) := by unfold vN; rw [if_pos e]
    rw [gRc_3 (f1.hp h) hx, ob, aIc_4 (f1.hp h) hx hc, ob, rI_eq, show upd (σ.2.1 (x + 4)) (10 * b + s) (nI (vO s b P)) (10 * b + s) = nI (vO s b P) from pk_us, ckc (f1.hp h) hx, ob, nsub (by omega), ← eS]
    have q8 : (sI σ (x + 4) (10 * b + s) (nI (vO s b P))).2.1 (x + 8) s = nI (P 6 s) := by rw [rI_ne (by omega)]; exact h8
    have q10 : (sI σ (x + 4) (10 * b + s) (nI (vO s b P))).2.1 (x + 10) s = nI (P 8 s) := by rw [rI_ne (by omega)]; exact h10
    have q1 : (sI σ (x + 4) (10 * b + s) (nI (vO s b P))).2.1 (x + 1) (10 * b + s) = nI (vC S s b P) := by rw [rI_ne (by omega)]; exact hC
    rw [pc_pickUp hS (f1.hp h) (f1.line hx hL) (C := vC S s b P) (tk := P 6 s) (wt := P 7 s) (lo := P 8 s) (W := vT S s b P) (N := vN S s b P) hx hb hs q1 q8 h9 q10 (by omega) w1 (by omega) hd (by omega) rfl eN, ob]
    have f2 : FC x σ (sI (sI (sJ (sI (sI (sI (sI σ (x + 4) (10 * b + s) (nI (vO s b P))) (x + 3) (10 * b + s) (nI (vN S s b P))) (x + 6) (10 * b + s) (nI (vT S s b P - vN S s b P))) (x + 5) (10 * b + s) (nI (vS S s b P + vN S s b P))) (x + 9) s (lN (P 7 s + (vN S s b P * vC S s b P - eGap S s * (vN S s b P * P 6 s + vN S s b P * (vN S s b P + 1) / 2))))) (x + 10) s (nI (if 0 < vN S s b P then max (P 8 s) (vC S s b P - eGap S s * (P 6 s + 1)) else P 8 s))) (x + 8) s (nI (P 6 s + vN S s b P))) :=
      ((((((f1.sI (by omega) (by omega) (by omega)).sI (by omega) (by omega) (by omega)).sI (by omega) (by omega) (by omega)).sJ (by omega) (by omega)).sI (by omega) (by omega) (by omega)).sI (by omega) (by omega) (by omega))
    have r1 : ∀ q, (q = x + 1 ∨ q = x + 2 ∨ q = x + 11 ∨ q = x) → (sI (sI (sJ (sI (sI (sI (sI σ (x + 4) (10 * b + s) (nI (vO s b P))) (x + 3) (10 * b + s) (nI (vN S s b P))) (x + 6) (10 * b + s) (nI (vT S s b P - vN S s b P))) (x + 5) (10 * b + s) (nI (vS S s b P + vN S s b P))) (x + 9) s (lN (P 7 s + (vN S s b P * vC S s b P - eGap S s * (vN S s b P * P 6 s + vN S s b P * (vN S s b P + 1) / 2))))) (x + 10) s (nI (if 0 < vN S s b P then max (P 8 s) (vC S s b P - eGap S s * (P 6 s + 1)) else P 8 s))) (x + 8) s (nI (P 6 s + vN S s b P))).2.1 q = σ.2.1 q := by
      intro q hq
      rw [rI_ne (by omega), rI_ne (by omega), rI_J, rI_ne (by omega), rI_ne (by omega), rI_ne (by omega), rI_ne (by omega)]
    have t3 : ∀ c, (sI (sI (sJ (sI (sI (sI (sI σ (x + 4) (10 * b + s) (nI (vO s b P))) (x + 3) (10 * b + s) (nI (vN S s b P))) (x + 6) (10 * b + s) (nI (vT S s b P - vN S s b P))) (x + 5) (10 * b + s) (nI (vS S s b P + vN S s b P))) (x + 9) s (lN (P 7 s + (vN S s b P * vC S s b P - eGap S s * (vN S s b P * P 6 s + vN S s b P * (vN S s b P + 1) / 2))))) (x + 10) s (nI (if 0 < vN S s b P then max (P 8 s) (vC S s b P - eGap S s * (P 6 s + 1)) else P 8 s))) (x + 8) s (nI (P 6 s + vN S s b P))).2.1 (x + 3) c = if c = 10 * b + s then nI (vN S s b P) else σ.2.1 (x + 3) c := by
      intro c
      rw [rI_ne (by omega), rI_ne (by omega), rI_J, rI_ne (by omega), rI_ne (by omega), rI_eq, rI_ne (by omega)]; rfl
    have t4 : ∀ c, (sI (sI (sJ (sI (sI (sI (sI σ (x + 4) (10 * b + s) (nI (vO s b P))) (x + 3) (10 * b + s) (nI (vN S s b P))) (x + 6) (10 * b + s) (nI (vT S s b P - vN S s b P))) (x + 5) (10 * b + s) (nI (vS S s b P + vN S s b P))) (x + 9) s (lN (P 7 s + (vN S s b P * vC S s b P - eGap S s * (vN S s b P * P 6 s + vN S s b P * (vN S s b P + 1) / 2))))) (x + 10) s (nI (if 0 < vN S s b P then max (P 8 s) (vC S s b P - eGap S s * (P 6 s + 1)) else P 8 s))) (x + 8) s (nI (P 6 s + vN S s b P))).2.1 (x + 4) c = if c = 10 * b + s then nI (vO s b P) else σ.2.1 (x + 4) c := by
      intro c
      rw [rI_ne (by omega), rI_ne (by omega), rI_J, rI_ne (by omega), rI_ne (by omega), rI_ne (by omega), rI_eq]; rfl
    have t5 : ∀ c, (sI (sI (sJ (sI (sI (sI (sI σ (x + 4) (10 * b + s) (nI (vO s b P))) (x + 3) (10 * b + s) (nI (vN S s b P))) (x + 6) (10 * b + s) (nI (vT S s b P - vN S s b P))) (x + 5) (10 * b + s) (nI (vS S s b P + vN S s b P))) (x + 9) s (lN (P 7 s + (vN S s b P * vC S s b P - eGap S s * (vN S s b P * P 6 s + vN S s b P * (vN S s b P + 1) / 2))))) (x + 10) s (nI (if 0 < vN S s b P then max (P 8 s) (vC S s b P - eGap S s * (P 6 s + 1)) else P 8 s))) (x + 8) s (nI (P 6 s + vN S s b P))).2.1 (x + 5) c = if c = 10 * b + s then nI (vS S s b P + vN S s b P) else σ.2.1 (x + 5) c := by
      intro c
      rw [rI_ne (by omega), rI_ne (by omega), rI_J, rI_eq, rI_ne (by omega), rI_ne (by omega), rI_ne (by omega)]; rfl
    have t6 : ∀ c, (sI (sI (sJ (sI (sI (sI (sI σ (x + 4) (10 * b + s) (nI (vO s b P))) (x + 3) (10 * b + s) (nI (vN S s b P))) (x + 6) (10 * b + s) (nI (vT S s b P - vN S s b P))) (x + 5) (10 * b + s) (nI (vS S s b P + vN S s b P))) (x + 9) s (lN (P 7 s + (vN S s b P * vC S s b P - eGap S s * (vN S s b P * P 6 s + vN S s b P * (vN S s b P + 1) / 2))))) (x + 10) s (nI (if 0 < vN S s b P then max (P 8 s) (vC S s b P - eGap S s * (P 6 s + 1)) else P 8 s))) (x + 8) s (nI (P 6 s + vN S s b P))).2.1 (x + 6) c = if c = 10 * b + s then nI (vT S s b P - vN S s b P) else σ.2.1 (x + 6) c := by
      intro c
      rw [rI_ne (by omega), rI_ne (by omega), rI_J, rI_ne (by omega), rI_eq, rI_ne (by omega), rI_ne (by omega)]; rfl
    have t8 : ∀ k, (sI (sI (sJ (sI (sI (sI (sI σ (x + 4) (10 * b + s) (nI (vO s b P))) (x + 3) (10 * b + s) (nI (vN S s b P))) (x + 6) (10 * b + s) (nI (vT S s b P - vN S s b P))) (x + 5) (10 * b + s) (nI (vS S s b P + vN S s b P))) (x + 9) s (lN (P 7 s + (vN S s b P * vC S s b P - eGap S s * (vN S s b P * P 6 s + vN S s b P * (vN S s b P + 1) / 2))))) (x + 10) s (nI (if 0 < vN S s b P then max (P 8 s) (vC S s b P - eGap S s * (P 6 s + 1)) else P 8 s))) (x + 8) s (nI (P 6 s + vN S s b P))).2.1 (x + 8) k = if k = s then nI (P 6 s + vN S s b P) else σ.2.1 (x + 8) k := by
      intro c
      rw [rI_eq, rI_ne (by omega), rI_J, rI_ne (by omega), rI_ne (by omega), rI_ne (by omega), rI_ne (by omega)]; rfl
    have t10 : ∀ k, (sI (sI (sJ (sI (sI (sI (sI σ (x + 4) (10 * b + s) (nI (vO s b P))) (x + 3) (10 * b + s) (nI (vN S s b P))) (x + 6) (10 * b + s) (nI (vT S s b P - vN S s b P))) (x + 5) (10 * b + s) (nI (vS S s b P + vN S s b P))) (x + 9) s (lN (P 7 s + (vN S s b P * vC S s b P - eGap S s * (vN S s b P * P 6 s + vN S s b P * (vN S s b P + 1) / 2))))) (x + 10) s (nI (if 0 < vN S s b P then max (P 8 s) (vC S s b P - eGap S s * (P 6 s + 1)) else P 8 s))) (x + 8) s (nI (P 6 s + vN S s b P))).2.1 (x + 10) k = if k = s then nI (if 0 < vN S s b P then max (P 8 s) (vC S s b P - eGap S s * (P 6 s + 1)) else P 8 s) else σ.2.1 (x + 10) k := by
      intro c
      rw [rI_ne (by omega), rI_eq, rI_J, rI_ne (by omega), rI_ne (by omega), rI_ne (by omega), rI_ne (by omega)]; rfl
    have t9 : ∀ k, (sI (sI (sJ (sI (sI (sI (sI σ (x + 4) (10 * b + s) (nI (vO s b P))) (x + 3) (10 * b + s) (nI (vN S s b P))) (x + 6) (10 * b + s) (nI (vT S s b P - vN S s b P))) (x + 5) (10 * b + s) (nI (vS S s b P + vN S s b P))) (x + 9) s (lN (P 7 s + (vN S s b P * vC S s b P - eGap S s * (vN S s b P * P 6 s + vN S s b P * (vN S s b P + 1) / 2))))) (x + 10) s (nI (if 0 < vN S s b P then max (P 8 s) (vC S s b P - eGap S s * (P 6 s + 1)) else P 8 s))) (x + 8) s (nI (P 6 s + vN S s b P))).2.2.1 (x + 9) k = if k = s then lN (sv S s b P 7 s) else σ.2.2.1 (x + 9) k := by
      intro c
      rw [rJ_I, rJ_I, rJ_eq, rJ_I, rJ_I, rJ_I, rJ_I, sv_7, if_pos rfl]; rfl
    have tx : (sI (sI (sJ (sI (sI (sI (sI σ (x + 4) (10 * b + s) (nI (vO s b P))) (x + 3) (10 * b + s) (nI (vN S s b P))) (x + 6) (10 * b + s) (nI (vT S s b P - vN S s b P))) (x + 5) (10 * b + s) (nI (vS S s b P + vN S s b P))) (x + 9) s (lN (P 7 s + (vN S s b P * vC S s b P - eGap S s * (vN S s b P * P 6 s + vN S s b P * (vN S s b P + 1) / 2))))) (x + 10) s (nI (if 0 < vN S s b P then max (P 8 s) (vC S s b P - eGap S s * (P 6 s + 1)) else P 8 s))) (x + 8) s (nI (P 6 s + vN S s b P))).2.2.1 x = σ.2.2.1 x := by
      rw [rJ_I, rJ_I, rJ_ne (by omega), rJ_I, rJ_I, rJ_I, rJ_I]
    generalize (sI (sI (sJ (sI (sI (sI (sI σ (x + 4) (10 * b + s) (nI (vO s b P))) (x + 3) (10 * b + s) (nI (vN S s b P))) (x + 6) (10 * b + s) (nI (vT S s b P - vN S s b P))) (x + 5) (10 * b + s) (nI (vS S s b P + vN S s b P))) (x + 9) s (lN (P 7 s + (vN S s b P * vC S s b P - eGap S s * (vN S s b P * P 6 s + vN S s b P * (vN S s b P + 1) / 2))))) (x + 10) s (nI (if 0 < vN S s b P then max (P 8 s) (vC S s b P - eGap S s * (P 6 s + 1)) else P 8 s))) (x + 8) s (nI (P 6 s + vN S s b P))) = τ at f2 r1 t3 t4 t5 t6 t8 t9 t10 tx ⊢
    have hτ := f2.hp h
    have s3 : τ.2.1 (x + 3) (10 * b + s) = nI (vN S s b P) := by rw [t3, if_pos rfl]
    have hvN := vN_le (s := s) (P := P) hS hb
    rw [gRc_1 hτ hx, ob, gRc_0 hτ hx, ob, aIc_1 hτ hx hc, ob, r1 (x + 1) (Or.inl rfl), hC, gRc_3 hτ hx, ob, aIc_4 hτ hx hc, ob, t4, if_pos rfl, ckc hτ hx, ob, pc_stand hτ (f2.line hx hL) hx hc s3 (hex τ f2) (by omega) (by omega), ob]
    have eD : (if vN S s b P = 0 ∧ vO s b P = 0 then eEx S b s else eSet S 0 + eSet S 1 * vN S s b P + eSet S 2 * vO s b P + eEx S b s) = vD S s b P := by
      unfold vD
      rw [eG]
    rw [eD, nI_add, xIc_2 hτ hx hc, ob]
    have f3 : FC x σ (sI τ (x + 2) (10 * b + s) (nI (vC S s b P + vD S s b P))) := f2.sI (by omega) (by omega) (by omega)
    have hLL : vL S s b P = max (vC S s b P + vD S s b P) (vQ S s b P) := by unfold vL; rw [if_pos e]
    have hle : vC S s b P + vD S s b P ≤ vL S s b P := by rw [hLL]; exact Nat.le_max_left _ _
    have hvF : vF S s b P ≤ tU X 9 := by
      unfold vF
      split
      · exact v1
      · rename_i e0
        have h1 := Bi_up hB (s - 1) (by omega)
        have h2 := l9 e0
        rw [show 10 * b + (s - 1) = 10 * b + s - 1 by omega] at h1
        omega
    rw [ckc (f3.hp h) hx, ob, pc_waitByRule (f3.hp h) (F := vF S s b P) (L := vC S s b P + vD S s b P) (q := P 15 0) hx hy (f3.rule hx hy hR) (by omega) hs (by rw [rI_ne (by omega), r1 (x + 1) (Or.inl rfl)]; exact hF) (by rw [rI_ne (by omega), r1 x (Or.inr (Or.inr (Or.inr rfl)))]; exact h14) (by rw [rI_eq]; exact pk_us) (by omega) (by omega) (by omega), ob]
    have eQ : (if eHow S s = 1 then vF S s b P + 10 * eBy S s else if eHow S s = 2 ∧ P 15 0 ≠ 0 then P 15 0 - 1 + eBy S s else 0) = vQ S s b P := rfl
    rw [eQ, ← hLL]
    have f4 : FC x σ (sI (sI (sI τ (x + 2) (10 * b + s) (nI (vC S s b P + vD S s b P))) (x + 2) (10 * b + s) (nI (vL S s b P))) x 14 (lgI (max (P 15 0) (vL S s b P + 1)))) := (f3.sI (by omega) (by omega) (by omega)).sI (by omega) (by omega) (by omega)
    rw [pc_visit_end (f4.hp h) (la := P 14 0) (L := vL S s b P) hx hc (by rw [rI, if_neg (by omega), rI_ne (by omega), rI_ne (by omega), r1 x (Or.inr (Or.inr (Or.inr rfl)))]; exact h13) (by rw [rI_ne (by omega), rI_eq]; exact pk_us) (by omega) (by omega)]
    refine ⟨_, rfl, f4.sI (by omega) (by omega) (by omega), ?_, ?_, fun c => ?_, fun c => ?_, fun c => ?_, fun c => ?_, fun c => ?_, fun c => ?_, fun c => ?_, fun c => ?_, ?_, ?_, ?_, ?_⟩
    · rw [rI_ne (by omega), rI_ne (by omega), rI_ne (by omega), rI_ne (by omega)]; exact r1 _ (Or.inr (Or.inr (Or.inl rfl)))
    · rw [rI_ne (by omega), rI_ne (by omega), rI_ne (by omega), rI_ne (by omega)]; exact r1 _ (Or.inl rfl)
    · rw [rI_ne (by omega), rI_ne (by omega), rI, rI, r1 _ (Or.inr (Or.inl rfl))]
      by_cases z : c = 10 * b + s
      · rw [if_pos ⟨rfl, z⟩, if_pos z]
      · rw [if_neg (fun q => z q.2), if_neg (fun q => z q.2), if_neg z]
    · rw [rI_ne (by omega), rI_ne (by omega), rI_ne (by omega), rI_ne (by omega)]; exact t3 c
    · rw [rI_ne (by omega), rI_ne (by omega), rI_ne (by omega), rI_ne (by omega)]; exact t4 c
    · rw [rI_ne (by omega), rI_ne (by omega), rI_ne (by omega), rI_ne (by omega)]; exact t5 c
    · rw [rI_ne (by omega), rI_ne (by omega), rI_ne (by omega), rI_ne (by omega)]; exact t6 c
    · rw [rI_ne (by omega), rI_ne (by omega), rI_ne (by omega), rI_ne (by omega), sv_6, if_pos rfl]; exact t8 c
    · exact t9 c
    · rw [rI_ne (by omega), rI_ne (by omega), rI_ne (by omega), rI_ne (by omega), t10 c, sv_8s]
    · exact tx
    · rw [rI, if_neg (by omega), rI, if_neg (by omega), rI_ne (by omega), rI_ne (by omega), r1 x (Or.inr (Or.inr (Or.inr rfl))), sv_10, if_pos e]; exact h11
    · rw [rI, if_pos ⟨rfl, rfl⟩]; rfl
    · rw [rI, if_neg (by omega), rI, if_pos ⟨rfl, rfl⟩, sv_15, if_pos e]
  · rw [if_neg e, if_pos rfl]
    have eS : vS S s b P = 0 := by unfold vS; rw [if_neg e]
    have eG : vG S s b P = vB s b P := by unfold vG; rw [if_neg e]
    have eN : vN S s b P = 0 := by unfold vN; rw [if_neg e]
    rw [gIc_11 (f1.hp h) hx, ob, gRc_3 (f1.hp h) hx, ob, aIc_4 (f1.hp h) hx hc, ob, rI_ne (by omega), h11, rI_eq, show upd (σ.2.1 (x + 4)) (10 * b + s) (nI (vO s b P)) (10 * b + s) = nI (vO s b P) from pk_us, nsub (by omega), nI_add, pIc_11 (f1.hp h) hx, ob]
    have f2 : FC x σ (sI (sI σ (x + 4) (10 * b + s) (nI (vO s b P))) x 11 (nI (P 10 0 + (vB s b P - vO s b P)))) := f1.sI (by omega) (by omega) (by omega)
    rw [ckc (f2.hp h) hx, ob, pc_emptyOut hS (f2.hp h) (f2.line hx hL) (C := vC S s b P) (tk := P 6 s) hx hc hs (by rw [rI_ne (by omega), rI_ne (by omega)]; exact hC) (by rw [rI_ne (by omega), rI_ne (by omega)]; exact h8) (by omega) hd, ob]
    have eT : (if eGap S s = 0 then 0 else vC S s b P / eGap S s) - P 6 s = vT S s b P := rfl
    rw [eT]
    have f3 := ((f2.sI (k := x + 3) (j := 10 * b + s) (v := nI 0) (by omega) (by omega) (by omega)).sI (k := x + 5) (j := 10 * b + s) (v := nI 0) (by omega) (by omega) (by omega)).sI (k := x + 6) (j := 10 * b + s) (v := nI (vT S s b P)) (by omega) (by omega) (by omega)
    have hτ := f3.hp h
    rw [gRc_1 hτ hx, ob, gRc_0 hτ hx, ob, aIc_1 hτ hx hc, ob, rI_ne (by omega), rI_ne (by omega), rI_ne (by omega), rI_ne (by omega), rI_ne (by omega), hC, ckc hτ hx, ob, pc_stand hτ (f3.line hx hL) (on := 0) (ex := eEx S b s) hx hc (by rw [rI_ne (by omega), rI_ne (by omega), rI_eq]; exact pk_us) (hex _ f3) (by omega) (by omega), ob]
    have eD : (if (0 : Nat) = 0 ∧ vB s b P = 0 then eEx S b s else eSet S 0 + eSet S 1 * 0 + eSet S 2 * vB s b P + eEx S b s) = vD S s b P := by
      unfold vD
      rw [eG, eN]
    have hLL : vL S s b P = vC S s b P + vD S s b P := by unfold vL; rw [if_neg e]
    rw [eD, nI_add, ← hLL, xIc_2 hτ hx hc, ob]
    have f4 := f3.sI (k := x + 2) (j := 10 * b + s) (v := nI (vL S s b P)) (by omega) (by omega) (by omega)
    rw [pc_visit_end (f4.hp h) (la := P 14 0) (L := vL S s b P) hx hc (by rw [rI_ne (by omega), rI_ne (by omega), rI_ne (by omega), rI_ne (by omega), rI, if_neg (by omega), rI_ne (by omega)]; exact h13) (by rw [rI_eq]; exact pk_us) (by omega) (by omega)]
    refine ⟨_, rfl, f4.sI (by omega) (by omega) (by omega), ?_, ?_, fun c => ?_, fun c => ?_, fun c => ?_, fun c => ?_, fun c => ?_, fun c => ?_, fun c => ?_, fun c => ?_, ?_, ?_, ?_, ?_⟩
    · rw [rI_ne (by omega), rI_ne (by omega), rI_ne (by omega), rI_ne (by omega), rI_ne (by omega), rI_ne (by omega), rI_ne (by omega)]
    · rw [rI_ne (by omega), rI_ne (by omega), rI_ne (by omega), rI_ne (by omega), rI_ne (by omega), rI_ne (by omega), rI_ne (by omega)]
    · rw [rI_ne (by omega), rI_eq, rI_ne (by omega), rI_ne (by omega), rI_ne (by omega), rI_ne (by omega), rI_ne (by omega)]; rfl
    · rw [rI_ne (by omega), rI_ne (by omega), rI_ne (by omega), rI_ne (by omega), rI_eq, rI_ne (by omega), rI_ne (by omega), eN]; rfl
    · rw [rI_ne (by omega), rI_ne (by omega), rI_ne (by omega), rI_ne (by omega), rI_ne (by omega), rI_ne (by omega), rI_eq]; rfl
    · rw [rI_ne (by omega), rI_ne (by omega), rI_ne (by omega), rI_eq, rI_ne (by omega), rI_ne (by omega), rI_ne (by omega), eN, eS]; rfl
    · rw [rI_ne (by omega), rI_ne (by omega), rI_eq, rI_ne (by omega), rI_ne (by omega), rI_ne (by omega), rI_ne (by omega), eN]; rfl
    · rw [rI_ne (by omega), rI_ne (by omega), rI_ne (by omega), rI_ne (by omega), rI_ne (by omega), rI_ne (by omega), rI_ne (by omega), sv_6, if_pos rfl, eN]
      by_cases z : c = s
      · rw [if_pos z, z]; exact h8
      · rw [if_neg z]
    · rw [rJ_I, rJ_I, rJ_I, rJ_I, rJ_I, rJ_I, rJ_I, sv_7, if_pos rfl, eN]
      by_cases z : c = s
      · rw [if_pos z, z, h9]; simp
      · rw [if_neg z]
    · rw [rI_ne (by omega), rI_ne (by omega), rI_ne (by omega), rI_ne (by omega), rI_ne (by omega), rI_ne (by omega), rI_ne (by omega), show sv S s b P 8 s = P 8 s by rw [sv_8s, if_neg (by omega)]]
      by_cases z : c = s
      · rw [if_pos z, z]; exact h10
      · rw [if_neg z]
    · rfl
    · rw [rI, if_neg (by omega), rI_ne (by omega), rI_ne (by omega), rI_ne (by omega), rI_ne (by omega), rI, if_pos ⟨rfl, rfl⟩, sv_10, if_neg e]
    · rw [rI, if_pos ⟨rfl, rfl⟩]; rfl
    · rw [rI, if_neg (by omega), rI_ne (by omega), rI_ne (by omega), rI_ne (by omega), rI_ne (by omega), rI, if_neg (by omega), rI_ne (by omega), sv_15, if_neg e]; exact h14
