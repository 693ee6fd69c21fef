section
variable {S : Se} {s b k : Nat} {P : Ps}
theorem sv_0 : sv S s b P 0 k = if k = 10 * b + s then vC S s b P else P 0 k := rfl
theorem sv_1 : sv S s b P 1 k = if k = 10 * b + s then vL S s b P else P 1 k := rfl
theorem sv_2 : sv S s b P 2 k = if k = 10 * b + s then vN S s b P else P 2 k := rfl
theorem sv_3 : sv S s b P 3 k = if k = 10 * b + s then vO s b P else P 3 k := rfl
theorem sv_4 : sv S s b P 4 k = if k = 10 * b + s then vS S s b P + vN S s b P else P 4 k := rfl
theorem sv_5 : sv S s b P 5 k = if k = 10 * b + s then vT S s b P - vN S s b P else P 5 k := rfl
theorem sv_6 : sv S s b P 6 k = if k = s then P 6 s + vN S s b P else P 6 k := rfl
theorem sv_7 : sv S s b P 7 k = if k = s then P 7 s + (vN S s b P * vC S s b P - eGap S s * (vN S s b P * P 6 s + vN S s b P * (vN S s b P + 1) / 2)) else P 7 k := rfl
theorem sv_8 : sv S s b P 8 k = if k = s ∧ 0 < vN S s b P then max (P 8 s) (vC S s b P - eGap S s * (P 6 s + 1)) else P 8 k := rfl
theorem sv_9 : sv S s b P 9 k = if s = 0 then P 9 k else P 9 k + vB s b P * (vC S s b P - P 0 (10 * b + s - 1)) := rfl
theorem sv_10 : sv S s b P 10 k = if s < eFin S b then P 10 k else P 10 k + (vB s b P - vO s b P) := rfl
theorem sv_11 : sv S s b P 11 k = if k = 10 * b + eGoal S s ∧ 0 < vN S s b P then P 11 k + vN S s b P else if k = 10 * b + s ∨ (¬ s < eFin S b ∧ 10 * b + s ≤ k ∧ k < 10 * b + 10) then 0 else P 11 k := rfl
theorem sv_12 : sv S s b P 12 k = if k = 10 * b + eGoal S s ∧ 0 < vN S s b P then P 12 k + vN S s b P * vC S s b P else if k = 10 * b + s ∨ (¬ s < eFin S b ∧ 10 * b + s ≤ k ∧ k < 10 * b + 10) then 0 else P 12 k := rfl
theorem sv_13 : sv S s b P 13 k = if s < eFin S b then P 13 k + (vO s b P * vC S s b P - P 12 (10 * b + s)) else P 13 k + (vB s b P * vC S s b P - P 18 b) := rfl
theorem sv_14 : sv S s b P 14 k = max (P 14 k) (vL S s b P) := rfl
theorem sv_15 : sv S s b P 15 k = if s < eFin S b then max (P 15 k) (vL S s b P + 1) else P 15 k := rfl
theorem sv_16 : sv S s b P 16 k = if k = b then vC S s b P else P 16 k := rfl
theorem sv_17 : sv S s b P 17 k = if k = b then vS S s b P + vN S s b P else P 17 k := rfl
theorem sv_18 : sv S s b P 18 k = if k = b then (if s < eFin S b then P 18 b - P 12 (10 * b + s) + vN S s b P * vC S s b P else 0) else P 18 k := rfl
end
/-- what is set keeps within the document's bounds; X: how long a rule may make a bus wait -/
def SeOk (S : Se) (X : Nat) : Prop :=
  eB S ≤ 8 ∧ (∀ s, s < 9 → 10 ≤ eRide S s ∧ eRide S s ≤ 900) ∧ (∀ s, eGap S s ≤ 900) ∧ eGap S 9 = 0 ∧ (∀ s, s < 9 → 1 ≤ eTrip S s ∧ eTrip S s ≤ 9) ∧
  (eSet S 0 ≤ 60 ∧ eSet S 1 ≤ 10 ∧ eSet S 2 ≤ 10 ∧ eSet S 3 ≤ 1 ∧ eSet S 4 ≤ 600) ∧
  (∀ b, b < eB S → eBeg S b ≤ 7200 ∧ 1 ≤ eSeat S b ∧ eSeat S b ≤ 80 ∧ 1 ≤ eFin S b ∧ eFin S b ≤ 9) ∧
  (∀ a b, a < b → b < eB S → eBeg S a ≤ eBeg S b) ∧
  (∀ s, fb_sm (fun b => eEx S b s) 8 ≤ 9900) ∧ (∀ b, eEx S b 9 = 0) ∧
  (∀ s, s < 10 → (eHow S s = 1 → 10 * eBy S s ≤ X) ∧ (eHow S s = 2 → eBy S s ≤ X)) ∧ X ≤ 9990
/-- how late it can be when a stop has been played -/
def tU (X s : Nat) : Nat := 7200 + (s + 1) * (900 + 8 * (1660 + X) + 9900)
/-- who got on, bound for a goal -/
def og (S : Se) (P : Ps) (b to : Nat) : Nat → Nat
  | 0 => 0
  | g + 1 => og S P b to g + (if eGoal S g = to then P 2 (10 * b + g) else 0)
/-- a bus that has visited g stops -/
def Bi (S : Se) (P : Ps) (b g : Nat) : Prop :=
  (∀ k, k < g → P 0 (10 * b + k) ≤ P 1 (10 * b + k) ∧ P 2 (10 * b + k) ≤ 80) ∧
  (∀ k, k + 1 < g → P 1 (10 * b + k) + eRide S k ≤ P 0 (10 * b + (k + 1))) ∧
  (g ≤ eFin S b → (∀ to, g ≤ to → to < 10 → P 11 (10 * b + to) = og S P b to g ∧ P 12 (10 * b + to) ≤ P 11 (10 * b + to) * P 16 b) ∧
    P 17 b = dsum (fun to => P 11 (10 * b + to)) (10 - g) g ∧ P 18 b = dsum (fun to => P 12 (10 * b + to)) (10 - g) g ∧ P 17 b ≤ eSeat S b) ∧
  (∀ h, g = h + 1 → h < eFin S b → P 4 (10 * b + h) = P 17 b ∧ P 16 b = P 0 (10 * b + h)) ∧ (g = 0 → P 16 b = 0) ∧
  (¬ g ≤ eFin S b → P 17 b = 0 ∧ P 18 b = 0)
theorem og_congr {S : Se} {P P' : Ps} {b to : Nat} : ∀ {g : Nat}, (∀ k, k < g → P' 2 (10 * b + k) = P 2 (10 * b + k)) → og S P' b to g = og S P b to g := by
  intro g
  induction g with
  | zero => intro _; rfl
  | succ g ih =>
    intro h
    unfold og
    rw [ih (fun k hk => h k (by omega)), h g (by omega)]
theorem Bi_congr {S : Se} {P P' : Ps} {b g : Nat} (hf : eFin S b ≤ 9) (hg : g ≤ 10) (h0 : ∀ k, k < g → P' 0 (10 * b + k) = P 0 (10 * b + k)) (h1 : ∀ k, k < g → P' 1 (10 * b + k) = P 1 (10 * b + k)) (h2 : ∀ k, k < g → P' 2 (10 * b + k) = P 2 (10 * b + k)) (h4 : ∀ k, k < g → P' 4 (10 * b + k) = P 4 (10 * b + k)) (h11 : ∀ k, k < 10 → P' 11 (10 * b + k) = P 11 (10 * b + k)) (h12 : ∀ k, k < 10 → P' 12 (10 * b + k) = P 12 (10 * b + k)) (h16 : P' 16 b = P 16 b) (h17 : P' 17 b = P 17 b) (h18 : P' 18 b = P 18 b) (h : Bi S P b g) : Bi S P' b g := by
  obtain ⟨a1, a2, a3, a4, a5, a6⟩ := h
  refine ⟨fun k hk => ?_, fun k hk => ?_, fun hgf => ?_, fun q hq hq2 => ?_, fun hg0 => ?_, fun hn => ?_⟩
  · rw [h0 k (by omega), h1 k (by omega), h2 k (by omega)]; exact a1 k hk
  · rw [h1 k (by omega), h0 (k + 1) (by omega)]; exact a2 k hk
  · obtain ⟨b1, b2, b3, b4⟩ := a3 hgf
    refine ⟨fun to t1 t2 => ?_, ?_, ?_, ?_⟩
    · rw [h11 to t2, h12 to t2, h16, og_congr (fun k hk => h2 k (by omega))]; exact b1 to t1 t2
    · rw [h17, b2]; exact dsum_congr (fun k k1 k2 => (h11 k (by omega)).symm)
    · rw [h18, b3]; exact dsum_congr (fun k k1 k2 => (h12 k (by omega)).symm)
    · rw [h17]; exact b4
  · rw [h4 q (by omega), h17, h16, h0 q (by omega)]; exact a4 q hq hq2
  · rw [h16]; exact a5 hg0
  · rw [h17, h18]; exact a6 hn
theorem dsum_mul {f g : Nat → Nat} {c : Nat} : ∀ {m s : Nat}, (∀ k, s ≤ k → k < s + m → f k ≤ g k * c) → dsum f m s ≤ dsum g m s * c := by
  intro m
  induction m with
  | zero => intro s _; simp [dsum]
  | succ m ih =>
    intro s h
    unfold dsum
    have h1 := h s (Nat.le_refl _) (by omega)
    have h2 := ih (s := s + 1) (fun k k1 k2 => h k (by omega) (by omega))
    rw [Nat.add_mul]
    omega
/-- what holds of a bus as it comes to a stop -/
theorem Bi_at {S : Se} {X : Nat} (hS : SeOk S X) {P : Ps} {b s : Nat} (hb : b < eB S) (hs : s ≤ eFin S b) (h : Bi S P b s) (hraw : P 0 (10 * b + s) = if s = 0 then eBeg S b else P 1 (10 * b + s - 1) + eRide S (s - 1)) :
    vB s b P = P 17 b ∧ P 17 b = vO s b P + dsum (fun to => P 11 (10 * b + to)) (9 - s) (s + 1) ∧ P 18 b = P 12 (10 * b + s) + dsum (fun to => P 12 (10 * b + to)) (9 - s) (s + 1) ∧ P 17 b ≤ eSeat S b ∧ P 16 b ≤ vC S s b P ∧ P 0 (10 * b + s) ≤ vC S s b P ∧ P 12 (10 * b + s) ≤ vO s b P * vC S s b P ∧ P 18 b ≤ P 17 b * vC S s b P ∧ (s ≠ 0 → P 16 b = P 0 (10 * b + s - 1)) := by
  obtain ⟨a1, a2, a3, a4, a5, a6⟩ := h
  obtain ⟨b1, b2, b3, b4⟩ := a3 hs
  have hfin : eFin S b ≤ 9 := (hS.2.2.2.2.2.2.1 b hb).2.2.2.2
  have e10 : 10 - s = (9 - s) + 1 := by omega
  have hC : P 0 (10 * b + s) ≤ vC S s b P := by
    unfold vC
    split
    · exact Nat.le_max_left _ _
    · exact Nat.le_refl _
  have h16 : P 16 b ≤ vC S s b P := by
    by_cases e : s = 0
    · rw [a5 e]; exact Nat.zero_le _
    · obtain ⟨h, rfl⟩ : ∃ h, s = h + 1 := ⟨s - 1, by omega⟩
      rw [(a4 h rfl (by omega)).2]
      rw [if_neg (by omega)] at hraw
      have := (a1 h (by omega)).1
      have e2 : 10 * b + (h + 1) - 1 = 10 * b + h := by omega
      rw [e2] at hraw
      omega
  have hv : vB s b P = P 17 b := by
    unfold vB
    by_cases e : s = 0
    · subst e
      rw [if_pos rfl, b2]
      symm
      apply dsum_zero
      intro k k1 k2
      rw [(b1 k k1 (by omega)).1]
      rfl
    · obtain ⟨h, rfl⟩ : ∃ h, s = h + 1 := ⟨s - 1, by omega⟩
      rw [if_neg e, show 10 * b + (h + 1) - 1 = 10 * b + h by omega]
      exact (a4 h rfl (by omega)).1
  have h12 : P 12 (10 * b + s) ≤ vO s b P * vC S s b P := Nat.le_trans (b1 s (Nat.le_refl _) (by omega)).2 (Nat.mul_le_mul (Nat.le_refl _) h16)
  have h18 : P 18 b ≤ P 17 b * vC S s b P := by
    refine Nat.le_trans ?_ (Nat.mul_le_mul (Nat.le_refl _) h16)
    rw [b3, b2]
    exact dsum_mul (fun k k1 k2 => (b1 k k1 (by omega)).2)
  refine ⟨hv, ?_, ?_, b4, h16, hC, h12, h18, fun e => ?_⟩
  · rw [b2, e10]; rfl
  · rw [b3, e10]; rfl
  · obtain ⟨h, rfl⟩ : ∃ h, s = h + 1 := ⟨s - 1, by omega⟩
    rw [show 10 * b + (h + 1) - 1 = 10 * b + h by omega]
    exact (a4 h rfl (by omega)).2
