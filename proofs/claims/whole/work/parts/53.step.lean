theorem goal_in {S : Se} {X s : Nat} (hS : SeOk S X) (h : s < 9) : s < eGoal S s ∧ eGoal S s ≤ 9 := by
  have h1 := hS.2.2.2.2.1 s h
  unfold eGoal
  split
  · omega
  · omega
theorem vN_le {S : Se} {X : Nat} (hS : SeOk S X) {s b : Nat} {P : Ps} (hb : b < eB S) : vN S s b P ≤ 80 := by
  have h1 := (hS.2.2.2.2.2.2.1 b hb).2.2.1
  unfold vN
  split
  · have := Nat.min_le_left (eSeat S b - vS S s b P) (vT S s b P)
    omega
  · omega
theorem vC_le_vL {S : Se} {s b : Nat} {P : Ps} : vC S s b P ≤ vL S s b P := by
  unfold vL
  split
  · exact Nat.le_trans (Nat.le_add_right _ _) (Nat.le_max_left _ _)
  · exact Nat.le_add_right _ _
theorem vN_seat {S : Se} {s b : Nat} {P : Ps} (h : vS S s b P ≤ eSeat S b) (hs : s < eFin S b) : vS S s b P + vN S s b P ≤ eSeat S b := by
  unfold vN
  rw [if_pos hs]
  have := Nat.min_le_left (eSeat S b - vS S s b P) (vT S s b P)
  omega
theorem Bi_step {S : Se} {X : Nat} (hS : SeOk S X) {P : Ps} {b s : Nat} (hb : b < eB S) (hs : s ≤ eFin S b) (h : Bi S P b s) (hraw : P 0 (10 * b + s) = if s = 0 then eBeg S b else P 1 (10 * b + s - 1) + eRide S (s - 1)) : Bi S (sv S s b P) b (s + 1) := by
  obtain ⟨l1, l2, l3, l4, l5, l6, l7, l8, l9⟩ := Bi_at hS hb hs h hraw
  obtain ⟨a1, a2, a3, a4, a5, a6⟩ := h
  obtain ⟨b1, b2, b3, b4⟩ := a3 hs
  have hfin : eFin S b ≤ 9 := (hS.2.2.2.2.2.2.1 b hb).2.2.2.2
  refine ⟨fun k hk => ?_, fun k hk => ?_, fun hg => ?_, fun q hq hq2 => ?_, fun hg => by omega, fun hn => ?_⟩
  · rw [sv_0, sv_1, sv_2]
    by_cases e : k = s
    · subst e
      rw [if_pos rfl, if_pos rfl, if_pos rfl]
      exact ⟨vC_le_vL, vN_le hS hb⟩
    · rw [if_neg (by omega), if_neg (by omega), if_neg (by omega)]
      exact a1 k (by omega)
  · rw [sv_0, sv_1, if_neg (by omega)]
    by_cases e : k + 1 = s
    · subst e
      rw [if_pos rfl]
      rw [if_neg (by omega), show 10 * b + (k + 1) - 1 = 10 * b + k by omega, show k + 1 - 1 = k by omega] at hraw
      omega
    · rw [if_neg (by omega)]
      exact a2 k (by omega)
  · have hsf : s < eFin S b := by omega
    have hgo := goal_in hS (s := s) (by omega)
    have hvS : vS S s b P = dsum (fun to => P 11 (10 * b + to)) (9 - s) (s + 1) := by
      unfold vS
      rw [if_pos hsf, l1, l2]
      omega
    have hvSs : vS S s b P ≤ eSeat S b := by rw [hvS]; omega
    have e11 : ∀ to, s + 1 ≤ to → to < 10 → sv S s b P 11 (10 * b + to) = if to = eGoal S s then P 11 (10 * b + to) + vN S s b P else P 11 (10 * b + to) := by
      intro to t1 t2
      rw [sv_11]
      by_cases e : to = eGoal S s
      · rw [if_pos e]
        by_cases e2 : 0 < vN S s b P
        · rw [if_pos ⟨by omega, e2⟩]
        · rw [if_neg (fun z => e2 z.2), if_neg (by omega)]
          omega
      · rw [if_neg e, if_neg (by omega), if_neg (by omega)]
    have e12 : ∀ to, s + 1 ≤ to → to < 10 → sv S s b P 12 (10 * b + to) = if to = eGoal S s then P 12 (10 * b + to) + vN S s b P * vC S s b P else P 12 (10 * b + to) := by
      intro to t1 t2
      rw [sv_12]
      by_cases e : to = eGoal S s
      · rw [if_pos e]
        by_cases e2 : 0 < vN S s b P
        · rw [if_pos ⟨by omega, e2⟩]
        · rw [if_neg (fun z => e2 z.2), if_neg (by omega)]
          have e3 : vN S s b P = 0 := by omega
          rw [e3]
          omega
      · rw [if_neg e, if_neg (by omega), if_neg (by omega)]
    have e16 : sv S s b P 16 b = vC S s b P := by rw [sv_16, if_pos rfl]
    refine ⟨fun to t1 t2 => ?_, ?_, ?_, ?_⟩
    · obtain ⟨c1, c2⟩ := b1 to (by omega) t2
      have eo : og S (sv S s b P) b to (s + 1) = og S P b to s + (if eGoal S s = to then vN S s b P else 0) := by
        show og S (sv S s b P) b to s + _ = _
        rw [og_congr (P := P) (fun k hk => by rw [sv_2, if_neg (by omega)])]
        congr 1
        by_cases e : eGoal S s = to
        · rw [if_pos e, if_pos e, sv_2, if_pos rfl]
        · rw [if_neg e, if_neg e]
      rw [e11 to t1 t2, e12 to t1 t2, e16, eo]
      have hm : P 11 (10 * b + to) * P 16 b ≤ P 11 (10 * b + to) * vC S s b P := Nat.mul_le_mul (Nat.le_refl _) l5
      by_cases e : to = eGoal S s
      · rw [if_pos e, if_pos e.symm, if_pos e, Nat.add_mul]
        omega
      · rw [if_neg e, if_neg (fun z => e z.symm), if_neg e]
        omega
    · rw [sv_17, if_pos rfl, hvS, show 10 - (s + 1) = 9 - s by omega]
      rw [dsum_congr (f := fun to => sv S s b P 11 (10 * b + to)) (g := fun to => if to = eGoal S s then P 11 (10 * b + to) + vN S s b P else P 11 (10 * b + to)) (fun k k1 k2 => e11 k k1 (by omega))]
      rw [dsum_upd (f := fun to => P 11 (10 * b + to)) (by omega) (by omega)]
    · rw [sv_18, if_pos rfl, if_pos hsf, show 10 - (s + 1) = 9 - s by omega]
      rw [dsum_congr (f := fun to => sv S s b P 12 (10 * b + to)) (g := fun to => if to = eGoal S s then P 12 (10 * b + to) + vN S s b P * vC S s b P else P 12 (10 * b + to)) (fun k k1 k2 => e12 k k1 (by omega))]
      rw [dsum_upd (f := fun to => P 12 (10 * b + to)) (by omega) (by omega)]
      omega
    · rw [sv_17, if_pos rfl]
      exact vN_seat hvSs hsf
  · have e : q = s := by omega
    subst e
    rw [sv_4, if_pos rfl, sv_17, if_pos rfl, sv_16, if_pos rfl, sv_0, if_pos rfl]
    exact ⟨rfl, rfl⟩
  · have hsf : ¬ s < eFin S b := by omega
    rw [sv_17, if_pos rfl, sv_18, if_pos rfl, if_neg hsf]
    unfold vS vN
    rw [if_neg hsf, if_neg hsf]
    exact ⟨rfl, rfl⟩
theorem Bi_other {S : Se} {P : Ps} {a b s g : Nat} (hab : a ≠ b) (hs : s < 10) (hgo : eGoal S s ≤ 9) (hf : eFin S a ≤ 9) (hg : g ≤ 10) (h : Bi S P a g) : Bi S (sv S s b P) a g := by
  refine Bi_congr hf hg (fun k hk => ?_) (fun k hk => ?_) (fun k hk => ?_) (fun k hk => ?_) (fun k hk => ?_) (fun k hk => ?_) ?_ ?_ ?_ h
  · rw [sv_0, if_neg (by omega)]
  · rw [sv_1, if_neg (by omega)]
  · rw [sv_2, if_neg (by omega)]
  · rw [sv_4, if_neg (by omega)]
  · rw [sv_11, if_neg (by omega), if_neg (by omega)]
  · rw [sv_12, if_neg (by omega), if_neg (by omega)]
  · rw [sv_16, if_neg hab]
  · rw [sv_17, if_neg hab]
  · rw [sv_18, if_neg hab]
theorem goal9 {S : Se} {s : Nat} (h : s < 10) : eGoal S s ≤ 9 := by
  unfold eGoal
  split <;> omega
theorem sum_nodup : ∀ {l : List Nat} {f : Nat → Nat} {n : Nat}, l.Nodup → (∀ x ∈ l, x < n) → (l.map f).sum ≤ fb_sm f n := by
  intro l
  induction l with
  | nil => intro f n _ _; exact Nat.zero_le _
  | cons a l ih =>
    intro f n h1 h2
    rw [List.nodup_cons] at h1
    have ha : a < n := h2 a List.mem_cons_self
    have h3 := ih (f := fun k => if k = a then 0 else f k) (n := n) h1.2 (fun x hx => h2 x (List.mem_cons_of_mem _ hx))
    have h4 := fb_sm_upd f 0 ha
    have h5 : l.map (fun k => if k = a then 0 else f k) = l.map f := by
      apply List.map_congr_left
      intro x hx
      have hne : x ≠ a := fun e => h1.1 (e ▸ hx)
      show (if x = a then 0 else f x) = f x
      rw [if_neg hne]
    rw [h5] at h3
    rw [List.map_cons, List.sum_cons]
    omega
theorem len_nodup {l : List Nat} {n : Nat} (h1 : l.Nodup) (h2 : ∀ x ∈ l, x < n) : l.length ≤ n := by
  have h := sum_nodup (f := fun _ => 1) h1 h2
  rw [fb_sm_const] at h
  have e : (l.map (fun _ => 1)).sum = l.length := by
    clear h h1 h2
    induction l with
    | nil => rfl
    | cons a l ih => rw [List.map_cons, List.sum_cons, ih, List.length_cons]; omega
  omega
theorem Bi_up {S : Se} {P : Ps} {b g : Nat} (h : Bi S P b g) : ∀ k, k < g → P 0 (10 * b) ≤ P 0 (10 * b + k) := by
  intro k
  induction k with
  | zero => intro _; exact Nat.le_refl _
  | succ k ih =>
    intro hk
    have h1 := ih (by omega)
    have h2 := (h.1 k (by omega)).1
    have h3 := h.2.1 k hk
    omega
def tA (X s : Nat) : Nat := 7200 + s * (900 + 8 * (1660 + X) + 9900) + 900
theorem tU_eq (X s : Nat) : tU X s = tA X s + 8 * (1660 + X) + 9900 := by
  unfold tU tA
  rw [Nat.add_mul]
  omega
theorem tU_mono {X a b : Nat} (h : a ≤ b) : tU X a ≤ tU X b := by
  unfold tU
  have := Nat.mul_le_mul (show a + 1 ≤ b + 1 by omega) (Nat.le_refl (900 + 8 * (1660 + X) + 9900))
  omega
theorem raw_le {S : Se} {X : Nat} (hS : SeOk S X) {P : Ps} {b s : Nat} (hb : b < eB S) (hs : s < 10) (ht : s ≠ 0 → P 1 (10 * b + (s - 1)) ≤ tU X (s - 1)) (hraw : P 0 (10 * b + s) = if s = 0 then eBeg S b else P 1 (10 * b + s - 1) + eRide S (s - 1)) : P 0 (10 * b + s) ≤ tA X s := by
  rw [hraw]
  by_cases e : s = 0
  · subst e
    rw [if_pos rfl]
    have h9 := (hS.2.2.2.2.2.2.1 b hb).1
    unfold tA
    rw [Nat.zero_mul]
    omega
  · rw [if_neg e]
    obtain ⟨h, rfl⟩ : ∃ h, s = h + 1 := ⟨s - 1, by omega⟩
    have h1 := ht e
    have h2 := (hS.2.1 h (by omega)).2
    rw [show h + 1 - 1 = h by omega] at *
    rw [show 10 * b + (h + 1) - 1 = 10 * b + h by omega]
    have h3 : tU X h + 900 = tA X (h + 1) := by unfold tU tA; rfl
    omega
theorem vD_le {S : Se} {X : Nat} (hS : SeOk S X) {P : Ps} {b s : Nat} (hb : b < eB S) (hg : vG S s b P ≤ 80) : vD S s b P ≤ 1660 + eEx S b s := by
  have hn := vN_le (s := s) (P := P) hS hb
  obtain ⟨c0, c1, c2, -⟩ := hS.2.2.2.2.2.1
  have m1 := Nat.mul_le_mul c1 hn
  have m2 := Nat.mul_le_mul c2 hg
  unfold vD
  split
  · omega
  · omega
theorem vL_le {S : Se} {X : Nat} (hS : SeOk S X) {P : Ps} {b s D : Nat} (hb : b < eB S) (hs : s < 10) (hg : vG S s b P ≤ 80) (hD1 : P 0 (10 * b + s) ≤ D) (hD2 : P 14 0 ≤ D) (h15 : P 15 0 ≤ P 14 0 + 1) (hF : vF S s b P ≤ vC S s b P) : vC S s b P ≤ D ∧ vL S s b P ≤ D + 1660 + X + eEx S b s := by
  have hd := vD_le (s := s) (P := P) hS hb hg
  have hc : vC S s b P ≤ D := by
    unfold vC
    split
    · exact Nat.max_le.mpr ⟨hD1, hD2⟩
    · exact hD1
  have hr := hS.2.2.2.2.2.2.2.2.2.2.1 s hs
  refine ⟨hc, ?_⟩
  unfold vL
  split
  · refine Nat.max_le.mpr ⟨by omega, ?_⟩
    unfold vQ
    split
    · rename_i h1
      have := hr.1 h1
      omega
    · split
      · rename_i h1 h2
        have := hr.2 h2.1
        omega
      · omega
  · omega
