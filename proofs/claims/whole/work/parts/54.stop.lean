/-- how many stops a bus has visited, at a stop where those of pre have been -/
def gp (S : Se) (s : Nat) (pre : List Nat) (b : Nat) : Nat := if b ∈ pre then s + 1 else min s (eFin S b + 1)
def tkOk (S : Se) (s b : Nat) (P : Ps) : Prop := if eGap S s = 0 then P 6 s = 0 else P 6 s ≤ vC S s b P / eGap S s
def Sti (S : Se) (X s : Nat) (P : Ps) (pre post : List Nat) : Prop :=
  ((∀ b, b < eB S → Bi S P b (gp S s pre b)) ∧ (∀ b, b < eB S → ∀ k, k < gp S s pre b → P 1 (10 * b + k) ≤ tU X k)) ∧
  ((pre ++ post).Nodup ∧ (∀ b ∈ pre ++ post, b < eB S ∧ s ≤ eFin S b)) ∧
  (∀ b ∈ post, P 0 (10 * b + s) = if s = 0 then eBeg S b else P 1 (10 * b + s - 1) + eRide S (s - 1)) ∧
  (P 14 0 ≤ tA X s + pre.length * (1660 + X) + (pre.map (fun b => eEx S b s)).sum ∧ P 15 0 ≤ P 14 0 + 1 ∧ (∀ a ∈ pre, P 1 (10 * a + s) ≤ P 14 0)) ∧
  (P 6 s ≤ 80 * pre.length ∧ (∀ b ∈ post, tkOk S s b P)) ∧
  (eSet S 3 ≠ 0 → post.Pairwise (fun x y => P 0 (10 * x + s) ≤ P 0 (10 * y + s))) ∧
  (eSet S 3 = 0 → (∀ a ∈ pre, ∀ b ∈ pre, a < b → P 1 (10 * a + s) ≤ P 1 (10 * b + s)) ∧ (∀ a ∈ pre, ∀ b ∈ post, a < b) ∧ post.Pairwise (fun x y => x < y)) ∧
  (P 9 0 + fb_sm (P 18) 8 = P 13 0 + fb_sm (fun b => P 17 b * P 16 b) 8 ∧ P 9 0 ≤ 80 * fb_sm (P 16) 8 ∧ (∀ b, ¬ b < eB S → P 16 b = 0 ∧ P 17 b = 0 ∧ P 18 b = 0) ∧ (∀ b, P 16 b ≤ tU X 9) ∧ P 10 0 ≤ fb_sm (fun b => if gp S s pre b ≤ eFin S b then 0 else 80) 8) ∧
  ((∀ k, P 6 k ≤ 640 ∧ P 7 k ≤ P 6 k * tU X 9 ∧ P 8 k ≤ tU X 9) ∧ (∀ k, s < k → P 6 k = 0 ∧ P 7 k = 0 ∧ P 8 k = 0))
/-- what a visit can rely on -/
def Vis (S : Se) (X s b : Nat) (P : Ps) : Prop :=
  (b < eB S ∧ s ≤ eFin S b ∧ Bi S P b s ∧ (P 0 (10 * b + s) = if s = 0 then eBeg S b else P 1 (10 * b + s - 1) + eRide S (s - 1)) ∧ tkOk S s b P) ∧
  (vC S s b P ≤ tU X 9 ∧ vL S s b P ≤ tU X 9 ∧ P 14 0 ≤ tU X 9 ∧ P 15 0 ≤ P 14 0 + 1 ∧ (∀ k, k < s → P 1 (10 * b + k) ≤ tU X 9)) ∧
  (vB s b P = P 17 b ∧ P 17 b = vO s b P + dsum (fun to => P 11 (10 * b + to)) (9 - s) (s + 1) ∧ P 18 b = P 12 (10 * b + s) + dsum (fun to => P 12 (10 * b + to)) (9 - s) (s + 1) ∧ P 17 b ≤ eSeat S b ∧ P 16 b ≤ vC S s b P ∧ P 0 (10 * b + s) ≤ vC S s b P ∧ P 12 (10 * b + s) ≤ vO s b P * vC S s b P ∧ P 18 b ≤ P 17 b * vC S s b P ∧ (s ≠ 0 → P 16 b = P 0 (10 * b + s - 1))) ∧
  (P 6 s ≤ 640 ∧ P 7 s ≤ P 6 s * tU X 9 ∧ P 8 s ≤ tU X 9 ∧ P 9 0 ≤ 80 * fb_sm (P 16) 8 ∧ P 10 0 ≤ 640 ∧ P 13 0 ≤ P 9 0 + fb_sm (P 18) 8)
theorem vG_le {S : Se} {s b : Nat} {P : Ps} (h1 : vB s b P = P 17 b) (h2 : P 17 b = vO s b P + dsum (fun to => P 11 (10 * b + to)) (9 - s) (s + 1)) (h3 : P 17 b ≤ 80) : vG S s b P ≤ 80 := by
  unfold vG
  split
  · omega
  · omega
theorem nodup_mid {pre post : List Nat} {b : Nat} (h : (pre ++ b :: post).Nodup) : b ∉ pre ∧ b ∉ post ∧ (∀ a ∈ pre, a ≠ b) ∧ (∀ a ∈ post, a ≠ b) ∧ (∀ a ∈ post, a ∉ pre) := by
  have h' := List.nodup_append.mp h
  have h2 := List.nodup_cons.mp h'.2.1
  refine ⟨fun hb => h'.2.2 b hb b List.mem_cons_self rfl, h2.1, fun a ha e => h'.2.2 a ha b List.mem_cons_self e, fun a ha e => h2.1 (e ▸ ha), fun a ha hp => h'.2.2 a hp a (List.mem_cons_of_mem _ ha) rfl⟩
theorem Sti_vis {S : Se} {X : Nat} (hS : SeOk S X) {s : Nat} (hs : s < 10) {P : Ps} {pre post : List Nat} {b : Nat} (h : Sti S X s P pre (b :: post)) : Vis S X s b P ∧ vL S s b P ≤ tA X s + (pre ++ [b]).length * (1660 + X) + ((pre ++ [b]).map (fun b => eEx S b s)).sum ∧ vL S s b P ≤ tU X s := by
  obtain ⟨⟨i1, i2⟩, ⟨i3, i4⟩, i5, ⟨i6, i7, i8⟩, ⟨i9, i10⟩, i11, i12, ⟨g1, g2, g3, g4, g5⟩, ⟨g6, g7⟩⟩ := h
  obtain ⟨m1, m2, m3, m4, m5⟩ := nodup_mid i3
  obtain ⟨hb, hsf⟩ := i4 b (List.mem_append_right _ List.mem_cons_self)
  have hgp : gp S s pre b = s := by
    unfold gp
    rw [if_neg m1]
    omega
  have hB := i1 b hb
  rw [hgp] at hB
  have hraw := i5 b List.mem_cons_self
  have hat := Bi_at hS hb hsf hB hraw
  obtain ⟨l1, l2, l3, l4, l5, l6, l7, l8, l9⟩ := hat
  have hseat := (hS.2.2.2.2.2.2.1 b hb).2.2.1
  have hvG := vG_le (S := S) l1 l2 (by omega)
  have ht : s ≠ 0 → P 1 (10 * b + (s - 1)) ≤ tU X (s - 1) := fun e => i2 b hb (s - 1) (by rw [hgp]; omega)
  have hra := raw_le hS hb hs ht hraw
  have hF : vF S s b P ≤ vC S s b P := by
    unfold vF
    split
    · exact Nat.le_refl _
    · rename_i e
      have h1 := Bi_up hB (s - 1) (by omega)
      have h2 := l9 e
      rw [show 10 * b + (s - 1) = 10 * b + s - 1 by omega] at h1
      omega
  obtain ⟨c1, c2⟩ := vL_le hS (D := tA X s + pre.length * (1660 + X) + (pre.map (fun b => eEx S b s)).sum) hb hs hvG (by omega) i6 i7 hF
  have e1 : (pre ++ [b]).length = pre.length + 1 := by simp
  have e2 : ((pre ++ [b]).map (fun b => eEx S b s)).sum = (pre.map (fun b => eEx S b s)).sum + eEx S b s := by simp
  have hnd : (pre ++ [b]).Nodup := by
    have : pre ++ b :: post = (pre ++ [b]) ++ post := by simp
    rw [this] at i3
    exact (List.nodup_append.mp i3).1
  have hlt : ∀ x ∈ pre ++ [b], x < 8 := by
    intro x hx
    have hB8 := hS.1
    rcases List.mem_append.mp hx with hx | hx
    · have := (i4 x (List.mem_append_left _ hx)).1; omega
    · rw [List.mem_singleton.mp hx]; omega
  have hlen := len_nodup hnd hlt
  have hsum := sum_nodup (f := fun b => eEx S b s) hnd hlt
  have hex := hS.2.2.2.2.2.2.2.2.1 s
  have hLL : vL S s b P ≤ tA X s + (pre ++ [b]).length * (1660 + X) + ((pre ++ [b]).map (fun b => eEx S b s)).sum := by
    rw [e1, e2, Nat.add_mul]
    omega
  have hmul := Nat.mul_le_mul hlen (Nat.le_refl (1660 + X))
  have hLU : vL S s b P ≤ tU X s := by rw [tU_eq]; omega
  have hmono : tU X s ≤ tU X 9 := tU_mono (by omega)
  have h14 : P 14 0 ≤ tU X s := by
    have h1 : pre.length * (1660 + X) ≤ (pre ++ [b]).length * (1660 + X) := Nat.mul_le_mul (by omega) (Nat.le_refl _)
    rw [tU_eq]
    omega
  have hCL := vC_le_vL (S := S) (s := s) (b := b) (P := P)
  have h10 : P 10 0 ≤ 640 := by
    have := fb_sm_bound (f := fun b => if gp S s pre b ≤ eFin S b then 0 else 80) (c := 80) (n := 8) (fun k _ => by split <;> omega)
    omega
  exact ⟨⟨⟨hb, hsf, hB, hraw, i10 b List.mem_cons_self⟩, ⟨by omega, by omega, by omega, i7, fun k hk => Nat.le_trans (i2 b hb k (by rw [hgp]; exact hk)) (tU_mono (by omega))⟩, ⟨l1, l2, l3, l4, l5, l6, l7, l8, l9⟩, ⟨(g6 s).1, (g6 s).2.1, (g6 s).2.2, g2, h10, by omega⟩⟩, hLL, hLU⟩
theorem gp_mem {S : Se} {s : Nat} {pre : List Nat} {b : Nat} : gp S s (pre ++ [b]) b = s + 1 := by
  unfold gp
  rw [if_pos (List.mem_append_right _ List.mem_cons_self)]
theorem gp_ne {S : Se} {s : Nat} {pre : List Nat} {a b : Nat} (h : a ≠ b) : gp S s (pre ++ [b]) a = gp S s pre a := by
  unfold gp
  by_cases e : a ∈ pre
  · rw [if_pos e, if_pos (List.mem_append_left _ e)]
  · rw [if_neg e, if_neg (fun z => by
      rcases List.mem_append.mp z with z | z
      · exact e z
      · exact h (List.mem_singleton.mp z))]
theorem gp_le {S : Se} {s : Nat} {pre : List Nat} {a : Nat} (hs : s < 10) (hf : eFin S a ≤ 9) : gp S s pre a ≤ 10 := by
  unfold gp
  split <;> omega
set_option maxHeartbeats 4000000 in
theorem Sti_step {S : Se} {X : Nat} (hS : SeOk S X) {s : Nat} (hs : s < 10) {P : Ps} {pre post : List Nat} {b : Nat} (h : Sti S X s P pre (b :: post)) : Sti S X s (sv S s b P) (pre ++ [b]) post := by
  obtain ⟨hV, hLL, hLU⟩ := Sti_vis hS hs h
  obtain ⟨⟨hb, hsf, hB, hraw, htk⟩, ⟨v1, v2, v3, v4, v5⟩, ⟨l1, l2, l3, l4, l5, l6, l7, l8, l9⟩, ⟨w1, w2, w3, w4, w5, w6⟩⟩ := hV
  obtain ⟨⟨i1, i2⟩, ⟨i3, i4⟩, i5, ⟨i6, i7, i8⟩, ⟨i9, i10⟩, i11, i12, ⟨g1, g2, g3, g4, g5⟩, ⟨g6, g7⟩⟩ := h
  obtain ⟨m1, m2, m3, m4, m5⟩ := nodup_mid i3
  have hgp : gp S s pre b = s := by
    unfold gp
    rw [if_neg m1]
    omega
  have hgo := goal9 (S := S) hs
  have hB8 := hS.1
  have hfin : ∀ a, a < eB S → eFin S a ≤ 9 := fun a ha => (hS.2.2.2.2.2.2.1 a ha).2.2.2.2
  have hseat := (hS.2.2.2.2.2.2.1 b hb).2.2.1
  have hCL := vC_le_vL (S := S) (s := s) (b := b) (P := P)
  have hN80 := vN_le (s := s) (P := P) hS hb
  have eap : (pre ++ [b]) ++ post = pre ++ b :: post := by simp
  have hmono : tU X s ≤ tU X 9 := tU_mono (by omega)
  have p0 : ∀ a k, k < 10 → a ≠ b → sv S s b P 0 (10 * a + k) = P 0 (10 * a + k) := fun a k hk hab => by rw [sv_0, if_neg (by omega)]
  have p1 : ∀ a k, k < 10 → a ≠ b → sv S s b P 1 (10 * a + k) = P 1 (10 * a + k) := fun a k hk hab => by rw [sv_1, if_neg (by omega)]
  have hvN0 : eGap S s = 0 → vN S s b P = 0 := by
    intro e
    unfold vN
    split
    · have : vT S s b P = 0 := by unfold vT; rw [if_pos e]; omega
      rw [this]
      exact Nat.min_zero _
    · rfl
  have hvNT : ¬ eGap S s = 0 → P 6 s + vN S s b P ≤ vC S s b P / eGap S s := by
    intro e
    unfold tkOk at htk
    rw [if_neg e] at htk
    have : vN S s b P ≤ vC S s b P / eGap S s - P 6 s := by
      unfold vN
      split
      · refine Nat.le_trans (Nat.min_le_right _ _) ?_
        unfold vT
        rw [if_neg e]
        exact Nat.le_refl _
      · omega
    omega
  refine ⟨⟨fun a ha => ?_, fun a ha k hk => ?_⟩, ⟨by rw [eap]; exact i3, by rw [eap]; exact i4⟩, fun a ha => ?_, ⟨?_, ?_, fun a ha => ?_⟩, ⟨?_, fun a ha => ?_⟩, fun hp => ?_, fun hp => ⟨fun a ha a' ha' hlt => ?_, fun a ha a' ha' => ?_, ?_⟩, ⟨?_, ?_, fun a ha => ?_, fun a => ?_, ?_⟩, ⟨fun k => ?_, fun k hk => ?_⟩⟩
  · -- every bus
    by_cases e : a = b
    · subst e
      rw [gp_mem]
      exact Bi_step hS hb hsf hB hraw
    · rw [gp_ne e]
      exact Bi_other e hs hgo (hfin a ha) (gp_le hs (hfin a ha)) (i1 a ha)
  · by_cases e : a = b
    · subst e
      rw [gp_mem] at hk
      rw [sv_1]
      by_cases e2 : k = s
      · subst e2
        rw [if_pos rfl]
        exact hLU
      · rw [if_neg (by omega)]
        exact i2 a ha k (by rw [hgp]; omega)
    · rw [gp_ne e] at hk
      have := gp_le (pre := pre) hs (hfin a ha)
      rw [p1 a k (by omega) e]
      exact i2 a ha k hk
  · have e := m4 a ha
    rw [p0 a s hs e, i5 a (List.mem_cons_of_mem _ ha)]
    by_cases e2 : s = 0
    · rw [if_pos e2, if_pos e2]
    · rw [if_neg e2, if_neg e2, show 10 * a + s - 1 = 10 * a + (s - 1) by omega, p1 a (s - 1) (by omega) e]
  · rw [sv_14]
    refine Nat.max_le.mpr ⟨?_, hLL⟩
    have e1 : (pre ++ [b]).length = pre.length + 1 := by simp
    have e2 : ((pre ++ [b]).map (fun b => eEx S b s)).sum = (pre.map (fun b => eEx S b s)).sum + eEx S b s := by simp
    rw [e1, e2, Nat.add_mul]
    omega
  · rw [sv_15, sv_14]
    have h1 := Nat.le_max_left (P 14 0) (vL S s b P)
    have h2 := Nat.le_max_right (P 14 0) (vL S s b P)
    split
    · exact Nat.max_le.mpr ⟨by omega, by omega⟩
    · omega
  · rw [sv_14]
    have h1 := Nat.le_max_left (P 14 0) (vL S s b P)
    have h2 := Nat.le_max_right (P 14 0) (vL S s b P)
    rcases List.mem_append.mp ha with ha | ha
    · rw [p1 a s hs (m3 a ha)]
      have := i8 a ha
      omega
    · rw [List.mem_singleton.mp ha, sv_1, if_pos rfl]
      exact h2
  · rw [sv_6, if_pos rfl]
    have e1 : (pre ++ [b]).length = pre.length + 1 := by simp
    rw [e1]
    omega
  · -- taken so far
    have e := m4 a ha
    unfold tkOk
    rw [sv_6, if_pos rfl]
    by_cases e2 : eGap S s = 0
    · rw [if_pos e2, hvN0 e2]
      unfold tkOk at htk
      rw [if_pos e2] at htk
      rw [htk]
    · rw [if_neg e2]
      refine Nat.le_trans (hvNT e2) (Nat.div_le_div_right ?_)
      have hx : vC S s b P ≤ vC S s a (sv S s b P) := by
        have h14 : sv S s b P 14 0 = max (P 14 0) (vL S s b P) := sv_14
        by_cases e3 : eSet S 3 = 0
        · have : vC S s a (sv S s b P) = max (sv S s b P 0 (10 * a + s)) (sv S s b P 14 0) := by
            show (if eSet S 3 = 0 then _ else _) = _
            rw [if_pos e3]
          rw [this, h14]
          have h1 := Nat.le_max_right (P 14 0) (vL S s b P)
          have h2 := Nat.le_max_right (sv S s b P 0 (10 * a + s)) (max (P 14 0) (vL S s b P))
          omega
        · have h1 : vC S s a (sv S s b P) = P 0 (10 * a + s) := by
            show (if eSet S 3 = 0 then _ else _) = _
            rw [if_neg e3, p0 a s hs e]
          have h2 : vC S s b P = P 0 (10 * b + s) := by
            show (if eSet S 3 = 0 then _ else _) = _
            rw [if_neg e3]
          rw [h1, h2]
          exact (List.pairwise_cons.mp (i11 e3)).1 a ha
      exact hx
  · have h1 := (List.pairwise_cons.mp (i11 hp)).2
    refine List.Pairwise.imp_of_mem (fun {x y} hx hy hxy => ?_) h1
    rw [p0 x s hs (m4 x hx), p0 y s hs (m4 y hy)]
    exact hxy
  · obtain ⟨j1, j2, j3⟩ := i12 hp
    have h1 : P 14 0 ≤ vC S s b P := by
      unfold vC
      rw [if_pos hp]
      exact Nat.le_max_right _ _
    rcases List.mem_append.mp ha with ha | ha
    · rcases List.mem_append.mp ha' with ha' | ha'
      · rw [p1 a s hs (m3 a ha), p1 a' s hs (m3 a' ha')]
        exact j1 a ha a' ha' hlt
      · rw [List.mem_singleton.mp ha', p1 a s hs (m3 a ha), sv_1, if_pos rfl]
        have := i8 a ha
        omega
    · rcases List.mem_append.mp ha' with ha' | ha'
      · have := j2 a' ha' b List.mem_cons_self
        rw [List.mem_singleton.mp ha] at hlt
        omega
      · rw [List.mem_singleton.mp ha, List.mem_singleton.mp ha'] at hlt
        omega
  · obtain ⟨j1, j2, j3⟩ := i12 hp
    rcases List.mem_append.mp ha with ha | ha
    · exact j2 a ha a' (List.mem_cons_of_mem _ ha')
    · rw [List.mem_singleton.mp ha]
      exact (List.pairwise_cons.mp j3).1 a' ha'
  · exact (List.pairwise_cons.mp (i12 hp).2.2).2
  · -- the two accounts of riding
    have u18 := fb_sm_upd (P 18) (if s < eFin S b then P 18 b - P 12 (10 * b + s) + vN S s b P * vC S s b P else 0) (i := b) (n := 8) (by omega)
    have u17 := fb_sm_upd (fun b => P 17 b * P 16 b) ((vS S s b P + vN S s b P) * vC S s b P) (i := b) (n := 8) (by omega)
    have e18 : fb_sm (sv S s b P 18) 8 = fb_sm (fun k => if k = b then (if s < eFin S b then P 18 b - P 12 (10 * b + s) + vN S s b P * vC S s b P else 0) else P 18 k) 8 := rfl
    have e17 : fb_sm (fun k => sv S s b P 17 k * sv S s b P 16 k) 8 = fb_sm (fun k => if k = b then (vS S s b P + vN S s b P) * vC S s b P else P 17 k * P 16 k) 8 := by
      refine fb_sm_cong (fun k _ => ?_)
      rw [sv_17, sv_16]
      by_cases e : k = b
      · rw [if_pos e, if_pos e, if_pos e]
      · rw [if_neg e, if_neg e, if_neg e]
    have e9 : sv S s b P 9 0 + P 17 b * P 16 b = P 9 0 + P 17 b * vC S s b P := by
      rw [sv_9]
      by_cases e : s = 0
      · rw [if_pos e]
        have : P 17 b = 0 := by rw [← l1]; unfold vB; rw [if_pos e]
        rw [this]; simp
      · rw [if_neg e, l1, ← l9 e, Nat.mul_sub]
        have := Nat.mul_le_mul (Nat.le_refl (P 17 b)) l5
        omega
    rw [e18, e17, sv_13]
    by_cases e : s < eFin S b
    · rw [if_pos e] at u18 ⊢
      have hvS : vS S s b P = P 17 b - vO s b P := by unfold vS; rw [if_pos e, l1]
      rw [hvS, Nat.add_mul, Nat.sub_mul] at u17 ⊢
      have h1 := Nat.mul_le_mul (show vO s b P ≤ P 17 b by omega) (Nat.le_refl (vC S s b P))
      rw [if_pos e]
      have h2 : P 12 (10 * b + s) ≤ P 18 b := by omega
      omega
    · rw [if_neg e] at u18 ⊢
      have hvS : vS S s b P = 0 := by unfold vS; rw [if_neg e]
      have hvN : vN S s b P = 0 := by unfold vN; rw [if_neg e]
      rw [hvS, hvN] at u17 ⊢
      rw [if_neg e, l1]
      simp only [Nat.zero_add, Nat.zero_mul] at u17 ⊢
      omega
  · have u16 := fb_sm_upd (P 16) (vC S s b P) (i := b) (n := 8) (by omega)
    have e16 : fb_sm (sv S s b P 16) 8 = fb_sm (fun k => if k = b then vC S s b P else P 16 k) 8 := rfl
    rw [e16, sv_9]
    by_cases e : s = 0
    · rw [if_pos e]
      omega
    · rw [if_neg e, l1, ← l9 e]
      have h1 := Nat.mul_le_mul (show P 17 b ≤ 80 by omega) (Nat.le_refl (vC S s b P - P 16 b))
      omega
  · have hab : a ≠ b := fun e => ha (e ▸ hb)
    rw [sv_16, sv_17, sv_18, if_neg hab, if_neg hab, if_neg hab]
    exact g3 a ha
  · rw [sv_16]
    split
    · omega
    · exact g4 a
  · rw [sv_10]
    by_cases e : s < eFin S b
    · rw [if_pos e]
      refine Nat.le_trans g5 (fb_sm_le (fun k _ => ?_))
      by_cases e2 : k = b
      · subst e2
        rw [gp_mem, hgp, if_pos (by omega)]
        omega
      · rw [gp_ne e2]
        exact Nat.le_refl _
    · rw [if_neg e]
      have u := fb_sm_upd (fun b => if gp S s pre b ≤ eFin S b then 0 else 80) 80 (i := b) (n := 8) (by omega)
      have e3 : fb_sm (fun k => if gp S s (pre ++ [b]) k ≤ eFin S k then 0 else 80) 8 = fb_sm (fun k => if k = b then 80 else (if gp S s pre k ≤ eFin S k then 0 else 80)) 8 := by
        refine fb_sm_cong (fun k _ => ?_)
        by_cases e2 : k = b
        · subst e2
          rw [if_pos rfl, gp_mem, if_neg (by omega)]
        · rw [if_neg e2, gp_ne e2]
      have e4 : (if gp S s pre b ≤ eFin S b then 0 else 80) = 0 := by rw [hgp, if_pos hsf]
      rw [e4] at u
      rw [e3]
      omega
  · rw [sv_6, sv_7, sv_8]
    by_cases e : k = s
    · subst e
      rw [if_pos rfl, if_pos rfl]
      have hn8 : (pre ++ [b]).length ≤ 8 := by
        have hnd : (pre ++ [b]).Nodup := by
          rw [← eap] at i3
          exact (List.nodup_append.mp i3).1
        refine len_nodup hnd (fun x hx => ?_)
        have hx2 : x ∈ pre ++ b :: post := by
          rw [← eap]
          exact List.mem_append_left _ hx
        have := (i4 x hx2).1
        omega
      have e1 : (pre ++ [b]).length = pre.length + 1 := by simp
      have hm := Nat.mul_le_mul (Nat.le_refl (vN S k b P)) v1
      refine ⟨by omega, ?_, ?_⟩
      · rw [Nat.add_mul]
        omega
      · split
        · exact Nat.max_le.mpr ⟨w3, by omega⟩
        · exact w3
    · rw [if_neg e, if_neg e, if_neg (fun z => e z.1)]
      exact g6 k
  · rw [sv_6, sv_7, sv_8, if_neg (by omega), if_neg (by omega), if_neg (by omega)]
    exact g7 k hk
