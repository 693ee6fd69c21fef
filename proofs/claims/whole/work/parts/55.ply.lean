/-- between two stops -/
def Bd (S : Se) (X s : Nat) (P : Ps) : Prop :=
  ((∀ b, b < eB S → Bi S P b (min s (eFin S b + 1))) ∧ (∀ b, b < eB S → ∀ k, k < min s (eFin S b + 1) → P 1 (10 * b + k) ≤ tU X k)) ∧
  (eSet S 3 = 0 → s ≠ 0 → ∀ a b, a < b → b < eB S → s ≤ eFin S a → s ≤ eFin S b → P 1 (10 * a + (s - 1)) ≤ P 1 (10 * b + (s - 1))) ∧
  (P 9 0 + fb_sm (P 18) 8 = P 13 0 + fb_sm (fun b => P 17 b * P 16 b) 8 ∧ P 9 0 ≤ 80 * fb_sm (P 16) 8 ∧ (∀ b, ¬ b < eB S → P 16 b = 0 ∧ P 17 b = 0 ∧ P 18 b = 0) ∧ (∀ b, P 16 b ≤ tU X 9) ∧ P 10 0 ≤ fb_sm (fun b => if min s (eFin S b + 1) ≤ eFin S b then 0 else 80) 8) ∧
  ((∀ k, P 6 k ≤ 640 ∧ P 7 k ≤ P 6 k * tU X 9 ∧ P 8 k ≤ tU X 9) ∧ (∀ k, s ≤ k → P 6 k = 0 ∧ P 7 k = 0 ∧ P 8 k = 0))
theorem Bd_0 {S : Se} {X : Nat} : Bd S X 0 ps0 := by
  have z1 : ∀ b, fb_sm (ps0 b) 8 = 0 := fun b => fb_sm_cong (g := fun _ => 0) (n := 8) (fun k _ => rfl) |>.trans (fb_sm_const 0 8)
  refine ⟨⟨fun b hb => ?_, fun b hb k hk => by omega⟩, fun _ h => absurd rfl h, ⟨?_, Nat.zero_le _, fun b _ => ⟨rfl, rfl, rfl⟩, fun b => Nat.zero_le _, Nat.zero_le _⟩, ⟨fun k => ⟨Nat.zero_le _, Nat.zero_le _, Nat.zero_le _⟩, fun k _ => ⟨rfl, rfl, rfl⟩⟩⟩
  · rw [Nat.zero_min]
    refine ⟨fun k hk => by omega, fun k hk => by omega, fun _ => ⟨fun to _ _ => ⟨rfl, Nat.zero_le _⟩, ?_, ?_, Nat.zero_le _⟩, fun h hh => by omega, fun _ => rfl, fun h => absurd (Nat.zero_le _) h⟩
    · exact (dsum_zero (fun k _ _ => rfl)).symm
    · exact (dsum_zero (fun k _ _ => rfl)).symm
  · rw [z1 18]
    show 0 + 0 = 0 + fb_sm (fun b => 0 * 0) 8
    rw [fb_sm_const]
theorem rowN_desc {w : Nat → Bool} : ∀ n : Nat, (rowN w n).Pairwise (fun x y => y < x) ∧ ∀ x ∈ rowN w n, x < n := by
  intro n
  induction n with
  | zero => exact ⟨List.Pairwise.nil, fun x h => absurd h List.not_mem_nil⟩
  | succ n ih =>
    unfold rowN
    split
    · refine ⟨List.pairwise_cons.mpr ⟨fun y hy => ih.2 y hy, ih.1⟩, fun x hx => ?_⟩
      rcases List.mem_cons.mp hx with rfl | hx
      · omega
      · have := ih.2 x hx; omega
    · exact ⟨ih.1, fun x hx => by have := ih.2 x hx; omega⟩
theorem sr_0 {S : Se} {s : Nat} {P : Ps} {b k : Nat} (hk : k < 10) : sr S s P 0 (10 * b + k) = if k = s ∧ b < eB S ∧ s ≤ eFin S b then (if s = 0 then eBeg S b else P 1 (10 * b + s - 1) + eRide S (s - 1)) else P 0 (10 * b + k) := by
  show (if (10 * b + k) % 10 = s ∧ (10 * b + k) / 10 < eB S ∧ s ≤ eFin S ((10 * b + k) / 10) then _ else _) = _
  rw [show (10 * b + k) % 10 = k by omega, show (10 * b + k) / 10 = b by omega]
  by_cases e : k = s ∧ b < eB S ∧ s ≤ eFin S b
  · rw [if_pos e, if_pos e, e.1]
  · rw [if_neg e, if_neg e]
theorem sr_f {S : Se} {s : Nat} {P : Ps} {f k : Nat} (h : f ≠ 0) (h1 : f ≠ 14) (h2 : f ≠ 15) : sr S s P f k = P f k := by
  unfold sr
  split
  · exact absurd rfl h
  · exact absurd rfl h1
  · exact absurd rfl h2
  · rfl
theorem ordC_mem {S : Se} {s : Nat} {P : Ps} {b : Nat} : b ∈ ordC S s P ↔ b < eB S ∧ s ≤ eFin S b := by
  unfold ordC
  rw [List.mem_reverse, rowR_mem]
  unfold comeW
  rw [decide_eq_true_iff]
/-- without passing, who would come is in the order of numbers -/
theorem ordC_n {S : Se} {X s : Nat} {P : Ps} (hS : SeOk S X) (hs : s < 10) (h : Bd S X s P) (hp : eSet S 3 = 0) : rowR (comeT s (sr S s P)) (comeW S s) (eB S) = rowN (comeW S s) (eB S) := by
  refine rowR_mono _ (fun a b hab hb ha hbw => ?_)
  have ha' : s ≤ eFin S a := of_decide_eq_true ha
  have hb' : s ≤ eFin S b := of_decide_eq_true hbw
  unfold comeT
  have c1 : s = s ∧ a < eB S ∧ s ≤ eFin S a := ⟨rfl, by omega, ha'⟩
  have c2 : s = s ∧ b < eB S ∧ s ≤ eFin S b := ⟨rfl, hb, hb'⟩
  rw [sr_0 hs, sr_0 hs, if_pos c1, if_pos c2]
  by_cases e : s = 0
  · rw [if_pos e, if_pos e]
    exact hS.2.2.2.2.2.2.2.1 a b hab hb
  · rw [if_neg e, if_neg e]
    have := h.2.1 hp e a b hab hb ha' hb'
    rw [show 10 * a + s - 1 = 10 * a + (s - 1) by omega, show 10 * b + s - 1 = 10 * b + (s - 1) by omega]
    omega
theorem Sti_start {S : Se} {X : Nat} (hS : SeOk S X) {s : Nat} (hs : s < 10) {P : Ps} (h : Bd S X s P) : Sti S X s (sr S s P) [] (ordC S s P) := by
  have h0 := h
  obtain ⟨⟨i1, i2⟩, i3, ⟨g1, g2, g3, g4, g5⟩, ⟨g6, g7⟩⟩ := h
  have hgp : ∀ b, gp S s [] b = min s (eFin S b + 1) := fun b => by unfold gp; rw [if_neg List.not_mem_nil]
  have f1 : ∀ k, sr S s P 1 k = P 1 k := fun k => sr_f (by decide) (by decide) (by decide)
  have f6 : ∀ k, sr S s P 6 k = P 6 k := fun k => sr_f (by decide) (by decide) (by decide)
  have f7 : ∀ k, sr S s P 7 k = P 7 k := fun k => sr_f (by decide) (by decide) (by decide)
  have f8 : ∀ k, sr S s P 8 k = P 8 k := fun k => sr_f (by decide) (by decide) (by decide)
  have hz := g7 s (Nat.le_refl _)
  refine ⟨⟨fun b hb => ?_, fun b hb k hk => ?_⟩, ⟨?_, fun b hb => ?_⟩, fun b hb => ?_, ⟨Nat.zero_le _, Nat.zero_le _, fun a ha => absurd ha List.not_mem_nil⟩, ⟨?_, fun b hb => ?_⟩, fun hp => ?_, fun hp => ⟨fun a ha => absurd ha List.not_mem_nil, fun a ha => absurd ha List.not_mem_nil, ?_⟩, ⟨?_, ?_, g3, g4, ?_⟩, ⟨fun k => ?_, fun k hk => ?_⟩⟩
  · have hfin := (hS.2.2.2.2.2.2.1 b hb).2.2.2.2
    rw [hgp]
    refine Bi_congr hfin (by omega) (fun k hk => ?_) (fun k hk => f1 _) (fun k hk => rfl) (fun k hk => rfl) (fun k hk => rfl) (fun k hk => rfl) rfl rfl rfl (i1 b hb)
    rw [sr_0 (by omega), if_neg (by omega)]
  · rw [hgp] at hk
    rw [f1]
    exact i2 b hb k hk
  · rw [List.nil_append]
    unfold ordC
    show List.Pairwise (fun a b => a ≠ b) _
    rw [List.pairwise_reverse]
    exact List.Pairwise.imp (fun h => Ne.symm h) (rowR_nodup _)
  · rw [List.nil_append] at hb
    exact ordC_mem.mp hb
  · have hb' := ordC_mem.mp hb
    rw [sr_0 hs, if_pos ⟨rfl, hb'.1, hb'.2⟩, f1]
  · rw [f6, hz.1]; exact Nat.zero_le _
  · unfold tkOk
    rw [f6, hz.1]
    split
    · rfl
    · exact Nat.zero_le _
  · unfold ordC
    rw [List.pairwise_reverse]
    exact rowR_sorted _
  · unfold ordC
    rw [List.pairwise_reverse, ordC_n hS hs h0 hp]
    exact (rowN_desc _).1
  · exact g1
  · exact g2
  · show P 10 0 ≤ _
    refine Nat.le_trans g5 (fb_sm_le (fun k _ => ?_))
    rw [hgp]
    exact Nat.le_refl _
  · rw [f6, f7, f8]; exact g6 k
  · rw [f6, f7, f8]; exact g7 k (by omega)
theorem Sti_end {S : Se} {X : Nat} {s : Nat} {P P0 : Ps} (h : Sti S X s P (ordC S s P0) []) : Bd S X (s + 1) P := by
  obtain ⟨⟨i1, i2⟩, ⟨i3, i4⟩, i5, ⟨i6, i7, i8⟩, ⟨i9, i10⟩, i11, i12, ⟨g1, g2, g3, g4, g5⟩, ⟨g6, g7⟩⟩ := h
  have hgp : ∀ b, b < eB S → gp S s (ordC S s P0) b = min (s + 1) (eFin S b + 1) := by
    intro b hb
    unfold gp
    by_cases e : s ≤ eFin S b
    · rw [if_pos (ordC_mem.mpr ⟨hb, e⟩)]
      omega
    · rw [if_neg (fun z => e (ordC_mem.mp z).2)]
      omega
  refine ⟨⟨fun b hb => ?_, fun b hb k hk => ?_⟩, fun hp _ a b hab hb ha hb' => ?_, ⟨g1, g2, g3, g4, ?_⟩, ⟨g6, fun k hk => g7 k (by omega)⟩⟩
  · rw [← hgp b hb]; exact i1 b hb
  · rw [← hgp b hb] at hk; exact i2 b hb k hk
  · rw [show s + 1 - 1 = s by omega]
    exact (i12 hp).1 a (ordC_mem.mpr ⟨by omega, by omega⟩) b (ordC_mem.mpr ⟨hb, by omega⟩) hab
  · refine Nat.le_trans g5 (fb_sm_le (fun k _ => ?_))
    by_cases e : k < eB S
    · rw [hgp k e]; exact Nat.le_refl _
    · have hn : k ∉ ordC S s P0 := fun z => e (ordC_mem.mp z).1
      unfold gp
      rw [if_neg hn]
      split
      · exact Nat.zero_le _
      · rw [if_neg (by omega)]; exact Nat.le_refl _
theorem svs_sti {S : Se} {X : Nat} (hS : SeOk S X) {s : Nat} (hs : s < 10) : ∀ (post pre : List Nat) (P : Ps), Sti S X s P pre post → Sti S X s (svs S s post P) (pre ++ post) [] := by
  intro post
  induction post with
  | nil => intro pre P h; rw [List.append_nil]; exact h
  | cons b post ih =>
    intro pre P h
    have h1 := ih (pre ++ [b]) (sv S s b P) (Sti_step hS hs h)
    rw [show pre ++ b :: post = (pre ++ [b]) ++ post by simp]
    exact h1
theorem Bd_step {S : Se} {X : Nat} (hS : SeOk S X) {s : Nat} (hs : s < 10) {P : Ps} (h : Bd S X s P) : Bd S X (s + 1) (stp S s P) := by
  have h1 := svs_sti hS hs (ordC S s P) [] (sr S s P) (Sti_start hS hs h)
  rw [List.nil_append] at h1
  exact Sti_end h1
theorem Bd_ply {S : Se} {X : Nat} (hS : SeOk S X) : ∀ s : Nat, s ≤ 10 → Bd S X s (ply S s) := by
  intro s
  induction s with
  | zero => intro _; exact Bd_0
  | succ s ih => intro h; exact Bd_step hS (by omega) (ih (by omega))
