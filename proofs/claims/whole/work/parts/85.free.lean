def Cl (y : Nat) (σ τ : Sg) : Prop := τ.1 = σ.1 ∧ τ.2.2.2 = σ.2.2.2 ∧ τ.2.2.1 = σ.2.2.1 ∧ (∀ k, (k < y ∨ y + 2 < k) → τ.2.1 k = σ.2.1 k) ∧ (∀ s, s < 10 → τ.2.1 (y + 1) s = 0 ∧ τ.2.1 (y + 2) s = 0) ∧ τ.2.1 y 2 = 0
theorem pc_clear {y n : Nat} {σ : Sg} (hy : Ru y) (h : Hp σ) (hn : 100 ≤ n) : ∃ τ, f_X2_clear n y σ = some τ ∧ Cl y σ τ := by
  have k1 : kd (y + 1) = 6 ∧ ln (y + 1) = 10 := by rcases hy with rfl | rfl <;> decide
  have k2 : kd (y + 2) = 6 ∧ ln (y + 2) = 10 := by rcases hy with rfl | rfl <;> decide
  unfold f_X2_clear
  rw [gRr_0 h hy, ob, pc_fill h k1.1 (by omega) k1.2 (by decide) (by omega), ob]
  have h1 : Hp (sA σ (y + 1) (fun j => if j < 10 then 0 else σ.2.1 (y + 1) j)) := Hp_eq rfl rfl h
  generalize hs1 : sA σ (y + 1) (fun j => if j < 10 then 0 else σ.2.1 (y + 1) j) = σ1 at h1 ⊢
  rw [gRr_1 h1 hy, ob, pc_fill h1 k2.1 (by omega) k2.2 (by decide) (by omega), ob]
  have h2 : Hp (sA σ1 (y + 2) (fun j => if j < 10 then 0 else σ1.2.1 (y + 2) j)) := Hp_eq rfl rfl h1
  rw [pIr_2 h2 hy, ob]
  refine ⟨_, rfl, ?_, ?_, ?_, fun k hk => ?_, fun s hs => ⟨?_, ?_⟩, ?_⟩
  · show σ1.1 = σ.1
    rw [← hs1]; rfl
  · show σ1.2.2.2 = σ.2.2.2
    rw [← hs1]; rfl
  · show σ1.2.2.1 = σ.2.2.1
    rw [← hs1]; rfl
  · rw [rI_ne (by omega), sA_ne (by omega), ← hs1, sA_ne (by omega)]
  · rw [rI_ne (by omega), sA_ne (by omega), ← hs1, sA_eq, if_pos hs]
  · rw [rI_ne (by omega), sA_eq, if_pos hs]
  · rw [rI, if_pos ⟨rfl, rfl⟩]
theorem pm_clear_run : ∀ (m i n : Nat) (σ : Sg), i + m = 10 → m < n → Hp σ → (∀ c, c < i → σ.2.1 56 c = 0 ∧ σ.2.1 57 c = 0) →
    ∃ τ, X5_clearRule_run n 44 (nI i) σ = some τ ∧ τ.1 = σ.1 ∧ τ.2.2.2 = σ.2.2.2 ∧ τ.2.2.1 = σ.2.2.1 ∧ (∀ k, k ≠ 56 → k ≠ 57 → τ.2.1 k = σ.2.1 k) ∧ (∀ c, c < 10 → τ.2.1 56 c = 0 ∧ τ.2.1 57 c = 0) := by
  intro m
  induction m with
  | zero =>
    intro i n σ hi hn h hc
    obtain ⟨n, rfl⟩ : ∃ q, n = q + 1 := ⟨n - 1, by omega⟩
    have e : i = 10 := by omega
    subst e
    show ∃ τ, X5_clearRule_b7 n (X5_clearRule_run n) 44 (nI 10) σ = _ ∧ _
    unfold X5_clearRule_b7
    rw [if_pos (show (10 : Int32) ≤ nI 10 by decide)]
    exact ⟨σ, rfl, rfl, rfl, rfl, fun _ _ _ => rfl, hc⟩
  | succ m ih =>
    intro i n σ hi hn h hc
    obtain ⟨n, rfl⟩ : ∃ q, n = q + 1 := ⟨n - 1, by omega⟩
    show ∃ τ, X5_clearRule_b7 n (X5_clearRule_run n) 44 (nI i) σ = _ ∧ _
    unfold X5_clearRule_b7
    have i10 : i < 10 := by omega
    have h1 : Hp (sI σ 56 i 0) := h
    rw [if_neg (show ¬ (10 : Int32) ≤ nI i from nI_ge (b := 10) (by omega) (by decide)), gR_5_44_15 h, ob, xI_56 h i10, ob, gR_5_44_16 h1, ob, xI_57 h1 i10, ob, nI_1, ob]
    obtain ⟨τ, t1, t2, t3, t4, t5, t6⟩ := ih (i + 1) n (sI (sI σ 56 i 0) 57 i 0) (by omega) (by omega) h (fun c hc2 => by
      simp only [rI]
      by_cases e : c = i
      · subst e
        simp
      · have := hc c (by omega)
        simp [e, this])
    exact ⟨τ, t1, t2, t3, t4, fun k k1 k2 => by rw [t5 k k1 k2, rI_ne k2, rI_ne k1], t6⟩
theorem pm_clear {n : Nat} {σ : Sg} (h : Hp σ) (hn : 20 ≤ n) : ∃ τ, f_X5_clearRule n 44 σ = some τ ∧ τ.1 = σ.1 ∧ τ.2.2.2 = σ.2.2.2 ∧ τ.2.2.1 = σ.2.2.1 ∧ (∀ k, k ≠ 44 → k ≠ 56 → k ≠ 57 → τ.2.1 k = σ.2.1 k) ∧ (∀ j, j ≠ 14 → τ.2.1 44 j = σ.2.1 44 j) ∧ τ.2.1 44 14 = 0 ∧ (∀ c, c < 10 → τ.2.1 56 c = 0 ∧ τ.2.1 57 c = 0) := by
  unfold f_X5_clearRule X5_clearRule_b0
  rw [pI_5_44_14 h, ob]
  have h1 : Hp (sI σ 44 14 0) := h
  obtain ⟨τ, t1, t2, t3, t4, t5, t6⟩ := pm_clear_run 10 0 n (sI σ 44 14 0) rfl (by omega) h1 (fun c hc => by omega)
  refine ⟨τ, t1, t2, t3, t4, fun k k1 k2 k3 => by rw [t5 k k2 k3, rI_ne k1], fun j hj => by rw [t5 44 (by decide) (by decide), rI, if_neg (fun z => hj z.2)], by rw [t5 44 (by decide) (by decide), rI, if_pos ⟨rfl, rfl⟩], t6⟩
def z0 : Nat → Nat := fun _ => 0
section
variable {W : Wd}
theorem Ok_rule {h y : Nat → Nat} {m c : Nat} {t : Nat → Nat} (hW : Ok W) (hr : ∀ s, s < 10 → h s ≤ 2 ∧ y s ≤ 999) (hm : m ≤ 40 ∧ ∀ i, i < m → 33 ≤ t i ∧ t i ≤ 126) (hc : c ≤ 10) : Ok (wR W.1 h y, W.2.1, (m, t, c)) := by
  obtain ⟨⟨o1, o2, o3, o4, o5, o6, o7, o8, o9, o10, o11, o12⟩, p2, p3, p4, p5⟩ := hW
  refine ⟨⟨o1, o2, o3, o4, o5, o6, o7, o8, o9, o10, fun s hs => ?_, o12⟩, p2, hm, hr, hc⟩
  have := hr s hs
  show (h s = 1 → 10 * y s ≤ 9990) ∧ (h s = 2 → y s ≤ 9990)
  exact ⟨fun _ => by omega, fun _ => by omega⟩
theorem z_free (hW : Ok W) {n : Nat} (hn : 100 ≤ n) : Pz (f_X4_free n 0) (f_X5_free n 44) W := by
  refine ⟨(wR W.1 z0 z0, W.2.1, (W.2.2.1, W.2.2.2.1, 0)), nI W.2.2.2.2, Ok_rule hW (fun s _ => ⟨Nat.zero_le _, Nat.zero_le _⟩) hW.2.2.1 (by decide), fun σ h hI => ?_, fun σ h hI => ?_⟩
  · have h1 : Hp (sI (sI σ 0 6 0) 0 7 0) := h
    have hr : rp σ = 38 ∨ rp σ = 41 := rp_Ru h
    have er : rp (sI (sI σ 0 6 0) 0 7 0) = rp σ := rfl
    obtain ⟨τ, t1, t2, t3, t4, t5, t6, t7⟩ := pc_clear (n := n) (rp_Ru h) h1 hn
    have q : ∀ k, k ≠ 0 → (k < rp σ ∨ rp σ + 2 < k) → τ.2.1 k = σ.2.1 k := fun k k1 k2 => by rw [t5 k k2, clrk k1]
    refine ⟨τ, ?_, Hp_eq t2 t3 h1, ?_, fun k hk => q k (by omega) (by omega)⟩
    · unfold f_X4_free
      rw [ck_0 h, ob, forget h, ob, gR_4_0_4 h1, ob, er, gIr_2 h1 (rp_Ru h), ob, clrk (by omega), hI.2.2.2.2.1, ob, ckr h1 (rp_Ru h), ob, t1, ob]
    · have er2 : rp τ = rp σ := rp_of t3
      refine ⟨?_, ?_, ?_, ?_, ?_, ?_, ?_⟩
      · unfold CLine
        rw [q 1 (by decide) (by omega), q 2 (by decide) (by omega), q 3 (by decide) (by omega), q 4 (by decide) (by omega), q 5 (by decide) (by omega), q 6 (by decide) (by omega), q 7 (by decide) (by omega), q 8 (by decide) (by omega)]
        exact hI.1
      · intro s hs
        rw [er2, (t6 s hs).1, (t6 s hs).2]
        exact ⟨Nat.zero_le _, Nat.zero_le _, rfl, rfl⟩
      · unfold CLate
        rw [q 1 (by decide) (by omega), q 9 (by decide) (by omega), q 10 (by decide) (by omega), q 11 (by decide) (by omega)]
        exact hI.2.2.1
      · unfold CSig
        rw [q 12 (by decide) (by omega), q 13 (by decide) (by omega)]
        exact hI.2.2.2.1
      · rw [er2, t7]; rfl
      · intro z
        rw [t5 0 (by omega)] at z
        exact absurd clr6 z
      · intro z
        rw [t5 0 (by omega)] at z
        exact absurd clr7 z
  · obtain ⟨τ, t1, t2, t3, t4, t5, t6, t7, t8⟩ := pm_clear (n := n) h (by omega)
    refine ⟨τ, ?_, Hp_eq t2 t3 h, ⟨?_, ?_, ?_, ?_, ?_⟩, fun k hk => t5 k (by omega) (by omega) (by omega), t4, t3⟩
    · unfold f_X5_free
      rw [gI_5_44_14 h, ob, hI.2.2.2.2, ck_44 h, ob, t1, ob]
    · unfold MLine
      rw [t6 3 (by decide), t5 45 (by decide) (by decide) (by decide), t5 46 (by decide) (by decide) (by decide), t5 47 (by decide) (by decide) (by decide), t5 48 (by decide) (by decide) (by decide), t5 49 (by decide) (by decide) (by decide), t5 50 (by decide) (by decide) (by decide), t5 51 (by decide) (by decide) (by decide)]
      exact hI.1
    · intro s hs
      exact t8 s hs
    · unfold MLt
      rw [t6 8 (by decide), t5 52 (by decide) (by decide) (by decide), t5 53 (by decide) (by decide) (by decide), t5 54 (by decide) (by decide) (by decide)]
      exact hI.2.2.1
    · unfold MSig
      rw [t6 12 (by decide), t5 55 (by decide) (by decide) (by decide)]
      exact hI.2.2.2.1
    · rw [t7]; rfl
end
