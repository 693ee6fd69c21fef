/-! THE START: what the constructors leave -/
noncomputable def ini (n : Nat) : Option (Nat × Sg) := (nO 4 sg0).bind fun w => (f_X4_init n w.1 w.2).bind fun w2 => (nO 5 w2).bind fun w3 => (f_X5_init n w3.1 w3.2).bind fun w4 => some (w3.1, w4)
def set0 (k : Nat) : Nat := ([8, 2, 1, 0, 30] : List Nat).getD k 0
abbrev iniH (τ : Sg) : Prop := τ.1 = 73 ∧ (∀ k, k < 73 → ∀ j, j < 37 → (k ≠ 0 ∨ (j ≠ 4 ∧ j ≠ 5)) → τ.2.2.2 k j = rT k j) ∧ (τ.2.2.2 0 4 = some 38 ∧ τ.2.2.2 0 5 = some 41)
abbrev iniL (τ : Sg) : Prop := τ.2.1 1 7 = nI 0 ∧ (∀ j, j < 9 → τ.2.1 2 j = nI 120) ∧ (∀ j, j < 10 → τ.2.1 3 j = nI 0) ∧ (∀ j, j < 9 → τ.2.1 4 j = nI 3) ∧ (∀ j, j < 5 → τ.2.1 5 j = nI (set0 j)) ∧
  (∀ s, s < 10 → τ.2.1 39 s = 0 ∧ τ.2.1 40 s = 0) ∧ τ.2.1 1 11 = nI 0 ∧ τ.2.1 12 1 = nI 0 ∧ τ.2.1 38 2 = nI 0 ∧ τ.2.1 0 6 = 0 ∧ τ.2.1 0 7 = 0
abbrev iniM (τ : Sg) : Prop := τ.2.1 44 3 = nI 0 ∧ (∀ j, j < 9 → τ.2.1 45 j = nI 120) ∧ (∀ j, j < 9 → τ.2.1 46 j = nI 0) ∧ (∀ j, j < 9 → τ.2.1 47 j = nI 3) ∧ (∀ j, j < 5 → τ.2.1 51 j = nI (set0 j)) ∧
  (∀ s, s < 10 → τ.2.1 56 s = nI 0 ∧ τ.2.1 57 s = nI 0) ∧ τ.2.1 44 8 = nI 0 ∧ τ.2.1 44 12 = nI 0 ∧ τ.2.1 44 14 = nI 0
def iniC (o : Option (Nat × Sg)) : Bool := match o with
  | none => false
  | some (a, τ) => decide (a = 44) && (decide (iniH τ) && (decide (iniL τ) && decide (iniM τ)))
theorem ini_ok : iniC (ini 3600) = true := by decide +kernel
def W0 : Wd := (((0, fun _ => 120, fun _ => 0, fun _ => 3), set0, (z0, z0, z0), (fun _ _ => 0), (z0, z0)), (0, z0, z0, z0), (0, z0, 0))
theorem W0_ok : Ok W0 := by
  refine ⟨⟨by decide, fun s _ => ⟨show 10 ≤ 120 by decide, show 120 ≤ 900 by decide⟩, fun s => Nat.zero_le _, rfl, fun s _ => ⟨show 1 ≤ 3 by decide, show 3 ≤ 9 by decide⟩, by decide, fun b hb => absurd hb (Nat.not_lt_zero _), fun a b _ hb => absurd hb (Nat.not_lt_zero _), fun s => ?_, fun b => rfl, fun s _ => ⟨fun z => absurd z (show ¬ 0 = 1 by decide), fun z => absurd z (show ¬ 0 = 2 by decide)⟩, by decide⟩, ⟨Nat.zero_le _, fun i hi => absurd hi (Nat.not_lt_zero _)⟩, ⟨Nat.zero_le _, fun i hi => absurd hi (Nat.not_lt_zero _)⟩, fun s _ => ⟨Nat.zero_le _, Nat.zero_le _⟩, Nat.zero_le _⟩
  show fb_sm (fun _ => 0) 8 ≤ 9900
  rw [fb_sm_const]
  decide
theorem start_st : ∃ n τ, 3600 ≤ n ∧ ini n = some (44, τ) ∧ Hp τ ∧ InvC τ W0 ∧ InvM τ W0 := by
  obtain ⟨n, hn, h⟩ : ∃ n, 3600 ≤ n ∧ iniC (ini n) = true := ⟨3600, Nat.le_refl _, ini_ok⟩
  cases e : ini n with
  | none => rw [e] at h; exact absurd h (by decide)
  | some w =>
    obtain ⟨a, τ⟩ := w
    rw [e] at h
    have h' : (decide (a = 44) && (decide (iniH τ) && (decide (iniL τ) && decide (iniM τ)))) = true := h
    rw [Bool.and_eq_true, Bool.and_eq_true, Bool.and_eq_true, decide_eq_true_eq, decide_eq_true_eq, decide_eq_true_eq, decide_eq_true_eq] at h'
    obtain ⟨h0, ⟨h1, h2, h3⟩, ⟨l1, l2, l3, l4, l5, l6, l7, l8, l9, l10, l11⟩, ⟨m1, m2, m3, m4, m5, m6, m7, m8, m9⟩⟩ := h'
    subst h0
    have er : rp τ = 38 := by unfold rp; rw [h3.1]; rfl
    refine ⟨n, τ, hn, e, ⟨h1, h2, Or.inl h3⟩, ⟨⟨l1, l2, l3, l4, l5, fun b hb => absurd hb (Nat.not_lt_zero _)⟩, ?_, ⟨l7, fun i hi => absurd hi (Nat.not_lt_zero _)⟩, ⟨l8, fun i hi => absurd hi (Nat.not_lt_zero _)⟩, ?_, fun z => absurd l10 z, fun z => absurd l11 z⟩, ⟨⟨m1, m2, m3, m4, m5, fun b hb => absurd hb (Nat.not_lt_zero _)⟩, m6, ⟨m7, fun i hi => absurd hi (Nat.not_lt_zero _)⟩, ⟨m8, fun i hi => absurd hi (Nat.not_lt_zero _)⟩, m9⟩⟩
    · rw [er]
      intro s hs
      exact ⟨Nat.zero_le _, Nat.zero_le _, (l6 s hs).1, (l6 s hs).2⟩
    · rw [er]
      exact l9
