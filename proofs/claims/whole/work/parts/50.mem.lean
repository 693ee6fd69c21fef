/-! the references, as the constructors leave them; only rule and spare of the class change places -/
def rL : List (List (Option Nat)) := [[some 1, some 12, some 14, some 26], [some 2, some 3, some 4, some 5, some 6, some 7, some 8, none, some 9, some 10, some 11], [], [], [], [], [], [], [], [], [], [], [some 13], [], [some 15, some 16, some 17, some 18, some 19, some 20, some 21, some 22, some 23, some 24, none, none, some 25], [], [], [], [], [], [], [], [], [], [], [], [some 27, some 28, some 29, some 30, some 31, some 32, some 33, some 34, some 35, some 36, none, none, some 37], [], [], [], [], [], [], [], [], [], [], [], [some 39, some 40], [], [], [some 42, some 43], [], [], [some 45, some 46, some 47, none, some 48, some 49, some 50, some 51, none, some 52, some 53, some 54, none, some 55, none, some 56, some 57, some 58, some 59, some 60, some 61, some 62, some 63, some 64, some 65, some 66, some 67, some 68, some 69, none, none, none, none, some 70, none, some 71, some 72], [], [], [], [], [], [], [], [], [], [], [], [], [], [], [], [], [], [], [], [], [], [], [], [], [], [], [], []]
def rT (k j : Nat) : Option Nat := (rL.getD k []).getD j none
def Hp (σ : Sg) : Prop := σ.1 = 73 ∧ (∀ k, k < 73 → ∀ j, j < 37 → (k ≠ 0 ∨ (j ≠ 4 ∧ j ≠ 5)) → σ.2.2.2 k j = rT k j) ∧ ((σ.2.2.2 0 4 = some 38 ∧ σ.2.2.2 0 5 = some 41) ∨ (σ.2.2.2 0 4 = some 41 ∧ σ.2.2.2 0 5 = some 38))
def rp (σ : Sg) : Nat := (σ.2.2.2 0 4).getD 38
def sp (σ : Sg) : Nat := (σ.2.2.2 0 5).getD 41
abbrev Cr (x : Nat) : Prop := x = 14 ∨ x = 26
abbrev Ru (x : Nat) : Prop := x = 38 ∨ x = 41
theorem Hp_sI {σ : Sg} {k j : Nat} {v : Int32} : Hp (sI σ k j v) = Hp σ := rfl
theorem Hp_sJ {σ : Sg} {k j : Nat} {v : Int64} : Hp (sJ σ k j v) = Hp σ := rfl
theorem rp_sI {σ : Sg} {k j : Nat} {v : Int32} : rp (sI σ k j v) = rp σ := rfl
theorem rp_sJ {σ : Sg} {k j : Nat} {v : Int64} : rp (sJ σ k j v) = rp σ := rfl
theorem sp_sI {σ : Sg} {k j : Nat} {v : Int32} : sp (sI σ k j v) = sp σ := rfl
theorem sp_sJ {σ : Sg} {k j : Nat} {v : Int64} : sp (sJ σ k j v) = sp σ := rfl
theorem rI_eq {σ : Sg} {k j : Nat} {v : Int32} : (sI σ k j v).2.1 k = upd (σ.2.1 k) j v := va_up_self _ _ _
theorem rI_ne {σ : Sg} {k j q : Nat} {v : Int32} (h : q ≠ k) : (sI σ k j v).2.1 q = σ.2.1 q := va_up_ne _ _ h
theorem rI_J {σ : Sg} {k j : Nat} {v : Int64} : (sJ σ k j v).2.1 = σ.2.1 := rfl
theorem rJ_eq {σ : Sg} {k j : Nat} {v : Int64} : (sJ σ k j v).2.2.1 k = vp_updL (σ.2.2.1 k) j v := va_up_self _ _ _
theorem rJ_ne {σ : Sg} {k j q : Nat} {v : Int64} (h : q ≠ k) : (sJ σ k j v).2.2.1 q = σ.2.2.1 q := va_up_ne _ _ h
theorem rJ_I {σ : Sg} {k j : Nat} {v : Int32} : (sI σ k j v).2.2.1 = σ.2.2.1 := rfl
theorem ob {α β : Type} (a : α) (f : α → Option β) : (some a).bind f = f a := rfl
theorem rp_or {σ : Sg} (h : Hp σ) : (rp σ = 38 ∧ sp σ = 41) ∨ (rp σ = 41 ∧ sp σ = 38) := by
  rcases h.2.2 with ⟨h1, h2⟩ | ⟨h1, h2⟩
  · exact Or.inl ⟨by unfold rp; rw [h1]; rfl, by unfold sp; rw [h2]; rfl⟩
  · exact Or.inr ⟨by unfold rp; rw [h1]; rfl, by unfold sp; rw [h2]; rfl⟩
theorem rp_Ru {σ : Sg} (h : Hp σ) : Ru (rp σ) := by rcases rp_or h with h | h <;> simp [Ru, h.1]
theorem sp_Ru {σ : Sg} (h : Hp σ) : Ru (sp σ) := by rcases rp_or h with h | h <;> simp [Ru, h.2]
section
variable {σ : Sg}
theorem gR_g (h : Hp σ) {ci k j q : Nat} (h1 : kd k = ci) (h2 : k < 73) (h3 : j < 37) (h4 : k ≠ 0 ∨ (j ≠ 4 ∧ j ≠ 5)) (h5 : rT k j = some q) : gR ci k j σ = some q := by
  unfold gR
  rw [if_pos ⟨h1, by rw [h.1]; exact h2⟩, h.2.1 k h2 j h3 h4, h5]
theorem gI_g (h : Hp σ) {ci k j : Nat} (h1 : kd k = ci) (h2 : k < 73) : gI ci k j σ = some (σ.2.1 k j) := by
  unfold gI; rw [if_pos ⟨h1, by rw [h.1]; exact h2⟩]
theorem gJ_g (h : Hp σ) {ci k j : Nat} (h1 : kd k = ci) (h2 : k < 73) : gJ ci k j σ = some (σ.2.2.1 k j) := by
  unfold gJ; rw [if_pos ⟨h1, by rw [h.1]; exact h2⟩]
theorem pI_g (h : Hp σ) {ci k j : Nat} {v : Int32} (h1 : kd k = ci) (h2 : k < 73) : pI ci k j v σ = some (sI σ k j v) := by
  unfold pI; rw [if_pos ⟨h1, by rw [h.1]; exact h2⟩]
theorem pJ_g (h : Hp σ) {ci k j : Nat} {v : Int64} (h1 : kd k = ci) (h2 : k < 73) : pJ ci k j v σ = some (sJ σ k j v) := by
  unfold pJ; rw [if_pos ⟨h1, by rw [h.1]; exact h2⟩]
theorem ck_g (h : Hp σ) {ci k : Nat} (h1 : kd k = ci) (h2 : k < 73) : ck ci k σ = some () := by
  unfold ck; rw [if_pos ⟨h1, by rw [h.1]; exact h2⟩]
theorem aI_g (h : Hp σ) {k j N : Nat} (h1 : kd k = 6) (h2 : k < 73) (h3 : ln k = N) (hN : N < 100) (h4 : j < N) : aI k (nI j) σ = some (σ.2.1 k j) := by
  unfold aI
  rw [if_pos ⟨h1, by rw [h.1]; exact h2, by rw [h3]; exact nI_in h4 (by omega)⟩, nI_clamp (by omega)]
theorem xI_g (h : Hp σ) {k j N : Nat} {v : Int32} (h1 : kd k = 6) (h2 : k < 73) (h3 : ln k = N) (hN : N < 100) (h4 : j < N) : xI k (nI j) v σ = some (sI σ k j v) := by
  unfold xI
  rw [if_pos ⟨h1, by rw [h.1]; exact h2, by rw [h3]; exact nI_in h4 (by omega)⟩, nI_clamp (by omega)]
theorem aJ_g (h : Hp σ) {k j N : Nat} (h1 : kd k = 7) (h2 : k < 73) (h3 : ln k = N) (hN : N < 100) (h4 : j < N) : aJ k (nI j) σ = some (σ.2.2.1 k j) := by
  unfold aJ
  rw [if_pos ⟨h1, by rw [h.1]; exact h2, by rw [h3]; exact nI_in h4 (by omega)⟩, nI_clamp (by omega)]
theorem xJ_g (h : Hp σ) {k j N : Nat} {v : Int64} (h1 : kd k = 7) (h2 : k < 73) (h3 : ln k = N) (hN : N < 100) (h4 : j < N) : xJ k (nI j) v σ = some (sJ σ k j v) := by
  unfold xJ
  rw [if_pos ⟨h1, by rw [h.1]; exact h2, by rw [h3]; exact nI_in h4 (by omega)⟩, nI_clamp (by omega)]
theorem al_g (h : Hp σ) {k : Nat} (h1 : kd k = 6 ∨ kd k = 7) (h2 : k < 73) : al k σ = some (nI (ln k)) := by
  unfold al; rw [if_pos ⟨h1, by rw [h.1]; exact h2⟩]; rfl
theorem gR_4_0_4 (h : Hp σ) : gR 4 0 4 σ = some (rp σ) := by
  unfold gR rp
  rw [if_pos ⟨rfl, by rw [h.1]; decide⟩]
  rcases h.2.2 with ⟨h1, h2⟩ | ⟨h1, h2⟩ <;> rw [h1] <;> rfl
theorem gR_4_0_5 (h : Hp σ) : gR 4 0 5 σ = some (sp σ) := by
  unfold gR sp
  rw [if_pos ⟨rfl, by rw [h.1]; decide⟩]
  rcases h.2.2 with ⟨h1, h2⟩ | ⟨h1, h2⟩ <;> rw [h2] <;> rfl
theorem gR_4_0_0 (h : Hp σ) : gR 4 0 0 σ = some 1 := gR_g h (by decide) (by decide) (by decide) (by decide) (by decide)
theorem gR_4_0_1 (h : Hp σ) : gR 4 0 1 σ = some 12 := gR_g h (by decide) (by decide) (by decide) (by decide) (by decide)
theorem gR_4_0_2 (h : Hp σ) : gR 4 0 2 σ = some 14 := gR_g h (by decide) (by decide) (by decide) (by decide) (by decide)
theorem gR_4_0_3 (h : Hp σ) : gR 4 0 3 σ = some 26 := gR_g h (by decide) (by decide) (by decide) (by decide) (by decide)
theorem gI_4_0_6 (h : Hp σ) : gI 4 0 6 σ = some (σ.2.1 0 6) := gI_g h (by decide) (by decide)
theorem pI_4_0_6 {v : Int32} (h : Hp σ) : pI 4 0 6 v σ = some (sI σ 0 6 v) := pI_g h (by decide) (by decide)
theorem gI_4_0_7 (h : Hp σ) : gI 4 0 7 σ = some (σ.2.1 0 7) := gI_g h (by decide) (by decide)
theorem pI_4_0_7 {v : Int32} (h : Hp σ) : pI 4 0 7 v σ = some (sI σ 0 7 v) := pI_g h (by decide) (by decide)
theorem gI_4_0_8 (h : Hp σ) : gI 4 0 8 σ = some (σ.2.1 0 8) := gI_g h (by decide) (by decide)
theorem pI_4_0_8 {v : Int32} (h : Hp σ) : pI 4 0 8 v σ = some (sI σ 0 8 v) := pI_g h (by decide) (by decide)
theorem gI_4_0_9 (h : Hp σ) : gI 4 0 9 σ = some (σ.2.1 0 9) := gI_g h (by decide) (by decide)
theorem pI_4_0_9 {v : Int32} (h : Hp σ) : pI 4 0 9 v σ = some (sI σ 0 9 v) := pI_g h (by decide) (by decide)
theorem ck_0 (h : Hp σ) : ck 4 0 σ = some () := ck_g h (by decide) (by decide)
theorem gR_1_1_0 (h : Hp σ) : gR 1 1 0 σ = some 2 := gR_g h (by decide) (by decide) (by decide) (by decide) (by decide)
theorem gR_1_1_1 (h : Hp σ) : gR 1 1 1 σ = some 3 := gR_g h (by decide) (by decide) (by decide) (by decide) (by decide)
theorem gR_1_1_2 (h : Hp σ) : gR 1 1 2 σ = some 4 := gR_g h (by decide) (by decide) (by decide) (by decide) (by decide)
theorem gR_1_1_3 (h : Hp σ) : gR 1 1 3 σ = some 5 := gR_g h (by decide) (by decide) (by decide) (by decide) (by decide)
theorem gR_1_1_4 (h : Hp σ) : gR 1 1 4 σ = some 6 := gR_g h (by decide) (by decide) (by decide) (by decide) (by decide)
theorem gR_1_1_5 (h : Hp σ) : gR 1 1 5 σ = some 7 := gR_g h (by decide) (by decide) (by decide) (by decide) (by decide)
theorem gR_1_1_6 (h : Hp σ) : gR 1 1 6 σ = some 8 := gR_g h (by decide) (by decide) (by decide) (by decide) (by decide)
theorem gR_1_1_8 (h : Hp σ) : gR 1 1 8 σ = some 9 := gR_g h (by decide) (by decide) (by decide) (by decide) (by decide)
theorem gR_1_1_9 (h : Hp σ) : gR 1 1 9 σ = some 10 := gR_g h (by decide) (by decide) (by decide) (by decide) (by decide)
theorem gR_1_1_10 (h : Hp σ) : gR 1 1 10 σ = some 11 := gR_g h (by decide) (by decide) (by decide) (by decide) (by decide)
theorem gI_1_1_7 (h : Hp σ) : gI 1 1 7 σ = some (σ.2.1 1 7) := gI_g h (by decide) (by decide)
theorem pI_1_1_7 {v : Int32} (h : Hp σ) : pI 1 1 7 v σ = some (sI σ 1 7 v) := pI_g h (by decide) (by decide)
theorem gI_1_1_11 (h : Hp σ) : gI 1 1 11 σ = some (σ.2.1 1 11) := gI_g h (by decide) (by decide)
theorem pI_1_1_11 {v : Int32} (h : Hp σ) : pI 1 1 11 v σ = some (sI σ 1 11 v) := pI_g h (by decide) (by decide)
theorem ck_1 (h : Hp σ) : ck 1 1 σ = some () := ck_g h (by decide) (by decide)
theorem gR_3_12_0 (h : Hp σ) : gR 3 12 0 σ = some 13 := gR_g h (by decide) (by decide) (by decide) (by decide) (by decide)
theorem gI_3_12_1 (h : Hp σ) : gI 3 12 1 σ = some (σ.2.1 12 1) := gI_g h (by decide) (by decide)
theorem pI_3_12_1 {v : Int32} (h : Hp σ) : pI 3 12 1 v σ = some (sI σ 12 1 v) := pI_g h (by decide) (by decide)
theorem gI_3_12_2 (h : Hp σ) : gI 3 12 2 σ = some (σ.2.1 12 2) := gI_g h (by decide) (by decide)
theorem pI_3_12_2 {v : Int32} (h : Hp σ) : pI 3 12 2 v σ = some (sI σ 12 2 v) := pI_g h (by decide) (by decide)
theorem gI_3_12_3 (h : Hp σ) : gI 3 12 3 σ = some (σ.2.1 12 3) := gI_g h (by decide) (by decide)
theorem pI_3_12_3 {v : Int32} (h : Hp σ) : pI 3 12 3 v σ = some (sI σ 12 3 v) := pI_g h (by decide) (by decide)
theorem ck_12 (h : Hp σ) : ck 3 12 σ = some () := ck_g h (by decide) (by decide)
theorem gR_5_44_0 (h : Hp σ) : gR 5 44 0 σ = some 45 := gR_g h (by decide) (by decide) (by decide) (by decide) (by decide)
theorem gR_5_44_1 (h : Hp σ) : gR 5 44 1 σ = some 46 := gR_g h (by decide) (by decide) (by decide) (by decide) (by decide)
theorem gR_5_44_2 (h : Hp σ) : gR 5 44 2 σ = some 47 := gR_g h (by decide) (by decide) (by decide) (by decide) (by decide)
theorem gR_5_44_4 (h : Hp σ) : gR 5 44 4 σ = some 48 := gR_g h (by decide) (by decide) (by decide) (by decide) (by decide)
theorem gR_5_44_5 (h : Hp σ) : gR 5 44 5 σ = some 49 := gR_g h (by decide) (by decide) (by decide) (by decide) (by decide)
theorem gR_5_44_6 (h : Hp σ) : gR 5 44 6 σ = some 50 := gR_g h (by decide) (by decide) (by decide) (by decide) (by decide)
theorem gR_5_44_7 (h : Hp σ) : gR 5 44 7 σ = some 51 := gR_g h (by decide) (by decide) (by decide) (by decide) (by decide)
theorem gR_5_44_9 (h : Hp σ) : gR 5 44 9 σ = some 52 := gR_g h (by decide) (by decide) (by decide) (by decide) (by decide)
theorem gR_5_44_10 (h : Hp σ) : gR 5 44 10 σ = some 53 := gR_g h (by decide) (by decide) (by decide) (by decide) (by decide)
theorem gR_5_44_11 (h : Hp σ) : gR 5 44 11 σ = some 54 := gR_g h (by decide) (by decide) (by decide) (by decide) (by decide)
theorem gR_5_44_13 (h : Hp σ) : gR 5 44 13 σ = some 55 := gR_g h (by decide) (by decide) (by decide) (by decide) (by decide)
theorem gR_5_44_15 (h : Hp σ) : gR 5 44 15 σ = some 56 := gR_g h (by decide) (by decide) (by decide) (by decide) (by decide)
theorem gR_5_44_16 (h : Hp σ) : gR 5 44 16 σ = some 57 := gR_g h (by decide) (by decide) (by decide) (by decide) (by decide)
theorem gR_5_44_17 (h : Hp σ) : gR 5 44 17 σ = some 58 := gR_g h (by decide) (by decide) (by decide) (by decide) (by decide)
theorem gR_5_44_18 (h : Hp σ) : gR 5 44 18 σ = some 59 := gR_g h (by decide) (by decide) (by decide) (by decide) (by decide)
theorem gR_5_44_19 (h : Hp σ) : gR 5 44 19 σ = some 60 := gR_g h (by decide) (by decide) (by decide) (by decide) (by decide)
theorem gR_5_44_20 (h : Hp σ) : gR 5 44 20 σ = some 61 := gR_g h (by decide) (by decide) (by decide) (by decide) (by decide)
theorem gR_5_44_21 (h : Hp σ) : gR 5 44 21 σ = some 62 := gR_g h (by decide) (by decide) (by decide) (by decide) (by decide)
theorem gR_5_44_22 (h : Hp σ) : gR 5 44 22 σ = some 63 := gR_g h (by decide) (by decide) (by decide) (by decide) (by decide)
theorem gR_5_44_23 (h : Hp σ) : gR 5 44 23 σ = some 64 := gR_g h (by decide) (by decide) (by decide) (by decide) (by decide)
theorem gR_5_44_24 (h : Hp σ) : gR 5 44 24 σ = some 65 := gR_g h (by decide) (by decide) (by decide) (by decide) (by decide)
theorem gR_5_44_25 (h : Hp σ) : gR 5 44 25 σ = some 66 := gR_g h (by decide) (by decide) (by decide) (by decide) (by decide)
theorem gR_5_44_26 (h : Hp σ) : gR 5 44 26 σ = some 67 := gR_g h (by decide) (by decide) (by decide) (by decide) (by decide)
theorem gR_5_44_27 (h : Hp σ) : gR 5 44 27 σ = some 68 := gR_g h (by decide) (by decide) (by decide) (by decide) (by decide)
theorem gR_5_44_28 (h : Hp σ) : gR 5 44 28 σ = some 69 := gR_g h (by decide) (by decide) (by decide) (by decide) (by decide)
theorem gR_5_44_33 (h : Hp σ) : gR 5 44 33 σ = some 70 := gR_g h (by decide) (by decide) (by decide) (by decide) (by decide)
theorem gR_5_44_35 (h : Hp σ) : gR 5 44 35 σ = some 71 := gR_g h (by decide) (by decide) (by decide) (by decide) (by decide)
theorem gR_5_44_36 (h : Hp σ) : gR 5 44 36 σ = some 72 := gR_g h (by decide) (by decide) (by decide) (by decide) (by decide)
theorem gI_5_44_3 (h : Hp σ) : gI 5 44 3 σ = some (σ.2.1 44 3) := gI_g h (by decide) (by decide)
theorem pI_5_44_3 {v : Int32} (h : Hp σ) : pI 5 44 3 v σ = some (sI σ 44 3 v) := pI_g h (by decide) (by decide)
theorem gI_5_44_8 (h : Hp σ) : gI 5 44 8 σ = some (σ.2.1 44 8) := gI_g h (by decide) (by decide)
theorem pI_5_44_8 {v : Int32} (h : Hp σ) : pI 5 44 8 v σ = some (sI σ 44 8 v) := pI_g h (by decide) (by decide)
theorem gI_5_44_12 (h : Hp σ) : gI 5 44 12 σ = some (σ.2.1 44 12) := gI_g h (by decide) (by decide)
theorem pI_5_44_12 {v : Int32} (h : Hp σ) : pI 5 44 12 v σ = some (sI σ 44 12 v) := pI_g h (by decide) (by decide)
theorem gI_5_44_14 (h : Hp σ) : gI 5 44 14 σ = some (σ.2.1 44 14) := gI_g h (by decide) (by decide)
theorem pI_5_44_14 {v : Int32} (h : Hp σ) : pI 5 44 14 v σ = some (sI σ 44 14 v) := pI_g h (by decide) (by decide)
theorem gI_5_44_29 (h : Hp σ) : gI 5 44 29 σ = some (σ.2.1 44 29) := gI_g h (by decide) (by decide)
theorem pI_5_44_29 {v : Int32} (h : Hp σ) : pI 5 44 29 v σ = some (sI σ 44 29 v) := pI_g h (by decide) (by decide)
theorem gI_5_44_30 (h : Hp σ) : gI 5 44 30 σ = some (σ.2.1 44 30) := gI_g h (by decide) (by decide)
theorem pI_5_44_30 {v : Int32} (h : Hp σ) : pI 5 44 30 v σ = some (sI σ 44 30 v) := pI_g h (by decide) (by decide)
theorem gI_5_44_31 (h : Hp σ) : gI 5 44 31 σ = some (σ.2.1 44 31) := gI_g h (by decide) (by decide)
theorem pI_5_44_31 {v : Int32} (h : Hp σ) : pI 5 44 31 v σ = some (sI σ 44 31 v) := pI_g h (by decide) (by decide)
theorem gI_5_44_32 (h : Hp σ) : gI 5 44 32 σ = some (σ.2.1 44 32) := gI_g h (by decide) (by decide)
theorem pI_5_44_32 {v : Int32} (h : Hp σ) : pI 5 44 32 v σ = some (sI σ 44 32 v) := pI_g h (by decide) (by decide)
theorem gI_5_44_34 (h : Hp σ) : gI 5 44 34 σ = some (σ.2.1 44 34) := gI_g h (by decide) (by decide)
theorem pI_5_44_34 {v : Int32} (h : Hp σ) : pI 5 44 34 v σ = some (sI σ 44 34 v) := pI_g h (by decide) (by decide)
theorem ck_44 (h : Hp σ) : ck 5 44 σ = some () := ck_g h (by decide) (by decide)
theorem aI_2 {j : Nat} (h : Hp σ) (hj : j < 10) : aI 2 (nI j) σ = some (σ.2.1 2 j) := aI_g h (by decide) (by decide) (by decide) (by decide) hj
theorem xI_2 {j : Nat} {v : Int32} (h : Hp σ) (hj : j < 10) : xI 2 (nI j) v σ = some (sI σ 2 j v) := xI_g h (by decide) (by decide) (by decide) (by decide) hj
theorem aI_3 {j : Nat} (h : Hp σ) (hj : j < 10) : aI 3 (nI j) σ = some (σ.2.1 3 j) := aI_g h (by decide) (by decide) (by decide) (by decide) hj
theorem xI_3 {j : Nat} {v : Int32} (h : Hp σ) (hj : j < 10) : xI 3 (nI j) v σ = some (sI σ 3 j v) := xI_g h (by decide) (by decide) (by decide) (by decide) hj
theorem aI_4 {j : Nat} (h : Hp σ) (hj : j < 10) : aI 4 (nI j) σ = some (σ.2.1 4 j) := aI_g h (by decide) (by decide) (by decide) (by decide) hj
theorem xI_4 {j : Nat} {v : Int32} (h : Hp σ) (hj : j < 10) : xI 4 (nI j) v σ = some (sI σ 4 j v) := xI_g h (by decide) (by decide) (by decide) (by decide) hj
theorem aI_5 {j : Nat} (h : Hp σ) (hj : j < 5) : aI 5 (nI j) σ = some (σ.2.1 5 j) := aI_g h (by decide) (by decide) (by decide) (by decide) hj
theorem xI_5 {j : Nat} {v : Int32} (h : Hp σ) (hj : j < 5) : xI 5 (nI j) v σ = some (sI σ 5 j v) := xI_g h (by decide) (by decide) (by decide) (by decide) hj
theorem aI_6 {j : Nat} (h : Hp σ) (hj : j < 8) : aI 6 (nI j) σ = some (σ.2.1 6 j) := aI_g h (by decide) (by decide) (by decide) (by decide) hj
theorem xI_6 {j : Nat} {v : Int32} (h : Hp σ) (hj : j < 8) : xI 6 (nI j) v σ = some (sI σ 6 j v) := xI_g h (by decide) (by decide) (by decide) (by decide) hj
theorem aI_7 {j : Nat} (h : Hp σ) (hj : j < 8) : aI 7 (nI j) σ = some (σ.2.1 7 j) := aI_g h (by decide) (by decide) (by decide) (by decide) hj
theorem xI_7 {j : Nat} {v : Int32} (h : Hp σ) (hj : j < 8) : xI 7 (nI j) v σ = some (sI σ 7 j v) := xI_g h (by decide) (by decide) (by decide) (by decide) hj
theorem aI_8 {j : Nat} (h : Hp σ) (hj : j < 8) : aI 8 (nI j) σ = some (σ.2.1 8 j) := aI_g h (by decide) (by decide) (by decide) (by decide) hj
theorem xI_8 {j : Nat} {v : Int32} (h : Hp σ) (hj : j < 8) : xI 8 (nI j) v σ = some (sI σ 8 j v) := xI_g h (by decide) (by decide) (by decide) (by decide) hj
theorem aI_9 {j : Nat} (h : Hp σ) (hj : j < 10) : aI 9 (nI j) σ = some (σ.2.1 9 j) := aI_g h (by decide) (by decide) (by decide) (by decide) hj
theorem xI_9 {j : Nat} {v : Int32} (h : Hp σ) (hj : j < 10) : xI 9 (nI j) v σ = some (sI σ 9 j v) := xI_g h (by decide) (by decide) (by decide) (by decide) hj
theorem aI_10 {j : Nat} (h : Hp σ) (hj : j < 10) : aI 10 (nI j) σ = some (σ.2.1 10 j) := aI_g h (by decide) (by decide) (by decide) (by decide) hj
theorem xI_10 {j : Nat} {v : Int32} (h : Hp σ) (hj : j < 10) : xI 10 (nI j) v σ = some (sI σ 10 j v) := xI_g h (by decide) (by decide) (by decide) (by decide) hj
theorem aI_11 {j : Nat} (h : Hp σ) (hj : j < 10) : aI 11 (nI j) σ = some (σ.2.1 11 j) := aI_g h (by decide) (by decide) (by decide) (by decide) hj
theorem xI_11 {j : Nat} {v : Int32} (h : Hp σ) (hj : j < 10) : xI 11 (nI j) v σ = some (sI σ 11 j v) := xI_g h (by decide) (by decide) (by decide) (by decide) hj
theorem aI_13 {j : Nat} (h : Hp σ) (hj : j < 40) : aI 13 (nI j) σ = some (σ.2.1 13 j) := aI_g h (by decide) (by decide) (by decide) (by decide) hj
theorem xI_13 {j : Nat} {v : Int32} (h : Hp σ) (hj : j < 40) : xI 13 (nI j) v σ = some (sI σ 13 j v) := xI_g h (by decide) (by decide) (by decide) (by decide) hj
theorem aI_45 {j : Nat} (h : Hp σ) (hj : j < 9) : aI 45 (nI j) σ = some (σ.2.1 45 j) := aI_g h (by decide) (by decide) (by decide) (by decide) hj
theorem xI_45 {j : Nat} {v : Int32} (h : Hp σ) (hj : j < 9) : xI 45 (nI j) v σ = some (sI σ 45 j v) := xI_g h (by decide) (by decide) (by decide) (by decide) hj
theorem aI_46 {j : Nat} (h : Hp σ) (hj : j < 9) : aI 46 (nI j) σ = some (σ.2.1 46 j) := aI_g h (by decide) (by decide) (by decide) (by decide) hj
theorem xI_46 {j : Nat} {v : Int32} (h : Hp σ) (hj : j < 9) : xI 46 (nI j) v σ = some (sI σ 46 j v) := xI_g h (by decide) (by decide) (by decide) (by decide) hj
theorem aI_47 {j : Nat} (h : Hp σ) (hj : j < 9) : aI 47 (nI j) σ = some (σ.2.1 47 j) := aI_g h (by decide) (by decide) (by decide) (by decide) hj
theorem xI_47 {j : Nat} {v : Int32} (h : Hp σ) (hj : j < 9) : xI 47 (nI j) v σ = some (sI σ 47 j v) := xI_g h (by decide) (by decide) (by decide) (by decide) hj
theorem aI_48 {j : Nat} (h : Hp σ) (hj : j < 8) : aI 48 (nI j) σ = some (σ.2.1 48 j) := aI_g h (by decide) (by decide) (by decide) (by decide) hj
theorem xI_48 {j : Nat} {v : Int32} (h : Hp σ) (hj : j < 8) : xI 48 (nI j) v σ = some (sI σ 48 j v) := xI_g h (by decide) (by decide) (by decide) (by decide) hj
theorem aI_49 {j : Nat} (h : Hp σ) (hj : j < 8) : aI 49 (nI j) σ = some (σ.2.1 49 j) := aI_g h (by decide) (by decide) (by decide) (by decide) hj
theorem xI_49 {j : Nat} {v : Int32} (h : Hp σ) (hj : j < 8) : xI 49 (nI j) v σ = some (sI σ 49 j v) := xI_g h (by decide) (by decide) (by decide) (by decide) hj
theorem aI_50 {j : Nat} (h : Hp σ) (hj : j < 8) : aI 50 (nI j) σ = some (σ.2.1 50 j) := aI_g h (by decide) (by decide) (by decide) (by decide) hj
theorem xI_50 {j : Nat} {v : Int32} (h : Hp σ) (hj : j < 8) : xI 50 (nI j) v σ = some (sI σ 50 j v) := xI_g h (by decide) (by decide) (by decide) (by decide) hj
theorem aI_51 {j : Nat} (h : Hp σ) (hj : j < 5) : aI 51 (nI j) σ = some (σ.2.1 51 j) := aI_g h (by decide) (by decide) (by decide) (by decide) hj
theorem xI_51 {j : Nat} {v : Int32} (h : Hp σ) (hj : j < 5) : xI 51 (nI j) v σ = some (sI σ 51 j v) := xI_g h (by decide) (by decide) (by decide) (by decide) hj
theorem aI_52 {j : Nat} (h : Hp σ) (hj : j < 11) : aI 52 (nI j) σ = some (σ.2.1 52 j) := aI_g h (by decide) (by decide) (by decide) (by decide) hj
theorem xI_52 {j : Nat} {v : Int32} (h : Hp σ) (hj : j < 11) : xI 52 (nI j) v σ = some (sI σ 52 j v) := xI_g h (by decide) (by decide) (by decide) (by decide) hj
theorem aI_53 {j : Nat} (h : Hp σ) (hj : j < 11) : aI 53 (nI j) σ = some (σ.2.1 53 j) := aI_g h (by decide) (by decide) (by decide) (by decide) hj
theorem xI_53 {j : Nat} {v : Int32} (h : Hp σ) (hj : j < 11) : xI 53 (nI j) v σ = some (sI σ 53 j v) := xI_g h (by decide) (by decide) (by decide) (by decide) hj
theorem aI_54 {j : Nat} (h : Hp σ) (hj : j < 11) : aI 54 (nI j) σ = some (σ.2.1 54 j) := aI_g h (by decide) (by decide) (by decide) (by decide) hj
theorem xI_54 {j : Nat} {v : Int32} (h : Hp σ) (hj : j < 11) : xI 54 (nI j) v σ = some (sI σ 54 j v) := xI_g h (by decide) (by decide) (by decide) (by decide) hj
theorem aI_55 {j : Nat} (h : Hp σ) (hj : j < 40) : aI 55 (nI j) σ = some (σ.2.1 55 j) := aI_g h (by decide) (by decide) (by decide) (by decide) hj
theorem xI_55 {j : Nat} {v : Int32} (h : Hp σ) (hj : j < 40) : xI 55 (nI j) v σ = some (sI σ 55 j v) := xI_g h (by decide) (by decide) (by decide) (by decide) hj
theorem aI_56 {j : Nat} (h : Hp σ) (hj : j < 10) : aI 56 (nI j) σ = some (σ.2.1 56 j) := aI_g h (by decide) (by decide) (by decide) (by decide) hj
theorem xI_56 {j : Nat} {v : Int32} (h : Hp σ) (hj : j < 10) : xI 56 (nI j) v σ = some (sI σ 56 j v) := xI_g h (by decide) (by decide) (by decide) (by decide) hj
theorem aI_57 {j : Nat} (h : Hp σ) (hj : j < 10) : aI 57 (nI j) σ = some (σ.2.1 57 j) := aI_g h (by decide) (by decide) (by decide) (by decide) hj
theorem xI_57 {j : Nat} {v : Int32} (h : Hp σ) (hj : j < 10) : xI 57 (nI j) v σ = some (sI σ 57 j v) := xI_g h (by decide) (by decide) (by decide) (by decide) hj
theorem aI_58 {j : Nat} (h : Hp σ) (hj : j < 80) : aI 58 (nI j) σ = some (σ.2.1 58 j) := aI_g h (by decide) (by decide) (by decide) (by decide) hj
theorem xI_58 {j : Nat} {v : Int32} (h : Hp σ) (hj : j < 80) : xI 58 (nI j) v σ = some (sI σ 58 j v) := xI_g h (by decide) (by decide) (by decide) (by decide) hj
theorem aI_59 {j : Nat} (h : Hp σ) (hj : j < 80) : aI 59 (nI j) σ = some (σ.2.1 59 j) := aI_g h (by decide) (by decide) (by decide) (by decide) hj
theorem xI_59 {j : Nat} {v : Int32} (h : Hp σ) (hj : j < 80) : xI 59 (nI j) v σ = some (sI σ 59 j v) := xI_g h (by decide) (by decide) (by decide) (by decide) hj
theorem aI_60 {j : Nat} (h : Hp σ) (hj : j < 80) : aI 60 (nI j) σ = some (σ.2.1 60 j) := aI_g h (by decide) (by decide) (by decide) (by decide) hj
theorem xI_60 {j : Nat} {v : Int32} (h : Hp σ) (hj : j < 80) : xI 60 (nI j) v σ = some (sI σ 60 j v) := xI_g h (by decide) (by decide) (by decide) (by decide) hj
theorem aI_61 {j : Nat} (h : Hp σ) (hj : j < 80) : aI 61 (nI j) σ = some (σ.2.1 61 j) := aI_g h (by decide) (by decide) (by decide) (by decide) hj
theorem xI_61 {j : Nat} {v : Int32} (h : Hp σ) (hj : j < 80) : xI 61 (nI j) v σ = some (sI σ 61 j v) := xI_g h (by decide) (by decide) (by decide) (by decide) hj
theorem aI_62 {j : Nat} (h : Hp σ) (hj : j < 80) : aI 62 (nI j) σ = some (σ.2.1 62 j) := aI_g h (by decide) (by decide) (by decide) (by decide) hj
theorem xI_62 {j : Nat} {v : Int32} (h : Hp σ) (hj : j < 80) : xI 62 (nI j) v σ = some (sI σ 62 j v) := xI_g h (by decide) (by decide) (by decide) (by decide) hj
theorem aI_63 {j : Nat} (h : Hp σ) (hj : j < 80) : aI 63 (nI j) σ = some (σ.2.1 63 j) := aI_g h (by decide) (by decide) (by decide) (by decide) hj
theorem xI_63 {j : Nat} {v : Int32} (h : Hp σ) (hj : j < 80) : xI 63 (nI j) v σ = some (sI σ 63 j v) := xI_g h (by decide) (by decide) (by decide) (by decide) hj
theorem aI_64 {j : Nat} (h : Hp σ) (hj : j < 80) : aI 64 (nI j) σ = some (σ.2.1 64 j) := aI_g h (by decide) (by decide) (by decide) (by decide) hj
theorem xI_64 {j : Nat} {v : Int32} (h : Hp σ) (hj : j < 80) : xI 64 (nI j) v σ = some (sI σ 64 j v) := xI_g h (by decide) (by decide) (by decide) (by decide) hj
theorem aI_65 {j : Nat} (h : Hp σ) (hj : j < 80) : aI 65 (nI j) σ = some (σ.2.1 65 j) := aI_g h (by decide) (by decide) (by decide) (by decide) hj
theorem xI_65 {j : Nat} {v : Int32} (h : Hp σ) (hj : j < 80) : xI 65 (nI j) v σ = some (sI σ 65 j v) := xI_g h (by decide) (by decide) (by decide) (by decide) hj
theorem aI_66 {j : Nat} (h : Hp σ) (hj : j < 9) : aI 66 (nI j) σ = some (σ.2.1 66 j) := aI_g h (by decide) (by decide) (by decide) (by decide) hj
theorem xI_66 {j : Nat} {v : Int32} (h : Hp σ) (hj : j < 9) : xI 66 (nI j) v σ = some (sI σ 66 j v) := xI_g h (by decide) (by decide) (by decide) (by decide) hj
theorem aI_67 {j : Nat} (h : Hp σ) (hj : j < 9) : aI 67 (nI j) σ = some (σ.2.1 67 j) := aI_g h (by decide) (by decide) (by decide) (by decide) hj
theorem xI_67 {j : Nat} {v : Int32} (h : Hp σ) (hj : j < 9) : xI 67 (nI j) v σ = some (sI σ 67 j v) := xI_g h (by decide) (by decide) (by decide) (by decide) hj
theorem aI_68 {j : Nat} (h : Hp σ) (hj : j < 9) : aI 68 (nI j) σ = some (σ.2.1 68 j) := aI_g h (by decide) (by decide) (by decide) (by decide) hj
theorem xI_68 {j : Nat} {v : Int32} (h : Hp σ) (hj : j < 9) : xI 68 (nI j) v σ = some (sI σ 68 j v) := xI_g h (by decide) (by decide) (by decide) (by decide) hj
theorem aI_69 {j : Nat} (h : Hp σ) (hj : j < 8) : aI 69 (nI j) σ = some (σ.2.1 69 j) := aI_g h (by decide) (by decide) (by decide) (by decide) hj
theorem xI_69 {j : Nat} {v : Int32} (h : Hp σ) (hj : j < 8) : xI 69 (nI j) v σ = some (sI σ 69 j v) := xI_g h (by decide) (by decide) (by decide) (by decide) hj
theorem aI_70 {j : Nat} (h : Hp σ) (hj : j < 8) : aI 70 (nI j) σ = some (σ.2.1 70 j) := aI_g h (by decide) (by decide) (by decide) (by decide) hj
theorem xI_70 {j : Nat} {v : Int32} (h : Hp σ) (hj : j < 8) : xI 70 (nI j) v σ = some (sI σ 70 j v) := xI_g h (by decide) (by decide) (by decide) (by decide) hj
theorem aI_71 {j : Nat} (h : Hp σ) (hj : j < 10) : aI 71 (nI j) σ = some (σ.2.1 71 j) := aI_g h (by decide) (by decide) (by decide) (by decide) hj
theorem xI_71 {j : Nat} {v : Int32} (h : Hp σ) (hj : j < 10) : xI 71 (nI j) v σ = some (sI σ 71 j v) := xI_g h (by decide) (by decide) (by decide) (by decide) hj
theorem aI_72 {j : Nat} (h : Hp σ) (hj : j < 10) : aI 72 (nI j) σ = some (σ.2.1 72 j) := aI_g h (by decide) (by decide) (by decide) (by decide) hj
theorem xI_72 {j : Nat} {v : Int32} (h : Hp σ) (hj : j < 10) : xI 72 (nI j) v σ = some (sI σ 72 j v) := xI_g h (by decide) (by decide) (by decide) (by decide) hj
theorem gRc_0 {x : Nat} (h : Hp σ) (hx : Cr x) : gR 0 x 0 σ = some (x + 1) := by rcases hx with rfl | rfl <;> exact gR_g h (by decide) (by decide) (by decide) (by decide) (by decide)
theorem aIc_1 {x j : Nat} (h : Hp σ) (hx : Cr x) (hj : j < 80) : aI (x + 1) (nI j) σ = some (σ.2.1 (x + 1) j) := aI_g h (by rcases hx with rfl | rfl <;> decide) (by omega) (by rcases hx with rfl | rfl <;> decide) (by decide) hj
theorem xIc_1 {x j : Nat} {v : Int32} (h : Hp σ) (hx : Cr x) (hj : j < 80) : xI (x + 1) (nI j) v σ = some (sI σ (x + 1) j v) := xI_g h (by rcases hx with rfl | rfl <;> decide) (by omega) (by rcases hx with rfl | rfl <;> decide) (by decide) hj
theorem gRc_1 {x : Nat} (h : Hp σ) (hx : Cr x) : gR 0 x 1 σ = some (x + 2) := by rcases hx with rfl | rfl <;> exact gR_g h (by decide) (by decide) (by decide) (by decide) (by decide)
theorem aIc_2 {x j : Nat} (h : Hp σ) (hx : Cr x) (hj : j < 80) : aI (x + 2) (nI j) σ = some (σ.2.1 (x + 2) j) := aI_g h (by rcases hx with rfl | rfl <;> decide) (by omega) (by rcases hx with rfl | rfl <;> decide) (by decide) hj
theorem xIc_2 {x j : Nat} {v : Int32} (h : Hp σ) (hx : Cr x) (hj : j < 80) : xI (x + 2) (nI j) v σ = some (sI σ (x + 2) j v) := xI_g h (by rcases hx with rfl | rfl <;> decide) (by omega) (by rcases hx with rfl | rfl <;> decide) (by decide) hj
theorem gRc_2 {x : Nat} (h : Hp σ) (hx : Cr x) : gR 0 x 2 σ = some (x + 3) := by rcases hx with rfl | rfl <;> exact gR_g h (by decide) (by decide) (by decide) (by decide) (by decide)
theorem aIc_3 {x j : Nat} (h : Hp σ) (hx : Cr x) (hj : j < 80) : aI (x + 3) (nI j) σ = some (σ.2.1 (x + 3) j) := aI_g h (by rcases hx with rfl | rfl <;> decide) (by omega) (by rcases hx with rfl | rfl <;> decide) (by decide) hj
theorem xIc_3 {x j : Nat} {v : Int32} (h : Hp σ) (hx : Cr x) (hj : j < 80) : xI (x + 3) (nI j) v σ = some (sI σ (x + 3) j v) := xI_g h (by rcases hx with rfl | rfl <;> decide) (by omega) (by rcases hx with rfl | rfl <;> decide) (by decide) hj
theorem gRc_3 {x : Nat} (h : Hp σ) (hx : Cr x) : gR 0 x 3 σ = some (x + 4) := by rcases hx with rfl | rfl <;> exact gR_g h (by decide) (by decide) (by decide) (by decide) (by decide)
theorem aIc_4 {x j : Nat} (h : Hp σ) (hx : Cr x) (hj : j < 80) : aI (x + 4) (nI j) σ = some (σ.2.1 (x + 4) j) := aI_g h (by rcases hx with rfl | rfl <;> decide) (by omega) (by rcases hx with rfl | rfl <;> decide) (by decide) hj
theorem xIc_4 {x j : Nat} {v : Int32} (h : Hp σ) (hx : Cr x) (hj : j < 80) : xI (x + 4) (nI j) v σ = some (sI σ (x + 4) j v) := xI_g h (by rcases hx with rfl | rfl <;> decide) (by omega) (by rcases hx with rfl | rfl <;> decide) (by decide) hj
theorem gRc_4 {x : Nat} (h : Hp σ) (hx : Cr x) : gR 0 x 4 σ = some (x + 5) := by rcases hx with rfl | rfl <;> exact gR_g h (by decide) (by decide) (by decide) (by decide) (by decide)
theorem aIc_5 {x j : Nat} (h : Hp σ) (hx : Cr x) (hj : j < 80) : aI (x + 5) (nI j) σ = some (σ.2.1 (x + 5) j) := aI_g h (by rcases hx with rfl | rfl <;> decide) (by omega) (by rcases hx with rfl | rfl <;> decide) (by decide) hj
theorem xIc_5 {x j : Nat} {v : Int32} (h : Hp σ) (hx : Cr x) (hj : j < 80) : xI (x + 5) (nI j) v σ = some (sI σ (x + 5) j v) := xI_g h (by rcases hx with rfl | rfl <;> decide) (by omega) (by rcases hx with rfl | rfl <;> decide) (by decide) hj
theorem gRc_5 {x : Nat} (h : Hp σ) (hx : Cr x) : gR 0 x 5 σ = some (x + 6) := by rcases hx with rfl | rfl <;> exact gR_g h (by decide) (by decide) (by decide) (by decide) (by decide)
theorem aIc_6 {x j : Nat} (h : Hp σ) (hx : Cr x) (hj : j < 80) : aI (x + 6) (nI j) σ = some (σ.2.1 (x + 6) j) := aI_g h (by rcases hx with rfl | rfl <;> decide) (by omega) (by rcases hx with rfl | rfl <;> decide) (by decide) hj
theorem xIc_6 {x j : Nat} {v : Int32} (h : Hp σ) (hx : Cr x) (hj : j < 80) : xI (x + 6) (nI j) v σ = some (sI σ (x + 6) j v) := xI_g h (by rcases hx with rfl | rfl <;> decide) (by omega) (by rcases hx with rfl | rfl <;> decide) (by decide) hj
theorem gRc_6 {x : Nat} (h : Hp σ) (hx : Cr x) : gR 0 x 6 σ = some (x + 7) := by rcases hx with rfl | rfl <;> exact gR_g h (by decide) (by decide) (by decide) (by decide) (by decide)
theorem aIc_7 {x j : Nat} (h : Hp σ) (hx : Cr x) (hj : j < 80) : aI (x + 7) (nI j) σ = some (σ.2.1 (x + 7) j) := aI_g h (by rcases hx with rfl | rfl <;> decide) (by omega) (by rcases hx with rfl | rfl <;> decide) (by decide) hj
theorem xIc_7 {x j : Nat} {v : Int32} (h : Hp σ) (hx : Cr x) (hj : j < 80) : xI (x + 7) (nI j) v σ = some (sI σ (x + 7) j v) := xI_g h (by rcases hx with rfl | rfl <;> decide) (by omega) (by rcases hx with rfl | rfl <;> decide) (by decide) hj
theorem gRc_7 {x : Nat} (h : Hp σ) (hx : Cr x) : gR 0 x 7 σ = some (x + 8) := by rcases hx with rfl | rfl <;> exact gR_g h (by decide) (by decide) (by decide) (by decide) (by decide)
theorem aIc_8 {x j : Nat} (h : Hp σ) (hx : Cr x) (hj : j < 10) : aI (x + 8) (nI j) σ = some (σ.2.1 (x + 8) j) := aI_g h (by rcases hx with rfl | rfl <;> decide) (by omega) (by rcases hx with rfl | rfl <;> decide) (by decide) hj
theorem xIc_8 {x j : Nat} {v : Int32} (h : Hp σ) (hx : Cr x) (hj : j < 10) : xI (x + 8) (nI j) v σ = some (sI σ (x + 8) j v) := xI_g h (by rcases hx with rfl | rfl <;> decide) (by omega) (by rcases hx with rfl | rfl <;> decide) (by decide) hj
theorem gRc_8 {x : Nat} (h : Hp σ) (hx : Cr x) : gR 0 x 8 σ = some (x + 9) := by rcases hx with rfl | rfl <;> exact gR_g h (by decide) (by decide) (by decide) (by decide) (by decide)
theorem aJc_9 {x j : Nat} (h : Hp σ) (hx : Cr x) (hj : j < 10) : aJ (x + 9) (nI j) σ = some (σ.2.2.1 (x + 9) j) := aJ_g h (by rcases hx with rfl | rfl <;> decide) (by omega) (by rcases hx with rfl | rfl <;> decide) (by decide) hj
theorem xJc_9 {x j : Nat} {v : Int64} (h : Hp σ) (hx : Cr x) (hj : j < 10) : xJ (x + 9) (nI j) v σ = some (sJ σ (x + 9) j v) := xJ_g h (by rcases hx with rfl | rfl <;> decide) (by omega) (by rcases hx with rfl | rfl <;> decide) (by decide) hj
theorem gRc_9 {x : Nat} (h : Hp σ) (hx : Cr x) : gR 0 x 9 σ = some (x + 10) := by rcases hx with rfl | rfl <;> exact gR_g h (by decide) (by decide) (by decide) (by decide) (by decide)
theorem aIc_10 {x j : Nat} (h : Hp σ) (hx : Cr x) (hj : j < 10) : aI (x + 10) (nI j) σ = some (σ.2.1 (x + 10) j) := aI_g h (by rcases hx with rfl | rfl <;> decide) (by omega) (by rcases hx with rfl | rfl <;> decide) (by decide) hj
theorem xIc_10 {x j : Nat} {v : Int32} (h : Hp σ) (hx : Cr x) (hj : j < 10) : xI (x + 10) (nI j) v σ = some (sI σ (x + 10) j v) := xI_g h (by rcases hx with rfl | rfl <;> decide) (by omega) (by rcases hx with rfl | rfl <;> decide) (by decide) hj
theorem gRc_12 {x : Nat} (h : Hp σ) (hx : Cr x) : gR 0 x 12 σ = some (x + 11) := by rcases hx with rfl | rfl <;> exact gR_g h (by decide) (by decide) (by decide) (by decide) (by decide)
theorem aIc_11 {x j : Nat} (h : Hp σ) (hx : Cr x) (hj : j < 8) : aI (x + 11) (nI j) σ = some (σ.2.1 (x + 11) j) := aI_g h (by rcases hx with rfl | rfl <;> decide) (by omega) (by rcases hx with rfl | rfl <;> decide) (by decide) hj
theorem xIc_11 {x j : Nat} {v : Int32} (h : Hp σ) (hx : Cr x) (hj : j < 8) : xI (x + 11) (nI j) v σ = some (sI σ (x + 11) j v) := xI_g h (by rcases hx with rfl | rfl <;> decide) (by omega) (by rcases hx with rfl | rfl <;> decide) (by decide) hj
theorem gJc_10 {x : Nat} (h : Hp σ) (hx : Cr x) : gJ 0 x 10 σ = some (σ.2.2.1 x 10) := gJ_g h (by rcases hx with rfl | rfl <;> decide) (by omega)
theorem pJc_10 {x : Nat} {v : Int64} (h : Hp σ) (hx : Cr x) : pJ 0 x 10 v σ = some (sJ σ x 10 v) := pJ_g h (by rcases hx with rfl | rfl <;> decide) (by omega)
theorem gIc_11 {x : Nat} (h : Hp σ) (hx : Cr x) : gI 0 x 11 σ = some (σ.2.1 x 11) := gI_g h (by rcases hx with rfl | rfl <;> decide) (by omega)
theorem pIc_11 {x : Nat} {v : Int32} (h : Hp σ) (hx : Cr x) : pI 0 x 11 v σ = some (sI σ x 11 v) := pI_g h (by rcases hx with rfl | rfl <;> decide) (by omega)
theorem gIc_13 {x : Nat} (h : Hp σ) (hx : Cr x) : gI 0 x 13 σ = some (σ.2.1 x 13) := gI_g h (by rcases hx with rfl | rfl <;> decide) (by omega)
theorem pIc_13 {x : Nat} {v : Int32} (h : Hp σ) (hx : Cr x) : pI 0 x 13 v σ = some (sI σ x 13 v) := pI_g h (by rcases hx with rfl | rfl <;> decide) (by omega)
theorem gIc_14 {x : Nat} (h : Hp σ) (hx : Cr x) : gI 0 x 14 σ = some (σ.2.1 x 14) := gI_g h (by rcases hx with rfl | rfl <;> decide) (by omega)
theorem pIc_14 {x : Nat} {v : Int32} (h : Hp σ) (hx : Cr x) : pI 0 x 14 v σ = some (sI σ x 14 v) := pI_g h (by rcases hx with rfl | rfl <;> decide) (by omega)
theorem ckc {x : Nat} (h : Hp σ) (hx : Cr x) : ck 0 x σ = some () := ck_g h (by rcases hx with rfl | rfl <;> decide) (by omega)
theorem gRr_0 {x : Nat} (h : Hp σ) (hx : Ru x) : gR 2 x 0 σ = some (x + 1) := by rcases hx with rfl | rfl <;> exact gR_g h (by decide) (by decide) (by decide) (by decide) (by decide)
theorem aIr_1 {x j : Nat} (h : Hp σ) (hx : Ru x) (hj : j < 10) : aI (x + 1) (nI j) σ = some (σ.2.1 (x + 1) j) := aI_g h (by rcases hx with rfl | rfl <;> decide) (by omega) (by rcases hx with rfl | rfl <;> decide) (by decide) hj
theorem xIr_1 {x j : Nat} {v : Int32} (h : Hp σ) (hx : Ru x) (hj : j < 10) : xI (x + 1) (nI j) v σ = some (sI σ (x + 1) j v) := xI_g h (by rcases hx with rfl | rfl <;> decide) (by omega) (by rcases hx with rfl | rfl <;> decide) (by decide) hj
theorem gRr_1 {x : Nat} (h : Hp σ) (hx : Ru x) : gR 2 x 1 σ = some (x + 2) := by rcases hx with rfl | rfl <;> exact gR_g h (by decide) (by decide) (by decide) (by decide) (by decide)
theorem aIr_2 {x j : Nat} (h : Hp σ) (hx : Ru x) (hj : j < 10) : aI (x + 2) (nI j) σ = some (σ.2.1 (x + 2) j) := aI_g h (by rcases hx with rfl | rfl <;> decide) (by omega) (by rcases hx with rfl | rfl <;> decide) (by decide) hj
theorem xIr_2 {x j : Nat} {v : Int32} (h : Hp σ) (hx : Ru x) (hj : j < 10) : xI (x + 2) (nI j) v σ = some (sI σ (x + 2) j v) := xI_g h (by rcases hx with rfl | rfl <;> decide) (by omega) (by rcases hx with rfl | rfl <;> decide) (by decide) hj
theorem gIr_2 {x : Nat} (h : Hp σ) (hx : Ru x) : gI 2 x 2 σ = some (σ.2.1 x 2) := gI_g h (by rcases hx with rfl | rfl <;> decide) (by omega)
theorem pIr_2 {x : Nat} {v : Int32} (h : Hp σ) (hx : Ru x) : pI 2 x 2 v σ = some (sI σ x 2 v) := pI_g h (by rcases hx with rfl | rfl <;> decide) (by omega)
theorem ckr {x : Nat} (h : Hp σ) (hx : Ru x) : ck 2 x σ = some () := ck_g h (by rcases hx with rfl | rfl <;> decide) (by omega)
end
