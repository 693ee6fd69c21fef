/-! THE STATE BETWEEN TWO CALLS: what is set, told once for both -/
def wE (S : Se) (e : Nat → Nat → Nat) : Se := (S.1, S.2.1, S.2.2.1, e, S.2.2.2.2)
def wR (S : Se) (h y : Nat → Nat) : Se := (S.1, S.2.1, S.2.2.1, S.2.2.2.1, (h, y))
abbrev Wd : Type := Se × (Nat × (Nat → Nat) × (Nat → Nat) × (Nat → Nat)) × (Nat × (Nat → Nat) × Nat)
def xS (W : Wd) (sk : Nat → Bool) : Se := wE W.1 (fun b s => exL W.2.1.2.1 W.2.1.2.2.1 W.2.1.2.2.2 sk b s W.2.1.1)
def pl (W : Wd) : Ps := ply (xS W (fun _ => false)) 10
/-- a gap g kept at a stop s alone -/
def gS (W : Wd) (s g : Nat) : Se := wR (xS W (fun _ => false)) (fun k => if k = s then 2 else 0) (fun k => if k = s then g else 0)
def pcost (P : Ps) : Nat := dsum (P 7) 9 0 + P 9 0 + 1000 * P 10 0
def cst (W : Wd) (i : Nat) : Nat := pcost (ply (gS W (i / 11) (60 * (i % 11))) 10)
def bst (W : Wd) : Nat → Nat
  | 0 => 0
  | i + 1 => if cst W (i + 1) < cst W (bst W i) then i + 1 else bst W i
def Lo (W : Wd) : Prop := ∀ i, i < W.2.1.1 → W.2.1.2.1 i < 8 ∧ W.2.1.2.2.1 i < 9 ∧ W.2.1.2.2.2 i ≤ 900
def Ok (W : Wd) : Prop := SeOk (wE W.1 (fun _ _ => 0)) 9990 ∧ (W.2.1.1 ≤ 10 ∧ Lo W) ∧ (W.2.2.1 ≤ 40 ∧ ∀ i, i < W.2.2.1 → 33 ≤ W.2.2.2.1 i ∧ W.2.2.2.1 i ≤ 126) ∧ (∀ s, s < 10 → eHow W.1 s ≤ 2 ∧ eBy W.1 s ≤ 999) ∧ W.2.2.2.2 ≤ 10
def CLate (σ : Sg) (W : Wd) : Prop := σ.2.1 1 11 = nI W.2.1.1 ∧ ∀ i, i < W.2.1.1 → σ.2.1 9 i = nI (W.2.1.2.1 i) ∧ σ.2.1 10 i = nI (W.2.1.2.2.1 i) ∧ σ.2.1 11 i = nI (W.2.1.2.2.2 i)
def CSig (σ : Sg) (W : Wd) : Prop := σ.2.1 12 1 = nI W.2.2.1 ∧ ∀ i, i < W.2.2.1 → σ.2.1 13 i = nI (W.2.2.2.1 i)
def InvC (σ : Sg) (W : Wd) : Prop := CLine σ W.1 ∧ CRule σ (rp σ) W.1 ∧ CLate σ W ∧ CSig σ W ∧ σ.2.1 (rp σ) 2 = nI W.2.2.2.2 ∧ (σ.2.1 0 6 ≠ 0 → CRb 14 σ (pl W) (Vd W.1 10)) ∧ (σ.2.1 0 7 ≠ 0 → 1 ≤ eB W.1 → σ.2.1 0 8 = nI (bst W 98 / 11) ∧ σ.2.1 0 9 = nI (60 * (bst W 98 % 11)))
def MSig (σ : Sg) (W : Wd) : Prop := σ.2.1 44 12 = nI W.2.2.1 ∧ ∀ i, i < W.2.2.1 → σ.2.1 55 i = nI (W.2.2.2.1 i)
def MRu (σ : Sg) (S : Se) : Prop := ∀ s, s < 10 → σ.2.1 56 s = nI (eHow S s) ∧ σ.2.1 57 s = nI (eBy S s)
def MLt (σ : Sg) (W : Wd) : Prop := σ.2.1 44 8 = nI W.2.1.1 ∧ ∀ i, i < W.2.1.1 → σ.2.1 52 i = nI (W.2.1.2.1 i) ∧ σ.2.1 53 i = nI (W.2.1.2.2.1 i) ∧ σ.2.1 54 i = nI (W.2.1.2.2.2 i)
def InvM (σ : Sg) (W : Wd) : Prop := MLine σ W.1 ∧ MRu σ W.1 ∧ MLt σ W ∧ MSig σ W ∧ σ.2.1 44 14 = nI W.2.2.2.2
/-- a call of the class, a call of the model -/
def CZ {α : Type} (f : Sg → Option (α × Sg)) (W W' : Wd) (r : α) : Prop := ∀ σ, Hp σ → InvC σ W → ∃ τ, f σ = some (r, τ) ∧ Hp τ ∧ InvC τ W' ∧ ∀ k, 44 ≤ k → τ.2.1 k = σ.2.1 k
def MZ {α : Type} (f : Sg → Option (α × Sg)) (W W' : Wd) (r : α) : Prop := ∀ σ, Hp σ → InvM σ W → ∃ τ, f σ = some (r, τ) ∧ Hp τ ∧ InvM τ W' ∧ (∀ k, k < 44 → τ.2.1 k = σ.2.1 k) ∧ τ.2.2.1 = σ.2.2.1 ∧ τ.2.2.2 = σ.2.2.2
def Pz {α : Type} (f g : Sg → Option (α × Sg)) (W : Wd) : Prop := ∃ W' r, Ok W' ∧ CZ f W W' r ∧ MZ g W W' r
theorem rp_of {σ τ : Sg} (h : τ.2.2.2 = σ.2.2.2) : rp τ = rp σ := by unfold rp; rw [h]
theorem sp_of {σ τ : Sg} (h : τ.2.2.2 = σ.2.2.2) : sp τ = sp σ := by unfold sp; rw [h]
/-- nothing that the other side does is seen here -/
theorem InvC_fr {σ τ : Sg} {W : Wd} (h : InvC σ W) (h1 : ∀ k, k < 44 → τ.2.1 k = σ.2.1 k) (h2 : τ.2.2.1 = σ.2.2.1) (h3 : τ.2.2.2 = σ.2.2.2) (hp : Hp σ) : InvC τ W := by
  obtain ⟨a1, a2, a3, a4, a5, a6, a7⟩ := h
  have hr : rp σ = 38 ∨ rp σ = 41 := rp_Ru hp
  unfold InvC CLine CRule CLate CSig CRb
  rw [rp_of h3, h1 0 (by decide), h1 1 (by decide), h1 2 (by decide), h1 3 (by decide), h1 4 (by decide), h1 5 (by decide), h1 6 (by decide), h1 7 (by decide), h1 8 (by decide), h1 9 (by decide), h1 10 (by decide), h1 11 (by decide), h1 12 (by decide), h1 13 (by decide), h1 (rp σ) (by omega), h1 (rp σ + 1) (by omega), h1 (rp σ + 2) (by omega), h2,
    h1 14 (by decide), h1 (14 + 1) (by decide), h1 (14 + 2) (by decide), h1 (14 + 3) (by decide), h1 (14 + 4) (by decide), h1 (14 + 5) (by decide), h1 (14 + 6) (by decide), h1 (14 + 8) (by decide), h1 (14 + 10) (by decide)]
  exact ⟨a1, a2, a3, a4, a5, a6, a7⟩
theorem InvM_fr {σ τ : Sg} {W : Wd} (h : InvM σ W) (h1 : ∀ k, 44 ≤ k → τ.2.1 k = σ.2.1 k) : InvM τ W := by
  unfold InvM MLine MRu MLt MSig
  rw [h1 44 (by decide), h1 45 (by decide), h1 46 (by decide), h1 47 (by decide), h1 48 (by decide), h1 49 (by decide), h1 50 (by decide), h1 51 (by decide), h1 52 (by decide), h1 53 (by decide), h1 54 (by decide), h1 55 (by decide), h1 56 (by decide), h1 57 (by decide)]
  exact h
/-- something set anew: the caches are empty -/
theorem InvC_set {σ τ : Sg} {W W' : Wd} (hI : InvC σ W) (hp : Hp σ) (h1 : τ.2.2.2 = σ.2.2.2) (h2 : ∀ k, 12 ≤ k → k < 44 → τ.2.1 k = σ.2.1 k) (h6 : τ.2.1 0 6 = 0) (h7 : τ.2.1 0 7 = 0) (e1 : eHow W'.1 = eHow W.1) (e2 : eBy W'.1 = eBy W.1) (e3 : W'.2.2 = W.2.2) (hL : CLine τ W'.1) (hl : CLate τ W') : InvC τ W' := by
  obtain ⟨a1, a2, a3, a4, a5, a6, a7⟩ := hI
  have hr : rp σ = 38 ∨ rp σ = 41 := rp_Ru hp
  refine ⟨hL, ?_, hl, ?_, ?_, fun z => absurd h6 z, fun z => absurd h7 z⟩
  · unfold CRule
    rw [rp_of h1, h2 (rp σ + 1) (by omega) (by omega), h2 (rp σ + 2) (by omega) (by omega), e1, e2]
    exact a2
  · unfold CSig
    rw [h2 12 (by decide) (by decide), h2 13 (by decide) (by decide), e3]
    exact a4
  · rw [rp_of h1, h2 (rp σ) (by omega) (by omega), e3]
    exact a5
theorem InvM_set {σ τ : Sg} {W W' : Wd} (hI : InvM σ W) (h2 : ∀ k, 55 ≤ k → k < 58 → τ.2.1 k = σ.2.1 k) (h12 : τ.2.1 44 12 = σ.2.1 44 12) (h14 : τ.2.1 44 14 = σ.2.1 44 14) (e1 : eHow W'.1 = eHow W.1) (e2 : eBy W'.1 = eBy W.1) (e3 : W'.2.2 = W.2.2) (hL : MLine τ W'.1) (hl : MLt τ W') : InvM τ W' := by
  obtain ⟨a1, a2, a3, a4, a5⟩ := hI
  refine ⟨hL, ?_, hl, ?_, ?_⟩
  · unfold MRu
    rw [h2 56 (by decide) (by decide), h2 57 (by decide) (by decide), e1, e2]
    exact a2
  · unfold MSig
    rw [h2 55 (by decide) (by decide), h12, e3]
    exact a4
  · rw [h14, e3]; exact a5
/-! ranges -/
def Rg (i : Int32) (lo hi : Nat) : Prop := ∃ a : Nat, lo ≤ a ∧ a ≤ hi ∧ i = nI a
theorem nRg {i : Int32} {lo hi : Nat} (h1 : lo ≤ hi + 1) (hh : hi + 1 < 2 ^ 31) (h : ¬ Rg i lo hi) : i < nI lo ∨ nI (hi + 1) ≤ i := by
  rcases pk_ix i (n := hi + 1) hh with z | z | ⟨j, j1, j2⟩
  · exact Or.inl (Int32.lt_of_lt_of_le z (nI_pos' (by omega)))
  · exact Or.inr z
  · subst j2
    rcases Nat.lt_or_ge j lo with q | q
    · exact Or.inl (nI_lt q (by omega))
    · exact absurd ⟨j, q, by omega, rfl⟩ h
theorem nI_le_lt {i : Int32} {h : Nat} (hh : h + 1 < 2 ^ 31) (z : nI (h + 1) ≤ i) : nI h < i := by
  rw [Int32.le_iff_toInt_le, nI_toInt hh] at z
  rw [Int32.lt_iff_toInt_lt, nI_toInt (by omega)]
  omega
theorem i_nle {i : Int32} {h : Nat} (hh : h + 1 < 2 ^ 31) (z : nI (h + 1) ≤ i) : ¬ i ≤ nI h := by
  rw [Int32.le_iff_toInt_le, nI_toInt hh] at z
  rw [Int32.le_iff_toInt_le, nI_toInt (by omega)]
  omega
theorem in_y {n : Nat} {σ : Sg} {i : Int32} {lo hi : Nat} (hh : hi < 2 ^ 31) (h : Rg i lo hi) : f_X5_in n i (nI lo) (nI hi) σ = some (1, σ) := by
  obtain ⟨a, a1, a2, rfl⟩ := h
  unfold f_X5_in
  rw [if_neg (nI_nlt a1 (by omega)), if_neg (nI_nlt a2 hh)]
  rfl
theorem in_n {n : Nat} {σ : Sg} {i : Int32} {lo hi : Nat} (h1 : lo ≤ hi + 1) (hh : hi + 1 < 2 ^ 31) (h : ¬ Rg i lo hi) : f_X5_in n i (nI lo) (nI hi) σ = some (0, σ) := by
  unfold f_X5_in X5_in_b14
  rcases nRg h1 hh h with z | z
  · rw [if_pos z]; rfl
  · by_cases y : i < nI lo
    · rw [if_pos y]; rfl
    · rw [if_neg y, if_pos (nI_le_lt hh z)]; rfl
section
variable {n : Nat} {σ : Sg} {i : Int32}
theorem iy_0_8 (h : Rg i 0 8) : f_X5_in n i 0 8 σ = some (1, σ) := in_y (lo := 0) (hi := 8) (by decide) h
theorem im_0_8 (h : ¬ Rg i 0 8) : f_X5_in n i 0 8 σ = some (0, σ) := in_n (lo := 0) (hi := 8) (by decide) (by decide) h
theorem iy_0_9 (h : Rg i 0 9) : f_X5_in n i 0 9 σ = some (1, σ) := in_y (lo := 0) (hi := 9) (by decide) h
theorem im_0_9 (h : ¬ Rg i 0 9) : f_X5_in n i 0 9 σ = some (0, σ) := in_n (lo := 0) (hi := 9) (by decide) (by decide) h
theorem iy_0_5 (h : Rg i 0 5) : f_X5_in n i 0 5 σ = some (1, σ) := in_y (lo := 0) (hi := 5) (by decide) h
theorem im_0_5 (h : ¬ Rg i 0 5) : f_X5_in n i 0 5 σ = some (0, σ) := in_n (lo := 0) (hi := 5) (by decide) (by decide) h
theorem iy_10_900 (h : Rg i 10 900) : f_X5_in n i 10 900 σ = some (1, σ) := in_y (lo := 10) (hi := 900) (by decide) h
theorem im_10_900 (h : ¬ Rg i 10 900) : f_X5_in n i 10 900 σ = some (0, σ) := in_n (lo := 10) (hi := 900) (by decide) (by decide) h
theorem iy_1_9 (h : Rg i 1 9) : f_X5_in n i 1 9 σ = some (1, σ) := in_y (lo := 1) (hi := 9) (by decide) h
theorem im_1_9 (h : ¬ Rg i 1 9) : f_X5_in n i 1 9 σ = some (0, σ) := in_n (lo := 1) (hi := 9) (by decide) (by decide) h
theorem iy_0_1 (h : Rg i 0 1) : f_X5_in n i 0 1 σ = some (1, σ) := in_y (lo := 0) (hi := 1) (by decide) h
theorem im_0_1 (h : ¬ Rg i 0 1) : f_X5_in n i 0 1 σ = some (0, σ) := in_n (lo := 0) (hi := 1) (by decide) (by decide) h
theorem iy_0_2 (h : Rg i 0 2) : f_X5_in n i 0 2 σ = some (1, σ) := in_y (lo := 0) (hi := 2) (by decide) h
theorem im_0_2 (h : ¬ Rg i 0 2) : f_X5_in n i 0 2 σ = some (0, σ) := in_n (lo := 0) (hi := 2) (by decide) (by decide) h
theorem iy_1_900 (h : Rg i 1 900) : f_X5_in n i 1 900 σ = some (1, σ) := in_y (lo := 1) (hi := 900) (by decide) h
theorem im_1_900 (h : ¬ Rg i 1 900) : f_X5_in n i 1 900 σ = some (0, σ) := in_n (lo := 1) (hi := 900) (by decide) (by decide) h
theorem iy_1_80 (h : Rg i 1 80) : f_X5_in n i 1 80 σ = some (1, σ) := in_y (lo := 1) (hi := 80) (by decide) h
theorem im_1_80 (h : ¬ Rg i 1 80) : f_X5_in n i 1 80 σ = some (0, σ) := in_n (lo := 1) (hi := 80) (by decide) (by decide) h
theorem iy_0_20000 (h : Rg i 0 20000) : f_X5_in n i 0 20000 σ = some (1, σ) := in_y (lo := 0) (hi := 20000) (by decide) h
theorem im_0_20000 (h : ¬ Rg i 0 20000) : f_X5_in n i 0 20000 σ = some (0, σ) := in_n (lo := 0) (hi := 20000) (by decide) (by decide) h
theorem iy_33_126 (h : Rg i 33 126) : f_X5_in n i 33 126 σ = some (1, σ) := in_y (lo := 33) (hi := 126) (by decide) h
theorem im_33_126 (h : ¬ Rg i 33 126) : f_X5_in n i 33 126 σ = some (0, σ) := in_n (lo := 33) (hi := 126) (by decide) (by decide) h
theorem iy_48_57 (h : Rg i 48 57) : f_X5_in n i 48 57 σ = some (1, σ) := in_y (lo := 48) (hi := 57) (by decide) h
theorem im_48_57 (h : ¬ Rg i 48 57) : f_X5_in n i 48 57 σ = some (0, σ) := in_n (lo := 48) (hi := 57) (by decide) (by decide) h
theorem iy_0_4 (h : Rg i 0 4) : f_X5_in n i 0 4 σ = some (1, σ) := in_y (lo := 0) (hi := 4) (by decide) h
theorem im_0_4 (h : ¬ Rg i 0 4) : f_X5_in n i 0 4 σ = some (0, σ) := in_n (lo := 0) (hi := 4) (by decide) (by decide) h
theorem iy_4_8 (h : Rg i 4 8) : f_X5_in n i 4 8 σ = some (1, σ) := in_y (lo := 4) (hi := 8) (by decide) h
theorem im_4_8 (h : ¬ Rg i 4 8) : f_X5_in n i 4 8 σ = some (0, σ) := in_n (lo := 4) (hi := 8) (by decide) (by decide) h
theorem iy_0_60 (h : Rg i 0 60) : f_X5_in n i 0 60 σ = some (1, σ) := in_y (lo := 0) (hi := 60) (by decide) h
theorem im_0_60 (h : ¬ Rg i 0 60) : f_X5_in n i 0 60 σ = some (0, σ) := in_n (lo := 0) (hi := 60) (by decide) (by decide) h
theorem iy_0_10 (h : Rg i 0 10) : f_X5_in n i 0 10 σ = some (1, σ) := in_y (lo := 0) (hi := 10) (by decide) h
theorem im_0_10 (h : ¬ Rg i 0 10) : f_X5_in n i 0 10 σ = some (0, σ) := in_n (lo := 0) (hi := 10) (by decide) (by decide) h
theorem iy_0_600 (h : Rg i 0 600) : f_X5_in n i 0 600 σ = some (1, σ) := in_y (lo := 0) (hi := 600) (by decide) h
theorem im_0_600 (h : ¬ Rg i 0 600) : f_X5_in n i 0 600 σ = some (0, σ) := in_n (lo := 0) (hi := 600) (by decide) (by decide) h
theorem on_y (h : Rg i 0 8) : f_X5_isOn n i σ = some (1, σ) := by
  unfold f_X5_isOn; rw [iy_0_8 h, ob]; rfl
theorem on_n (h : ¬ Rg i 0 8) : f_X5_isOn n i σ = some (0, σ) := by
  unfold f_X5_isOn; rw [im_0_8 h, ob]; rfl
theorem go_y (h : Rg i 0 8) : f_X4_isGoingStop n i σ = some (1, σ) := by
  obtain ⟨a, a1, a2, rfl⟩ := h
  unfold f_X4_isGoingStop
  rw [if_neg (nI_pos (by omega)), if_neg (show ¬ (9 : Int32) ≤ nI a from nI_ge (b := 9) (by omega) (by decide))]; rfl
theorem go_n (h : ¬ Rg i 0 8) : f_X4_isGoingStop n i σ = some (0, σ) := by
  unfold f_X4_isGoingStop X4_isGoingStop_b14
  rcases nRg (lo := 0) (by decide) (by decide) h with z | z
  · rw [if_pos (show i < 0 from z)]; rfl
  · by_cases y : i < 0
    · rw [if_pos y]; rfl
    · rw [if_neg y, if_pos (show 9 ≤ i from z)]; rfl
theorem st_y (h : Rg i 0 9) : f_X4_isStop n i σ = some (1, σ) := by
  obtain ⟨a, a1, a2, rfl⟩ := h
  unfold f_X4_isStop
  rw [if_neg (nI_pos (by omega)), if_neg (show ¬ (10 : Int32) ≤ nI a from nI_ge (b := 10) (by omega) (by decide))]; rfl
theorem st_n (h : ¬ Rg i 0 9) : f_X4_isStop n i σ = some (0, σ) := by
  unfold f_X4_isStop X4_isStop_b14
  rcases nRg (lo := 0) (by decide) (by decide) h with z | z
  · rw [if_pos (show i < 0 from z)]; rfl
  · by_cases y : i < 0
    · rw [if_pos y]; rfl
    · rw [if_neg y, if_pos (show 10 ≤ i from z)]; rfl
theorem hb_y (hp : Hp σ) {B b : Nat} (hB : σ.2.1 1 7 = nI B) (hB8 : B ≤ 8) (h : b < B) : f_X1_hasBus n 1 (nI b) σ = some (1, σ) := by
  unfold f_X1_hasBus
  rw [if_neg (nI_pos (by omega)), gI_1_1_7 hp, ob, hB, if_neg (nI_ge h (by omega))]; rfl
theorem hb_n (hp : Hp σ) {B : Nat} (hB : σ.2.1 1 7 = nI B) (hB8 : B ≤ 8) (h : ¬ ∃ b, b < B ∧ i = nI b) : f_X1_hasBus n 1 i σ = some (0, σ) := by
  unfold f_X1_hasBus X1_hasBus_b16
  rcases pk_ix i (n := B) (by omega) with z | z | z
  · rw [if_pos z]; rfl
  · by_cases y : i < 0
    · rw [if_pos y]; rfl
    · rw [if_neg y, gI_1_1_7 hp, ob, hB, if_pos z]; rfl
  · exact absurd z h
theorem ib_y (hp : Hp σ) {B b : Nat} (hB : σ.2.1 44 3 = nI B) (hB8 : B ≤ 8) (h : b < B) : f_X5_isBus n 44 (nI b) σ = some (1, σ) := by
  unfold f_X5_isBus
  rw [gI_5_44_3 hp, ob, hB, show nI B - 1 = nI (B - 1) from nsub (b := 1) (by omega), show (0 : Int32) = nI 0 from rfl, in_y (by omega) ⟨b, Nat.zero_le _, by omega, rfl⟩, ob]; rfl
theorem ib_n (hp : Hp σ) {B : Nat} (hB : σ.2.1 44 3 = nI B) (hB8 : B ≤ 8) (h : ¬ ∃ b, b < B ∧ i = nI b) : f_X5_isBus n 44 i σ = some (0, σ) := by
  unfold f_X5_isBus
  rw [gI_5_44_3 hp, ob, hB]
  by_cases e : B = 0
  · subst e
    have : f_X5_in n i 0 (nI 0 - 1) σ = some (0, σ) := by
      unfold f_X5_in X5_in_b14
      by_cases y : i < 0
      · rw [if_pos y]; rfl
      · rw [if_neg y, if_pos]
        · rfl
        · show (-1 : Int32) < i
          rw [Int32.lt_iff_toInt_lt] at y ⊢
          have e1 : (0 : Int32).toInt = 0 := by decide
          have e2 : (-1 : Int32).toInt = -1 := by decide
          omega
    rw [this, ob]; rfl
  · rw [show nI B - 1 = nI (B - 1) from nsub (b := 1) (by omega), show (0 : Int32) = nI 0 from rfl, in_n (by omega) (by omega) (fun z => by
      obtain ⟨a, a1, a2, a3⟩ := z
      exact h ⟨a, by omega, a3⟩), ob]; rfl
end
