/-! follow, spread, one, began -/
def FO (x : Nat) (σ τ : Sg) : Prop := τ.1 = σ.1 ∧ τ.2.2.2 = σ.2.2.2 ∧ τ.2.2.1 = σ.2.2.1 ∧ ∀ k, k ≠ x + 11 → τ.2.1 k = σ.2.1 k
theorem FO.rf {x : Nat} {σ : Sg} : FO x σ σ := ⟨rfl, rfl, rfl, fun _ _ => rfl⟩
theorem FO.tr {x : Nat} {σ τ ρ : Sg} (h1 : FO x σ τ) (h2 : FO x τ ρ) : FO x σ ρ := ⟨h2.1.trans h1.1, h2.2.1.trans h1.2.1, h2.2.2.1.trans h1.2.2.1, fun k hk => (h2.2.2.2 k hk).trans (h1.2.2.2 k hk)⟩
theorem FO.sA {x : Nat} {σ : Sg} {A : Nat → Int32} : FO x σ (sA σ (x + 11) A) := ⟨rfl, rfl, rfl, fun k hk => sA_ne hk⟩
theorem FO.hp {x : Nat} {σ τ : Sg} (h : FO x σ τ) (hp : Hp σ) : Hp τ := Hp_eq h.1 h.2.1 hp
theorem FO.fd {x : Nat} {σ τ : Sg} (h : FO x σ τ) : FD x σ τ := ⟨h.1, h.2.1, fun k hk => h.2.2.2 k (by omega), fun k _ => by rw [h.2.2.1]⟩
theorem FO.crb {x : Nat} {σ τ : Sg} {P : Ps} {V : Nat → Prop} (h : FO x σ τ) (hC : CRb x σ P V) : CRb x τ P V := by
  unfold CRb
  rw [h.2.2.1, h.2.2.2 x (by omega), h.2.2.2 (x + 1) (by omega), h.2.2.2 (x + 2) (by omega), h.2.2.2 (x + 3) (by omega), h.2.2.2 (x + 4) (by omega), h.2.2.2 (x + 5) (by omega), h.2.2.2 (x + 6) (by omega), h.2.2.2 (x + 8) (by omega), h.2.2.2 (x + 10) (by omega)]
  exact hC
theorem FO.inv {σ τ : Sg} {W : Wd} (h : FO 14 σ τ) (hI : InvC σ W) (hp : Hp σ) : InvC τ W := by
  have hr : rp σ = 38 ∨ rp σ = 41 := rp_Ru hp
  obtain ⟨a1, a2, a3, a4, a5, a6, a7⟩ := hI
  refine ⟨h.fd.line (Or.inl rfl) a1, ?_, h.fd.late (Or.inl rfl) a3, ?_, ?_, ?_, ?_⟩
  · rw [rp_of h.2.1]; exact h.fd.rule (Or.inl rfl) (rp_Ru hp) a2
  · unfold CSig
    rw [h.2.2.2 12 (by decide), h.2.2.2 13 (by decide)]; exact a4
  · rw [rp_of h.2.1, h.2.2.2 (rp σ) (by omega)]; exact a5
  · rw [h.2.2.2 0 (by decide)]; exact fun z => h.crb (a6 z)
  · rw [h.2.2.2 0 (by decide)]; exact a7
theorem gpV_lt {S : Se} {X : Nat} (hS : SeOk S X) {s i : Nat} (hi : i < lvN S s (ply S 10)) : gpV S s (ply S 10) i < 2 ^ 29 := by
  have hT := tU9 hS.2.2.2.2.2.2.2.2.2.2.2
  have m1 := lvD_mem hi
  have := (ply_bd hS m1.1 (show s ≤ _ by omega)).2
  unfold gpV lvT
  omega
/-- the first, from i on, that is no further behind -/
def fcb (g : Nat → Nat) (lim : Nat) : Nat → Nat → Nat
  | 0, _ => 0
  | m + 1, i => if lim < g i then fcb g lim m (i + 1) else i
theorem fcb_in {g : Nat → Nat} {lim : Nat} : ∀ {m i : Nat}, fcb g lim m i ≠ 0 → i ≤ fcb g lim m i ∧ fcb g lim m i < i + m := by
  intro m
  induction m with
  | zero => intro i h; exact absurd rfl h
  | succ m ih =>
    intro i h
    unfold fcb at h ⊢
    split
    · rename_i e
      rw [if_pos e] at h
      have := ih h
      omega
    · omega
def ixO (S : Se) (P : Ps) (s : Nat) : Nat := fcb (gpV S s P) (eSet S 4) (lvN S s P - 1) 1
def buO (S : Se) (P : Ps) (s : Nat) : Int32 := if ixO S P s = 0 then (-6) else nI (lvD S s P (ixO S P s))
def fcs (f : Nat → Nat) : Nat → Nat → Nat
  | 0, _ => 9
  | m + 1, s => if f s = 0 then fcs f m (s + 1) else s
theorem fcs_in {f : Nat → Nat} : ∀ {m s : Nat}, fcs f m s ≠ 9 → s ≤ fcs f m s ∧ fcs f m s < s + m ∧ f (fcs f m s) ≠ 0 := by
  intro m
  induction m with
  | zero => intro s h; exact absurd rfl h
  | succ m ih =>
    intro s h
    unfold fcs at h ⊢
    split
    · rename_i e
      rw [if_pos e] at h
      have := ih h
      exact ⟨by omega, by omega, this.2.2⟩
    · rename_i e
      exact ⟨Nat.le_refl _, by omega, e⟩
def onS (S : Se) (P : Ps) : Nat := fcs (ixO S P) 9 0
def onA (S : Se) (P : Ps) : Int32 := if onS S P = 9 then (-6) else nI (onS S P)
def onB (S : Se) (P : Ps) : Int32 := if onS S P = 9 then (-6) else buO S P (onS S P)
theorem ne6 {k : Nat} (hk : k < 2 ^ 31) : ¬ nI k = (-6) := by
  intro z
  have := congrArg Int32.toInt z
  rw [nI_toInt hk] at this
  have e : (-6 : Int32).toInt = -6 := by decide
  omega
theorem buO_6 {S : Se} {X : Nat} (hS : SeOk S X) {s : Nat} : buO S (ply S 10) s = (-6) ↔ ixO S (ply S 10) s = 0 := by
  unfold buO
  by_cases e : ixO S (ply S 10) s = 0
  · rw [if_pos e]; exact ⟨fun _ => e, fun _ => rfl⟩
  · rw [if_neg e]
    have h1 := fcb_in (g := gpV S s (ply S 10)) (lim := eSet S 4) (m := lvN S s (ply S 10) - 1) (i := 1) e
    have h2 : ixO S (ply S 10) s < lvN S s (ply S 10) := by unfold ixO at e ⊢; omega
    have := (lvD_mem h2).1
    have := hS.1
    exact ⟨fun z => absurd z (ne6 (by omega)), fun z => absurd z e⟩
theorem pc_fcb_run {S : Se} {X : Nat} (hS : SeOk S X) {x s : Nat} (hx : Cr x) (hs : s < 9) {σ : Sg} (h : Hp σ) (hL : CLine σ S) (hC : CRb x σ (ply S 10) (Vd S 10)) (hA : Arr (σ.2.1 (x + 11)) (lvR S s (ply S 10) (eB S))) :
    ∀ (m i n : Nat), m = lvN S s (ply S 10) - i → 1 ≤ i → i ≤ 9 → m < n → X0_firstCloseBus_run n x 1 (nI s) (nI (lvN S s (ply S 10))) (nI i) σ = some (if fcb (gpV S s (ply S 10)) (eSet S 4) m i = 0 then (-6) else nI (lvD S s (ply S 10) (fcb (gpV S s (ply S 10)) (eSet S 4) m i)), σ) := by
  intro m
  have hB8 := hS.1
  have hl := lvN_le (S := S) (s := s) (P := ply S 10)
  have h4 := hS.2.2.2.2.2.1
  induction m with
  | zero =>
    intro i n hm hi hi9 hn
    obtain ⟨n, rfl⟩ : ∃ q, n = q + 1 := ⟨n - 1, by omega⟩
    show X0_firstCloseBus_b10 n (X0_firstCloseBus_run n) x 1 _ _ _ σ = _
    unfold X0_firstCloseBus_b10
    rw [if_pos (nI_le (by omega) (by omega))]
    rfl
  | succ m ih =>
    intro i n hm hi hi9 hn
    obtain ⟨n, rfl⟩ : ∃ q, n = q + 1 := ⟨n - 1, by omega⟩
    have hi2 : i < lvN S s (ply S 10) := by omega
    have hg := gpV_lt hS hi2
    show X0_firstCloseBus_b10 n (X0_firstCloseBus_run n) x 1 _ _ _ σ = _
    unfold X0_firstCloseBus_b10
    have z4 : aI 5 4 σ = some (σ.2.1 5 4) := aI_5 (j := 4) h (by decide)
    rw [if_neg (nI_ge hi2 (by omega)), ckc h hx, ob, pc_gap hS hx hs h hC hA hi hi2, ob, gR_1_1_3 h, ob, z4, ob, hL.2.2.2.2.1 4 (by decide)]
    unfold fcb
    by_cases e : eSet S 4 < gpV S s (ply S 10) i
    · rw [if_pos (nI_lt e (by omega)), if_pos e, nI_1, ob, ih (i + 1) n (by omega) (by omega) (by omega) (by omega)]
    · have a1 : σ.2.1 (x + 11) i = nI (lvD S s (ply S 10) i) := Arr_get hA hi2
      rw [if_neg (nI_nlt (by omega) (by omega)), if_neg e, gRc_12 h hx, ob, aIc_11 h hx (by omega), ob, a1, if_neg (by omega)]
theorem pc_fcb {S : Se} {X : Nat} (hS : SeOk S X) {x s n : Nat} (hx : Cr x) (hs : s < 9) (hn : 60 ≤ n) {σ : Sg} (h : Hp σ) (hL : CLine σ S) (hC : CRb x σ (ply S 10) (Vd S 10)) :
    ∃ τ, f_X0_firstCloseBus n x 1 (nI s) σ = some (buO S (ply S 10) s, τ) ∧ FO x σ τ := by
  have hB8 := hS.1
  have hl := lvN_le (S := S) (s := s) (P := ply S 10)
  obtain ⟨A, q1, q2⟩ := pc_orderLeaving hS hx hs (n := n) (by omega) h hL hC
  have fo : FO x σ (sA σ (x + 11) A) := FO.sA
  unfold f_X0_firstCloseBus X0_firstCloseBus_b0
  rw [ckc h hx, ob, q1, ob]
  have := pc_fcb_run hS hx hs (fo.hp h) (fo.fd.line hx hL) (fo.crb hC) (by rw [sA_eq]; exact q2) (lvN S s (ply S 10) - 1) 1 n rfl (Nat.le_refl _) (by decide) (by omega)
  exact ⟨_, this, fo⟩
theorem pc_fcs_run {S : Se} {X : Nat} (hS : SeOk S X) {x : Nat} (hx : Cr x) : ∀ (m s n : Nat) (σ : Sg), s + m = 9 → 60 + m < n → Hp σ → CLine σ S → CRb x σ (ply S 10) (Vd S 10) →
    ∃ τ, X0_firstCloseStop_run n x 1 (nI s) σ = some (if fcs (ixO S (ply S 10)) m s = 9 then (-6) else nI (fcs (ixO S (ply S 10)) m s), τ) ∧ FO x σ τ := by
  intro m
  induction m with
  | zero =>
    intro s n σ hs hn h hL hC
    obtain ⟨n, rfl⟩ : ∃ q, n = q + 1 := ⟨n - 1, by omega⟩
    have e : s = 9 := by omega
    subst e
    show ∃ τ, X0_firstCloseStop_b2 n (X0_firstCloseStop_run n) x 1 (nI 9) σ = _ ∧ _
    unfold X0_firstCloseStop_b2
    rw [if_pos (show (9 : Int32) ≤ nI 9 by decide)]
    exact ⟨σ, rfl, FO.rf⟩
  | succ m ih =>
    intro s n σ hs hn h hL hC
    obtain ⟨n, rfl⟩ : ∃ q, n = q + 1 := ⟨n - 1, by omega⟩
    show ∃ τ, X0_firstCloseStop_b2 n (X0_firstCloseStop_run n) x 1 (nI s) σ = _ ∧ _
    unfold X0_firstCloseStop_b2
    obtain ⟨τ, t1, t2⟩ := pc_fcb hS hx (s := s) (n := n) (by omega) (by omega) h hL hC
    rw [if_neg (show ¬ (9 : Int32) ≤ nI s from nI_ge (b := 9) (by omega) (by decide)), ckc h hx, ob, t1, ob]
    unfold fcs
    by_cases e : ixO S (ply S 10) s = 0
    · rw [if_pos ((buO_6 hS).mpr e), if_pos e, nI_1, ob]
      obtain ⟨ρ, r1, r2⟩ := ih (s + 1) n τ (by omega) (by omega) (t2.hp h) (t2.fd.line hx hL) (t2.crb hC)
      exact ⟨ρ, r1, t2.tr r2⟩
    · rw [if_neg (fun z => e ((buO_6 hS).mp z)), if_neg e, if_neg (by omega)]
      exact ⟨τ, rfl, t2⟩
theorem pc_fcs {S : Se} {X : Nat} (hS : SeOk S X) {x n : Nat} (hx : Cr x) (hn : 80 ≤ n) {σ : Sg} (h : Hp σ) (hL : CLine σ S) (hC : CRb x σ (ply S 10) (Vd S 10)) :
    ∃ τ, f_X0_firstCloseStop n x 1 σ = some (onA S (ply S 10), τ) ∧ FO x σ τ := pc_fcs_run hS hx 9 0 n σ rfl (by omega) h hL hC
/-! the model's -/
def FH (σ τ : Sg) : Prop := τ.1 = σ.1 ∧ τ.2.2.2 = σ.2.2.2 ∧ τ.2.2.1 = σ.2.2.1 ∧ (∀ q, q ≠ 44 → q ≠ 70 → τ.2.1 q = σ.2.1 q) ∧ (∀ j, j ≠ 32 → j ≠ 34 → τ.2.1 44 j = σ.2.1 44 j)
theorem FH.rf {σ : Sg} : FH σ σ := ⟨rfl, rfl, rfl, fun _ _ _ => rfl, fun _ _ _ => rfl⟩
theorem FH.tr {σ τ ρ : Sg} (h1 : FH σ τ) (h2 : FH τ ρ) : FH σ ρ := ⟨h2.1.trans h1.1, h2.2.1.trans h1.2.1, h2.2.2.1.trans h1.2.2.1, fun k a b => (h2.2.2.2.1 k a b).trans (h1.2.2.2.1 k a b), fun j a b => (h2.2.2.2.2 j a b).trans (h1.2.2.2.2 j a b)⟩
theorem FG.fh {σ τ : Sg} (h : FG σ τ) : FH σ τ := ⟨h.1, h.2.1, h.2.2.1, h.2.2.2.1, fun j a _ => h.2.2.2.2 j a⟩
theorem FH.fn {σ τ : Sg} (h : FH σ τ) : FN σ τ := ⟨h.1, h.2.1, h.2.2.1, fun k hk => h.2.2.2.1 k (by omega) (by omega), fun j hj => h.2.2.2.2 j (by omega) (by omega)⟩
theorem FH.hp {σ τ : Sg} (h : FH σ τ) (hp : Hp σ) : Hp τ := Hp_eq h.1 h.2.1 hp
theorem pm_one15 {S : Se} {X : Nat} (hS : SeOk S X) {s : Nat} (hs : s < 9) {σ : Sg} (h : Hp σ) (hL : MLine σ S) (hM : MFin S σ) (hc : σ.2.1 44 32 = nI (lvN S s (ply S 10))) (hA : Arr (σ.2.1 70) (lvR S s (ply S 10) (eB S))) :
    ∀ (m i n : Nat), m = lvN S s (ply S 10) - i → 1 ≤ i → i ≤ 9 → m < n →
    (fcb (gpV S s (ply S 10)) (eSet S 4) m i = 0 → ∃ n', n ≤ n' + m + 1 ∧ X5_oneOf_run n 15 44 (nI s) (nI i) σ = X5_oneOf_run n' 2 44 (nI (s + 1)) 0 σ) ∧
    (fcb (gpV S s (ply S 10)) (eSet S 4) m i ≠ 0 → X5_oneOf_run n 15 44 (nI s) (nI i) σ = some (nI s, sI σ 44 34 (nI (lvD S s (ply S 10) (fcb (gpV S s (ply S 10)) (eSet S 4) m i))))) := by
  intro m
  have hB8 := hS.1
  have hl := lvN_le (S := S) (s := s) (P := ply S 10)
  have h4 := hS.2.2.2.2.2.1
  induction m with
  | zero =>
    intro i n hm hi hi9 hn
    obtain ⟨n, rfl⟩ : ∃ q, n = q + 1 := ⟨n - 1, by omega⟩
    refine ⟨fun _ => ⟨n, by omega, ?_⟩, fun z => absurd rfl z⟩
    show X5_oneOf_b15 n (X5_oneOf_run n) 44 (nI s) (nI i) σ = _
    unfold X5_oneOf_b15
    rw [gI_5_44_32 h, ob, hc, if_pos (nI_le (by omega) (by omega)), nI_1, ob]
  | succ m ih =>
    intro i n hm hi hi9 hn
    obtain ⟨n, rfl⟩ : ∃ q, n = q + 1 := ⟨n - 1, by omega⟩
    have hi2 : i < lvN S s (ply S 10) := by omega
    have hg := gpV_lt hS hi2
    have z4 : aI 51 4 σ = some (σ.2.1 51 4) := aI_51 (j := 4) h (by decide)
    have a1 : σ.2.1 70 i = nI (lvD S s (ply S 10) i) := Arr_get hA hi2
    have step : X5_oneOf_run (n + 1) 15 44 (nI s) (nI i) σ = if eSet S 4 < gpV S s (ply S 10) i then X5_oneOf_run n 15 44 (nI s) (nI (i + 1)) σ else some (nI s, sI σ 44 34 (nI (lvD S s (ply S 10) i))) := by
      show X5_oneOf_b15 n (X5_oneOf_run n) 44 (nI s) (nI i) σ = _
      unfold X5_oneOf_b15
      rw [gI_5_44_32 h, ob, hc, if_neg (nI_ge hi2 (by omega)), ck_44 h, ob, pm_gap hS hs h hM hA hi hi2, ob, gR_5_44_7 h, ob, z4, ob, hL.2.2.2.2.1 4 (by decide)]
      by_cases e : eSet S 4 < gpV S s (ply S 10) i
      · rw [if_pos (nI_lt e (by omega)), if_pos e, nI_1, ob]
      · rw [if_neg (nI_nlt (by omega) (by omega)), if_neg e, gR_5_44_33 h, ob, aI_70 h (by omega), ob, a1, pI_5_44_34 h, ob]
    rw [step]
    unfold fcb
    by_cases e : eSet S 4 < gpV S s (ply S 10) i
    · rw [if_pos e, if_pos e]
      obtain ⟨i1, i2⟩ := ih (i + 1) n (by omega) (by omega) (by omega) (by omega)
      refine ⟨fun z => ?_, i2⟩
      obtain ⟨n', q1, q2⟩ := i1 z
      exact ⟨n', by omega, q2⟩
    · rw [if_neg e, if_neg e]
      exact ⟨fun z => by omega, fun _ => rfl⟩
theorem pm_one_run {S : Se} {X : Nat} (hS : SeOk S X) : ∀ (m s n : Nat) (σ : Sg), s + m = 9 → 150 + 12 * m < n → Hp σ → MLine σ S → MFin S σ →
    ∃ τ, X5_oneOf_run n 2 44 (nI s) 0 σ = some (if fcs (ixO S (ply S 10)) m s = 9 then (-6) else nI (fcs (ixO S (ply S 10)) m s), τ) ∧ FH σ τ ∧ τ.2.1 44 34 = (if fcs (ixO S (ply S 10)) m s = 9 then (-6) else buO S (ply S 10) (fcs (ixO S (ply S 10)) m s)) := by
  intro m
  have hB8 := hS.1
  induction m with
  | zero =>
    intro s n σ hs hn h hL hM
    obtain ⟨n, rfl⟩ : ∃ q, n = q + 1 := ⟨n - 1, by omega⟩
    have e : s = 9 := by omega
    subst e
    show ∃ τ, X5_oneOf_b2 n (X5_oneOf_run n) 44 (nI 9) σ = _ ∧ _
    unfold X5_oneOf_b2
    rw [if_pos (show (9 : Int32) ≤ nI 9 by decide), pI_5_44_34 h, ob]
    refine ⟨_, rfl, ⟨rfl, rfl, rfl, fun q a b => by rw [rI_ne a], fun j a b => by rw [rI, if_neg (fun z => b z.2)]⟩, ?_⟩
    rw [rI, if_pos ⟨rfl, rfl⟩]; rfl
  | succ m ih =>
    intro s n σ hs hn h hL hM
    obtain ⟨n, rfl⟩ : ∃ q, n = q + 1 := ⟨n - 1, by omega⟩
    have hl := lvN_le (S := S) (s := s) (P := ply S 10)
    show ∃ τ, X5_oneOf_b2 n (X5_oneOf_run n) 44 (nI s) σ = _ ∧ _
    unfold X5_oneOf_b2
    obtain ⟨τ, t1, t2, t3, t4⟩ := pm_layGoing hS (s := s) (n := n) (by omega) (by omega) h hL hM
    rw [if_neg (show ¬ (9 : Int32) ≤ nI s from nI_ge (b := 9) (by omega) (by decide)), ck_44 h, ob, t1, ob]
    obtain ⟨q1, q2⟩ := pm_one15 hS (s := s) (by omega) (t2.hp h) (t2.line hL) (t2.fin hM) t3 t4 (lvN S s (ply S 10) - 1) 1 n rfl (Nat.le_refl _) (by decide) (by omega)
    unfold fcs
    by_cases e : ixO S (ply S 10) s = 0
    · obtain ⟨n', r1, r2⟩ := q1 e
      have r2' : X5_oneOf_run n 15 44 (nI s) 1 τ = X5_oneOf_run n' 2 44 (nI (s + 1)) 0 τ := r2
      rw [r2', if_pos e]
      obtain ⟨ρ, u1, u2, u3⟩ := ih (s + 1) n' τ (by omega) (by omega) (t2.hp h) (t2.line hL) (t2.fin hM)
      exact ⟨ρ, u1, t2.fh.tr u2, u3⟩
    · have r2 := q2 e
      have r2' : X5_oneOf_run n 15 44 (nI s) 1 τ = some (nI s, sI τ 44 34 (nI (lvD S s (ply S 10) (ixO S (ply S 10) s)))) := r2
      rw [r2', if_neg e, if_neg (by omega), if_neg (by omega)]
      refine ⟨_, rfl, t2.fh.tr ⟨rfl, rfl, rfl, fun q a b => by rw [rI_ne a], fun j a b => by rw [rI, if_neg (fun z => b z.2)]⟩, ?_⟩
      rw [rI, if_pos ⟨rfl, rfl⟩]
      unfold buO
      rw [if_neg e]
theorem pm_oneOf {S : Se} {X : Nat} (hS : SeOk S X) {n : Nat} (hn : 300 ≤ n) {σ : Sg} (h : Hp σ) (hL : MLine σ S) (hM : MFin S σ) :
    ∃ τ, f_X5_oneOf n 44 σ = some (onA S (ply S 10), τ) ∧ FH σ τ ∧ τ.2.1 44 34 = onB S (ply S 10) := pm_one_run hS 9 0 n σ rfl (by omega) h hL hM
section
variable {W : Wd}
theorem onS_lt {S : Se} {P : Ps} (e : ¬ onS S P = 9) : onS S P < 9 := by
  have := (fcs_in (f := ixO S P) (m := 9) (s := 0) e).2.1
  unfold onS
  omega
theorem onA_6 {S : Se} {P : Ps} : onA S P = (-6) ↔ onS S P = 9 := by
  unfold onA
  by_cases e : onS S P = 9
  · rw [if_pos e]; exact ⟨fun _ => e, fun _ => rfl⟩
  · rw [if_neg e]
    have := onS_lt e
    exact ⟨fun z => absurd z (ne6 (by omega)), fun z => absurd z e⟩
theorem onA_0 {S : Se} {P : Ps} : 0 ≤ onA S P ↔ ¬ onS S P = 9 := by
  unfold onA
  by_cases e : onS S P = 9
  · rw [if_pos e]; exact ⟨fun z => absurd z (by decide), fun z => absurd e z⟩
  · rw [if_neg e]
    have := onS_lt e
    exact ⟨fun _ => e, fun _ => nI_pos' (by omega)⟩
theorem z_one (hW : Ok W) {n : Nat} (hn : 400 ≤ n) (i : Int32) : Pz (f_X4_one n 0 i) (f_X5_one n 44 i) W := by
  by_cases hi : Rg i 0 1
  · have hi2 := hi
    obtain ⟨w, w1, w2, rfl⟩ := hi
    have hcase : w = 0 ∨ w = 1 := by omega
    refine ⟨W, if w = 0 then onA (xS W (fun _ => false)) (pl W) else onB (xS W (fun _ => false)) (pl W), hW, fun σ h hI => ?_, fun σ h hI => ?_⟩
    · obtain ⟨τ, t1, t2, t3, t4, t5, t6⟩ := pc_pres hW (n := n) (by omega) h hI
      obtain ⟨ρ, r1, r2⟩ := pc_fcs hW.x (x := 14) (n := n) (Or.inl rfl) (by omega) t2 t3.1 t4
      have h2 := r2.hp t2
      have fin : ∀ υ, FO 14 ρ υ → Hp υ ∧ InvC υ W ∧ ∀ k, 44 ≤ k → υ.2.1 k = σ.2.1 k := fun υ hu => ⟨hu.hp h2, (r2.tr hu).inv t3 t2, fun k hk => by rw [(r2.tr hu).2.2.2 k (by omega)]; exact (t5 k (by omega)).1⟩
      unfold f_X4_one X4_one_b36
      rw [if_neg (nI_pos (by omega)), if_pos (show nI w ≤ 1 from nI_le (b := 1) w2 (by decide)), ck_0 h, ob, t1, ob, gR_4_0_0 t2, ob, ck14 t2, ob, r1, ob]
      rcases hcase with q | q <;> subst q
      · rw [if_pos (show nI 0 = 0 from rfl)]
        exact ⟨ρ, rfl, fin ρ FO.rf⟩
      · rw [if_neg (show ¬ nI 1 = 0 by decide)]
        by_cases e : onS (xS W (fun _ => false)) (pl W) = 9
        · have e' : onS (xS W (fun _ => false)) (ply (xS W (fun _ => false)) 10) = 9 := e
          rw [if_pos (onA_6.mpr e')]
          refine ⟨ρ, ?_, fin ρ FO.rf⟩
          unfold onA onB
          rw [if_pos e, if_pos e', if_pos e, ite_self]
        · have e' : ¬ onS (xS W (fun _ => false)) (ply (xS W (fun _ => false)) 10) = 9 := e
          have hlt := onS_lt e'
          obtain ⟨υ, u1, u2⟩ := pc_fcb hW.x (x := 14) (s := onS (xS W (fun _ => false)) (ply (xS W (fun _ => false)) 10)) (n := n) (Or.inl rfl) hlt (by omega) h2 (r2.fd.line (Or.inl rfl) t3.1) (r2.crb t4)
          have eA : onA (xS W (fun _ => false)) (ply (xS W (fun _ => false)) 10) = nI (onS (xS W (fun _ => false)) (ply (xS W (fun _ => false)) 10)) := by unfold onA; rw [if_neg e']
          rw [if_neg (fun z => e' (onA_6.mp z)), gR_4_0_0 h2, ob, ck14 h2, ob, eA, u1, ob]
          refine ⟨υ, ?_, fin υ u2⟩
          unfold onB
          rw [if_neg (by decide), if_neg e]
          rfl
    · obtain ⟨τ, t1, t2, t3⟩ := pm_prs hW hn h hI
      have h1 := t2.hp h
      obtain ⟨ρ, r1, r2, r3⟩ := pm_oneOf hW.x (n := n) (by omega) h1 (InvM_fn hI t2).1 t3
      have h2 := r2.hp h1
      have fn := t2.tr r2.fn
      refine ⟨ρ, ?_, h2, InvM_fn hI fn, fun q hq => fn.2.2.2.1 q (Or.inl hq), fn.2.2.1, fn.2.1⟩
      unfold f_X5_one
      rw [iy_0_1 hi2, ob, if_neg z10, ck_44 h, ob, t1, ob, ck_44 h1, ob, r1, ob]
      rcases hcase with q | q <;> subst q
      · rw [if_pos (show nI 0 = 0 from rfl)]; rfl
      · rw [if_neg (show ¬ nI 1 = 0 by decide), gI_5_44_34 h2, ob, r3]; rfl
  · refine ⟨W, (-2), hW, CZ_no (fun σ h hI => ?_), MZ_no (fun σ h hI => ?_)⟩
    · unfold f_X4_one X4_one_b9
      rcases nRg (lo := 0) (by decide) (by decide) hi with z | z
      · rw [if_pos (show i < 0 from z)]
      · rw [if_neg (show ¬ i ≤ 1 from i_nle (by decide) z), ite_self]
    · unfold f_X5_one
      rw [im_0_1 hi, ob, if_pos rfl]
-- follow
theorem z_follow (hW : Ok W) {n : Nat} (hn : 400 ≤ n) (i j : Int32) : Pz (f_X4_follow n 0 i j) (f_X5_follow n 44 i j) W := by
  by_cases hi : Rg i 0 8
  · have hi2 := hi
    obtain ⟨s, s1, s2, rfl⟩ := hi
    have hB8 := hW.x.1
    have hl := lvN_le (S := xS W (fun _ => false)) (s := s) (P := ply (xS W (fun _ => false)) 10)
    have hcl : ∀ r : Int32, ∀ (hrc : ∀ A τ, Hp τ → CLine τ W.1 → CRb 14 τ (pl W) (Vd W.1 10) → Arr A (lvR (xS W (fun _ => false)) s (ply (xS W (fun _ => false)) 10) (eB (xS W (fun _ => false)))) →
        (if j = 0 then some (if nI (lvN (xS W (fun _ => false)) s (ply (xS W (fun _ => false)) 10)) - 1 < 0 then 0 else nI (lvN (xS W (fun _ => false)) s (ply (xS W (fun _ => false)) 10)) - 1, sA τ (14 + 11) A) else if j < 0 then X4_follow_b48 n (sA τ (14 + 11) A) else if j ≤ nI (lvN (xS W (fun _ => false)) s (ply (xS W (fun _ => false)) 10)) - 1 then (ck 0 14 (sA τ (14 + 11) A)).bind fun u_12 => (f_X0_gapAhead n 14 (nI s) j (sA τ (14 + 11) A)).bind fun w_13 => some (w_13.1, w_13.2) else X4_follow_b48 n (sA τ (14 + 11) A)) = some (r, sA τ (14 + 11) A)), CZ (f_X4_follow n 0 (nI s) j) W W r := by
      intro r hrc σ h hI
      obtain ⟨τ, t1, t2, t3, t4, t5, t6⟩ := pc_pres hW (n := n) (by omega) h hI
      obtain ⟨A, q1, q2⟩ := pc_orderLeaving hW.x (x := 14) (s := s) (n := n) (Or.inl rfl) (by omega) (by omega) t2 t3.1 t4
      have fo : FO 14 τ (sA τ (14 + 11) A) := FO.sA
      refine ⟨sA τ (14 + 11) A, ?_, fo.hp t2, fo.inv t3 t2, fun k hk => by rw [fo.2.2.2 k (by omega)]; exact (t5 k (by omega)).1⟩
      unfold f_X4_follow
      rw [go_y hi2, ob, if_neg z10, ck_0 h, ob, t1, ob, gR_4_0_0 t2, ob, ck14 t2, ob, q1, ob, ob]
      exact hrc A τ t2 t3.1 t4 q2
    have hml : ∀ r : Int32, ∀ (hrc : ∀ τ, Hp τ → MFin (xS W (fun _ => false)) τ → Arr (τ.2.1 70) (lvR (xS W (fun _ => false)) s (ply (xS W (fun _ => false)) 10) (eB (xS W (fun _ => false)))) →
        X5_follow_b37 n 44 (nI s) j (nI (lvN (xS W (fun _ => false)) s (ply (xS W (fun _ => false)) 10) - 1)) τ = some (r, τ)), MZ (f_X5_follow n 44 (nI s) j) W W r := by
      intro r hrc σ h hI
      obtain ⟨τ, t1, t2, t3⟩ := pm_prs hW hn h hI
      have h1 := t2.hp h
      obtain ⟨ρ, r1, r2, r3, r4⟩ := pm_layGoing hW.x (s := s) (n := n) (by omega) (by omega) h1 (InvM_fn hI t2).1 t3
      have h2 := r2.hp h1
      have fn := t2.tr r2.fn
      refine ⟨ρ, ?_, h2, InvM_fn hI fn, fun q hq => fn.2.2.2.1 q (Or.inl hq), fn.2.2.1, fn.2.1⟩
      unfold f_X5_follow
      rw [on_y hi2, ob, if_neg z10, ck_44 h, ob, t1, ob, ck_44 h1, ob, r1, ob, gI_5_44_32 h2, ob, r3]
      have := hrc ρ h2 (r2.fin t3) r4
      by_cases e : lvN (xS W (fun _ => false)) s (ply (xS W (fun _ => false)) 10) = 0
      · rw [if_pos ((nI_0' (by omega)).mpr e)]
        rw [e] at this
        exact this
      · rw [if_neg (fun z => e ((nI_0' (by omega)).mp z)), ob, show nI (lvN (xS W (fun _ => false)) s (ply (xS W (fun _ => false)) 10)) - 1 = nI (lvN (xS W (fun _ => false)) s (ply (xS W (fun _ => false)) 10) - 1) from nsub (b := 1) (by omega)]
        exact this
    by_cases e0 : j = 0
    · subst e0
      refine ⟨W, nI (lvN (xS W (fun _ => false)) s (ply (xS W (fun _ => false)) 10) - 1), hW, hcl _ (fun A τ _ _ _ _ => ?_), hml _ (fun τ _ _ _ => ?_)⟩
      · rw [if_pos rfl]
        by_cases e : lvN (xS W (fun _ => false)) s (ply (xS W (fun _ => false)) 10) = 0
        · rw [e, if_pos (show nI 0 - 1 < 0 by decide)]; rfl
        · rw [show nI (lvN (xS W (fun _ => false)) s (ply (xS W (fun _ => false)) 10)) - 1 = nI (lvN (xS W (fun _ => false)) s (ply (xS W (fun _ => false)) 10) - 1) from nsub (b := 1) (by omega), if_neg (nI_pos (by omega))]
      · unfold X5_follow_b37
        rw [if_pos rfl]
    · by_cases hr : Rg j 1 (lvN (xS W (fun _ => false)) s (ply (xS W (fun _ => false)) 10) - 1)
      · have hr2 := hr
        obtain ⟨v, v1, v2, rfl⟩ := hr
        have hv : v < lvN (xS W (fun _ => false)) s (ply (xS W (fun _ => false)) 10) := by omega
        refine ⟨W, nI (gpV (xS W (fun _ => false)) s (ply (xS W (fun _ => false)) 10) v), hW, hcl _ (fun A τ t2 t3 t4 q2 => ?_), hml _ (fun τ h2 hM r4 => ?_)⟩
        · have fo : FO 14 τ (sA τ (14 + 11) A) := FO.sA
          rw [if_neg e0, if_neg (nI_pos (by omega)), show nI (lvN (xS W (fun _ => false)) s (ply (xS W (fun _ => false)) 10)) - 1 = nI (lvN (xS W (fun _ => false)) s (ply (xS W (fun _ => false)) 10) - 1) from nsub (b := 1) (by omega), if_pos (nI_le v2 (by omega)), ck14 (fo.hp t2), ob, pc_gap hW.x (x := 14) (Or.inl rfl) (by omega) (fo.hp t2) (fo.crb t4) (by rw [sA_eq]; exact q2) v1 hv, ob]
        · unfold X5_follow_b37
          rw [if_neg e0, show (1 : Int32) = nI 1 from rfl, in_y (by omega) hr2, ob, if_neg z10, ck_44 h2, ob, pm_gap hW.x (by omega) h2 hM r4 v1 hv, ob]
      · refine ⟨W, (-6), hW, hcl _ (fun A τ t2 t3 t4 q2 => ?_), hml _ (fun τ h2 hM r4 => ?_)⟩
        · unfold X4_follow_b48
          rw [if_neg e0]
          by_cases ej : j < 0
          · rw [if_pos ej]
          · rw [if_neg ej]
            obtain ⟨v, v1, rfl⟩ := nI_of ej
            have hv0 : v ≠ 0 := fun z => e0 (by rw [z]; rfl)
            have hv : ¬ v ≤ lvN (xS W (fun _ => false)) s (ply (xS W (fun _ => false)) 10) - 1 := fun z => hr ⟨v, by omega, z, rfl⟩
            by_cases e : lvN (xS W (fun _ => false)) s (ply (xS W (fun _ => false)) 10) = 0
            · rw [e, if_neg]
              show ¬ nI v ≤ -1
              rw [Int32.le_iff_toInt_le, nI_toInt v1, show (-1 : Int32).toInt = -1 by decide]
              omega
            · rw [show nI (lvN (xS W (fun _ => false)) s (ply (xS W (fun _ => false)) 10)) - 1 = nI (lvN (xS W (fun _ => false)) s (ply (xS W (fun _ => false)) 10) - 1) from nsub (b := 1) (by omega), if_neg (nI_ge (by omega) v1)]
        · unfold X5_follow_b37
          rw [if_neg e0, show (1 : Int32) = nI 1 from rfl, in_n (by omega) (by omega) hr, ob, if_pos rfl]
  · refine ⟨W, (-1), hW, CZ_no (fun σ h hI => ?_), MZ_no (fun σ h hI => ?_)⟩
    · unfold f_X4_follow
      rw [go_n hi, ob, if_pos rfl]
    · unfold f_X5_follow
      rw [on_n hi, ob, if_pos rfl]
end
