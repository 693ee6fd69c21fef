/-! WHO LEAVES A STOP, in order -/
def lvT (s : Nat) (P : Ps) (b : Nat) : Nat := P 1 (10 * b + s)
def lvW (S : Se) (s : Nat) (b : Nat) : Bool := decide (s < eFin S b)
def lvR (S : Se) (s : Nat) (P : Ps) (k : Nat) : List Nat := rowR (lvT s P) (lvW S s) k
def lvN (S : Se) (s : Nat) (P : Ps) : Nat := (lvR S s P (eB S)).length
def lvD (S : Se) (s : Nat) (P : Ps) (i : Nat) : Nat := (lvR S s P (eB S)).reverse.getD i 0
/-- how long behind the one ahead -/
def gpV (S : Se) (s : Nat) (P : Ps) (i : Nat) : Nat := lvT s P (lvD S s P i) - lvT s P (lvD S s P (i - 1))
theorem getD_el {l : List Nat} {i : Nat} (h : i < l.length) : l.getD i 0 = l[i] := by
  rw [List.getD_eq_getElem?_getD, List.getElem?_eq_getElem h]
  rfl
theorem lvN_le {S : Se} {s : Nat} {P : Ps} : lvN S s P ≤ eB S := rowR_len _
theorem lvD_mem {S : Se} {s : Nat} {P : Ps} {i : Nat} (h : i < lvN S s P) : lvD S s P i < eB S ∧ s < eFin S (lvD S s P i) := by
  have hl : i < (lvR S s P (eB S)).reverse.length := by rw [List.length_reverse]; exact h
  have hm : lvD S s P i ∈ lvR S s P (eB S) := by
    unfold lvD
    rw [getD_el hl, ← List.mem_reverse]
    exact List.getElem_mem hl
  have := rowR_mem.mp hm
  exact ⟨this.1, of_decide_eq_true this.2⟩
theorem lvD_le {S : Se} {s : Nat} {P : Ps} {i j : Nat} (hij : i < j) (h : j < lvN S s P) : lvT s P (lvD S s P i) ≤ lvT s P (lvD S s P j) := by
  have hl : j < (lvR S s P (eB S)).reverse.length := by rw [List.length_reverse]; exact h
  have hp : (lvR S s P (eB S)).reverse.Pairwise (fun x y => lvT s P x ≤ lvT s P y) := by
    rw [List.pairwise_reverse]
    exact rowR_sorted _
  have := List.pairwise_iff_getElem.mp hp i j (by omega) hl hij
  unfold lvD
  rw [getD_el hl, getD_el (show i < _ by omega)]
  exact this
theorem Arr_get {A : Nat → Int32} : ∀ {r : List Nat} {i : Nat}, Arr A r → i < r.length → A i = nI (r.reverse.getD i 0) := by
  intro r i h hi
  have hl : i < r.reverse.length := by rw [List.length_reverse]; exact hi
  have e : r.reverse = r.reverse.take i ++ r.reverse[i] :: r.reverse.drop (i + 1) := by
    rw [← List.drop_eq_getElem_cons hl, List.take_append_drop]
  have := Arr_at h e
  rw [List.length_take, Nat.min_eq_left (by omega)] at this
  rw [this, getD_el hl]
theorem pc_ol {S : Se} {X : Nat} (hS : SeOk S X) {x s : Nat} (hx : Cr x) (hs : s < 9) {P : Ps} : ∀ (m k n : Nat) (σ : Sg), k + m = eB S → 20 + m ≤ n → Hp σ → CLine σ S → (∀ b, b < eB S → s < eFin S b → σ.2.1 (x + 2) (10 * b + s) = nI (lvT s P b) ∧ lvT s P b < 2 ^ 31) → Arr (σ.2.1 (x + 11)) (lvR S s P k) →
    ∃ A, X0_orderLeaving_run n x 1 (nI s) (nI (lvR S s P k).length) (nI k) σ = some (nI (lvN S s P), sA σ (x + 11) A) ∧ Arr A (lvR S s P (eB S)) := by
  intro m
  have hB8 := hS.1
  induction m with
  | zero =>
    intro k n σ hk hn h hL hle hA
    obtain ⟨n, rfl⟩ : ∃ q, n = q + 1 := ⟨n - 1, by omega⟩
    have e : k = eB S := by omega
    subst e
    show ∃ A, X0_orderLeaving_b5 n _ x 1 (nI s) _ (nI (eB S)) σ = _ ∧ _
    unfold X0_orderLeaving_b5
    rw [gI_1_1_7 h, ob, hL.1, if_pos (nI_le (Nat.le_refl _) (by omega))]
    exact ⟨σ.2.1 (x + 11), by rw [sA_self rfl]; rfl, hA⟩
  | succ m ih =>
    intro k n σ hk hn h hL hle hA
    obtain ⟨n, rfl⟩ : ∃ q, n = q + 1 := ⟨n - 1, by omega⟩
    have hkB : k < eB S := by omega
    have hlen : (lvR S s P k).length ≤ k := rowR_len _
    show ∃ A, X0_orderLeaving_b5 n (X0_orderLeaving_run n) x 1 (nI s) _ (nI k) σ = _ ∧ _
    unfold X0_orderLeaving_b5
    rw [gI_1_1_7 h, ob, hL.1, if_neg (nI_ge hkB (by omega)), ck_1 h, ob, pc_goesOn hS h hL hkB (show s < 10 by omega), ob]
    by_cases e : s < eFin S k
    · have hw : lvW S s k = true := decide_eq_true e
      rw [if_pos e, if_neg z10, gRc_1 h hx, ob, ckc h hx, ob]
      obtain ⟨A, q1, q2⟩ := pc_putInOrder (a1 := x + 2) (n := n) (t := lvT s P) (r := lvR S s P k) hx (Or.inr rfl) (show s < 10 by omega) (show k < 8 by omega) h (fun a ha => by
        rcases List.mem_cons.mp ha with rfl | ha
        · exact ⟨by omega, (hle a hkB e).1, (hle a hkB e).2⟩
        · have ha2 := rowR_mem.mp ha
          have := hle a (by omega) (of_decide_eq_true ha2.2)
          exact ⟨by omega, this.1, this.2⟩) (by omega) (by omega) hA
      rw [q1, ob, nI_1, ob]
      unfold X0_orderLeaving_b39
      rw [nI_1, ob]
      have er : lvR S s P (k + 1) = insR (lvT s P) k (lvR S s P k) := by
        show (if lvW S s k = true then _ else _) = _
        rw [if_pos hw]; rfl
      have el : (lvR S s P k).length + 1 = (lvR S s P (k + 1)).length := by rw [er, insR_len]
      rw [el]
      have h1 : Hp (sA σ (x + 11) A) := Hp_eq rfl rfl h
      obtain ⟨A2, r1, r2⟩ := ih (k + 1) n (sA σ (x + 11) A) (by omega) (by omega) h1 (by
        unfold CLine
        rw [sA_ne (by omega), sA_ne (by omega), sA_ne (by omega), sA_ne (by omega), sA_ne (by omega), sA_ne (by omega), sA_ne (by omega), sA_ne (by omega)]
        exact hL) (fun b hb hbs => by rw [sA_ne (by omega)]; exact hle b hb hbs) (by rw [sA_eq, er]; exact q2)
      rw [r1, sA_sA]
      exact ⟨A2, rfl, r2⟩
    · have hw : ¬ lvW S s k = true := fun z => e (of_decide_eq_true z)
      rw [if_neg e, if_pos rfl]
      unfold X0_orderLeaving_b39
      rw [nI_1, ob]
      have er : lvR S s P (k + 1) = lvR S s P k := by
        show (if lvW S s k = true then _ else _) = _
        rw [if_neg hw]; rfl
      rw [← er]
      exact ih (k + 1) n σ (by omega) (by omega) h hL hle (by rw [er]; exact hA)
theorem pc_orderLeaving {S : Se} {X : Nat} (hS : SeOk S X) {x s n : Nat} (hx : Cr x) (hs : s < 9) (hn : 40 ≤ n) {σ : Sg} (h : Hp σ) (hL : CLine σ S) (hC : CRb x σ (ply S 10) (Vd S 10)) :
    ∃ A, f_X0_orderLeaving n x 1 (nI s) σ = some (nI (lvN S s (ply S 10)), sA σ (x + 11) A) ∧ Arr A (lvR S s (ply S 10) (eB S)) := by
  have hB8 := hS.1
  have hT := tU9 hS.2.2.2.2.2.2.2.2.2.2.2
  exact pc_ol hS hx hs (eB S) 0 n σ (by omega) (by omega) h hL (fun b hb hbs => ⟨(hC.1 (10 * b + s) ⟨b, s, hb, by omega, by omega, rfl⟩).2.1, by
    have := (ply_bd hS hb (show s ≤ eFin S b by omega)).2
    unfold lvT
    omega⟩) trivial
theorem pc_gap {S : Se} {X : Nat} (hS : SeOk S X) {x s n i : Nat} (hx : Cr x) (hs : s < 9) {σ : Sg} (h : Hp σ) (hC : CRb x σ (ply S 10) (Vd S 10)) (hA : Arr (σ.2.1 (x + 11)) (lvR S s (ply S 10) (eB S))) (i1 : 1 ≤ i) (i2 : i < lvN S s (ply S 10)) :
    f_X0_gapAhead n x (nI s) (nI i) σ = some (nI (gpV S s (ply S 10) i), σ) := by
  have hB8 := hS.1
  have hl := lvN_le (S := S) (s := s) (P := ply S 10)
  have m1 := lvD_mem i2
  have m2 := lvD_mem (show i - 1 < lvN S s (ply S 10) by omega)
  have a1 : σ.2.1 (x + 11) i = nI (lvD S s (ply S 10) i) := Arr_get hA i2
  have a2 : σ.2.1 (x + 11) (i - 1) = nI (lvD S s (ply S 10) (i - 1)) := Arr_get hA (show i - 1 < lvN S s (ply S 10) by omega)
  have c1 := (hC.1 (10 * lvD S s (ply S 10) i + s) ⟨_, s, m1.1, by omega, by omega, rfl⟩).2.1
  have c2 := (hC.1 (10 * lvD S s (ply S 10) (i - 1) + s) ⟨_, s, m2.1, by omega, by omega, rfl⟩).2.1
  unfold f_X0_gapAhead
  rw [gRc_1 h hx, ob, gRc_12 h hx, ob, aIc_11 h hx (by omega), ob, a1, pc_cell, ob, aIc_2 h hx (by omega), ob, c1, gRc_1 h hx, ob, gRc_12 h hx, ob, show nI i - 1 = nI (i - 1) from nsub (b := 1) i1, aIc_11 h hx (by omega), ob, a2, pc_cell, ob, aIc_2 h hx (by omega), ob, c2]
  have := lvD_le (S := S) (s := s) (P := ply S 10) (show i - 1 < i by omega) i2
  unfold lvT at this
  rw [nsub this]
  rfl
/-! the model's -/
def FG (σ τ : Sg) : Prop := τ.1 = σ.1 ∧ τ.2.2.2 = σ.2.2.2 ∧ τ.2.2.1 = σ.2.2.1 ∧ (∀ q, q ≠ 44 → q ≠ 70 → τ.2.1 q = σ.2.1 q) ∧ (∀ j, j ≠ 32 → τ.2.1 44 j = σ.2.1 44 j)
theorem FG.rf {σ : Sg} : FG σ σ := ⟨rfl, rfl, rfl, fun _ _ _ => rfl, fun _ _ => rfl⟩
theorem FG.tr {σ τ ρ : Sg} (h1 : FG σ τ) (h2 : FG τ ρ) : FG σ ρ := ⟨h2.1.trans h1.1, h2.2.1.trans h1.2.1, h2.2.2.1.trans h1.2.2.1, fun k a b => (h2.2.2.2.1 k a b).trans (h1.2.2.2.1 k a b), fun j hj => (h2.2.2.2.2 j hj).trans (h1.2.2.2.2 j hj)⟩
theorem FG.fn {σ τ : Sg} (h : FG σ τ) : FN σ τ := ⟨h.1, h.2.1, h.2.2.1, fun k hk => h.2.2.2.1 k (by omega) (by omega), fun j hj => h.2.2.2.2 j (by omega)⟩
theorem FG.hp {σ τ : Sg} (h : FG σ τ) (hp : Hp σ) : Hp τ := Hp_eq h.1 h.2.1 hp
theorem MFin_g {S : Se} {σ τ : Sg} (h : MFin S σ) (h1 : ∀ q, 58 ≤ q → q < 69 → τ.2.1 q = σ.2.1 q) (h2 : τ.2.1 44 29 = σ.2.1 44 29) (h3 : τ.2.1 44 30 = σ.2.1 44 30) : MFin S τ := by
  unfold MFin
  rw [h1 58 (by decide) (by decide), h1 59 (by decide) (by decide), h1 60 (by decide) (by decide), h1 61 (by decide) (by decide), h1 62 (by decide) (by decide), h1 63 (by decide) (by decide), h1 66 (by decide) (by decide), h1 67 (by decide) (by decide), h1 68 (by decide) (by decide), h2, h3]
  exact h
theorem FG.fin {S : Se} {σ τ : Sg} (h : FG σ τ) (hM : MFin S σ) : MFin S τ := MFin_g hM (fun q a b => h.2.2.2.1 q (by omega) (by omega)) (h.2.2.2.2 29 (by decide)) (h.2.2.2.2 30 (by decide))
theorem FG.line {S : Se} {σ τ : Sg} (h : FG σ τ) (hL : MLine σ S) : MLine τ S := by
  unfold MLine
  rw [h.2.2.2.2 3 (by decide), h.2.2.2.1 45 (by decide) (by decide), h.2.2.2.1 46 (by decide) (by decide), h.2.2.2.1 47 (by decide) (by decide), h.2.2.2.1 48 (by decide) (by decide), h.2.2.2.1 49 (by decide) (by decide), h.2.2.2.1 50 (by decide) (by decide), h.2.2.2.1 51 (by decide) (by decide)]
  exact hL
theorem pm_insG {s b len : Nat} (hs : s < 10) (hb : b < 8) {t : Nat → Nat} : ∀ (r : List Nat) (σ : Sg) (n : Nat), Hp σ → σ.2.1 44 32 = nI len → (∀ a ∈ b :: r, a < 8 ∧ σ.2.1 59 (10 * a + s) = nI (t a) ∧ t a < 2 ^ 31) → r.length < 8 → r.length < n → Arr (σ.2.1 70) r →
    ∃ A n', n ≤ n' + r.length + 1 ∧ X5_layGoing_run n 44 44 (nI s) (nI b) (nI r.length) σ = X5_layGoing_run n' 7 44 (nI s) (nI (b + 1)) 0 (sI (sA σ 70 A) 44 32 (nI (len + 1))) ∧ Arr A (insR t b r) ∧ ∀ i, r.length < i → A i = σ.2.1 70 i := by
  intro r
  induction r with
  | nil =>
    intro σ n h h3 ht hl hn hA
    obtain ⟨n, rfl⟩ : ∃ q, n = q + 1 := ⟨n - 1, by simp at hn; omega⟩
    show ∃ A n', _ ∧ X5_layGoing_b44 n (X5_layGoing_run n) 44 (nI s) (nI b) (nI 0) σ = _ ∧ _
    unfold X5_layGoing_b44
    rw [if_pos (show nI 0 ≤ 0 by decide)]
    unfold X5_layGoing_b100
    have h1 : Hp (sI σ 70 0 (nI b)) := h
    rw [gR_5_44_33 h, ob, xI_70 h (by omega), ob, gI_5_44_32 h1, ob, rI_ne (by decide), h3, nI_1, pI_5_44_32 h1, ob, sI_sA (k := 70)]
    unfold X5_layGoing_b117
    rw [nI_1, ob]
    exact ⟨_, n, by simp, rfl, ⟨pk_us, trivial⟩, fun i hi => pk_un (by simp at hi; omega)⟩
  | cons a r ih =>
    intro σ n h h3 ht hl hn hA
    obtain ⟨n, rfl⟩ : ∃ q, n = q + 1 := ⟨n - 1, by simp at hn; omega⟩
    rw [List.length_cons] at hl hn ⊢
    have ha8 := ht a (List.mem_cons_of_mem _ List.mem_cons_self)
    have hb8 := ht b List.mem_cons_self
    show ∃ A n', _ ∧ X5_layGoing_b44 n (X5_layGoing_run n) 44 (nI s) (nI b) (nI (r.length + 1)) σ = _ ∧ _
    unfold X5_layGoing_b44
    have em : nI (r.length + 1) - 1 = nI r.length := nsub (b := 1) (by omega)
    have em2 : nI (r.length + 1) + (-1) = nI r.length := pk_m1 _
    rw [if_neg (fun z => by have := (nI_le0 (by omega)).mp z; omega), gR_5_44_18 h, ob, gR_5_44_33 h, ob, em, aI_70 h (by omega), ob, hA.1, p10, aI_59 h (by omega), ob, ha8.2.1, ob, p10, aI_59 h (by omega), ob, hb8.2.1]
    by_cases e : t b < t a
    · rw [if_neg (nI_ge e ha8.2.2), ob, ob, aI_70 h (by omega), ob, hA.1, xI_70 h (by omega), ob, em2, ob]
      have hr : r.length < 8 := by omega
      obtain ⟨A, n', q0, q1, q2, q3⟩ := ih (sI σ 70 (r.length + 1) (nI a)) n h (by rw [rI_ne (by decide)]; exact h3) (fun c hc => by
        have hc' := ht c (by
          rcases List.mem_cons.mp hc with rfl | hc
          · exact List.mem_cons_self
          · exact List.mem_cons_of_mem _ (List.mem_cons_of_mem _ hc))
        rw [rI_ne (by decide)]
        exact hc') hr (by omega) (by
        refine Arr_congr (fun i hi => ?_) hA.2
        rw [rI_eq]
        exact pk_un (by omega))
      rw [q1, sI_sA (k := 70), sA_sA]
      refine ⟨A, n', by omega, rfl, ?_, fun i hi => ?_⟩
      · unfold insR
        rw [if_pos e]
        refine ⟨?_, q2⟩
        rw [insR_len, q3 (r.length + 1) (by omega), rI_eq]
        exact pk_us
      · rw [q3 i (by omega), rI_eq]
        exact pk_un (by omega)
    · rw [if_pos (nI_le (by omega) hb8.2.2)]
      unfold X5_layGoing_b100
      have h1 : Hp (sI σ 70 (r.length + 1) (nI b)) := h
      rw [gR_5_44_33 h, ob, xI_70 h (by omega), ob, gI_5_44_32 h1, ob, rI_ne (by decide), h3, nI_1, pI_5_44_32 h1, ob, sI_sA (k := 70)]
      unfold X5_layGoing_b117
      rw [nI_1, ob]
      refine ⟨_, n, by omega, rfl, ?_, fun i hi => pk_un (by omega)⟩
      unfold insR
      rw [if_neg e]
      refine ⟨by rw [List.length_cons]; exact pk_us, ?_⟩
      refine Arr_congr (fun i hi => ?_) hA
      rw [List.length_cons] at hi
      exact pk_un (by omega)
theorem pm_lg {S : Se} {X : Nat} (hS : SeOk S X) {s : Nat} (hs : s < 9) : ∀ (m k n : Nat) (σ : Sg), k + m = eB S → 20 + 10 * m ≤ n → Hp σ → MLine σ S → MFin S σ → σ.2.1 44 32 = nI (lvR S s (ply S 10) k).length → Arr (σ.2.1 70) (lvR S s (ply S 10) k) →
    ∃ τ, X5_layGoing_run n 7 44 (nI s) (nI k) 0 σ = some τ ∧ FG σ τ ∧ τ.2.1 44 32 = nI (lvN S s (ply S 10)) ∧ Arr (τ.2.1 70) (lvR S s (ply S 10) (eB S)) := by
  intro m
  have hB8 := hS.1
  have hT := tU9 hS.2.2.2.2.2.2.2.2.2.2.2
  induction m with
  | zero =>
    intro k n σ hk hn h hL hM hc hA
    obtain ⟨n, rfl⟩ : ∃ q, n = q + 1 := ⟨n - 1, by omega⟩
    have e : k = eB S := by omega
    subst e
    show ∃ τ, X5_layGoing_b7 n (X5_layGoing_run n) 44 (nI s) (nI (eB S)) σ = _ ∧ _
    unfold X5_layGoing_b7
    rw [gI_5_44_3 h, ob, hL.1, if_pos (nI_le (Nat.le_refl _) (by omega))]
    exact ⟨σ, rfl, FG.rf, hc, hA⟩
  | succ m ih =>
    intro k n σ hk hn h hL hM hc hA
    obtain ⟨n, rfl⟩ : ∃ q, n = q + 1 := ⟨n - 1, by omega⟩
    have hkB : k < eB S := by omega
    have hlen : (lvR S s (ply S 10) k).length ≤ k := rowR_len _
    have hc80 : 10 * k + s < 80 := by omega
    have hf := (hS.2.2.2.2.2.2.1 k hkB).2.2.2.2
    have m0 := (hM.1 k hkB s (by omega)).1
    have skip : ¬ s < eFin S k → ∃ τ, X5_layGoing_b117 n (X5_layGoing_run n) 44 (nI s) (nI k) σ = some τ ∧ FG σ τ ∧ τ.2.1 44 32 = nI (lvN S s (ply S 10)) ∧ Arr (τ.2.1 70) (lvR S s (ply S 10) (eB S)) := by
      intro e
      have hw : ¬ lvW S s k = true := fun z => e (of_decide_eq_true z)
      have er : lvR S s (ply S 10) (k + 1) = lvR S s (ply S 10) k := by
        show (if lvW S s k = true then _ else _) = _
        rw [if_neg hw]; rfl
      unfold X5_layGoing_b117
      rw [nI_1, ob]
      exact ih (k + 1) n σ (by omega) (by omega) h hL hM (by rw [er]; exact hc) (by rw [er]; exact hA)
    show ∃ τ, X5_layGoing_b7 n (X5_layGoing_run n) 44 (nI s) (nI k) σ = _ ∧ _
    unfold X5_layGoing_b7
    rw [gI_5_44_3 h, ob, hL.1, if_neg (nI_ge hkB (by omega)), gR_5_44_17 h, ob, p10, aI_58 h hc80, ob, m0]
    by_cases e1 : s ≤ eFin S k
    · have hb := ply_bd hS hkB e1
      rw [if_pos e1, if_neg (nI_pos (by omega)), gR_5_44_6 h, ob, aI_50 h (by omega), ob, (hL.2.2.2.2.2 k hkB).2.2]
      by_cases e : s < eFin S k
      · have hw : lvW S s k = true := decide_eq_true e
        rw [if_neg (fun z => by have := (nI_eq (by omega) (by omega)).mp z; omega), gI_5_44_32 h, ob, hc]
        obtain ⟨A, n', q0, q1, q2, q3⟩ := pm_insG (len := (lvR S s (ply S 10) k).length) (t := lvT s (ply S 10)) (show s < 10 by omega) (show k < 8 by omega) (lvR S s (ply S 10) k) σ n h hc (fun a ha => by
          have hav : a < eB S ∧ s < eFin S a := by
            rcases List.mem_cons.mp ha with rfl | ha
            · exact ⟨hkB, e⟩
            · have ha2 := rowR_mem.mp ha
              exact ⟨by omega, of_decide_eq_true ha2.2⟩
          have m1 := (hM.1 a hav.1 s (by omega)).2.1
          rw [if_pos (by omega)] at m1
          have := (ply_bd hS hav.1 (show s ≤ eFin S a by omega)).2
          exact ⟨by omega, m1, by unfold lvT; omega⟩) (by omega) (by omega) hA
        rw [q1]
        have er : lvR S s (ply S 10) (k + 1) = insR (lvT s (ply S 10)) k (lvR S s (ply S 10) k) := by
          show (if lvW S s k = true then _ else _) = _
          rw [if_pos hw]; rfl
        have el : (lvR S s (ply S 10) k).length + 1 = (lvR S s (ply S 10) (k + 1)).length := by rw [er, insR_len]
        have fg : FG σ (sI (sA σ 70 A) 44 32 (nI ((lvR S s (ply S 10) k).length + 1))) := ⟨rfl, rfl, rfl, fun q z1 z2 => by rw [rI_ne z1, sA_ne z2], fun j hj => by rw [rI, if_neg (fun z => hj z.2), sA_ne (by decide)]⟩
        obtain ⟨τ, t1, t2, t3, t4⟩ := ih (k + 1) n' _ (by omega) (by omega) (fg.hp h) (fg.line hL) (fg.fin hM) (by rw [rI, if_pos ⟨rfl, rfl⟩, el]) (by rw [rI_ne (by decide), sA_eq, er]; exact q2)
        exact ⟨τ, t1, fg.tr t2, t3, t4⟩
      · rw [if_pos (by rw [show eFin S k = s by omega])]
        exact skip e
    · rw [if_neg e1, if_pos (show (-6 : Int32) < 0 by decide)]
      exact skip (by omega)
theorem pm_layGoing {S : Se} {X : Nat} (hS : SeOk S X) {s n : Nat} (hs : s < 9) (hn : 120 ≤ n) {σ : Sg} (h : Hp σ) (hL : MLine σ S) (hM : MFin S σ) :
    ∃ τ, f_X5_layGoing n 44 (nI s) σ = some τ ∧ FG σ τ ∧ τ.2.1 44 32 = nI (lvN S s (ply S 10)) ∧ Arr (τ.2.1 70) (lvR S s (ply S 10) (eB S)) := by
  have hB8 := hS.1
  unfold f_X5_layGoing X5_layGoing_b0
  rw [pI_5_44_32 h, ob]
  have fg : FG σ (sI σ 44 32 0) := ⟨rfl, rfl, rfl, fun q z1 z2 => by rw [rI_ne z1], fun j hj => by rw [rI, if_neg (fun z => hj z.2)]⟩
  obtain ⟨τ, t1, t2, t3, t4⟩ := pm_lg hS hs (eB S) 0 n (sI σ 44 32 0) (by omega) (by omega) (fg.hp h) (fg.line hL) (fg.fin hM) (by rw [rI, if_pos ⟨rfl, rfl⟩]; rfl) trivial
  exact ⟨τ, t1, fg.tr t2, t3, t4⟩
theorem pm_gap {S : Se} {X : Nat} (hS : SeOk S X) {s n i : Nat} (hs : s < 9) {σ : Sg} (h : Hp σ) (hM : MFin S σ) (hA : Arr (σ.2.1 70) (lvR S s (ply S 10) (eB S))) (i1 : 1 ≤ i) (i2 : i < lvN S s (ply S 10)) :
    f_X5_followOf n 44 (nI s) (nI i) σ = some (nI (gpV S s (ply S 10) i), σ) := by
  have hB8 := hS.1
  have hl := lvN_le (S := S) (s := s) (P := ply S 10)
  have m1 := lvD_mem i2
  have m2 := lvD_mem (show i - 1 < lvN S s (ply S 10) by omega)
  have a1 : σ.2.1 70 i = nI (lvD S s (ply S 10) i) := Arr_get hA i2
  have a2 : σ.2.1 70 (i - 1) = nI (lvD S s (ply S 10) (i - 1)) := Arr_get hA (show i - 1 < lvN S s (ply S 10) by omega)
  have c1 := (hM.1 _ m1.1 s (by omega)).2.1
  have c2 := (hM.1 _ m2.1 s (by omega)).2.1
  rw [if_pos (by omega)] at c1 c2
  unfold f_X5_followOf
  rw [gR_5_44_18 h, ob, gR_5_44_33 h, ob, aI_70 h (by omega), ob, a1, p10, aI_59 h (by omega), ob, c1, ob, ob, show nI i - 1 = nI (i - 1) from nsub (b := 1) i1, aI_70 h (by omega), ob, a2, p10, aI_59 h (by omega), ob, c2]
  have := lvD_le (S := S) (s := s) (P := ply S 10) (show i - 1 < i by omega) i2
  unfold lvT at this
  rw [nsub this]
  rfl
