/-! THE CLASS, leaves: what its methods do to the memory, in the specification's words -/
theorem nsub {a b : Nat} (h : b ≤ a) : nI a - nI b = nI (a - b) := pk_sub h
theorem pc_cell (n b s : Nat) (σ : Sg) : f_X4_cell n (nI b) (nI s) σ = some (nI (10 * b + s), σ) := by
  unfold f_X4_cell
  have e : nI b * 10 + nI s = nI (10 * b + s) := by
    rw [show (10 : Int32) = nI 10 from rfl, pk_mul, nI_add, Nat.mul_comm]
  rw [e]
/-- what is set, in the class -/
def CLine (σ : Sg) (S : Se) : Prop :=
  σ.2.1 1 7 = nI (eB S) ∧ (∀ j, j < 9 → σ.2.1 2 j = nI (eRide S j)) ∧ (∀ j, j < 10 → σ.2.1 3 j = nI (eGap S j)) ∧ (∀ j, j < 9 → σ.2.1 4 j = nI (eTrip S j)) ∧ (∀ j, j < 5 → σ.2.1 5 j = nI (eSet S j)) ∧
  (∀ b, b < eB S → σ.2.1 6 b = nI (eBeg S b) ∧ σ.2.1 7 b = nI (eSeat S b) ∧ σ.2.1 8 b = nI (eFin S b))
def ltr (h : Nat) : Int32 := if h = 0 then 0 else if h = 1 then 99 else 103
def CRule (σ : Sg) (y : Nat) (S : Se) : Prop := ∀ s, s < 10 → eHow S s ≤ 2 ∧ eBy S s ≤ 999 ∧ σ.2.1 (y + 1) s = ltr (eHow S s) ∧ σ.2.1 (y + 2) s = nI (eBy S s)
def CEx (σ : Sg) (x : Nat) (S : Se) : Prop := ∀ b, b < eB S → ∀ s, s < 10 → σ.2.1 (x + 7) (10 * b + s) = nI (eEx S b s)
theorem pc_comes {σ : Sg} {S : Se} {X : Nat} (hS : SeOk S X) (h : Hp σ) (hL : CLine σ S) {n b s : Nat} (hb : b < eB S) (hs : s < 10) : f_X1_comes n 1 (nI b) (nI s) σ = some (if s ≤ eFin S b then 1 else 0, σ) := by
  have hB := hS.1
  have hf := (hS.2.2.2.2.2.2.1 b hb).2.2.2.2
  unfold f_X1_comes
  rw [gR_1_1_6 h, ob, aI_8 h (by omega), ob, (hL.2.2.2.2.2 b hb).2.2]
  by_cases e : s ≤ eFin S b
  · rw [if_neg (nI_nlt e (by omega)), if_pos e]; rfl
  · rw [if_pos (nI_lt (by omega) (by omega)), if_neg e]; rfl
theorem pc_goesOn {σ : Sg} {S : Se} {X : Nat} (hS : SeOk S X) (h : Hp σ) (hL : CLine σ S) {n b s : Nat} (hb : b < eB S) (hs : s < 10) : f_X1_goesOn n 1 (nI b) (nI s) σ = some (if s < eFin S b then 1 else 0, σ) := by
  have hB := hS.1
  have hf := (hS.2.2.2.2.2.2.1 b hb).2.2.2.2
  unfold f_X1_goesOn
  rw [gR_1_1_6 h, ob, aI_8 h (by omega), ob, (hL.2.2.2.2.2 b hb).2.2]
  by_cases e : s < eFin S b
  · rw [if_neg (nI_ge e (by omega)), if_pos e]; rfl
  · rw [if_pos (nI_le (by omega) (by omega)), if_neg e]; rfl
theorem pc_goal {σ : Sg} {S : Se} {X : Nat} (hS : SeOk S X) (h : Hp σ) (hL : CLine σ S) {n s : Nat} (hs : s < 9) : f_X1_goal n 1 (nI s) σ = some (nI (eGoal S s), σ) := by
  have ht := hS.2.2.2.2.1 s hs
  unfold f_X1_goal
  rw [gR_1_1_2 h, ob, aI_4 h (by omega), ob, hL.2.2.2.1 s hs, nI_add]
  unfold eGoal
  by_cases e : 9 < s + eTrip S s
  · rw [if_pos e, if_pos (show (9 : Int32) < nI (s + eTrip S s) from nI_lt e (by omega))]; rfl
  · rw [if_neg e, if_neg (show ¬ (9 : Int32) < nI (s + eTrip S s) from nI_nlt (a := 9) (by omega) (by decide))]
theorem pc_come {σ : Sg} {S : Se} {X : Nat} (hS : SeOk S X) (h : Hp σ) (hL : CLine σ S) {n s t : Nat} (hs : s < 10) (ht : t < 2 ^ 31) : f_X1_come n 1 (nI s) (nI t) σ = some (nI (if eGap S s = 0 then 0 else t / eGap S s), σ) := by
  have hg := hS.2.2.1 s
  unfold f_X1_come
  rw [gR_1_1_1 h, ob, aI_3 h (by omega), ob, hL.2.2.1 s hs]
  by_cases e : eGap S s = 0
  · rw [e, if_pos (show nI 0 ≤ 0 by decide), if_pos rfl]; rfl
  · rw [if_neg (nI_nle (by omega) (by omega)), if_neg e, ob, aI_3 h (by omega), ob, hL.2.2.1 s hs]
    unfold dv
    rw [if_pos (nI_ne0 (by omega) (by omega)), ob, pk_div ht (by omega) (by omega)]
theorem pc_goals {σ : Sg} {S : Se} {X : Nat} (hS : SeOk S X) (h : Hp σ) (hL : CLine σ S) {x b s : Nat} (hx : Cr x) {P : Ps} (hb : b < 8) (hs : s < 10) (hon : ∀ k, k < s → σ.2.1 (x + 3) (10 * b + k) = nI (P 2 (10 * b + k))) :
    ∀ (m f n : Nat), f + m = s → m < n → X0_countAtGoal_run n x 1 (nI b) (nI s) (nI (og S P b s f)) (nI f) σ = some (nI (og S P b s s), σ) := by
  intro m
  induction m with
  | zero =>
    intro f n hf hn
    obtain ⟨n, rfl⟩ : ∃ q, n = q + 1 := ⟨n - 1, by omega⟩
    have e : f = s := by omega
    subst e
    show X0_countAtGoal_b6 n _ x 1 _ _ _ _ σ = _
    unfold X0_countAtGoal_b6
    rw [if_pos (nI_le (Nat.le_refl _) (by omega))]
  | succ m ih =>
    intro f n hf hn
    obtain ⟨n, rfl⟩ : ∃ q, n = q + 1 := ⟨n - 1, by omega⟩
    show X0_countAtGoal_b6 n _ x 1 _ _ _ _ σ = _
    unfold X0_countAtGoal_b6
    rw [if_neg (nI_ge (by omega) (by omega)), ck_1 h, ob, pc_goal hS h hL (by omega), ob]
    have hgo := goal9 (S := S) (s := f) (by omega)
    have e1 : nI f + 1 = nI (f + 1) := nI_1 f
    by_cases e : eGoal S f = s
    · rw [if_pos (show nI (eGoal S f) = nI s by rw [e]), gRc_2 h hx, ob, pc_cell, ob, aIc_3 h hx (by omega), ob, ob, hon f (by omega), nI_add]
      unfold X0_countAtGoal_b38
      rw [ob, e1]
      have e2 : og S P b s f + P 2 (10 * b + f) = og S P b s (f + 1) := by
        show _ = og S P b s f + (if eGoal S f = s then P 2 (10 * b + f) else 0)
        rw [if_pos e]
      rw [e2]
      exact ih (f + 1) n (by omega) (by omega)
    · rw [if_neg (fun z => e ((nI_eq (by omega) (by omega)).mp z))]
      unfold X0_countAtGoal_b38
      rw [ob, e1]
      have e2 : og S P b s f = og S P b s (f + 1) := by
        show _ = og S P b s f + (if eGoal S f = s then P 2 (10 * b + f) else 0)
        rw [if_neg e]; rfl
      rw [e2]
      exact ih (f + 1) n (by omega) (by omega)
theorem pc_countAtGoal {σ : Sg} {S : Se} {X : Nat} (hS : SeOk S X) (h : Hp σ) (hL : CLine σ S) {x b s n : Nat} (hx : Cr x) {P : Ps} (hb : b < 8) (hs : s < 10) (hon : ∀ k, k < s → σ.2.1 (x + 3) (10 * b + k) = nI (P 2 (10 * b + k))) (hn : 20 ≤ n) :
    f_X0_countAtGoal n x 1 (nI b) (nI s) σ = some (nI (og S P b s s), σ) := by
  unfold f_X0_countAtGoal X0_countAtGoal_b0
  exact pc_goals hS h hL hx hb hs hon s 0 n (by omega) (by omega)
theorem max_nI {a b : Nat} (ha : a < 2 ^ 31) (hb : b < 2 ^ 31) : (if nI a < nI b then nI b else nI a) = nI (max a b) := by
  by_cases e : a < b
  · rw [if_pos (nI_lt e hb), Nat.max_eq_right (by omega)]
  · rw [if_neg (nI_nlt (by omega) ha), Nat.max_eq_left (by omega)]
theorem min_nI {a b : Nat} (ha : a < 2 ^ 31) (hb : b < 2 ^ 31) : (if nI b < nI a then nI b else nI a) = nI (min a b) := by
  by_cases e : b < a
  · rw [if_pos (nI_lt e ha), Nat.min_eq_right (by omega)]
  · rw [if_neg (nI_nlt (by omega) hb), Nat.min_eq_left (by omega)]
theorem nI_0' {n : Nat} (hn : n < 2 ^ 31) : nI n = 0 ↔ n = 0 := by
  rw [show (0 : Int32) = nI 0 from rfl, nI_eq hn (by decide)]
theorem nI_le0 {n : Nat} (hn : n < 2 ^ 31) : nI n ≤ 0 ↔ n = 0 := by
  rw [show (0 : Int32) = nI 0 from rfl, nI_leI hn (by decide)]
  omega
/-- how long it stands -/
theorem pc_stand {σ : Sg} {S : Se} (h : Hp σ) (hL : CLine σ S) {x c n on go ex : Nat} (hx : Cr x) (hc : c < 80) (hon : σ.2.1 (x + 3) c = nI on) (hex : σ.2.1 (x + 7) c = nI ex) (h1 : on < 2 ^ 31) (h2 : go < 2 ^ 31) :
    f_X0_stand n x 1 (nI c) (nI go) σ = some (nI (if on = 0 ∧ go = 0 then ex else eSet S 0 + eSet S 1 * on + eSet S 2 * go + ex), σ) := by
  have hb20 : X0_stand_b20 n x 1 (nI c) (nI go) σ = some (nI (eSet S 0 + eSet S 1 * on + eSet S 2 * go + ex), σ) := by
    have z0 : aI 5 0 σ = some (σ.2.1 5 0) := aI_5 (j := 0) h (by decide)
    have z1 : aI 5 1 σ = some (σ.2.1 5 1) := aI_5 (j := 1) h (by decide)
    have z2 : aI 5 2 σ = some (σ.2.1 5 2) := aI_5 (j := 2) h (by decide)
    unfold X0_stand_b20
    rw [gR_1_1_3 h, ob, z0, ob, z1, ob, gRc_2 h hx, ob, aIc_3 h hx hc, ob, z2, ob, gRc_6 h hx, ob, aIc_7 h hx hc, ob, hon, hex, hL.2.2.2.2.1 0 (by decide), hL.2.2.2.2.1 1 (by decide), hL.2.2.2.2.1 2 (by decide), pk_mul, pk_mul, nI_add, nI_add, nI_add]
  unfold f_X0_stand
  rw [gRc_2 h hx, ob, aIc_3 h hx hc, ob, hon, hb20]
  by_cases e1 : on = 0
  · rw [if_pos ((nI_0' h1).mpr e1)]
    by_cases e2 : go = 0
    · rw [if_pos ((nI_0' h2).mpr e2), gRc_6 h hx, ob, aIc_7 h hx hc, ob, hex, if_pos ⟨e1, e2⟩]
    · rw [if_neg (fun z => e2 ((nI_0' h2).mp z)), if_neg (fun z => e2 z.2)]
  · rw [if_neg (fun z => e1 ((nI_0' h1).mp z)), if_neg (fun z => e1 z.1)]
def lgI (q : Nat) : Int32 := if q = 0 then (-6) else nI (q - 1)
theorem lgI_6 {q : Nat} (hq : q < 2 ^ 31) : lgI q = (-6) ↔ q = 0 := by
  unfold lgI
  by_cases e : q = 0
  · rw [if_pos e]; exact ⟨fun _ => e, fun _ => rfl⟩
  · rw [if_neg e]
    refine ⟨fun z => ?_, fun z => absurd z e⟩
    have h1 : (nI (q - 1)).toInt = ((q - 1 : Nat) : Int) := nI_toInt (by omega)
    rw [z] at h1
    have h2 : ((-6 : Int32)).toInt = -6 := by decide
    omega
/-- how soon a rule lets it go -/
theorem pc_soonest {σ : Sg} {S : Se} (h : Hp σ) {y s n t q : Nat} (hy : Ru y) (hR : CRule σ y S) (hs : s < 10) (hq : q < 2 ^ 31) :
    f_X2_soonest n y (nI s) (nI t) (lgI q) σ = some (nI (if eHow S s = 1 then t + 10 * eBy S s else if eHow S s = 2 ∧ q ≠ 0 then q - 1 + eBy S s else 0), σ) := by
  obtain ⟨r1, r2, r3, r4⟩ := hR s hs
  unfold f_X2_soonest
  rw [gRr_0 h hy, ob, aIr_1 h hy hs, ob, r3]
  by_cases e1 : eHow S s = 1
  · rw [if_pos (show ltr (eHow S s) = 99 by rw [e1]; rfl), gRr_1 h hy, ob, aIr_2 h hy hs, ob, r4, if_pos e1, show (10 : Int32) = nI 10 from rfl, pk_mul, nI_add]
  · have n1 : ¬ ltr (eHow S s) = 99 := by
      unfold ltr
      by_cases e0 : eHow S s = 0
      · rw [if_pos e0]; decide
      · rw [if_neg e0, if_neg e1]; decide
    rw [if_neg n1, ob, aIr_1 h hy hs, ob, r3, if_neg e1]
    by_cases e2 : eHow S s = 2
    · rw [if_pos (show ltr (eHow S s) = 103 by rw [e2]; rfl)]
      by_cases e3 : q = 0
      · rw [if_pos ((lgI_6 hq).mpr e3), if_neg (fun z => z.2 e3)]
        rfl
      · rw [if_neg (fun z => e3 ((lgI_6 hq).mp z)), gRr_1 h hy, ob, aIr_2 h hy hs, ob, r4, if_pos ⟨e2, e3⟩]
        unfold lgI
        rw [if_neg e3, nI_add]
    · have n2 : ¬ ltr (eHow S s) = 103 := by
        have : eHow S s = 0 := by omega
        rw [this]; decide
      rw [if_neg n2, if_neg (fun z => e2 z.1)]
      rfl
