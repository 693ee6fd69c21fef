/-! THE MODEL, leaves -/
def FM (σ τ : Sg) : Prop := τ.1 = σ.1 ∧ τ.2.2.2 = σ.2.2.2 ∧ τ.2.2.1 = σ.2.2.1 ∧ (∀ k, (k < 44 ∨ (44 < k ∧ k < 58) ∨ 69 < k) → τ.2.1 k = σ.2.1 k) ∧ (∀ j, j ≠ 29 → j ≠ 30 → j ≠ 31 → τ.2.1 44 j = σ.2.1 44 j)
theorem FM.rf {σ : Sg} : FM σ σ := ⟨rfl, rfl, rfl, fun _ _ => rfl, fun _ _ _ _ => rfl⟩
theorem FM.tr {σ τ ρ : Sg} (h1 : FM σ τ) (h2 : FM τ ρ) : FM σ ρ := ⟨h2.1.trans h1.1, h2.2.1.trans h1.2.1, h2.2.2.1.trans h1.2.2.1, fun k hk => (h2.2.2.2.1 k hk).trans (h1.2.2.2.1 k hk), fun j a b c => (h2.2.2.2.2 j a b c).trans (h1.2.2.2.2 j a b c)⟩
theorem FM.wI {σ τ : Sg} {k j : Nat} {v : Int32} (h : FM σ τ) (h1 : 58 ≤ k) (h2 : k ≤ 69) : FM σ (sI τ k j v) :=
  ⟨h.1, h.2.1, h.2.2.1, fun q hq => (rI_ne (by omega)).trans (h.2.2.2.1 q hq), fun i a b c => by rw [rI_ne (by omega)]; exact h.2.2.2.2 i a b c⟩
theorem FM.wF {σ τ : Sg} {j : Nat} {v : Int32} (h : FM σ τ) (h1 : j = 29 ∨ j = 30 ∨ j = 31) : FM σ (sI τ 44 j v) :=
  ⟨h.1, h.2.1, h.2.2.1, fun q hq => (rI_ne (by omega)).trans (h.2.2.2.1 q hq), fun i a b c => by rw [rI, if_neg (by omega)]; exact h.2.2.2.2 i a b c⟩
theorem FM.wA {σ τ : Sg} {k : Nat} {A : Nat → Int32} (h : FM σ τ) (h1 : 58 ≤ k) (h2 : k ≤ 69) : FM σ (sA τ k A) :=
  ⟨h.1, h.2.1, h.2.2.1, fun q hq => (sA_ne (by omega)).trans (h.2.2.2.1 q hq), fun i a b c => by rw [sA_ne (by omega)]; exact h.2.2.2.2 i a b c⟩
theorem FM.hp {σ τ : Sg} (h : FM σ τ) (hp : Hp σ) : Hp τ := Hp_eq h.1 h.2.1 hp
/-- what is set, in the model -/
def MLine (σ : Sg) (S : Se) : Prop :=
  σ.2.1 44 3 = nI (eB S) ∧ (∀ j, j < 9 → σ.2.1 45 j = nI (eRide S j)) ∧ (∀ j, j < 9 → σ.2.1 46 j = nI (eGap S j)) ∧ (∀ j, j < 9 → σ.2.1 47 j = nI (eTrip S j)) ∧ (∀ j, j < 5 → σ.2.1 51 j = nI (eSet S j)) ∧
  (∀ b, b < eB S → σ.2.1 48 b = nI (eBeg S b) ∧ σ.2.1 49 b = nI (eSeat S b) ∧ σ.2.1 50 b = nI (eFin S b))
def MRule (σ : Sg) (S : Se) : Prop := ∀ s, s < 10 → eHow S s ≤ 2 ∧ eBy S s ≤ 999 ∧ σ.2.1 56 s = nI (eHow S s) ∧ (eHow S s ≠ 0 → σ.2.1 57 s = nI (eBy S s))
/-- the latenesses: their buses, stops and seconds -/
def exL (lb ls lq : Nat → Nat) (sk : Nat → Bool) (b s : Nat) : Nat → Nat
  | 0 => 0
  | i + 1 => exL lb ls lq sk b s i + (if sk i = false ∧ lb i = b ∧ ls i = s then lq i else 0)
def MLate (σ : Sg) (lb ls lq : Nat → Nat) (late : Nat) : Prop := σ.2.1 44 8 = nI late ∧ late ≤ 11 ∧ ∀ i, i < late → (σ.2.1 52 i = nI (lb i) ∧ σ.2.1 53 i = nI (ls i) ∧ σ.2.1 54 i = nI (lq i)) ∧ lb i < 8 ∧ ls i < 9
theorem FM.line {σ τ : Sg} {S : Se} (h : FM σ τ) (hL : MLine σ S) : MLine τ S := by
  have e : ∀ k, 44 < k → k < 58 → τ.2.1 k = σ.2.1 k := fun k a b => h.2.2.2.1 k (by omega)
  unfold MLine
  rw [h.2.2.2.2 3 (by decide) (by decide) (by decide), e 45 (by decide) (by decide), e 46 (by decide) (by decide), e 47 (by decide) (by decide), e 48 (by decide) (by decide), e 49 (by decide) (by decide), e 50 (by decide) (by decide), e 51 (by decide) (by decide)]
  exact hL
theorem FM.rule {σ τ : Sg} {S : Se} (h : FM σ τ) (hR : MRule σ S) : MRule τ S := by
  intro s hs
  rw [h.2.2.2.1 56 (by decide), h.2.2.2.1 57 (by decide)]
  exact hR s hs
theorem FM.late {σ τ : Sg} {lb ls lq : Nat → Nat} {late : Nat} (h : FM σ τ) (hR : MLate σ lb ls lq late) : MLate τ lb ls lq late := by
  unfold MLate
  rw [h.2.2.2.2 8 (by decide) (by decide) (by decide), h.2.2.2.1 52 (by decide), h.2.2.2.1 53 (by decide), h.2.2.2.1 54 (by decide)]
  exact hR
theorem pm_late_run {σ : Sg} (h : Hp σ) {lb ls lq : Nat → Nat} {late : Nat} (hM : MLate σ lb ls lq late) {w : Int32} {sk : Nat → Bool} (hw : ∀ i, i < 11 → (nI i = w ↔ sk i = true)) {b s : Nat} (hb : b < 8) (hs : s < 9) :
    ∀ (m i n : Nat), i + m = late → m < n → X5_lateAt_run n 44 (nI b) (nI s) w (nI (exL lb ls lq sk b s i)) (nI i) σ = some (nI (exL lb ls lq sk b s late), σ) := by
  intro m
  induction m with
  | zero =>
    intro i n hi hn
    obtain ⟨n, rfl⟩ : ∃ q, n = q + 1 := ⟨n - 1, by omega⟩
    have e : i = late := by omega
    subst e
    show X5_lateAt_b6 n _ 44 _ _ _ _ _ σ = _
    unfold X5_lateAt_b6
    have := hM.2.1
    rw [gI_5_44_8 h, ob, hM.1, if_pos (nI_le (Nat.le_refl _) (by omega))]
  | succ m ih =>
    intro i n hi hn
    obtain ⟨n, rfl⟩ : ∃ q, n = q + 1 := ⟨n - 1, by omega⟩
    have hl := hM.2.1
    obtain ⟨⟨m1, m2, m3⟩, m4, m5⟩ := hM.2.2 i (by omega)
    show X5_lateAt_b6 n _ 44 _ _ _ _ _ σ = _
    unfold X5_lateAt_b6
    rw [gI_5_44_8 h, ob, hM.1, if_neg (nI_ge (by omega) (by omega))]
    have ex : exL lb ls lq sk b s (i + 1) = exL lb ls lq sk b s i + (if sk i = false ∧ lb i = b ∧ ls i = s then lq i else 0) := rfl
    have g0 : ¬ (sk i = false ∧ lb i = b ∧ ls i = s) → X5_lateAt_b55 n (X5_lateAt_run n) 44 (nI b) (nI s) w (nI i) (nI (exL lb ls lq sk b s i)) σ = some (nI (exL lb ls lq sk b s late), σ) := by
      intro hne
      unfold X5_lateAt_b55 X5_lateAt_b56
      rw [show (0 : Int32) = nI 0 from rfl, nI_add, ob, nI_1, ob]
      have := ih (i + 1) n (by omega) (by omega)
      rw [ex, if_neg hne] at this
      exact this
    by_cases e1 : sk i = true
    · rw [if_pos ((hw i (by omega)).mpr e1)]
      exact g0 (fun z => by rw [e1] at z; exact absurd z.1 (by decide))
    · rw [if_neg (fun z => e1 ((hw i (by omega)).mp z)), gR_5_44_9 h, ob, aI_52 h (by omega), ob, m1]
      by_cases e2 : lb i = b
      · rw [if_pos (by rw [e2]), gR_5_44_10 h, ob, aI_53 h (by omega), ob, m2]
        by_cases e3 : ls i = s
        · rw [if_pos (by rw [e3]), gR_5_44_11 h, ob, aI_54 h (by omega), ob, m3]
          unfold X5_lateAt_b56
          rw [nI_add, ob, nI_1, ob]
          have := ih (i + 1) n (by omega) (by omega)
          rw [ex, if_pos ⟨by cases hk : sk i; rfl; exact absurd hk e1, e2, e3⟩] at this
          exact this
        · rw [if_neg (fun z => e3 ((nI_eq (by omega) (by omega)).mp z))]
          exact g0 (fun z => e3 z.2.2)
      · rw [if_neg (fun z => e2 ((nI_eq (by omega) (by omega)).mp z))]
        exact g0 (fun z => e2 z.2.1)
theorem pm_lateAt {σ : Sg} (h : Hp σ) {lb ls lq : Nat → Nat} {late : Nat} (hM : MLate σ lb ls lq late) {w : Int32} {sk : Nat → Bool} (hw : ∀ i, i < 11 → (nI i = w ↔ sk i = true)) {b s n : Nat} (hb : b < 8) (hs : s < 9) (hn : 20 ≤ n) :
    f_X5_lateAt n 44 (nI b) (nI s) w σ = some (nI (exL lb ls lq sk b s late), σ) := by
  unfold f_X5_lateAt X5_lateAt_b0
  have := hM.2.1
  exact pm_late_run h hM hw hb hs late 0 n (by omega) (by omega)
theorem p10 {b s : Nat} : 10 * nI b + nI s = nI (10 * b + s) := by
  rw [show (10 : Int32) = nI 10 from rfl, pk_mul, nI_add]
/-- those who get off, at the goal alone -/
theorem pm_off_skip {σ : Sg} {b s : Nat} {c acc : Int32} (hs : s < 10) : ∀ (m t n : Nat), t + m = 10 → s < t → m < n → X5_getOff_run n 44 (nI b) (nI s) 0 c acc (nI t) σ = some (acc, σ) := by
  intro m
  induction m with
  | zero =>
    intro t n ht hst hn
    obtain ⟨n, rfl⟩ : ∃ q, n = q + 1 := ⟨n - 1, by omega⟩
    have e : t = 10 := by omega
    subst e
    show X5_getOff_b28 n _ 44 _ _ _ _ _ _ σ = _
    unfold X5_getOff_b28
    rw [if_pos (show (10 : Int32) ≤ nI 10 by decide)]
  | succ m ih =>
    intro t n ht hst hn
    obtain ⟨n, rfl⟩ : ∃ q, n = q + 1 := ⟨n - 1, by omega⟩
    show X5_getOff_b28 n _ 44 _ _ _ _ _ _ σ = _
    unfold X5_getOff_b28
    rw [if_neg (show ¬ (10 : Int32) ≤ nI t from nI_ge (b := 10) (by omega) (by decide)), ob, if_neg (fun z => by have := (nI_eq (by omega) (by omega)).mp z; omega), if_pos rfl]
    unfold X5_getOff_b140
    rw [nI_1, ob]
    exact ih (t + 1) n (by omega) (by omega) (by omega)
/-- a step of getOff that does take people out -/
theorem pm_off_step {σ : Sg} (h : Hp σ) {b s t c n acc wa sc C rm sd : Nat} {al : Int32} {K : Nat → Int32 → Int32 → Int32 → Int32 → Int32 → Int32 → Sg → Option (Int32 × Sg)} (hb : b < 8) (hs : s < 10) (ht : t < 10) (hc : c < 80) (hwa : σ.2.1 64 (10 * b + t) = nI wa) (hsc : σ.2.1 65 (10 * b + t) = nI sc) (hC : σ.2.1 58 c = nI C) (hrm : σ.2.1 44 29 = nI rm) (hsd : σ.2.1 44 30 = nI sd) (hle : sc ≤ wa * C) :
    X5_getOff_b54 n K 44 (nI b) (nI s) al (nI c) (nI acc) (nI t) (nI (10 * b + t)) σ = K 44 (nI b) (nI s) al (nI c) (nI (acc + wa)) (nI (t + 1)) (sI (sI (sI (sI σ 44 29 (nI (rm + (wa * C - sc)))) 44 30 (nI (sd + (if t = s then 0 else wa)))) 64 (10 * b + t) (nI 0)) 65 (10 * b + t) (nI 0)) := by
  have hk : 10 * b + t < 80 := by omega
  unfold X5_getOff_b54
  simp only [ob, gR_5_44_23 h, gR_5_44_17 h, gR_5_44_24 h, aI_64 h hk, aI_58 h hc, aI_65 h hk, gI_5_44_29 h, pI_5_44_29 h, hwa, hsc, hC, hrm, nI_add, pk_mul, nsub hle]
  have h1 : Hp (sI σ 44 29 (nI (rm + (wa * C - sc)))) := h
  have h30 : (sI σ 44 29 (nI (rm + (wa * C - sc)))).2.1 44 30 = nI sd := by rw [rI, if_neg (by omega)]; exact hsd
  rw [gI_5_44_30 h1, ob, h30]
  have fin : ∀ z : Nat, X5_getOff_b120 n K 44 (nI b) (nI s) al (nI c) (nI (acc + wa)) (nI t) (nI (10 * b + t)) 44 (nI sd) (nI z) (sI σ 44 29 (nI (rm + (wa * C - sc)))) = K 44 (nI b) (nI s) al (nI c) (nI (acc + wa)) (nI (t + 1)) (sI (sI (sI (sI σ 44 29 (nI (rm + (wa * C - sc)))) 44 30 (nI (sd + z))) 64 (10 * b + t) (nI 0)) 65 (10 * b + t) (nI 0)) := by
    intro z
    unfold X5_getOff_b120
    rw [nI_add, pI_5_44_30 h1, ob]
    have h2 : Hp (sI (sI σ 44 29 (nI (rm + (wa * C - sc)))) 44 30 (nI (sd + z))) := h
    rw [gR_5_44_23 h2, ob, xI_64 h2 hk, ob]
    have h3 : Hp (sI (sI (sI σ 44 29 (nI (rm + (wa * C - sc)))) 44 30 (nI (sd + z))) 64 (10 * b + t) 0) := h
    rw [gR_5_44_24 h3, ob, xI_65 h3 hk, ob]
    unfold X5_getOff_b140
    rw [nI_1, ob]
    rfl
  by_cases e : t = s
  · rw [if_pos (by rw [e]), if_pos e]
    exact fin 0
  · rw [if_neg (fun z => e ((nI_eq (by omega) (by omega)).mp z)), if_neg e, gR_5_44_23 h1, ob, aI_64 h1 hk, ob, rI_ne (by decide), hwa]
    exact fin wa
/-- those who get off where the bus ends: all, from a goal on -/
theorem pm_off_all {b s c C : Nat} (hb : b < 8) (hs : s < 10) (hc : c < 80) : ∀ (m t n acc rm sd : Nat) (wa sc : Nat → Nat) (σ : Sg), t + m = 10 → s < t → m < n → Hp σ → (∀ k, t ≤ k → k < 10 → σ.2.1 64 (10 * b + k) = nI (wa k) ∧ σ.2.1 65 (10 * b + k) = nI (sc k) ∧ sc k ≤ wa k * C) → σ.2.1 58 c = nI C → σ.2.1 44 29 = nI rm → σ.2.1 44 30 = nI sd →
    ∃ τ, X5_getOff_run n 44 (nI b) (nI s) 1 (nI c) (nI acc) (nI t) σ = some (nI (acc + dsum wa m t), τ) ∧ FM σ τ ∧ τ.2.1 44 29 = nI (rm + (dsum wa m t * C - dsum sc m t)) ∧ τ.2.1 44 30 = nI (sd + dsum wa m t) ∧ τ.2.1 44 31 = σ.2.1 44 31 ∧ (∀ q, q ≠ 44 → q ≠ 64 → q ≠ 65 → τ.2.1 q = σ.2.1 q) ∧
      (∀ k, τ.2.1 64 k = if 10 * b + t ≤ k ∧ k < 10 * b + 10 then nI 0 else σ.2.1 64 k) ∧ (∀ k, τ.2.1 65 k = if 10 * b + t ≤ k ∧ k < 10 * b + 10 then nI 0 else σ.2.1 65 k) := by
  intro m
  induction m with
  | zero =>
    intro t n acc rm sd wa sc σ ht hst hn h hw hC hrm hsd
    obtain ⟨n, rfl⟩ : ∃ q, n = q + 1 := ⟨n - 1, by omega⟩
    have e : t = 10 := by omega
    subst e
    show ∃ τ, X5_getOff_b28 n _ 44 _ _ _ _ _ _ σ = _ ∧ _
    unfold X5_getOff_b28
    rw [if_pos (show (10 : Int32) ≤ nI 10 by decide)]
    refine ⟨σ, rfl, FM.rf, ?_, hsd, rfl, fun _ _ _ _ => rfl, fun k => by rw [if_neg (by omega)], fun k => by rw [if_neg (by omega)]⟩
    rw [hrm]
    simp [dsum]
  | succ m ih =>
    intro t n acc rm sd wa sc σ ht hst hn h hw hC hrm hsd
    obtain ⟨n, rfl⟩ : ∃ q, n = q + 1 := ⟨n - 1, by omega⟩
    obtain ⟨w1, w2, w3⟩ := hw t (Nat.le_refl _) (by omega)
    show ∃ τ, X5_getOff_b28 n _ 44 _ _ _ _ _ _ σ = _ ∧ _
    unfold X5_getOff_b28
    rw [if_neg (show ¬ (10 : Int32) ≤ nI t from nI_ge (b := 10) (by omega) (by decide)), p10, ob, if_neg (fun z => by have := (nI_eq (by omega) (by omega)).mp z; omega), if_neg (show ¬ (1 : Int32) = 0 by decide), pm_off_step h hb hs (by omega) hc w1 w2 hC hrm hsd w3, if_neg (by omega)]
    have hst' : ∀ q i, q ≠ 44 → (q ≠ 64 ∨ i ≠ 10 * b + t) → (q ≠ 65 ∨ i ≠ 10 * b + t) → (sI (sI (sI (sI σ 44 29 (nI (rm + (wa t * C - sc t)))) 44 30 (nI (sd + wa t))) 64 (10 * b + t) (nI 0)) 65 (10 * b + t) (nI 0)).2.1 q i = σ.2.1 q i := by
      intro q i z1 z2 z3
      rw [rI, if_neg (by omega), rI, if_neg (by omega), rI, if_neg (by omega), rI, if_neg (by omega)]
    obtain ⟨τ, t1, t2, t3, t4, t5, t6, t7, t8⟩ := ih (t + 1) n (acc + wa t) (rm + (wa t * C - sc t)) (sd + wa t) wa sc (sI (sI (sI (sI σ 44 29 (nI (rm + (wa t * C - sc t)))) 44 30 (nI (sd + wa t))) 64 (10 * b + t) (nI 0)) 65 (10 * b + t) (nI 0)) (by omega) (by omega) (by omega) h
      (fun k k1 k2 => by rw [hst' 64 _ (by decide) (by omega) (by omega), hst' 65 _ (by decide) (by omega) (by omega)]; exact hw k (by omega) k2)
      (by rw [hst' 58 c (by decide) (by omega) (by omega)]; exact hC)
      (by rw [rI_ne (by decide), rI_ne (by decide), rI, if_neg (by omega), rI, if_pos ⟨rfl, rfl⟩])
      (by rw [rI_ne (by decide), rI_ne (by decide), rI, if_pos ⟨rfl, rfl⟩])
    have hD : dsum sc m (t + 1) ≤ dsum wa m (t + 1) * C := dsum_mul (fun k k1 k2 => (hw k (by omega) (by omega)).2.2)
    have ew : dsum wa (m + 1) t = wa t + dsum wa m (t + 1) := rfl
    have es : dsum sc (m + 1) t = sc t + dsum sc m (t + 1) := rfl
    refine ⟨τ, ?_, ((((FM.rf.wF (Or.inl rfl)).wF (Or.inr (Or.inl rfl))).wI (by decide) (by decide)).wI (by decide) (by decide)).tr t2, ?_, ?_, ?_, fun q z1 z2 z3 => ?_, fun k => ?_, fun k => ?_⟩
    · rw [t1, ew]; congr 3; omega
    · rw [t3, ew, es, Nat.add_mul]; congr 1; omega
    · rw [t4, ew]; congr 1; omega
    · rw [t5, rI_ne (by decide), rI_ne (by decide), rI, if_neg (by omega), rI, if_neg (by omega)]
    · rw [t6 q z1 z2 z3, rI_ne z3, rI_ne z2, rI_ne z1, rI_ne z1]
    · rw [t7 k]
      by_cases e1 : 10 * b + (t + 1) ≤ k ∧ k < 10 * b + 10
      · rw [if_pos e1, if_pos (by omega)]
      · rw [if_neg e1, rI_ne (by decide), rI, rI_ne (by decide), rI_ne (by decide)]
        by_cases e2 : k = 10 * b + t
        · rw [if_pos ⟨rfl, e2⟩, if_pos (by omega)]
        · rw [if_neg (by omega), if_neg (by omega)]
    · rw [t8 k]
      by_cases e1 : 10 * b + (t + 1) ≤ k ∧ k < 10 * b + 10
      · rw [if_pos e1, if_pos (by omega)]
      · rw [if_neg e1, rI, rI_ne (by decide), rI_ne (by decide), rI_ne (by decide)]
        by_cases e2 : k = 10 * b + t
        · rw [if_pos ⟨rfl, e2⟩, if_pos (by omega)]
        · rw [if_neg (by omega), if_neg (by omega)]
/-- GETTING OFF -/
theorem pm_getOff {σ : Sg} (h : Hp σ) {b s n C rm sd : Nat} {wa sc : Nat → Nat} {ends : Bool} (hb : b < 8) (hs : s < 10) (hn : 20 ≤ n) (hw : ∀ k, s ≤ k → k < 10 → σ.2.1 64 (10 * b + k) = nI (wa k) ∧ σ.2.1 65 (10 * b + k) = nI (sc k) ∧ sc k ≤ wa k * C) (hC : σ.2.1 58 (10 * b + s) = nI C) (hrm : σ.2.1 44 29 = nI rm) (hsd : σ.2.1 44 30 = nI sd) :
    ∃ τ, f_X5_getOff n 44 (nI b) (nI s) (if ends = true then 1 else 0) σ = some (nI (if ends = true then wa s + dsum wa (9 - s) (s + 1) else wa s), τ) ∧ FM σ τ ∧ τ.2.1 44 29 = nI (rm + (if ends = true then (wa s + dsum wa (9 - s) (s + 1)) * C - (sc s + dsum sc (9 - s) (s + 1)) else wa s * C - sc s)) ∧ τ.2.1 44 30 = nI (sd + (if ends = true then dsum wa (9 - s) (s + 1) else 0)) ∧ τ.2.1 44 31 = σ.2.1 44 31 ∧ (∀ q, q ≠ 44 → q ≠ 64 → q ≠ 65 → q ≠ 61 → τ.2.1 q = σ.2.1 q) ∧
      (∀ k, τ.2.1 61 k = if k = 10 * b + s then nI (wa s) else σ.2.1 61 k) ∧
      (∀ k, τ.2.1 64 k = if k = 10 * b + s ∨ (ends = true ∧ 10 * b + s ≤ k ∧ k < 10 * b + 10) then nI 0 else σ.2.1 64 k) ∧ (∀ k, τ.2.1 65 k = if k = 10 * b + s ∨ (ends = true ∧ 10 * b + s ≤ k ∧ k < 10 * b + 10) then nI 0 else σ.2.1 65 k) := by
  have hc : 10 * b + s < 80 := by omega
  obtain ⟨w1, w2, w3⟩ := hw s (Nat.le_refl _) hs
  unfold f_X5_getOff X5_getOff_b0
  rw [p10, ob, gR_5_44_20 h, ob, gR_5_44_23 h, ob, aI_64 h hc, ob, w1, xI_61 h hc, ob]
  have h1 : Hp (sI σ 61 (10 * b + s) (nI (wa s))) := h
  obtain ⟨n, rfl⟩ : ∃ q, n = q + 1 := ⟨n - 1, by omega⟩
  have e1 : ∀ q, q ≠ 61 → (sI σ 61 (10 * b + s) (nI (wa s))).2.1 q = σ.2.1 q := fun q hq => rI_ne hq
  have st : ∀ al : Int32, X5_getOff_run (n + 1) 44 (nI b) (nI s) al (nI (10 * b + s)) 0 (nI s) (sI σ 61 (10 * b + s) (nI (wa s))) = X5_getOff_run n 44 (nI b) (nI s) al (nI (10 * b + s)) (nI (0 + wa s)) (nI (s + 1)) (sI (sI (sI (sI (sI σ 61 (10 * b + s) (nI (wa s))) 44 29 (nI (rm + (wa s * C - sc s)))) 44 30 (nI (sd + (if s = s then 0 else wa s)))) 64 (10 * b + s) (nI 0)) 65 (10 * b + s) (nI 0)) := by
    intro al
    show X5_getOff_b28 n _ 44 _ _ _ _ _ _ _ = _
    unfold X5_getOff_b28
    rw [if_neg (show ¬ (10 : Int32) ≤ nI s from nI_ge (b := 10) (by omega) (by decide)), p10, ob, if_pos rfl]
    exact pm_off_step h1 (acc := 0) hb hs hs hc (by rw [e1 64 (by decide)]; exact w1) (by rw [e1 65 (by decide)]; exact w2) (by rw [e1 58 (by decide)]; exact hC) (by rw [e1 44 (by decide)]; exact hrm) (by rw [e1 44 (by decide)]; exact hsd) w3
  rw [st, if_pos rfl, Nat.zero_add, Nat.add_zero]
  generalize hτ : sI (sI (sI (sI (sI σ 61 (10 * b + s) (nI (wa s))) 44 29 (nI (rm + (wa s * C - sc s)))) 44 30 (nI sd)) 64 (10 * b + s) (nI 0)) 65 (10 * b + s) (nI 0) = τ
  have f1 : FM σ τ := by rw [← hτ]; exact ((((FM.rf.wI (by decide) (by decide)).wF (Or.inl rfl)).wF (Or.inr (Or.inl rfl))).wI (by decide) (by decide)).wI (by decide) (by decide)
  have g29 : τ.2.1 44 29 = nI (rm + (wa s * C - sc s)) := by rw [← hτ, rI_ne (by decide), rI_ne (by decide), rI, if_neg (by omega), rI, if_pos ⟨rfl, rfl⟩]
  have g30 : τ.2.1 44 30 = nI sd := by rw [← hτ, rI_ne (by decide), rI_ne (by decide), rI, if_pos ⟨rfl, rfl⟩]
  have g31 : τ.2.1 44 31 = σ.2.1 44 31 := by rw [← hτ, rI_ne (by decide), rI_ne (by decide), rI, if_neg (by omega), rI, if_neg (by omega), rI_ne (by decide)]
  have gq : ∀ q, q ≠ 44 → q ≠ 64 → q ≠ 65 → q ≠ 61 → τ.2.1 q = σ.2.1 q := fun q z1 z2 z3 z4 => by rw [← hτ, rI_ne z3, rI_ne z2, rI_ne z1, rI_ne z1, rI_ne z4]
  have g61 : ∀ k, τ.2.1 61 k = if k = 10 * b + s then nI (wa s) else σ.2.1 61 k := fun k => by
    rw [← hτ, rI_ne (by decide), rI_ne (by decide), rI_ne (by decide), rI_ne (by decide), rI]
    by_cases z : k = 10 * b + s
    · rw [if_pos ⟨rfl, z⟩, if_pos z]
    · rw [if_neg (fun q => z q.2), if_neg z]
  have g64 : ∀ k, τ.2.1 64 k = if k = 10 * b + s then nI 0 else σ.2.1 64 k := fun k => by
    rw [← hτ, rI_ne (by decide), rI, rI_ne (by decide), rI_ne (by decide), rI_ne (by decide)]
    by_cases z : k = 10 * b + s
    · rw [if_pos ⟨rfl, z⟩, if_pos z]
    · rw [if_neg (fun q => z q.2), if_neg z]
  have g65 : ∀ k, τ.2.1 65 k = if k = 10 * b + s then nI 0 else σ.2.1 65 k := fun k => by
    rw [← hτ, rI, rI_ne (by decide), rI_ne (by decide), rI_ne (by decide), rI_ne (by decide)]
    by_cases z : k = 10 * b + s
    · rw [if_pos ⟨rfl, z⟩, if_pos z]
    · rw [if_neg (fun q => z q.2), if_neg z]
  cases ends with
  | false =>
    simp only [Bool.false_eq_true, if_false, false_and, or_false]
    rw [pm_off_skip hs (9 - s) (s + 1) n (by omega) (by omega) (by omega)]
    exact ⟨τ, rfl, f1, g29, by rw [Nat.add_zero]; exact g30, g31, gq, g61, g64, g65⟩
  | true =>
    simp only [if_true, true_and]
    obtain ⟨ρ, r1, r2, r3, r4, r5, r6, r7, r8⟩ := pm_off_all hb hs hc (C := C) (9 - s) (s + 1) n (wa s) (rm + (wa s * C - sc s)) sd wa sc τ (by omega) (by omega) (by omega) (f1.hp h)
      (fun k k1 k2 => by rw [g64, g65, if_neg (by omega), if_neg (by omega)]; exact hw k (by omega) k2) (by rw [gq 58 (by decide) (by decide) (by decide) (by decide)]; exact hC) g29 g30
    have hD : dsum sc (9 - s) (s + 1) ≤ dsum wa (9 - s) (s + 1) * C := dsum_mul (fun k k1 k2 => (hw k (by omega) (by omega)).2.2)
    refine ⟨ρ, r1, f1.tr r2, ?_, r4, by rw [r5, g31], fun q z1 z2 z3 z4 => by rw [r6 q z1 z2 z3, gq q z1 z2 z3 z4], fun k => by rw [r6 61 (by decide) (by decide) (by decide), g61], fun k => ?_, fun k => ?_⟩
    · rw [r3, Nat.add_mul]; congr 1; omega
    · rw [r7, g64]
      by_cases z1 : 10 * b + (s + 1) ≤ k ∧ k < 10 * b + 10
      · rw [if_pos z1, if_pos (by omega)]
      · rw [if_neg z1]
        by_cases z2 : k = 10 * b + s
        · rw [if_pos z2, if_pos (Or.inl z2)]
        · rw [if_neg z2, if_neg (by omega)]
    · rw [r8, g65]
      by_cases z1 : 10 * b + (s + 1) ≤ k ∧ k < 10 * b + 10
      · rw [if_pos z1, if_pos (by omega)]
      · rw [if_neg z1]
        by_cases z2 : k = 10 * b + s
        · rw [if_pos z2, if_pos (Or.inl z2)]
        · rw [if_neg z2, if_neg (by omega)]
