def BF (bef : Int32) (la : Nat) : Prop := (bef = (-6) ∧ la = 0) ∨ bef = nI la
theorem neg6_lt {n : Nat} (h : n < 2 ^ 31) : (-6 : Int32) < nI n := by
  rw [Int32.lt_iff_toInt_lt, nI_toInt h]
  have : ((-6 : Int32)).toInt = -6 := by decide
  omega
theorem neg6_le {n : Nat} (h : n < 2 ^ 31) : (-6 : Int32) ≤ nI n := by
  rw [Int32.le_iff_toInt_le, nI_toInt h]
  have : ((-6 : Int32)).toInt = -6 := by decide
  omega
theorem not_le6 {n : Nat} (h : n < 2 ^ 31) : ¬ nI n ≤ (-6 : Int32) := by
  rw [Int32.le_iff_toInt_le, nI_toInt h]
  have : ((-6 : Int32)).toInt = -6 := by decide
  omega
theorem BF_max {bef : Int32} {la L : Nat} (h : BF bef la) (h1 : la < 2 ^ 31) (h2 : L < 2 ^ 31) : BF (if nI L ≤ bef then bef else nI L) (max la L) := by
  rcases h with ⟨rfl, rfl⟩ | rfl
  · rw [if_neg (not_le6 h2), Nat.max_eq_right (Nat.zero_le _)]
    exact Or.inr rfl
  · by_cases e : L ≤ la
    · rw [if_pos (nI_le e h1), Nat.max_eq_left e]; exact Or.inr rfl
    · rw [if_neg (nI_ge (by omega) h2), Nat.max_eq_right (by omega)]; exact Or.inr rfl
theorem BF_come {bef : Int32} {la C : Nat} (h : BF bef la) (h1 : la < 2 ^ 31) (h2 : C < 2 ^ 31) : (if bef ≤ nI C then nI C else bef) = nI (max C la) := by
  rcases h with ⟨rfl, rfl⟩ | rfl
  · rw [if_pos (neg6_le h2), Nat.max_eq_left (Nat.zero_le _)]
  · by_cases e : la ≤ C
    · rw [if_pos (nI_le e h2), Nat.max_eq_left e]
    · rw [if_neg (nI_ge (by omega) h1), Nat.max_eq_right (by omega)]
theorem lgI_neg {q : Nat} (hq : q < 2 ^ 31) : lgI q < 0 ↔ q = 0 := by
  unfold lgI
  by_cases e : q = 0
  · rw [if_pos e]; exact ⟨fun _ => e, fun _ => by decide⟩
  · rw [if_neg e]
    exact ⟨fun z => absurd z (nI_pos (by omega)), fun z => absurd z e⟩
theorem lgI_le {q L : Nat} (hq : q < 2 ^ 31) (hL : L + 1 < 2 ^ 31) : (if nI L ≤ lgI q then lgI q else nI L) = lgI (max q (L + 1)) := by
  by_cases e : q = 0
  · subst e
    rw [show lgI 0 = (-6 : Int32) from rfl, if_neg (not_le6 (by omega)), Nat.max_eq_right (by omega)]
    unfold lgI
    rw [if_neg (by omega), Nat.add_sub_cancel]
  · have e2 : lgI q = nI (q - 1) := by unfold lgI; rw [if_neg e]
    rw [e2]
    by_cases z : L ≤ q - 1
    · rw [if_pos (nI_le z (by omega)), Nat.max_eq_left (by omega), e2]
    · rw [if_neg (nI_ge (by omega) (by omega)), Nat.max_eq_right (by omega)]
      unfold lgI
      rw [if_neg (by omega), Nat.add_sub_cancel]
set_option maxHeartbeats 4000000 in
/-- a visit's last stretch: by its rule, the bus leaves -/
theorem pm_tail {σ : Sg} {S : Se} (h : Hp σ) (hR : MRule σ S) {b s n F L0 q la : Nat} {w cnt bef : Int32} {k : Nat} {ends : Bool} {K : Nat → Nat → Int32 → Int32 → Int32 → Int32 → Int32 → Int32 → Int32 → Int32 → Int32 → Int32 → Int32 → Int32 → Sg → Option (Sg)} (hb : b < 8) (hs : s < 10) (hF : σ.2.1 58 (10 * b) = nI F) (hbf : BF bef la) (b1 : F < 2 ^ 29) (b2 : L0 < 2 ^ 29) (b3 : q < 2 ^ 29) (b4 : la < 2 ^ 29) {t0 t1 : Nat} (e0 : t0 + t1 = L0) :
    ∃ bef', X5_atStop_b255 n K 44 (nI s) w cnt (lgI q) bef (nI k) (nI b) (nI (10 * b + s)) (if ends = true then 1 else 0) (nI t0) (nI t1) σ = K 22 44 (nI s) w cnt (lgI (if ends = true then q else max q ((max L0 (if eHow S s = 1 then F + 10 * eBy S s else if eHow S s = 2 ∧ q ≠ 0 then q - 1 + eBy S s else 0)) + 1))) bef' (nI (k + 1)) 0 0 0 0 0 0 (sI σ 59 (10 * b + s) (nI (if ends = true then L0 else max L0 (if eHow S s = 1 then F + 10 * eBy S s else if eHow S s = 2 ∧ q ≠ 0 then q - 1 + eBy S s else 0)))) ∧ BF bef' (max la (if ends = true then L0 else max L0 (if eHow S s = 1 then F + 10 * eBy S s else if eHow S s = 2 ∧ q ≠ 0 then q - 1 + eBy S s else 0))) := by
  have hc : 10 * b + s < 80 := by omega
  obtain ⟨r1, r2, r3, r4⟩ := hR s hs
  have fin : ∀ L : Nat, L < 2 ^ 30 → ∃ bef', X5_atStop_b361 n K 44 (nI s) w cnt (lgI q) bef (nI k) (nI (10 * b + s)) (if ends = true then 1 else 0) (nI L) σ = K 22 44 (nI s) w cnt (lgI (if ends = true then q else max q (L + 1))) bef' (nI (k + 1)) 0 0 0 0 0 0 (sI σ 59 (10 * b + s) (nI L)) ∧ BF bef' (max la L) := by
    intro L hL
    refine ⟨if nI L ≤ bef then bef else nI L, ?_, BF_max hbf (by omega) (by omega)⟩
    have e405 : ∀ (bb tt : Int32) (τ : Sg), X5_atStop_b405 n K 44 (nI s) w cnt bb (nI k) tt τ = K 22 44 (nI s) w cnt tt bb (nI (k + 1)) 0 0 0 0 0 0 τ := by
      intro bb tt τ
      unfold X5_atStop_b405
      rw [nI_1, ob]
    have e384 : ∀ (bb : Int32) (τ : Sg), X5_atStop_b384 n K 44 (nI s) w cnt (lgI q) (nI k) (if ends = true then 1 else 0) (nI L) bb τ = K 22 44 (nI s) w cnt (lgI (if ends = true then q else max q (L + 1))) bb (nI (k + 1)) 0 0 0 0 0 0 τ := by
      intro bb τ
      unfold X5_atStop_b384 X5_atStop_b403
      cases ends with
      | true =>
        simp only [if_true]
        rw [if_neg (show ¬ (1 : Int32) = 0 by decide), e405]
      | false =>
        simp only [Bool.false_eq_true, if_false]
        rw [if_pos trivial, ← lgI_le (by omega) (by omega)]
        by_cases z : nI L ≤ lgI q
        · rw [if_pos z, if_pos z, e405]
        · rw [if_neg z, if_neg z, e405]
    unfold X5_atStop_b361
    rw [gR_5_44_18 h, ob, xI_59 h hc, ob]
    by_cases z : nI L ≤ bef
    · rw [if_pos z, if_pos z, e384]
    · rw [if_neg z, if_neg z, e384]
  unfold X5_atStop_b255
  rw [nI_add, ob, e0]
  cases ends with
  | true =>
    simp only [if_true] at fin ⊢
    have e311 : X5_atStop_b311 n K 44 (nI s) w cnt (lgI q) bef (nI k) (nI (10 * b + s)) 1 (nI L0) σ = X5_atStop_b361 n K 44 (nI s) w cnt (lgI q) bef (nI k) (nI (10 * b + s)) 1 (nI L0) σ := by
      unfold X5_atStop_b311
      rw [if_neg (show ¬ (1 : Int32) = 0 by decide)]
    rw [if_neg (show ¬ (1 : Int32) = 0 by decide), e311]
    exact fin L0 (by omega)
  | false =>
    simp only [Bool.false_eq_true, if_false] at fin ⊢
    rw [if_pos trivial, gR_5_44_15 h, ob, aI_56 h hs, ob, r3]
    have e0z : aI 58 (10 * nI b) σ = some (σ.2.1 58 (10 * b)) := by
      have e1 : (10 : Int32) * nI b = nI (10 * b) := by rw [show (10 : Int32) = nI 10 from rfl, pk_mul]
      rw [e1]
      exact aI_58 h (by omega)
    by_cases e1 : eHow S s = 1
    · have hby := r4 (by omega)
      have e311 : ∀ L : Nat, X5_atStop_b311 n K 44 (nI s) w cnt (lgI q) bef (nI k) (nI (10 * b + s)) 0 (nI L) σ = X5_atStop_b361 n K 44 (nI s) w cnt (lgI q) bef (nI k) (nI (10 * b + s)) 0 (nI L) σ := by
        intro L
        unfold X5_atStop_b311
        rw [if_pos rfl, gR_5_44_15 h, ob, aI_56 h hs, ob, r3, e1, if_neg (show ¬ nI 1 = 2 by decide)]
      have ec : nI F + 10 * nI (eBy S s) = nI (F + 10 * eBy S s) := by rw [show (10 : Int32) = nI 10 from rfl, pk_mul, nI_add]
      rw [if_pos (show nI (eHow S s) = 1 by rw [e1]; rfl), gR_5_44_17 h, ob, e0z, ob, hF, gR_5_44_16 h, ob, aI_57 h hs, ob, hby, ec, ob, if_pos e1]
      unfold X5_atStop_b309
      rw [e311, e311]
      by_cases z : F + 10 * eBy S s ≤ L0
      · rw [if_pos (nI_le z (by omega)), Nat.max_eq_left z]
        exact fin L0 (by omega)
      · rw [if_neg (nI_ge (by omega) (by omega)), Nat.max_eq_right (show L0 ≤ F + 10 * eBy S s by omega)]
        exact fin (F + 10 * eBy S s) (by omega)
    · rw [if_neg (show ¬ nI (eHow S s) = 1 from fun z => e1 ((nI_eq (b := 1) (by omega) (by decide)).mp z)), if_neg e1]
      unfold X5_atStop_b311
      rw [if_pos rfl, gR_5_44_15 h, ob, aI_56 h hs, ob, r3]
      by_cases e2 : eHow S s = 2
      · have hby := r4 (by omega)
        rw [if_pos (show nI (eHow S s) = 2 by rw [e2]; rfl)]
        by_cases e3 : q = 0
        · rw [if_pos ((lgI_neg (by omega)).mpr e3), if_neg (fun z => z.2 e3), Nat.max_eq_left (Nat.zero_le _)]
          exact fin L0 (by omega)
        · have el : lgI q + nI (eBy S s) = nI (q - 1 + eBy S s) := by
            unfold lgI
            rw [if_neg e3, nI_add]
          have ce : eHow S s = 2 ∧ q ≠ 0 := ⟨e2, e3⟩
          rw [if_neg (fun z => e3 ((lgI_neg (by omega)).mp z)), gR_5_44_16 h, ob, aI_57 h hs, ob, hby, el, if_pos ce]
          unfold X5_atStop_b359
          by_cases z : q - 1 + eBy S s ≤ L0
          · rw [if_pos (nI_le z (by omega)), Nat.max_eq_left z]
            exact fin L0 (by omega)
          · rw [if_neg (nI_ge (by omega) (by omega)), ob, aI_57 h hs, ob, hby, el, Nat.max_eq_right (show L0 ≤ q - 1 + eBy S s by omega)]
            exact fin (q - 1 + eBy S s) (by omega)
      · rw [if_neg (show ¬ nI (eHow S s) = 2 from fun z => e2 ((nI_eq (b := 2) (by omega) (by decide)).mp z)), if_neg (fun z => e2 z.1), Nat.max_eq_left (Nat.zero_le _)]
        exact fin L0 (by omega)
/-- who stays -/
theorem pm_stay {σ : Sg} (h : Hp σ) {s b : Nat} {w cnt lat bef k ends gone : Int32} (hb : b < 8) {f : Nat → Nat} : ∀ (m t n acc : Nat), t + m = 10 → (∀ j, t ≤ j → j < 10 → σ.2.1 64 (10 * b + j) = nI (f j)) → X5_atStop_run (n + (m + 1)) 129 44 (nI s) w cnt lat bef k (nI b) (nI (10 * b + s)) ends gone (nI acc) (nI t) σ = X5_atStop_run (n + 1) 129 44 (nI s) w cnt lat bef k (nI b) (nI (10 * b + s)) ends gone (nI (acc + dsum f m t)) (nI 10) σ := by
  intro m
  induction m with
  | zero =>
    intro t n acc ht hf
    have e : t = 10 := by omega
    subst e
    rfl
  | succ m ih =>
    intro t n acc ht hf
    show X5_atStop_b129 (n + (m + 1)) (X5_atStop_run (n + (m + 1))) 44 (nI s) w cnt lat bef k (nI b) (nI (10 * b + s)) ends gone (nI acc) (nI t) σ = _
    unfold X5_atStop_b129
    rw [if_neg (show ¬ (10 : Int32) ≤ nI t from nI_ge (b := 10) (by omega) (by decide)), gR_5_44_23 h, ob, p10, aI_64 h (by omega), ob, hf t (Nat.le_refl _) (by omega), nI_add, ob, nI_1, ob, ih (t + 1) n (acc + f t) (by omega) (fun j j1 j2 => hf j (by omega) j2)]
    rw [Nat.add_assoc]
    rfl
