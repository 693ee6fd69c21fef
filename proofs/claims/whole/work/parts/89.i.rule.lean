/-! the model reads -/
theorem isd5 {n a : Nat} {σ : Sg} (ha : a ≤ 126) : f_X5_in n (nI a) 48 57 σ = some (if 48 ≤ a ∧ a ≤ 57 then 1 else 0, σ) := by
  by_cases e : 48 ≤ a ∧ a ≤ 57
  · rw [if_pos e, iy_48_57 ⟨a, e.1, e.2, rfl⟩]
  · rw [if_neg e, im_48_57]
    rintro ⟨b, b1, b2, b3⟩
    have := (nIl (by omega) (by omega)).mp b3
    omega
theorem in24 {n q : Nat} {σ : Sg} (hq : q ≤ 5) : f_X5_in n (nI q) 2 4 σ = some (if 2 ≤ q ∧ q ≤ 4 then 1 else 0, σ) := by
  by_cases e : 2 ≤ q ∧ q ≤ 4
  · rw [if_pos e]
    exact in_y (lo := 2) (hi := 4) (by decide) ⟨q, e.1, e.2, rfl⟩
  · rw [if_neg e]
    refine in_n (lo := 2) (hi := 4) (by decide) (by decide) ?_
    rintro ⟨b, b1, b2, b3⟩
    have := (nIl (by omega) (by omega)).mp b3
    omega
section
variable {n : Nat} {K : Nat → Int32 → Int32 → Int32 → Sg → Option (Int32 × Sg)} {i2 i3 i4 i5 : Int32} {σ : Sg}
theorem mf_no : X5_faultOf_b143 n K 44 i2 i3 (-6) σ = some (i3, σ) := by
  unfold X5_faultOf_b143
  rw [if_neg (by decide)]
theorem mf_go {i q : Nat} (hq : q ≤ 5) : X5_faultOf_b143 n K 44 i2 (nI i) (nI q) σ = K 44 (nI q) i2 (nI (i + 1)) σ := by
  unfold X5_faultOf_b143
  rw [if_pos (nI_pos' (by omega)), nI_1, ob]
theorem mf_121 {q : Nat} (hq : q ≤ 2) : X5_faultOf_b121 n K 44 (nI q) i2 i3 i4 (-6) σ = some (i3, σ) := by
  unfold X5_faultOf_b121
  rw [if_pos (show nI q ≤ 2 from nI_le (b := 2) hq (by decide)), mf_no]
theorem mf_99 {q : Nat} (hq : q ≤ 1) : X5_faultOf_b99 n K 44 (nI q) i2 i3 i4 i5 (-6) σ = some (i3, σ) := by
  unfold X5_faultOf_b99
  rw [in24 (by omega), ob, if_neg (show ¬ (2 ≤ q ∧ q ≤ 4) by omega), if_pos rfl, mf_121 (by omega)]
end
set_option maxHeartbeats 1000000 in
theorem tm_step {n m i : Nat} {t : Nat → Nat} {K : Nat → Int32 → Int32 → Int32 → Sg → Option (Int32 × Sg)} {σ : Sg} {Q : Tq} (h : Hp σ) (hT : TI Q) (hm : m ≤ 40) (hi : i < m) (ha : t i ≤ 126) (s1 : σ.2.1 44 12 = nI m) (s2 : σ.2.1 55 i = nI (t i)) :
    (tst Q (t i) = none → X5_faultOf_b6 n K 44 (nI Q.1) (nI Q.2.2.2.2.2) (nI i) σ = some (nI i, σ)) ∧ (∀ Q', tst Q (t i) = some Q' → X5_faultOf_b6 n K 44 (nI Q.1) (nI Q.2.2.2.2.2) (nI i) σ = K 44 (nI Q'.1) (nI Q'.2.2.2.2.2) (nI (i + 1)) σ) := by
  have hc := TI_c hT
  obtain ⟨q, s, H, Y, c, M⟩ := Q
  obtain ⟨i1, i2, i3, i4, i5, i6, i7⟩ := hT
  dsimp only at i1 i2 i3 i4 i5 i6 i7 hc
  generalize t i = a at ha s2
  unfold tst X5_faultOf_b6
  dsimp only
  rw [gI_5_44_12 h, ob, s1, if_neg (nI_ge (by omega) (by omega)), gR_5_44_13 h, ob, aI_55 h (by omega), ob, s2, isd5 ha, ob]
  by_cases e0 : q = 0
  · subst e0
    have f74 : ∀ j : Int32, X5_faultOf_b74 n K 44 (nI 0) (nI M) (nI i) (nI a) j (-6) σ = some (nI i, σ) := fun j => by
      unfold X5_faultOf_b74
      rw [if_neg (show ¬ nI 0 = 1 by decide), mf_99 (by decide)]
    rw [if_pos rfl, if_pos (show nI 0 = 0 from rfl), f74]
    by_cases e1 : 48 ≤ a ∧ a ≤ 57
    · have hk : a - 48 < 10 := by omega
      rw [if_pos e1, if_neg z10, n48 e1.1]
      have hb : bt (a - 48) M = 0 ↔ H (a - 48) = 0 := by
        rw [(i5 _ hk).2.2.2]
        exact ⟨fun z => z.1, fun z => ⟨z, fun w => absurd w.1 (by decide)⟩⟩
      obtain ⟨u1, u2⟩ := bt_sh _ hk M i3
      by_cases e2 : H (a - 48) = 0
      · rw [if_pos ⟨e1, e2⟩, if_pos (u1.mpr (hb.mpr e2)), (u2 (hb.mpr e2)).1, ob]
        refine ⟨fun z => absurd z (by simp), fun Q' z => ?_⟩
        cases z
        exact mf_go (q := 1) (by decide)
      · rw [if_neg (fun z => e2 z.2), if_neg (fun z => e2 (hb.mp (u1.mp z)))]
        exact ⟨fun _ => rfl, fun Q' z => by cases z⟩
    · rw [if_neg e1, if_pos rfl, if_neg (fun z => e1 z.1)]
      exact ⟨fun _ => rfl, fun Q' z => by cases z⟩
  · rw [if_neg e0, if_neg (show ¬ nI q = 0 from fun z => e0 ((nI_0' (by omega)).mp z))]
    unfold X5_faultOf_b74
    by_cases e1 : q = 1
    · subst e1
      rw [if_pos rfl, if_pos (show nI 1 = 1 from rfl)]
      unfold X5_faultOf_b93
      have g2 : X5_faultOf_b143 n K 44 (nI M) (nI i) 2 σ = K 44 (nI 2) (nI M) (nI (i + 1)) σ := mf_go (q := 2) (by decide)
      rw [g2]
      by_cases e2 : a = 99
      · subst e2
        rw [if_pos rfl, if_pos (show nI 99 = 99 from rfl)]
        refine ⟨fun z => absurd z (by simp), fun Q' z => ?_⟩
        cases z
        rfl
      · rw [if_neg e2, if_neg (show ¬ nI a = 99 from fun z => e2 ((nIl (b := 99) (by omega) (by decide)).mp z))]
        by_cases e3 : a = 103
        · subst e3
          rw [if_pos rfl, if_pos (show nI 103 = 103 from rfl)]
          refine ⟨fun z => absurd z (by simp), fun Q' z => ?_⟩
          cases z
          rfl
        · rw [if_neg e3, if_neg (show ¬ nI a = 103 from fun z => e3 ((nIl (b := 103) (by omega) (by decide)).mp z)), mf_99 (by decide)]
          exact ⟨fun _ => rfl, fun Q' z => by cases z⟩
    · rw [if_neg e1, if_neg (show ¬ nI q = 1 from fun z => e1 ((nIl (b := 1) (by omega) (by decide)).mp z))]
      rw [if_neg e1, Nat.add_zero] at i4
      have hp := (pop_10 M i3).2
      unfold X5_faultOf_b99
      rw [in24 i1, ob]
      have t121 : a ≠ 59 → X5_faultOf_b121 n K 44 (nI q) (nI M) (nI i) (nI a) (-6) σ = some (nI i, σ) := by
        intro z
        by_cases e2 : q ≤ 2
        · exact mf_121 e2
        · unfold X5_faultOf_b121
          rw [if_neg (show ¬ nI q ≤ 2 from nI_ge (a := 2) (by omega) (by omega)), if_neg (show ¬ nI a = 59 from fun w => z ((nIl (b := 59) (by omega) (by decide)).mp w)), mf_no]
      by_cases e2 : a = 59
      · subst e2
        rw [if_pos rfl, if_neg (show ¬ (48 ≤ 59 ∧ 59 ≤ 57) by decide), if_pos rfl, ite_self]
        by_cases e3 : q ≤ 2
        · rw [if_neg (show ¬ (3 ≤ q ∧ c < 10) by omega), mf_121 e3]
          exact ⟨fun _ => rfl, fun Q' z => by cases z⟩
        · unfold X5_faultOf_b121
          rw [if_neg (show ¬ nI q ≤ 2 from nI_ge (a := 2) (by omega) (by omega)), if_pos (show nI 59 = 59 from rfl), mf_no]
          have g0 : X5_faultOf_b143 n K 44 (nI M) (nI i) 0 σ = K 44 (nI 0) (nI M) (nI (i + 1)) σ := mf_go (q := 0) (by decide)
          rw [g0]
          by_cases e4 : c < 10
          · rw [if_pos (show 3 ≤ q ∧ c < 10 by omega), if_neg (show ¬ nI M = 1023 from fun z => by have := hp.mpr ((nIl (b := 1023) (by omega) (by decide)).mp z); omega)]
            refine ⟨fun z => absurd z (by simp), fun Q' z => ?_⟩
            cases z
            rfl
          · have hM : M = 1023 := hp.mp (by omega)
            rw [if_neg (show ¬ (3 ≤ q ∧ c < 10) by omega), if_pos (show nI M = 1023 by rw [hM]; rfl)]
            exact ⟨fun _ => rfl, fun Q' z => by cases z⟩
      · rw [if_neg e2, t121 e2]
        by_cases e3 : 48 ≤ a ∧ a ≤ 57
        · rw [if_pos e3, if_neg z10]
          by_cases e4 : q < 5
          · rw [if_pos ⟨e3, e4⟩, if_pos (show 2 ≤ q ∧ q ≤ 4 by omega), if_neg z10, nI_1, ob, mf_go (by omega)]
            refine ⟨fun z => absurd z (by simp), fun Q' z => ?_⟩
            cases z
            rfl
          · rw [if_neg (fun z => e4 z.2), if_neg (show ¬ (2 ≤ q ∧ q ≤ 4) by omega), if_pos rfl]
            exact ⟨fun _ => rfl, fun Q' z => by cases z⟩
        · rw [if_neg e3, if_neg (fun z => e3 z.1), if_pos rfl, ite_self]
          exact ⟨fun _ => rfl, fun Q' z => by cases z⟩
theorem tm_run {t : Nat → Nat} {m : Nat} (hm : m ≤ 40) (ht : ∀ i, i < m → t i ≤ 126) {σ : Sg} (h : Hp σ) (s1 : σ.2.1 44 12 = nI m) (s2 : ∀ j, j < m → σ.2.1 55 j = nI (t j)) : ∀ (k i n : Nat) (Q : Tq), i + k = m → k < n → TI Q →
    X5_faultOf_run n 44 (nI Q.1) (nI Q.2.2.2.2.2) (nI i) σ = some ((trd t m k i Q).1, σ) := by
  intro k
  induction k with
  | zero =>
    intro i n Q hi hn hT
    obtain ⟨n, rfl⟩ : ∃ q, n = q + 1 := ⟨n - 1, by omega⟩
    have hq := hT.1
    show X5_faultOf_b6 n (X5_faultOf_run n) 44 (nI Q.1) (nI Q.2.2.2.2.2) (nI i) σ = _
    unfold X5_faultOf_b6 trd
    rw [gI_5_44_12 h, ob, s1, if_pos (nI_le (by omega) (by omega)), ob]
    by_cases e : 3 ≤ Q.1
    · rw [if_pos e, if_neg (show ¬ nI Q.1 ≤ 2 from nI_ge (a := 2) (by omega) (by omega))]
    · rw [if_neg e, if_pos (show nI Q.1 ≤ 2 from nI_le (b := 2) (by omega) (by decide))]
  | succ k ih =>
    intro i n Q hi hn hT
    obtain ⟨n, rfl⟩ : ∃ q, n = q + 1 := ⟨n - 1, by omega⟩
    obtain ⟨st0, st1⟩ := tm_step (n := n) (m := m) (i := i) (t := t) (K := X5_faultOf_run n) h hT hm (by omega) (ht i (by omega)) s1 (s2 i (by omega))
    show X5_faultOf_b6 n (X5_faultOf_run n) 44 (nI Q.1) (nI Q.2.2.2.2.2) (nI i) σ = _
    unfold trd
    cases e : tst Q (t i) with
    | none => rw [st0 e]
    | some Q' =>
      rw [st1 Q' e]
      exact ih (i + 1) n Q' (by omega) (by omega) (TI_st hT e)
section
variable {W : Wd}
theorem tm_fault (hW : Ok W) {n : Nat} (hn : 100 ≤ n) {σ : Sg} (h : Hp σ) (hI : InvM σ W) : f_X5_faultOf n 44 σ = some ((trd W.2.2.2.1 W.2.2.1 W.2.2.1 0 Q0).1, σ) :=
  tm_run hW.2.2.1.1 (fun i hi => (hW.2.2.1.2 i hi).2) h hI.2.2.2.1.1 hI.2.2.2.1.2 W.2.2.1 0 n Q0 (by omega) (by have := hW.2.2.1.1; omega) TI_0
theorem FT_inv {σ τ : Sg} (hI : InvC σ W) (h : Hp σ) (hf : FT (sp σ) σ τ) : InvC τ W := by
  have hr := sp_Ru h
  refine InvC_sig hI h (fun k k1 k2 k3 k4 => hf.2.2.2.1 k k2 k4) hf.2.2.1 hf.2.1 rfl rfl rfl ?_
  unfold CSig
  rw [hf.2.2.2.2 1 (by decide) (by decide), hf.2.2.2.1 13 (by decide) (by omega)]
  exact hI.2.2.2.1
theorem z_fault (hW : Ok W) {n : Nat} (hn : 100 ≤ n) : Pz (f_X4_fault n 0) (f_X5_fault n 44) W := by
  refine ⟨W, (trd W.2.2.2.1 W.2.2.1 W.2.2.1 0 Q0).1, hW, fun σ h hI => ?_, MZ_no (fun σ h hI => ?_)⟩
  · have hr := sp_Ru h
    obtain ⟨τ, t1, t2, t3⟩ := tc_read hW hn h hI
    refine ⟨τ, ?_, t2.hp h, FT_inv hI h t2, fun k hk => t2.2.2.2.1 k (by omega) (by omega)⟩
    unfold f_X4_fault
    rw [gR_4_0_1 h, ob, gR_4_0_5 h, ob, ck_12 h, ob, t1, ob]
  · unfold f_X5_fault
    rw [ck_44 h, ob, tm_fault hW hn h hI, ob]
end
/-! the model's second reading -/
theorem tst0 {Q Q' : Tq} {a : Nat} (hq : Q.1 = 0) (e : tst Q a = some Q') : (48 ≤ a ∧ a ≤ 57) ∧ Q' = (1, a - 48, Q.2.2.1, Q.2.2.2.1, Q.2.2.2.2.1, Q.2.2.2.2.2 + 2 ^ (a - 48)) := by
  unfold tst at e
  rw [if_pos hq] at e
  by_cases e1 : (48 ≤ a ∧ a ≤ 57) ∧ Q.2.2.1 (a - 48) = 0
  · rw [if_pos e1] at e
    cases e
    exact ⟨e1.1, rfl⟩
  · rw [if_neg e1] at e
    cases e
theorem tst1 {Q Q' : Tq} {a : Nat} (hq : Q.1 = 1) (e : tst Q a = some Q') : ∃ v, ((a = 99 ∧ v = 1) ∨ (a = 103 ∧ v = 2)) ∧ Q' = (2, Q.2.1, upN Q.2.2.1 Q.2.1 v, Q.2.2.2.1, Q.2.2.2.2.1 + 1, Q.2.2.2.2.2) := by
  unfold tst at e
  rw [if_neg (by omega), if_pos hq] at e
  by_cases e1 : a = 99
  · rw [if_pos e1] at e
    cases e
    exact ⟨1, Or.inl ⟨e1, rfl⟩, rfl⟩
  · rw [if_neg e1] at e
    by_cases e2 : a = 103
    · rw [if_pos e2] at e
      cases e
      exact ⟨2, Or.inr ⟨e2, rfl⟩, rfl⟩
    · rw [if_neg e2] at e
      cases e
theorem tst2 {Q Q' : Tq} {a : Nat} (hq : 2 ≤ Q.1) (e : tst Q a = some Q') : (a = 59 ∧ Q' = (0, Q.2.1, Q.2.2.1, Q.2.2.2.1, Q.2.2.2.2.1, Q.2.2.2.2.2)) ∨ (a ≠ 59 ∧ (48 ≤ a ∧ a ≤ 57) ∧ Q' = (Q.1 + 1, Q.2.1, Q.2.2.1, upN Q.2.2.2.1 Q.2.1 (10 * Q.2.2.2.1 Q.2.1 + (a - 48)), Q.2.2.2.2.1, Q.2.2.2.2.2)) := by
  unfold tst at e
  rw [if_neg (by omega), if_neg (by omega)] at e
  by_cases e1 : a = 59
  · rw [if_pos e1] at e
    by_cases e2 : 3 ≤ Q.1 ∧ Q.2.2.2.2.1 < 10
    · rw [if_pos e2] at e
      cases e
      exact Or.inl ⟨e1, rfl⟩
    · rw [if_neg e2] at e
      cases e
  · rw [if_neg e1] at e
    by_cases e2 : (48 ≤ a ∧ a ≤ 57) ∧ Q.1 < 5
    · rw [if_pos e2] at e
      cases e
      exact Or.inr ⟨e1, e2.1, rfl⟩
    · rw [if_neg e2] at e
      cases e
def RT (σ0 σ : Sg) (H Y : Nat → Nat) (c : Nat) : Prop := σ.1 = σ0.1 ∧ σ.2.2.2 = σ0.2.2.2 ∧ σ.2.2.1 = σ0.2.2.1 ∧ (∀ k, k ≠ 44 → k ≠ 56 → k ≠ 57 → σ.2.1 k = σ0.2.1 k) ∧ (∀ j, j ≠ 12 → j ≠ 14 → σ.2.1 44 j = σ0.2.1 44 j) ∧ σ.2.1 44 14 = nI c ∧ ∀ k, k < 10 → σ.2.1 56 k = nI (H k) ∧ σ.2.1 57 k = nI (Y k)
theorem n6 {m : Nat} (hm : m ≤ 40) : nI m ≠ (-6) := fun z => nI_pos (show m < 2 ^ 31 by omega) (by rw [z]; decide)
theorem mr_16 {N : Nat} {i1 i2 : Int32} {σ : Sg} : X5_rule_run (N + 1) 16 44 i1 i2 σ = X5_rule_b16 N (X5_rule_run N) 44 i1 σ := rfl
theorem mr_61 {N : Nat} {i1 i2 : Int32} {σ : Sg} : X5_rule_run (N + 1) 61 44 i1 i2 σ = X5_rule_b61 N (X5_rule_run N) 44 i1 i2 σ := rfl
set_option maxHeartbeats 1000000 in
theorem tm_rule {t : Nat → Nat} {m : Nat} (hm : m ≤ 40) (ht : ∀ i, i < m → t i ≤ 126) {σ0 : Sg} (h0 : Hp σ0) (s2 : ∀ j, j < m → σ0.2.1 55 j = nI (t j)) (Z : Tq) : ∀ (k : Nat),
    (∀ (i n : Nat) (σ : Sg) (Q : Tq), Q.1 = 0 → i + k = m → k + 3 ≤ n → TI Q → trd t m k i Q = (-6, Z) → σ.2.1 44 12 = nI m → RT σ0 σ Q.2.2.1 Q.2.2.2.1 Q.2.2.2.2.1 → ∃ τ, X5_rule_run n 16 44 (nI i) 0 σ = some (nI Z.2.2.2.2.1, τ) ∧ RT σ0 τ Z.2.2.1 Z.2.2.2.1 Z.2.2.2.2.1 ∧ τ.2.1 44 12 = 0) ∧
    (∀ (i n c : Nat) (σ : Sg) (Q : Tq), 2 ≤ Q.1 → i + k = m → k + 3 ≤ n → TI Q → trd t m k i Q = (-6, Z) → σ.2.1 44 12 = nI m → c + 1 = Q.2.2.2.2.1 → RT σ0 σ Q.2.2.1 Q.2.2.2.1 c → ∃ τ, X5_rule_run n 61 44 (nI i) (nI Q.2.1) σ = some (nI Z.2.2.2.2.1, τ) ∧ RT σ0 τ Z.2.2.1 Z.2.2.2.1 Z.2.2.2.2.1 ∧ τ.2.1 44 12 = 0) := by
  intro k
  induction k using Nat.strongRecOn with
  | ind k ih =>
    refine ⟨?_, ?_⟩
    · intro i n σ Q hq hi hn hT hZ s1 hR
      obtain ⟨n, rfl⟩ : ∃ q, n = q + 1 := ⟨n - 1, by omega⟩
      obtain ⟨r1, r2, r3, r4, r5, r6, r7⟩ := hR
      have h : Hp σ := Hp_eq r1 r2 h0
      rcases k with _ | k
      · unfold trd at hZ
        rw [if_neg (by omega)] at hZ
        exact absurd (congrArg Prod.fst hZ) (n6 hm)
      · unfold trd at hZ
        cases e : tst Q (t i) with
        | none => rw [e] at hZ; exact absurd (congrArg Prod.fst hZ) (n6 (by omega))
        | some Q1 =>
          rw [e] at hZ
          have hZ : trd t m k (i + 1) Q1 = (-6, Z) := hZ
          obtain ⟨a1, a2⟩ := tst0 hq e
          have hT1 := TI_st hT e
          subst a2
          rcases k with _ | k
          · unfold trd at hZ
            rw [if_neg (show ¬ 3 ≤ 1 by decide)] at hZ
            exact absurd (congrArg Prod.fst hZ) (n6 hm)
          · unfold trd at hZ
            cases e' : tst (1, t i - 48, Q.2.2.1, Q.2.2.2.1, Q.2.2.2.2.1, Q.2.2.2.2.2 + 2 ^ (t i - 48)) (t (i + 1)) with
            | none => rw [e'] at hZ; exact absurd (congrArg Prod.fst hZ) (n6 (by omega))
            | some Q2 =>
              rw [e'] at hZ
              have hZ : trd t m k (i + 1 + 1) Q2 = (-6, Z) := hZ
              have hT2 := TI_st hT1 e'
              obtain ⟨v, b1, b2⟩ := tst1 rfl e'
              subst b2
              have hk : t i - 48 < 10 := by omega
              have p55 : ∀ j, j < m → σ.2.1 55 j = nI (t j) := fun j hj => by rw [r4 55 (by decide) (by decide) (by decide)]; exact s2 j hj
              have fin : ∃ τ, X5_rule_b57 n (X5_rule_run n) 44 (nI i) (nI (t i - 48)) 56 (nI (t i - 48)) (nI v) σ = some (nI Z.2.2.2.2.1, τ) ∧ RT σ0 τ Z.2.2.1 Z.2.2.2.1 Z.2.2.2.2.1 ∧ τ.2.1 44 12 = 0 := by
                unfold X5_rule_b57
                rw [xI_56 h hk, ob, show nI i + 2 = nI (i + 1 + 1) from nI_add i 2, ob]
                refine (ih k (by omega)).2 (i + 1 + 1) n Q.2.2.2.2.1 _ _ (Nat.le_refl 2) (by omega) (by omega) hT2 hZ (by rw [rI_ne (by decide)]; exact s1) rfl ⟨r1, r2, r3, fun k k1 k2 k3 => by rw [rI_ne k2]; exact r4 k k1 k2 k3, fun j j1 j2 => by rw [rI_ne (by decide)]; exact r5 j j1 j2, by rw [rI_ne (by decide)]; exact r6, fun k hk => ⟨?_, by rw [rI_ne (by decide)]; exact (r7 k hk).2⟩⟩
                rw [rI]
                show (if 56 = 56 ∧ k = t i - 48 then nI v else σ.2.1 56 k) = nI (upN Q.2.2.1 (t i - 48) v k)
                unfold upN
                by_cases e2 : k = t i - 48
                · rw [if_pos ⟨rfl, e2⟩, if_pos e2]
                · rw [if_neg (fun z => e2 z.2), if_neg e2]; exact (r7 k hk).1
              rw [mr_16]
              unfold X5_rule_b16
              rw [gI_5_44_12 h, ob, s1, if_neg (nI_ge (by omega) (by omega)), gR_5_44_13 h, ob, aI_55 h (by omega), ob, p55 i (by omega), n48 a1.1, ob, gR_5_44_15 h, ob, ob, nI_1, aI_55 h (by omega), ob, p55 (i + 1) (by omega)]
              rcases b1 with ⟨b1, b2⟩ | ⟨b1, b2⟩
              · rw [b1, if_pos (show nI 99 = 99 from rfl)]
                rw [b2] at fin
                exact fin
              · rw [b1, if_neg (show ¬ nI 103 = 99 by decide)]
                rw [b2] at fin
                exact fin
    · intro i n c σ Q hq hi hn hT hZ s1 hc hR
      obtain ⟨n, rfl⟩ : ∃ q, n = q + 1 := ⟨n - 1, by omega⟩
      obtain ⟨r1, r2, r3, r4, r5, r6, r7⟩ := hR
      have h : Hp σ := Hp_eq r1 r2 h0
      have h1 : Hp (sI σ 44 14 (nI (c + 1))) := h
      have hR1 : RT σ0 (sI σ 44 14 (nI (c + 1))) Q.2.2.1 Q.2.2.2.1 Q.2.2.2.2.1 := ⟨r1, r2, r3, fun k k1 k2 k3 => by rw [rI_ne k1]; exact r4 k k1 k2 k3, fun j j1 j2 => by rw [rI, if_neg (fun z => j2 z.2)]; exact r5 j j1 j2, by rw [rI, if_pos ⟨rfl, rfl⟩, hc], fun k hk => by rw [rI_ne (by decide), rI_ne (by decide)]; exact r7 k hk⟩
      have s11 : (sI σ 44 14 (nI (c + 1))).2.1 44 12 = nI m := by rw [rI, if_neg (by decide)]; exact s1
      rw [mr_61]
      unfold X5_rule_b61
      rcases k with _ | k
      · unfold trd at hZ
        obtain ⟨n, rfl⟩ : ∃ q, n = q + 1 := ⟨n - 1, by omega⟩
        have hz : Q = Z := congrArg Prod.snd hZ
        subst hz
        rw [gI_5_44_12 h, ob, s1, if_pos (nI_le (by omega) (by omega))]
        unfold X5_rule_b111
        rw [nI_1, ob, gI_5_44_14 h, ob, r6, nI_1, pI_5_44_14 h, ob, mr_16]
        unfold X5_rule_b16
        have h2 : Hp (sI (sI σ 44 14 (nI (c + 1))) 44 12 0) := h
        have v14 : (sI (sI σ 44 14 (nI (c + 1))) 44 12 0).2.1 44 14 = nI Q.2.2.2.2.1 := by rw [rI, if_neg (by decide), rI, if_pos ⟨rfl, rfl⟩, hc]
        rw [gI_5_44_12 h1, ob, s11, if_pos (nI_le (by omega) (by omega)), pI_5_44_12 h1, ob, gI_5_44_14 h2, ob, v14]
        obtain ⟨r1, r2, r3, r4, r5, r6, r7⟩ := hR1
        refine ⟨_, rfl, ⟨r1, r2, r3, fun k k1 k2 k3 => by rw [rI_ne k1]; exact r4 k k1 k2 k3, fun j j1 j2 => by rw [rI, if_neg (fun z => j1 z.2)]; exact r5 j j1 j2, v14, fun k hk => by rw [rI_ne (by decide), rI_ne (by decide)]; exact r7 k hk⟩, ?_⟩
        rw [rI, if_pos ⟨rfl, rfl⟩]
      · unfold trd at hZ
        cases e : tst Q (t i) with
        | none => rw [e] at hZ; exact absurd (congrArg Prod.fst hZ) (n6 (by omega))
        | some Q1 =>
          rw [e] at hZ
          have hZ : trd t m k (i + 1) Q1 = (-6, Z) := hZ
          have hT1 := TI_st hT e
          have p55 : ∀ j, j < m → σ.2.1 55 j = nI (t j) := fun j hj => by rw [r4 55 (by decide) (by decide) (by decide)]; exact s2 j hj
          have ha := ht i (by omega)
          rw [gI_5_44_12 h, ob, s1, if_neg (nI_ge (by omega) (by omega)), gR_5_44_13 h, ob, aI_55 h (by omega), ob, p55 i (by omega)]
          rcases tst2 hq e with ⟨b1, b2⟩ | ⟨b1, b2, b3⟩
          · rw [b1, if_pos (show nI 59 = 59 from rfl)]
            unfold X5_rule_b111
            rw [nI_1, ob, gI_5_44_14 h, ob, r6, nI_1, pI_5_44_14 h, ob]
            subst b2
            exact (ih k (by omega)).1 (i + 1) n _ _ rfl (by omega) (by omega) hT1 hZ s11 hR1
          · have hs := hT.2.1
            have hv : 10 * nI (Q.2.2.2.1 Q.2.1) + nI (t i) - 48 = nI (10 * Q.2.2.2.1 Q.2.1 + (t i - 48)) := by
              rw [show (10 : Int32) = nI 10 from rfl, pk_mul, nI_add, show (48 : Int32) = nI 48 from rfl, nsub (by omega)]
              congr 1
              omega
            rw [if_neg (show ¬ nI (t i) = 59 from fun z => b1 ((nIl (b := 59) (by omega) (by decide)).mp z)), gR_5_44_16 h, ob, ob, aI_57 h hs, ob, (r7 _ hs).2, ob, aI_55 h (by omega), ob, p55 i (by omega), hv, xI_57 h hs, ob, nI_1, ob]
            subst b3
            refine (ih k (by omega)).2 (i + 1) n c _ (Q.1 + 1, Q.2.1, Q.2.2.1, upN Q.2.2.2.1 Q.2.1 (10 * Q.2.2.2.1 Q.2.1 + (t i - 48)), Q.2.2.2.2.1, Q.2.2.2.2.2) (show 2 ≤ Q.1 + 1 by omega) (by omega) (by omega) hT1 hZ (by rw [rI_ne (by decide)]; exact s1) hc ⟨r1, r2, r3, fun k k1 k2 k3 => by rw [rI_ne k3]; exact r4 k k1 k2 k3, fun j j1 j2 => by rw [rI_ne (by decide)]; exact r5 j j1 j2, by rw [rI_ne (by decide)]; exact r6, fun k hk => ⟨by rw [rI_ne (by decide)]; exact (r7 k hk).1, ?_⟩⟩
            rw [rI]
            show (if 57 = 57 ∧ k = Q.2.1 then nI (10 * Q.2.2.2.1 Q.2.1 + (t i - 48)) else σ.2.1 57 k) = nI (upN Q.2.2.2.1 Q.2.1 (10 * Q.2.2.2.1 Q.2.1 + (t i - 48)) k)
            unfold upN
            by_cases e2 : k = Q.2.1
            · rw [if_pos ⟨rfl, e2⟩, if_pos e2]
            · rw [if_neg (fun z => e2 z.2), if_neg e2]; exact (r7 k hk).2

theorem trd_or {t : Nat → Nat} {m : Nat} (hm : m ≤ 40) : ∀ (k i : Nat) (Q : Tq), i + k = m → (trd t m k i Q).1 = (-6) ∨ ∃ j, j ≤ 40 ∧ (trd t m k i Q).1 = nI j := by
  intro k
  induction k with
  | zero =>
    intro i Q hi
    unfold trd
    by_cases e : 3 ≤ Q.1
    · left; rw [if_pos e]
    · right; exact ⟨m, hm, by rw [if_neg e]⟩
  | succ k ih =>
    intro i Q hi
    unfold trd
    cases e : tst Q (t i) with
    | none => right; exact ⟨i, by omega, rfl⟩
    | some Q' => exact ih (i + 1) Q' (by omega)
theorem va_self2 {f : Nat → Nat → Option Nat} {A B : Nat → Option Nat} : va_up (va_up f 0 A) 0 B 0 = B := va_up_self _ _ _
theorem Hp_sw {σ : Sg} (h : Hp σ) : Hp (sR (sR σ 0 4 (sp σ)) 0 5 (rp σ)) ∧ rp (sR (sR σ 0 4 (sp σ)) 0 5 (rp σ)) = sp σ := by
  have e4 : (sR (sR σ 0 4 (sp σ)) 0 5 (rp σ)).2.2.2 0 4 = some (sp σ) := by
    show va_up (va_up σ.2.2.2 0 (va_up (σ.2.2.2 0) 4 (some (sp σ)))) 0 (va_up ((va_up σ.2.2.2 0 (va_up (σ.2.2.2 0) 4 (some (sp σ)))) 0) 5 (some (rp σ))) 0 4 = _
    rw [va_up_self, va_up_ne _ _ (by decide), va_up_self, va_up_self]
  have e5 : (sR (sR σ 0 4 (sp σ)) 0 5 (rp σ)).2.2.2 0 5 = some (rp σ) := by
    show va_up (va_up σ.2.2.2 0 (va_up (σ.2.2.2 0) 4 (some (sp σ)))) 0 (va_up ((va_up σ.2.2.2 0 (va_up (σ.2.2.2 0) 4 (some (sp σ)))) 0) 5 (some (rp σ))) 0 5 = _
    rw [va_up_self, va_up_self]
  refine ⟨⟨h.1, fun k hk j hj hkj => ?_, ?_⟩, by show ((sR (sR σ 0 4 (sp σ)) 0 5 (rp σ)).2.2.2 0 4).getD 38 = sp σ; rw [e4]; rfl⟩
  · rw [← h.2.1 k hk j hj hkj]
    show va_up (va_up σ.2.2.2 0 (va_up (σ.2.2.2 0) 4 (some (sp σ)))) 0 (va_up ((va_up σ.2.2.2 0 (va_up (σ.2.2.2 0) 4 (some (sp σ)))) 0) 5 (some (rp σ))) k j = _
    by_cases e : k = 0
    · subst e
      rw [va_up_self, va_up_ne _ _ (by omega), va_up_self, va_up_ne _ _ (by omega)]
    · rw [va_up_ne _ _ e, va_up_ne _ _ e]
  · rw [e4, e5]
    rcases rp_or h with ⟨a, b⟩ | ⟨a, b⟩
    · right; rw [a, b]; exact ⟨rfl, rfl⟩
    · left; rw [a, b]; exact ⟨rfl, rfl⟩
section
variable {W : Wd}
theorem z_rule (hW : Ok W) {n : Nat} (hn : 100 ≤ n) : Pz (f_X4_rule n 0) (f_X5_rule n 44) W := by
  have hm := hW.2.2.1.1
  have hTI := TI_rd (t := W.2.2.2.1) (m := W.2.2.1) W.2.2.1 0 Q0 TI_0
  have hcl := fun (σ : Sg) (h : Hp σ) (hI : InvC σ W) => tc_read hW hn h hI
  have hmd := fun (σ : Sg) (h : Hp σ) (hI : InvM σ W) => tm_fault hW hn h hI
  have hor := trd_or (t := W.2.2.2.1) hm W.2.2.1 0 Q0 (by omega)
  have hpair : trd W.2.2.2.1 W.2.2.1 W.2.2.1 0 Q0 = ((trd W.2.2.2.1 W.2.2.1 W.2.2.1 0 Q0).1, (trd W.2.2.2.1 W.2.2.1 W.2.2.1 0 Q0).2) := rfl
  generalize (trd W.2.2.2.1 W.2.2.1 W.2.2.1 0 Q0).1 = r at hcl hmd hor hpair
  generalize (trd W.2.2.2.1 W.2.2.1 W.2.2.1 0 Q0).2 = Z at hcl hmd hpair hTI
  by_cases er : r = (-6)
  · subst er
    refine ⟨(wR W.1 Z.2.2.1 Z.2.2.2.1, W.2.1, (0, W.2.2.2.1, Z.2.2.2.2.1)), nI Z.2.2.2.2.1, Ok_rule hW (fun s hs => ⟨(hTI.2.2.2.2.1 s hs).1, (hTI.2.2.2.2.1 s hs).2.1⟩) ⟨Nat.zero_le _, fun i hi => absurd hi (Nat.not_lt_zero _)⟩ (TI_c hTI), fun σ h hI => ?_, fun σ h hI => ?_⟩
    · obtain ⟨τ, t1, t2, t3⟩ := hcl σ h hI
      have h1 := t2.hp h
      have hr := rp_or h
      have h2 : Hp (sI (sI τ 0 6 0) 0 7 0) := h1
      have er : rp (sI (sI τ 0 6 0) 0 7 0) = rp σ := rp_of t2.2.1
      have es : sp (sI (sI τ 0 6 0) 0 7 0) = sp σ := sp_of t2.2.1
      obtain ⟨h3, e3⟩ := Hp_sw h2
      rw [er, es] at h3
      rw [er, es] at e3
      have p1 : pR 4 0 4 (sp σ) (sI (sI τ 0 6 0) 0 7 0) = some (sR (sI (sI τ 0 6 0) 0 7 0) 0 4 (sp σ)) := by
        unfold pR
        rw [if_pos ⟨rfl, by rw [h2.1]; decide⟩]
      have p2 : pR 4 0 5 (rp σ) (sR (sI (sI τ 0 6 0) 0 7 0) 0 4 (sp σ)) = some (sR (sR (sI (sI τ 0 6 0) 0 7 0) 0 4 (sp σ)) 0 5 (rp σ)) := by
        unfold pR
        have : (sR (sI (sI τ 0 6 0) 0 7 0) 0 4 (sp σ)).1 = 73 := h2.1
        rw [if_pos ⟨rfl, by rw [this]; decide⟩]
      have q : ∀ k, k ≠ 0 → k ≠ 12 → (k < sp σ ∨ sp σ + 2 < k) → (sI (sR (sR (sI (sI τ 0 6 0) 0 7 0) 0 4 (sp σ)) 0 5 (rp σ)) 12 1 0).2.1 k = σ.2.1 k := fun k k1 k2 k3 => by
        rw [rI_ne k2]
        show (sI (sI τ 0 6 0) 0 7 0).2.1 k = _
        rw [clrk k1]
        exact t2.2.2.2.1 k k2 k3
      have qs : ∀ k, k ≠ 0 → k ≠ 12 → (sI (sR (sR (sI (sI τ 0 6 0) 0 7 0) 0 4 (sp σ)) 0 5 (rp σ)) 12 1 0).2.1 k = τ.2.1 k := fun k k1 k2 => by
        rw [rI_ne k2]
        show (sI (sI τ 0 6 0) 0 7 0).2.1 k = _
        rw [clrk k1]
      have q0 : (sI (sR (sR (sI (sI τ 0 6 0) 0 7 0) 0 4 (sp σ)) 0 5 (rp σ)) 12 1 0).2.1 0 = (sI (sI τ 0 6 0) 0 7 0).2.1 0 := rI_ne (by decide)
      have q12 : (sI (sR (sR (sI (sI τ 0 6 0) 0 7 0) 0 4 (sp σ)) 0 5 (rp σ)) 12 1 0).2.1 12 1 = 0 := by rw [rI, if_pos ⟨rfl, rfl⟩]
      have run : f_X4_rule n 0 σ = some (nI Z.2.2.2.2.1, sI (sR (sR (sI (sI τ 0 6 0) 0 7 0) 0 4 (sp σ)) 0 5 (rp σ)) 12 1 0) := by
        have h4 : Hp (sI (sR (sR (sI (sI τ 0 6 0) 0 7 0) 0 4 (sp σ)) 0 5 (rp σ)) 12 1 0) := h3
        have e4 : rp (sI (sR (sR (sI (sI τ 0 6 0) 0 7 0) 0 4 (sp σ)) 0 5 (rp σ)) 12 1 0) = sp σ := e3
        unfold f_X4_rule
        rw [gR_4_0_1 h, ob, gR_4_0_5 h, ob, ck_12 h, ob, t1, ob, if_pos rfl, ck_0 h1, ob, forget h1, ob, gR_4_0_4 h2, ob, gR_4_0_5 h2, ob, er, es, p1, ob, p2, ob, gR_4_0_1 h3, ob, pI_3_12_1 h3, ob, gR_4_0_4 h4, ob, e4, gIr_2 h4 (sp_Ru h), ob, qs (sp σ) (by omega) (by omega), t3.2.2.2]
      refine ⟨_, run, h3, ?_, fun k hk => q k (by omega) (by omega) (by omega)⟩
      have e4 : rp (sI (sR (sR (sI (sI τ 0 6 0) 0 7 0) 0 4 (sp σ)) 0 5 (rp σ)) 12 1 0) = sp σ := e3
      generalize sI (sR (sR (sI (sI τ 0 6 0) 0 7 0) 0 4 (sp σ)) 0 5 (rp σ)) 12 1 0 = υ at q qs q0 q12 e4
      refine ⟨?_, ?_, ?_, ?_, ?_, ?_, ?_⟩
      · show CLine υ W.1
        unfold CLine
        rw [q 1 (by decide) (by decide) (by omega), q 2 (by decide) (by decide) (by omega), q 3 (by decide) (by decide) (by omega), q 4 (by decide) (by decide) (by omega), q 5 (by decide) (by decide) (by omega), q 6 (by decide) (by decide) (by omega), q 7 (by decide) (by decide) (by omega), q 8 (by decide) (by decide) (by omega)]
        exact hI.1
      · intro s hs
        rw [e4, qs (sp σ + 1) (by omega) (by omega), qs (sp σ + 2) (by omega) (by omega)]
        exact ⟨(hTI.2.2.2.2.1 s hs).1, (hTI.2.2.2.2.1 s hs).2.1, t3.2.2.1 s hs⟩
      · show CLate υ W
        unfold CLate
        rw [q 1 (by decide) (by decide) (by omega), q 9 (by decide) (by decide) (by omega), q 10 (by decide) (by decide) (by omega), q 11 (by decide) (by decide) (by omega)]
        exact hI.2.2.1
      · exact ⟨q12, fun i hi => absurd hi (Nat.not_lt_zero _)⟩
      · rw [e4, qs (sp σ) (by omega) (by omega)]
        exact t3.2.2.2
      · intro z
        rw [q0] at z
        exact absurd clr6 z
      · intro z
        rw [q0] at z
        exact absurd clr7 z
    · obtain ⟨τ, t1, t2, t3, t4, t5, t6, t7, t8⟩ := pm_clear (n := n) h (by omega)
      obtain ⟨ρ, r1, ⟨r2, r3, r4, r5, r6, r7, r8⟩, r9⟩ := (tm_rule hm (fun i hi => (hW.2.2.1.2 i hi).2) h hI.2.2.2.1.2 Z W.2.2.1).1 0 n τ Q0 rfl (by omega) (by omega) TI_0 hpair (by rw [t6 12 (by decide)]; exact hI.2.2.2.1.1) ⟨t2, t3, t4, t5, fun j j1 j2 => t6 j j2, t7, t8⟩
      have r1' : X5_rule_run n 16 44 0 0 τ = _ := r1
      refine ⟨ρ, ?_, Hp_eq r2 r3 h, ⟨?_, ?_, ?_, ?_, ?_⟩, fun k hk => r5 k (by omega) (by omega) (by omega), r4, r3⟩
      · unfold f_X5_rule X5_rule_b0
        rw [ck_44 h, ob, hmd σ h hI, ob, if_pos (show (-6 : Int32) < 0 by decide), ck_44 h, ob, t1, ob, r1']
      · show MLine ρ W.1
        unfold MLine
        rw [r6 3 (by decide) (by decide), r5 45 (by decide) (by decide) (by decide), r5 46 (by decide) (by decide) (by decide), r5 47 (by decide) (by decide) (by decide), r5 48 (by decide) (by decide) (by decide), r5 49 (by decide) (by decide) (by decide), r5 50 (by decide) (by decide) (by decide), r5 51 (by decide) (by decide) (by decide)]
        exact hI.1
      · exact r8
      · show MLt ρ W
        unfold MLt
        rw [r6 8 (by decide) (by decide), r5 52 (by decide) (by decide) (by decide), r5 53 (by decide) (by decide) (by decide), r5 54 (by decide) (by decide) (by decide)]
        exact hI.2.2.1
      · exact ⟨r9, fun i hi => absurd hi (Nat.not_lt_zero _)⟩
      · exact r7
  · obtain ⟨j, j1, j2⟩ : ∃ j, j ≤ 40 ∧ r = nI j := by
      rcases hor with z | z
      · exact absurd z er
      · exact z
    refine ⟨W, (-5), hW, fun σ h hI => ?_, MZ_no (fun σ h hI => ?_)⟩
    · have hr := sp_Ru h
      obtain ⟨τ, t1, t2, t3⟩ := hcl σ h hI
      refine ⟨τ, ?_, t2.hp h, FT_inv hI h t2, fun k hk => t2.2.2.2.1 k (by omega) (by omega)⟩
      unfold f_X4_rule
      rw [gR_4_0_1 h, ob, gR_4_0_5 h, ob, ck_12 h, ob, t1, ob, if_neg er]
    · unfold f_X5_rule X5_rule_b0
      rw [ck_44 h, ob, hmd σ h hI, ob, j2, if_neg (nI_pos (by omega))]
end
