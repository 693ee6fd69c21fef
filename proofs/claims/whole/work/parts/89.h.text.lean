/-! THE TEXT OF A RULE: read sign by sign -/
abbrev Tq : Type := Nat × Nat × (Nat → Nat) × (Nat → Nat) × Nat × Nat
def tst (Q : Tq) (a : Nat) : Option Tq :=
  if Q.1 = 0 then (if (48 ≤ a ∧ a ≤ 57) ∧ Q.2.2.1 (a - 48) = 0 then some (1, a - 48, Q.2.2.1, Q.2.2.2.1, Q.2.2.2.2.1, Q.2.2.2.2.2 + 2 ^ (a - 48)) else none)
  else if Q.1 = 1 then (if a = 99 then some (2, Q.2.1, upN Q.2.2.1 Q.2.1 1, Q.2.2.2.1, Q.2.2.2.2.1 + 1, Q.2.2.2.2.2) else if a = 103 then some (2, Q.2.1, upN Q.2.2.1 Q.2.1 2, Q.2.2.2.1, Q.2.2.2.2.1 + 1, Q.2.2.2.2.2) else none)
  else if a = 59 then (if 3 ≤ Q.1 ∧ Q.2.2.2.2.1 < 10 then some (0, Q.2.1, Q.2.2.1, Q.2.2.2.1, Q.2.2.2.2.1, Q.2.2.2.2.2) else none)
  else if (48 ≤ a ∧ a ≤ 57) ∧ Q.1 < 5 then some (Q.1 + 1, Q.2.1, Q.2.2.1, upN Q.2.2.2.1 Q.2.1 (10 * Q.2.2.2.1 Q.2.1 + (a - 48)), Q.2.2.2.2.1, Q.2.2.2.2.2) else none
def trd (t : Nat → Nat) (m : Nat) : Nat → Nat → Tq → Int32 × Tq
  | 0, _, Q => (if 3 ≤ Q.1 then (-6) else nI m, Q)
  | k + 1, i, Q => match tst Q (t i) with
    | none => (nI i, Q)
    | some Q' => trd t m k (i + 1) Q'
def TI (Q : Tq) : Prop := Q.1 ≤ 5 ∧ Q.2.1 < 10 ∧ Q.2.2.2.2.2 < 1024 ∧ Q.2.2.2.2.1 + (if Q.1 = 1 then 1 else 0) = pop Q.2.2.2.2.2 ∧
  (∀ k, k < 10 → Q.2.2.1 k ≤ 2 ∧ Q.2.2.2.1 k ≤ 999 ∧ (Q.2.2.1 k = 0 → Q.2.2.2.1 k = 0) ∧ (bt k Q.2.2.2.2.2 = 0 ↔ Q.2.2.1 k = 0 ∧ ¬ (Q.1 = 1 ∧ k = Q.2.1))) ∧ (Q.1 = 1 → Q.2.2.1 Q.2.1 = 0) ∧ (2 ≤ Q.1 → Q.2.2.1 Q.2.1 ≠ 0 ∧ Q.2.2.2.1 Q.2.1 < 10 ^ (Q.1 - 2))
def Q0 : Tq := (0, 0, z0, z0, 0, 0)
theorem TI_0 : TI Q0 := by
  refine ⟨by decide, by decide, by decide, rfl, fun k hk => ⟨Nat.zero_le _, Nat.zero_le _, fun _ => rfl, ?_⟩, fun z => absurd z (by decide), fun z => absurd z (by decide)⟩
  have : bt k 0 = 0 := by unfold bt; rw [Nat.zero_div]
  exact ⟨fun _ => ⟨rfl, fun z => absurd z.1 (by decide)⟩, fun _ => this⟩
theorem TI_c {Q : Tq} (h : TI Q) : Q.2.2.2.2.1 ≤ 10 := by
  have h1 := h.2.2.2.1
  have h2 := (pop_10 _ h.2.2.1).1
  omega
theorem TI_st {Q Q' : Tq} {a : Nat} (h : TI Q) (e : tst Q a = some Q') : TI Q' := by
  obtain ⟨q, s, H, Y, c, M⟩ := Q
  obtain ⟨i1, i2, i3, i4, i5, i6, i7⟩ := h
  dsimp only at i1 i2 i3 i4 i5 i6 i7
  unfold tst at e
  dsimp only at e
  by_cases e0 : q = 0
  · subst e0
    rw [if_pos rfl] at e
    by_cases e1 : (48 ≤ a ∧ a ≤ 57) ∧ H (a - 48) = 0
    · rw [if_pos e1] at e
      cases e
      have hk : a - 48 < 10 := by omega
      have hb : bt (a - 48) M = 0 := (i5 _ hk).2.2.2.mpr ⟨e1.2, fun z => absurd z.1 (by decide)⟩
      obtain ⟨u1, u2, u3⟩ := (bt_sh _ hk M i3).2 hb
      refine ⟨show 1 ≤ 5 by decide, hk, u2, ?_, fun k k1 => ⟨(i5 k k1).1, (i5 k k1).2.1, (i5 k k1).2.2.1, ?_⟩, fun _ => e1.2, fun z => absurd z (show ¬ 2 ≤ 1 by decide)⟩
      · show c + 1 = pop (M + 2 ^ (a - 48))
        rw [if_neg (by decide)] at i4
        omega
      · show bt k (M + 2 ^ (a - 48)) = 0 ↔ H k = 0 ∧ ¬ (1 = 1 ∧ k = a - 48)
        rw [bt_up _ hk M i3 hb k k1]
        by_cases e2 : k = a - 48
        · rw [if_pos e2]
          exact ⟨fun z => absurd z (by decide), fun z => absurd ⟨rfl, e2⟩ z.2⟩
        · rw [if_neg e2, (i5 k k1).2.2.2]
          exact ⟨fun z => ⟨z.1, fun w => e2 w.2⟩, fun z => ⟨z.1, fun w => absurd w.1 (by decide)⟩⟩
    · rw [if_neg e1] at e
      cases e
  · rw [if_neg e0] at e
    by_cases e1 : q = 1
    · subst e1
      rw [if_pos rfl] at e
      have key : ∀ v, v ≤ 2 → v ≠ 0 → TI (2, s, upN H s v, Y, c + 1, M) := by
        intro v v1 v2
        rw [if_pos rfl] at i4
        refine ⟨show 2 ≤ 5 by decide, i2, i3, ?_, fun k k1 => ⟨?_, (i5 k k1).2.1, ?_, ?_⟩, fun z => absurd z (show ¬ 2 = 1 by decide), fun _ => ⟨?_, ?_⟩⟩
        · exact i4
        · show upN H s v k ≤ 2
          unfold upN
          split
          · exact v1
          · exact (i5 k k1).1
        · show upN H s v k = 0 → Y k = 0
          unfold upN
          by_cases e2 : k = s
          · rw [if_pos e2]; intro z; exact absurd z v2
          · rw [if_neg e2]; exact (i5 k k1).2.2.1
        · show bt k M = 0 ↔ upN H s v k = 0 ∧ ¬ (2 = 1 ∧ k = s)
          rw [(i5 k k1).2.2.2]
          unfold upN
          by_cases e2 : k = s
          · rw [if_pos e2]
            exact ⟨fun z => absurd ⟨rfl, e2⟩ z.2, fun z => absurd z.1 v2⟩
          · rw [if_neg e2]
            exact ⟨fun z => ⟨z.1, fun w => absurd w.1 (by decide)⟩, fun z => ⟨z.1, fun w => e2 w.2⟩⟩
        · show upN H s v s ≠ 0
          unfold upN
          rw [if_pos rfl]
          exact v2
        · show Y s < 1
          have := (i5 s i2).2.2.1 (i6 rfl)
          omega
      by_cases e2 : a = 99
      · rw [if_pos e2] at e
        cases e
        exact key 1 (by decide) (by decide)
      · rw [if_neg e2] at e
        by_cases e3 : a = 103
        · rw [if_pos e3] at e
          cases e
          exact key 2 (by decide) (by decide)
        · rw [if_neg e3] at e
          cases e
    · rw [if_neg e1] at e
      rw [if_neg e1] at i4
      by_cases e2 : a = 59
      · rw [if_pos e2] at e
        by_cases e3 : 3 ≤ q ∧ c < 10
        · rw [if_pos e3] at e
          cases e
          refine ⟨show 0 ≤ 5 by decide, i2, i3, i4, fun k k1 => ⟨(i5 k k1).1, (i5 k k1).2.1, (i5 k k1).2.2.1, ?_⟩, fun z => absurd z (show ¬ 0 = 1 by decide), fun z => absurd z (show ¬ 2 ≤ 0 by decide)⟩
          show bt k M = 0 ↔ H k = 0 ∧ ¬ (0 = 1 ∧ k = s)
          rw [(i5 k k1).2.2.2]
          exact ⟨fun z => ⟨z.1, fun w => absurd w.1 (by decide)⟩, fun z => ⟨z.1, fun w => e1 w.1⟩⟩
        · rw [if_neg e3] at e
          cases e
      · rw [if_neg e2] at e
        by_cases e3 : (48 ≤ a ∧ a ≤ 57) ∧ q < 5
        · rw [if_pos e3] at e
          cases e
          obtain ⟨j1, j2⟩ := i7 (by omega)
          have hY : 10 * Y s + (a - 48) < 10 ^ (q + 1 - 2) ∧ 10 * Y s + (a - 48) ≤ 999 := by
            have hq : q = 2 ∨ q = 3 ∨ q = 4 := by omega
            rcases hq with z | z | z <;> subst z
            · have : Y s < 1 := j2
              refine ⟨?_, by omega⟩
              show _ < 10
              omega
            · have : Y s < 10 := j2
              refine ⟨?_, by omega⟩
              show _ < 100
              omega
            · have : Y s < 100 := j2
              refine ⟨?_, by omega⟩
              show _ < 1000
              omega
          refine ⟨show q + 1 ≤ 5 by omega, i2, i3, ?_, fun k k1 => ⟨(i5 k k1).1, ?_, ?_, ?_⟩, fun z => absurd z (show ¬ q + 1 = 1 by omega), fun _ => ⟨j1, ?_⟩⟩
          · show c + (if q + 1 = 1 then 1 else 0) = pop M
            rw [if_neg (by omega)]; exact i4
          · show upN Y s _ k ≤ 999
            unfold upN
            split
            · exact hY.2
            · exact (i5 k k1).2.1
          · show H k = 0 → upN Y s _ k = 0
            unfold upN
            intro z
            by_cases e4 : k = s
            · subst e4; exact absurd z j1
            · rw [if_neg e4]; exact (i5 k k1).2.2.1 z
          · show bt k M = 0 ↔ H k = 0 ∧ ¬ (q + 1 = 1 ∧ k = s)
            rw [(i5 k k1).2.2.2]
            exact ⟨fun z => ⟨z.1, fun w => by omega⟩, fun z => ⟨z.1, fun w => e1 w.1⟩⟩
          · show upN Y s _ s < _
            unfold upN
            rw [if_pos rfl]
            exact hY.1
        · rw [if_neg e3] at e
          cases e
theorem TI_rd {t : Nat → Nat} {m : Nat} : ∀ (k i : Nat) (Q : Tq), TI Q → TI (trd t m k i Q).2 := by
  intro k
  induction k with
  | zero => intro i Q h; exact h
  | succ k ih =>
    intro i Q h
    unfold trd
    cases e : tst Q (t i) with
    | none => exact h
    | some Q' => exact ih (i + 1) Q' (TI_st h e)
/-! the class reads -/
def cq (q : Nat) : Int32 := if q = 0 then (-2) else if q = 1 then (-1) else nI (q - 2)
def CT (y : Nat) (σ : Sg) (Q : Tq) : Prop := σ.2.1 12 2 = cq Q.1 ∧ σ.2.1 12 3 = nI Q.2.1 ∧ (∀ k, k < 10 → σ.2.1 (y + 1) k = ltr (Q.2.2.1 k) ∧ σ.2.1 (y + 2) k = nI (Q.2.2.2.1 k)) ∧ σ.2.1 y 2 = nI Q.2.2.2.2.1
def FT (y : Nat) (σ τ : Sg) : Prop := τ.1 = σ.1 ∧ τ.2.2.2 = σ.2.2.2 ∧ τ.2.2.1 = σ.2.2.1 ∧ (∀ k, k ≠ 12 → (k < y ∨ y + 2 < k) → τ.2.1 k = σ.2.1 k) ∧ (∀ j, j ≠ 2 → j ≠ 3 → τ.2.1 12 j = σ.2.1 12 j)
theorem FT.rf {y : Nat} {σ : Sg} : FT y σ σ := ⟨rfl, rfl, rfl, fun _ _ _ => rfl, fun _ _ _ => rfl⟩
theorem FT.tr {y : Nat} {σ τ ρ : Sg} (h1 : FT y σ τ) (h2 : FT y τ ρ) : FT y σ ρ := ⟨h2.1.trans h1.1, h2.2.1.trans h1.2.1, h2.2.2.1.trans h1.2.2.1, fun k a b => (h2.2.2.2.1 k a b).trans (h1.2.2.2.1 k a b), fun j a b => (h2.2.2.2.2 j a b).trans (h1.2.2.2.2 j a b)⟩
theorem FT.hp {y : Nat} {σ τ : Sg} (h : FT y σ τ) (hp : Hp σ) : Hp τ := Hp_eq h.1 h.2.1 hp
theorem FT.w12 {y j : Nat} {σ τ : Sg} {v : Int32} (h : FT y σ τ) (hj : j = 2 ∨ j = 3) : FT y σ (sI τ 12 j v) := ⟨h.1, h.2.1, h.2.2.1, fun k a b => by rw [rI_ne a]; exact h.2.2.2.1 k a b, fun i a b => by rw [rI, if_neg (by omega)]; exact h.2.2.2.2 i a b⟩
theorem FT.wy {y k j : Nat} {σ τ : Sg} {v : Int32} (hy : Ru y) (h : FT y σ τ) (hk : y ≤ k ∧ k ≤ y + 2) : FT y σ (sI τ k j v) := ⟨h.1, h.2.1, h.2.2.1, fun q a b => by rw [rI_ne (by omega)]; exact h.2.2.2.1 q a b, fun i a b => by rw [rI_ne (by omega)]; exact h.2.2.2.2 i a b⟩
theorem ltr_0 {h : Nat} : ltr h = 0 ↔ h = 0 := by
  unfold ltr
  by_cases e : h = 0
  · rw [if_pos e]; exact ⟨fun _ => e, fun _ => rfl⟩
  · rw [if_neg e]
    refine ⟨fun z => ?_, fun z => absurd z e⟩
    by_cases e1 : h = 1
    · rw [if_pos e1] at z; exact absurd z (by decide)
    · rw [if_neg e1] at z; exact absurd z (by decide)
theorem isD {n a : Nat} {σ : Sg} (ha : a ≤ 126) : f_X3_isDigit n (nI a) σ = some (if 48 ≤ a ∧ a ≤ 57 then 1 else 0, σ) := by
  unfold f_X3_isDigit X3_isDigit_b16
  by_cases e : 48 ≤ a ∧ a ≤ 57
  · rw [if_pos e, if_neg (show ¬ nI a < 48 from nI_nlt (b := 48) e.1 (by omega)), if_neg (show ¬ 57 < nI a from nI_nlt (a := 57) e.2 (by decide))]; rfl
  · rw [if_neg e]
    by_cases e1 : a < 48
    · rw [if_pos (show nI a < 48 from nI_lt (b := 48) e1 (by decide))]; rfl
    · rw [if_neg (show ¬ nI a < 48 from nI_nlt (b := 48) (by omega) (by omega)), if_pos (show 57 < nI a from nI_lt (a := 57) (by omega) (by omega))]; rfl
theorem rz1 {σ : Sg} : rz 1 σ = some (1, σ) := rfl
theorem rz0 {σ : Sg} : rz 0 σ = some (0, σ) := rfl
theorem n48 {a : Nat} (h : 48 ≤ a) : nI a - 48 = nI (a - 48) := nsub (b := 48) h
theorem nIl {a b : Nat} (ha : a < 2 ^ 31) (hb : b < 2 ^ 31) : nI a = nI b ↔ a = b := nI_eq ha hb
set_option maxHeartbeats 1000000 in
theorem tc_step {y n a : Nat} {σ : Sg} {Q : Tq} (hy : Ru y) (h : Hp σ) (hT : TI Q) (hC : CT y σ Q) (ha : a ≤ 126) :
    (tst Q a = none → f_X3_reads n 12 (nI a) y σ = some (0, σ)) ∧ (∀ Q', tst Q a = some Q' → ∃ τ, f_X3_reads n 12 (nI a) y σ = some (1, τ) ∧ FT y σ τ ∧ CT y τ Q') := by
  have hc := TI_c hT
  obtain ⟨q, s, H, Y, c, M⟩ := Q
  obtain ⟨i1, i2, i3, i4, i5, i6, i7⟩ := hT
  obtain ⟨c1, c2, c3, c4⟩ := hC
  dsimp only at i1 i2 i3 i4 i5 i6 i7 c1 c2 c3 c4 hc
  unfold tst f_X3_reads
  dsimp only
  rw [gI_3_12_2 h, ob, ob, c1]
  unfold cq
  by_cases e0 : q = 0
  · subst e0
    rw [if_pos rfl, if_pos rfl, if_pos rfl, ck_12 h, ob]
    unfold f_X3_readsStop X3_readsStop_b19
    rw [isD ha, ob]
    by_cases e1 : 48 ≤ a ∧ a ≤ 57
    · have hk : a - 48 < 10 := by omega
      rw [if_pos e1, if_neg z10, gRr_0 h hy, ob, n48 e1.1, aIr_1 h hy hk, ob, (c3 _ hk).1]
      by_cases e2 : H (a - 48) = 0
      · have h1 : Hp (sI σ 12 3 (nI (a - 48))) := h
        rw [if_pos ⟨e1, e2⟩, if_pos (ltr_0.mpr e2), pI_3_12_3 h, ob, pI_3_12_2 h1, ob, rz1, ob, rz1]
        refine ⟨fun z => absurd z (by simp), fun Q' z => ?_⟩
        cases z
        refine ⟨_, rfl, (FT.rf.w12 (Or.inr rfl)).w12 (Or.inl rfl), ?_, ?_, fun k hk => ?_, ?_⟩
        · rw [rI, if_pos ⟨rfl, rfl⟩]; rfl
        · rw [rI, if_neg (by decide), rI, if_pos ⟨rfl, rfl⟩]
        · rw [rI_ne (by omega), rI_ne (by omega), rI_ne (by omega), rI_ne (by omega)]; exact c3 k hk
        · rw [rI_ne (by omega), rI_ne (by omega)]; exact c4
      · rw [if_neg (fun z => e2 z.2), if_neg (fun z => e2 (ltr_0.mp z)), rz0, ob, rz0]
        exact ⟨fun _ => rfl, fun Q' z => by cases z⟩
    · rw [if_neg e1, if_pos rfl, if_neg (fun z => e1 z.1), rz0, ob, rz0]
      exact ⟨fun _ => rfl, fun Q' z => by cases z⟩
  · by_cases e1 : q = 1
    · subst e1
      rw [if_neg e0, if_neg e0, if_pos rfl, if_pos rfl, if_neg (show ¬ (-1 : Int32) = -2 by decide), if_pos rfl, ck_12 h, ob]
      unfold f_X3_readsLetter
      have key : ∀ v w, nI v = ltr w → ∃ τ, X3_readsLetter_b14 n 12 (nI v) y σ = some (1, τ) ∧ FT y σ τ ∧ CT y τ (2, s, upN H s w, Y, c + 1, M) := by
        intro v w e
        have h1 : Hp (sI σ (y + 1) s (nI v)) := h
        have h2 : Hp (sI (sI σ (y + 1) s (nI v)) y 2 (nI (c + 1))) := h
        unfold X3_readsLetter_b14
        rw [gRr_0 h hy, ob, gI_3_12_3 h, ob, c2, xIr_1 h hy i2, ob, gIr_2 h1 hy, ob, rI_ne (by omega), c4, nI_1, pIr_2 h1 hy, ob, pI_3_12_2 h2, ob, rz1]
        refine ⟨_, rfl, ((FT.rf.wy hy ⟨by omega, by omega⟩).wy hy ⟨by omega, by omega⟩).w12 (Or.inl rfl), ?_, ?_, fun k hk => ?_, ?_⟩
        · rw [rI, if_pos ⟨rfl, rfl⟩]; rfl
        · rw [rI, if_neg (by decide), rI_ne (by omega), rI_ne (by omega)]; exact c2
        · refine ⟨?_, ?_⟩
          · rw [rI_ne (by omega), rI_ne (by omega), rI]
            show (if y + 1 = y + 1 ∧ k = s then nI v else _) = ltr (upN H s w k)
            unfold upN
            by_cases e2 : k = s
            · rw [if_pos ⟨rfl, e2⟩, if_pos e2]; exact e
            · rw [if_neg (fun z => e2 z.2), if_neg e2]; exact (c3 k hk).1
          · rw [rI_ne (by omega), rI_ne (by omega), rI_ne (by omega)]; exact (c3 k hk).2
        · rw [rI_ne (by omega), rI, if_pos ⟨rfl, rfl⟩]
      by_cases e2 : a = 99
      · subst e2
        obtain ⟨τ, t1, t2⟩ := key 99 1 rfl
        rw [if_pos rfl, if_pos (show nI 99 = 99 from rfl), t1, ob, rz1]
        refine ⟨fun z => absurd z (by simp), fun Q' z => ?_⟩
        cases z
        exact ⟨τ, rfl, t2⟩
      · by_cases e3 : a = 103
        · subst e3
          obtain ⟨τ, t1, t2⟩ := key 103 2 rfl
          rw [if_neg e2, if_pos rfl, if_neg (show ¬ nI 103 = 99 by decide), if_pos (show nI 103 = 103 from rfl), t1, ob, rz1]
          refine ⟨fun z => absurd z (by simp), fun Q' z => ?_⟩
          cases z
          exact ⟨τ, rfl, t2⟩
        · rw [if_neg e2, if_neg e3, if_neg (show ¬ nI a = 99 from fun z => e2 ((nIl (b := 99) (by omega) (by decide)).mp z)), if_neg (show ¬ nI a = 103 from fun z => e3 ((nIl (b := 103) (by omega) (by decide)).mp z)), rz0, ob, rz0]
          exact ⟨fun _ => rfl, fun Q' z => by cases z⟩
    · have hneg : ∀ v : Int32, v < 0 → ¬ nI (q - 2) = v := fun v hv z => nI_pos (show q - 2 < 2 ^ 31 by omega) (by rw [z]; exact hv)
      have hcq : ∀ v, v ≤ 3 → (nI (q - 2) < nI v ↔ q - 2 < v) := fun v hv => ⟨fun z => by
        rcases Nat.lt_or_ge (q - 2) v with w | w
        · exact w
        · exact absurd z (nI_nlt w (by omega)), fun z => nI_lt z (by omega)⟩
      rw [if_neg e0, if_neg e0, if_neg e1, if_neg e1, if_neg (hneg (-2) (by decide)), if_neg (hneg (-1) (by decide))]
      by_cases e2 : a = 59
      · subst e2
        rw [if_pos rfl, if_pos (show nI 59 = 59 from rfl), ck_12 h, ob]
        unfold f_X3_readsBetween X3_readsBetween_b17
        rw [gI_3_12_2 h, ob, c1]
        unfold cq
        rw [if_neg e0, if_neg e1]
        by_cases e3 : 3 ≤ q
        · rw [if_neg (show ¬ nI (q - 2) < 1 from fun z => by have := (hcq 1 (by decide)).mp z; omega), gIr_2 h hy, ob, c4]
          by_cases e4 : c < 10
          · rw [if_pos ⟨e3, e4⟩, if_pos (show nI c < 10 from nI_lt (b := 10) e4 (by decide)), pI_3_12_2 h, ob, rz1, ob, rz1]
            refine ⟨fun z => absurd z (by simp), fun Q' z => ?_⟩
            cases z
            refine ⟨_, rfl, FT.rf.w12 (Or.inl rfl), ?_, ?_, fun k hk => ?_, ?_⟩
            · rw [rI, if_pos ⟨rfl, rfl⟩]; rfl
            · rw [rI, if_neg (by decide)]; exact c2
            · rw [rI_ne (by omega), rI_ne (by omega)]; exact c3 k hk
            · rw [rI_ne (by omega)]; exact c4
          · rw [if_neg (fun z => e4 z.2), if_neg (show ¬ nI c < 10 from nI_nlt (b := 10) (by omega) (by omega)), rz0, ob, rz0]
            exact ⟨fun _ => rfl, fun Q' z => by cases z⟩
        · rw [if_neg (fun z => e3 z.1), if_pos (show nI (q - 2) < 1 from (hcq 1 (by decide)).mpr (by omega)), rz0, ob, rz0]
          exact ⟨fun _ => rfl, fun Q' z => by cases z⟩
      · rw [if_neg e2, if_neg (show ¬ nI a = 59 from fun z => e2 ((nIl (b := 59) (by omega) (by decide)).mp z)), ck_12 h, ob]
        unfold f_X3_readsDigit X3_readsDigit_b15
        rw [isD ha, ob]
        by_cases e3 : 48 ≤ a ∧ a ≤ 57
        · rw [if_pos e3, if_neg z10, gI_3_12_2 h, ob, c1]
          unfold cq
          rw [if_neg e0, if_neg e1]
          by_cases e4 : q < 5
          · have hv : nI (Y s) * 10 + nI a - 48 = nI (10 * Y s + (a - 48)) := by
              rw [show (10 : Int32) = nI 10 from rfl, pk_mul, nI_add, show (48 : Int32) = nI 48 from rfl, nsub (by omega)]
              congr 1
              omega
            have h1 : Hp (sI σ (y + 2) s (nI (10 * Y s + (a - 48)))) := h
            rw [if_pos ⟨e3, e4⟩, if_pos (show nI (q - 2) < 3 from (hcq 3 (by decide)).mpr (by omega)), gRr_1 h hy, ob, gI_3_12_3 h, ob, c2, ob, ob, aIr_2 h hy i2, ob, (c3 s i2).2, hv, xIr_2 h hy i2, ob, gI_3_12_2 h1, ob, rI_ne (by omega), c1]
            unfold cq
            rw [if_neg e0, if_neg e1, nI_1, pI_3_12_2 h1, ob, rz1, ob, rz1]
            refine ⟨fun z => absurd z (by simp), fun Q' z => ?_⟩
            cases z
            refine ⟨_, rfl, (FT.rf.wy hy ⟨by omega, by omega⟩).w12 (Or.inl rfl), ?_, ?_, fun k hk => ?_, ?_⟩
            · rw [rI, if_pos ⟨rfl, rfl⟩]
              show _ = cq (q + 1)
              unfold cq
              rw [if_neg (by omega), if_neg (by omega), show q - 2 + 1 = q + 1 - 2 by omega]
            · rw [rI, if_neg (by decide), rI_ne (by omega)]; exact c2
            · refine ⟨?_, ?_⟩
              · rw [rI_ne (by omega), rI_ne (by omega)]; exact (c3 k hk).1
              · rw [rI_ne (by omega), rI]
                show (if y + 2 = y + 2 ∧ k = s then nI (10 * Y s + (a - 48)) else _) = nI (upN Y s (10 * Y s + (a - 48)) k)
                unfold upN
                by_cases e5 : k = s
                · rw [if_pos ⟨rfl, e5⟩, if_pos e5]
                · rw [if_neg (fun z => e5 z.2), if_neg e5]; exact (c3 k hk).2
            · rw [rI_ne (by omega), rI_ne (by omega)]; exact c4
          · rw [if_neg (fun z => e4 z.2), if_neg (show ¬ nI (q - 2) < 3 from fun z => by have := (hcq 3 (by decide)).mp z; omega), rz0, ob, rz0]
            exact ⟨fun _ => rfl, fun Q' z => by cases z⟩
        · rw [if_neg e3, if_pos rfl, if_neg (fun z => e3 z.1), rz0, ob, rz0]
          exact ⟨fun _ => rfl, fun Q' z => by cases z⟩
theorem tc_run {y : Nat} (hy : Ru y) {t : Nat → Nat} {m : Nat} (hm : m ≤ 40) (ht : ∀ i, i < m → t i ≤ 126) : ∀ (k i n : Nat) (σ : Sg) (Q : Tq), i + k = m → k < n → Hp σ → TI Q → CT y σ Q → σ.2.1 12 1 = nI m → (∀ j, j < m → σ.2.1 13 j = nI (t j)) →
    ∃ τ, X3_readInto_run n 12 y (nI i) σ = some ((trd t m k i Q).1, τ) ∧ FT y σ τ ∧ CT y τ (trd t m k i Q).2 := by
  intro k
  induction k with
  | zero =>
    intro i n σ Q hi hn h hT hC s1 s2
    obtain ⟨n, rfl⟩ : ∃ q, n = q + 1 := ⟨n - 1, by omega⟩
    have hq := hT.1
    show ∃ τ, X3_readInto_b17 n (X3_readInto_run n) 12 y (nI i) σ = _ ∧ _
    unfold X3_readInto_b17 trd
    rw [gI_3_12_1 h, ob, s1, if_pos (nI_le (by omega) (by omega)), gI_3_12_2 h, ob, hC.1]
    unfold cq
    refine ⟨σ, ?_, FT.rf, hC⟩
    by_cases e0 : Q.1 = 0
    · rw [if_pos e0, if_neg (show ¬ (1 : Int32) ≤ -2 by decide), if_neg (by omega), ob]
    · rw [if_neg e0]
      by_cases e1 : Q.1 = 1
      · rw [if_pos e1, if_neg (show ¬ (1 : Int32) ≤ -1 by decide), if_neg (by omega), ob]
      · rw [if_neg e1]
        by_cases e2 : 3 ≤ Q.1
        · rw [if_pos (show (1 : Int32) ≤ nI (Q.1 - 2) from nI_le (a := 1) (by omega) (by omega)), if_pos e2]
        · rw [if_neg (show ¬ (1 : Int32) ≤ nI (Q.1 - 2) from nI_ge (b := 1) (by omega) (by decide)), if_neg e2, ob]
  | succ k ih =>
    intro i n σ Q hi hn h hT hC s1 s2
    obtain ⟨n, rfl⟩ : ∃ q, n = q + 1 := ⟨n - 1, by omega⟩
    obtain ⟨st0, st1⟩ := tc_step (n := n) (a := t i) hy h hT hC (ht i (by omega))
    show ∃ τ, X3_readInto_b17 n (X3_readInto_run n) 12 y (nI i) σ = _ ∧ _
    unfold X3_readInto_b17
    rw [gI_3_12_1 h, ob, s1, if_neg (nI_ge (by omega) (by omega)), gR_3_12_0 h, ob, aI_13 h (by omega), ob, s2 i (by omega), ck_12 h, ob]
    cases e : tst Q (t i) with
    | none =>
      rw [st0 e, ob, if_pos rfl]
      refine ⟨σ, ?_, FT.rf, ?_⟩
      · unfold trd; rw [e]
      · unfold trd; rw [e]; exact hC
    | some Q' =>
      obtain ⟨τ, t1, t2, t3⟩ := st1 Q' e
      rw [t1, ob, if_neg z10, nI_1, ob]
      obtain ⟨ρ, r1, r2, r3⟩ := ih (i + 1) n τ Q' (by omega) (by omega) (t2.hp h) (TI_st hT e) t3 (by rw [t2.2.2.2.2 1 (by decide) (by decide)]; exact s1) (fun j hj => by rw [t2.2.2.2.1 13 (by decide) (by omega)]; exact s2 j hj)
      refine ⟨ρ, ?_, t2.tr r2, ?_⟩
      · unfold trd; rw [e]; exact r1
      · unfold trd; rw [e]; exact r3
section
variable {W : Wd}
theorem tc_read (hW : Ok W) {n : Nat} (hn : 100 ≤ n) {σ : Sg} (h : Hp σ) (hI : InvC σ W) :
    ∃ τ, f_X3_readInto n 12 (sp σ) σ = some ((trd W.2.2.2.1 W.2.2.1 W.2.2.1 0 Q0).1, τ) ∧ FT (sp σ) σ τ ∧ CT (sp σ) τ (trd W.2.2.2.1 W.2.2.1 W.2.2.1 0 Q0).2 := by
  have hy := sp_Ru h
  obtain ⟨τ, t1, t2, t3, t4, t5, t6, t7⟩ := pc_clear (n := n) hy h hn
  have h1 : Hp τ := Hp_eq t2 t3 h
  have h2 : Hp (sI τ 12 2 (-2)) := h1
  have f1 : FT (sp σ) σ τ := ⟨t2, t3, t4, fun k a b => t5 k b, fun j a b => by rw [t5 12 (by omega)]⟩
  have f2 : FT (sp σ) σ (sI (sI τ 12 2 (-2)) 12 3 0) := (f1.w12 (Or.inl rfl)).w12 (Or.inr rfl)
  obtain ⟨ρ, r1, r2, r3⟩ := tc_run hy hW.2.2.1.1 (fun i hi => (hW.2.2.1.2 i hi).2) W.2.2.1 0 n _ Q0 (by omega) (by have := hW.2.2.1.1; omega) (f2.hp h) TI_0 ⟨by rw [rI, if_neg (by decide), rI, if_pos ⟨rfl, rfl⟩]; rfl, by rw [rI, if_pos ⟨rfl, rfl⟩]; rfl, fun k hk => by rw [rI_ne (by omega), rI_ne (by omega), rI_ne (by omega), rI_ne (by omega), (t6 k hk).1, (t6 k hk).2]; exact ⟨rfl, rfl⟩, by rw [rI_ne (by omega), rI_ne (by omega), t7]; rfl⟩ (by rw [f2.2.2.2.2 1 (by decide) (by decide)]; exact hI.2.2.2.1.1) (fun j hj => by rw [f2.2.2.2.1 13 (by decide) (by omega)]; exact hI.2.2.2.1.2 j hj)
  have r1' : X3_readInto_run n 12 (sp σ) 0 (sI (sI τ 12 2 (-2)) 12 3 0) = _ := r1
  refine ⟨ρ, ?_, f2.tr r2, r3⟩
  unfold f_X3_readInto X3_readInto_b0
  rw [ckr h hy, ob, t1, ob, pI_3_12_2 h1, ob, pI_3_12_3 h2, ob, r1']
end
