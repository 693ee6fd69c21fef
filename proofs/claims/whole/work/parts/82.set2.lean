theorem z10 : ¬ (1 : Int32) = 0 := by decide
theorem clr6 {σ : Sg} : (sI (sI σ 0 6 0) 0 7 0).2.1 0 6 = 0 := by rw [rI, if_neg (by decide), rI, if_pos ⟨rfl, rfl⟩]
theorem clr7 {σ : Sg} : (sI (sI σ 0 6 0) 0 7 0).2.1 0 7 = 0 := by rw [rI, if_pos ⟨rfl, rfl⟩]
theorem clrk {σ : Sg} {k : Nat} (h : k ≠ 0) : (sI (sI σ 0 6 0) 0 7 0).2.1 k = σ.2.1 k := by rw [rI_ne h, rI_ne h]
section
variable {W : Wd}
-- mend
theorem z_mend (hW : Ok W) (n : Nat) : Pz (f_X4_mend n 0) (f_X5_mend n 44) W := by
  have hl := hW.2.1.1
  by_cases e : W.2.1.1 = 0
  · refine ⟨W, (-5), hW, CZ_no (fun σ h hI => ?_), MZ_no (fun σ h hI => ?_)⟩
    · unfold f_X4_mend
      rw [gR_4_0_0 h, ob, gI_1_1_11 h, ob, hI.2.2.1.1, e, if_neg (show ¬ (1 : Int32) ≤ nI 0 by decide)]
    · unfold f_X5_mend
      rw [gI_5_44_8 h, ob, hI.2.2.1.1, e, if_pos (show nI 0 = 0 from rfl)]
  · refine ⟨(W.1, (W.2.1.1 - 1, W.2.1.2), W.2.2), nI (W.2.1.1 - 1), ⟨hW.1, ⟨by show W.2.1.1 - 1 ≤ 10; omega, fun i hi => hW.2.1.2 i (by have : i < W.2.1.1 - 1 := hi; omega)⟩, hW.2.2⟩, fun σ h hI => ?_, fun σ h hI => ?_⟩
    · have h1 : Hp (sI (sI σ 0 6 0) 0 7 0) := h
      have em : nI W.2.1.1 - 1 = nI (W.2.1.1 - 1) := nsub (b := 1) (by omega)
      have e11 : (sI (sI σ 0 6 0) 0 7 0).2.1 1 11 = nI W.2.1.1 := by rw [clrk (by decide)]; exact hI.2.2.1.1
      refine ⟨sI (sI (sI σ 0 6 0) 0 7 0) 1 11 (nI (W.2.1.1 - 1)), ?_, h, ?_, fun k hk => by rw [rI_ne (by omega), clrk (by omega)]⟩
      · unfold f_X4_mend
        have h2 : Hp (sI (sI (sI σ 0 6 0) 0 7 0) 1 11 (nI (W.2.1.1 - 1))) := h
        rw [gR_4_0_0 h, ob, gI_1_1_11 h, ob, hI.2.2.1.1, if_pos (show (1 : Int32) ≤ nI W.2.1.1 from nI_le (a := 1) (by omega) (by omega)), ck_0 h, ob, forget h, ob, gR_4_0_0 h1, ob, gI_1_1_11 h1, ob, e11, em, pI_1_1_11 h1, ob, gR_4_0_0 h2, ob, gI_1_1_11 h2, ob, rI, if_pos ⟨rfl, rfl⟩]
      · have q : ∀ k, k ≠ 0 → k ≠ 1 → (sI (sI (sI σ 0 6 0) 0 7 0) 1 11 (nI (W.2.1.1 - 1))).2.1 k = σ.2.1 k := fun k k1 k2 => by rw [rI_ne k2, clrk k1]
        refine InvC_set hI h rfl (fun k k1 k2 => q k (by omega) (by omega)) (by rw [rI_ne (by decide), clr6]) (by rw [rI_ne (by decide), clr7]) rfl rfl rfl ?_ ?_
        · unfold CLine
          rw [q 2 (by decide) (by decide), q 3 (by decide) (by decide), q 4 (by decide) (by decide), q 5 (by decide) (by decide), q 6 (by decide) (by decide), q 7 (by decide) (by decide), q 8 (by decide) (by decide), rI, if_neg (by decide), clrk (by decide)]
          exact hI.1
        · unfold CLate
          rw [q 9 (by decide) (by decide), q 10 (by decide) (by decide), q 11 (by decide) (by decide), rI, if_pos ⟨rfl, rfl⟩]
          exact ⟨rfl, fun i hi => hI.2.2.1.2 i (by have : i < W.2.1.1 - 1 := hi; omega)⟩
    · have em : nI W.2.1.1 - 1 = nI (W.2.1.1 - 1) := nsub (b := 1) (by omega)
      refine ⟨sI σ 44 8 (nI (W.2.1.1 - 1)), ?_, h, ?_, fun k hk => by rw [rI_ne (by omega)], rfl, rfl⟩
      · unfold f_X5_mend
        have h2 : Hp (sI σ 44 8 (nI (W.2.1.1 - 1))) := h
        rw [gI_5_44_8 h, ob, hI.2.2.1.1, if_neg (fun z => e ((nI_0' (by omega)).mp z)), ob, em, pI_5_44_8 h, ob, gI_5_44_8 h2, ob, rI, if_pos ⟨rfl, rfl⟩]
      · have q : ∀ k, k ≠ 44 → (sI σ 44 8 (nI (W.2.1.1 - 1))).2.1 k = σ.2.1 k := fun k k2 => by rw [rI_ne k2]
        refine InvM_set hI (fun k k1 k2 => q k (by omega)) (by rw [rI, if_neg (by decide)]) (by rw [rI, if_neg (by decide)]) rfl rfl rfl ?_ ?_
        · unfold MLine
          rw [q 45 (by decide), q 46 (by decide), q 47 (by decide), q 48 (by decide), q 49 (by decide), q 50 (by decide), q 51 (by decide), rI, if_neg (by decide)]
          exact hI.1
        · unfold MLt
          rw [q 52 (by decide), q 53 (by decide), q 54 (by decide), rI, if_pos ⟨rfl, rfl⟩]
          exact ⟨rfl, fun i hi => hI.2.2.1.2 i (by have : i < W.2.1.1 - 1 := hi; omega)⟩
-- late
def uLate (W : Wd) (b s q : Nat) : Wd := (W.1, (W.2.1.1 + 1, upN W.2.1.2.1 W.2.1.1 b, upN W.2.1.2.2.1 W.2.1.1 s, upN W.2.1.2.2.2 W.2.1.1 q), W.2.2)
theorem Lo_up {b s q : Nat} (h : Lo W) (hb : b < 8) (hs : s < 9) (hq : q ≤ 900) : Lo (uLate W b s q) := by
  intro i hi
  have hi' : i < W.2.1.1 + 1 := hi
  show upN W.2.1.2.1 W.2.1.1 b i < 8 ∧ upN W.2.1.2.2.1 W.2.1.1 s i < 9 ∧ upN W.2.1.2.2.2 W.2.1.1 q i ≤ 900
  unfold upN
  by_cases e : i = W.2.1.1
  · rw [if_pos e, if_pos e, if_pos e]; exact ⟨hb, hs, hq⟩
  · rw [if_neg e, if_neg e, if_neg e]; exact h i (by omega)
theorem late_row {M A : Nat → Int32} {l b : Nat} {f : Nat → Nat} (h : ∀ i, i < l → A i = nI (f i)) (hM : M = upd A l (nI b)) : ∀ i, i < l + 1 → M i = nI (upN f l b i) := by
  intro i hi
  subst hM
  unfold upN
  by_cases e : i = l
  · rw [if_pos e, e]; exact pk_us
  · rw [if_neg e, pk_un e]; exact h i (by omega)
theorem z_late (hW : Ok W) (n : Nat) (i j k : Int32) : Pz (f_X4_late n 0 i j k) (f_X5_late n 44 i j k) W := by
  have hB8 : eB W.1 ≤ 8 := hW.1.1
  have hl := hW.2.1.1
  by_cases hb : ∃ b, b < eB W.1 ∧ i = nI b
  · obtain ⟨b, b1, rfl⟩ := hb
    by_cases hs : Rg j 0 8
    · by_cases hq : Rg k 1 900
      · by_cases e : W.2.1.1 = 10
        · refine ⟨W, (-4), hW, CZ_no (fun σ h hI => ?_), MZ_no (fun σ h hI => ?_)⟩
          · obtain ⟨v, v1, v2, rfl⟩ := hq
            unfold f_X4_late
            rw [gR_4_0_0 h, ob, ck_1 h, ob, hb_y h hI.1.1 hB8 b1, ob, if_neg z10, go_y hs, ob, if_neg z10, if_neg (show ¬ nI v < 1 from nI_nlt (b := 1) v1 (by omega)), if_pos (show nI v ≤ 900 from nI_le (b := 900) v2 (by decide)), gR_4_0_0 h, ob, gI_1_1_11 h, ob, hI.2.2.1.1, e, if_neg (show ¬ nI 10 < 10 by decide)]
          · unfold f_X5_late
            rw [ck_44 h, ob, ib_y h hI.1.1 hB8 b1, ob, if_neg z10, on_y hs, ob, if_neg z10, iy_1_900 hq, ob, if_neg z10, gI_5_44_8 h, ob, hI.2.2.1.1, e, if_pos (show nI 10 = 10 from rfl)]
        · have hq2 := hq
          have hs2 := hs
          obtain ⟨v, v1, v2, rfl⟩ := hq
          obtain ⟨s, s1, s2, rfl⟩ := hs
          have em : nI (W.2.1.1 + 1) - 1 = nI W.2.1.1 := nsub (b := 1) (by omega)
          refine ⟨uLate W b s v, nI W.2.1.1, ⟨hW.1, ⟨by show W.2.1.1 + 1 ≤ 10; omega, Lo_up hW.2.1.2 (by omega) (by omega) v2⟩, hW.2.2⟩, fun σ h hI => ?_, fun σ h hI => ?_⟩
          · have ec := clrk (σ := σ) (k := 1) (by decide)
            have e11 : (sI (sI σ 0 6 0) 0 7 0).2.1 1 11 = nI W.2.1.1 := by rw [ec]; exact hI.2.2.1.1
            have h0 : Hp (sI (sI σ 0 6 0) 0 7 0) := h
            have q0 : ∀ k, k ≠ 0 → (sI (sI σ 0 6 0) 0 7 0).2.1 k = σ.2.1 k := fun k hk => clrk hk
            have c6 := clr6 (σ := σ)
            have c7 := clr7 (σ := σ)
            have f0 := forget (n := n) h
            have r0 : (sI (sI σ 0 6 0) 0 7 0).2.2.2 = σ.2.2.2 := rfl
            generalize sI (sI σ 0 6 0) 0 7 0 = ρ at e11 h0 q0 c6 c7 f0 r0
            have h1 : Hp (sI ρ 9 W.2.1.1 (nI b)) := h0
            have h2 : Hp (sI (sI ρ 9 W.2.1.1 (nI b)) 10 W.2.1.1 (nI s)) := h0
            have h3 : Hp (sI (sI (sI ρ 9 W.2.1.1 (nI b)) 10 W.2.1.1 (nI s)) 11 W.2.1.1 (nI v)) := h0
            have h4 : Hp (sI (sI (sI (sI ρ 9 W.2.1.1 (nI b)) 10 W.2.1.1 (nI s)) 11 W.2.1.1 (nI v)) 1 11 (nI (W.2.1.1 + 1))) := h0
            have g1 : (sI ρ 9 W.2.1.1 (nI b)).2.1 1 11 = nI W.2.1.1 := by rw [rI_ne (by decide)]; exact e11
            have g2 : (sI (sI ρ 9 W.2.1.1 (nI b)) 10 W.2.1.1 (nI s)).2.1 1 11 = nI W.2.1.1 := by rw [rI_ne (by decide)]; exact g1
            have g3 : (sI (sI (sI ρ 9 W.2.1.1 (nI b)) 10 W.2.1.1 (nI s)) 11 W.2.1.1 (nI v)).2.1 1 11 = nI W.2.1.1 := by rw [rI_ne (by decide)]; exact g2
            have g4 : (sI (sI (sI (sI ρ 9 W.2.1.1 (nI b)) 10 W.2.1.1 (nI s)) 11 W.2.1.1 (nI v)) 1 11 (nI (W.2.1.1 + 1))).2.1 1 11 = nI (W.2.1.1 + 1) := by rw [rI, if_pos ⟨rfl, rfl⟩]
            have l10 : W.2.1.1 < 10 := by omega
            refine ⟨sI (sI (sI (sI ρ 9 W.2.1.1 (nI b)) 10 W.2.1.1 (nI s)) 11 W.2.1.1 (nI v)) 1 11 (nI (W.2.1.1 + 1)), ?_, h4, ?_, fun k hk => by rw [rI_ne (by omega), rI_ne (by omega), rI_ne (by omega), rI_ne (by omega), q0 k (by omega)]⟩
            · unfold f_X4_late
              rw [gR_4_0_0 h, ob, ck_1 h, ob, hb_y h hI.1.1 hB8 b1, ob, if_neg z10, go_y hs2, ob, if_neg z10, if_neg (show ¬ nI v < 1 from nI_nlt (b := 1) v1 (by omega)), if_pos (show nI v ≤ 900 from nI_le (b := 900) v2 (by decide)), gR_4_0_0 h, ob, gI_1_1_11 h, ob, hI.2.2.1.1, if_pos (show nI W.2.1.1 < 10 from nI_lt (b := 10) l10 (by decide)), ck_0 h, ob, f0, ob, gR_4_0_0 h0, ob, ck_1 h0, ob]
              unfold f_X1_addLateness
              simp only [ob, gR_1_1_8 h0, gI_1_1_11 h0, e11, xI_9 h0 l10, gR_1_1_9 h1, gI_1_1_11 h1, g1, xI_10 h1 l10, gR_1_1_10 h2, gI_1_1_11 h2, g2, xI_11 h2 l10, gI_1_1_11 h3, g3, nI_1, pI_1_1_11 h3, gI_1_1_11 h4, g4, em]
            · have q : ∀ k, k ≠ 0 → k ≠ 1 → k ≠ 9 → k ≠ 10 → k ≠ 11 → (sI (sI (sI (sI ρ 9 W.2.1.1 (nI b)) 10 W.2.1.1 (nI s)) 11 W.2.1.1 (nI v)) 1 11 (nI (W.2.1.1 + 1))).2.1 k = σ.2.1 k := fun k k1 k2 k3 k4 k5 => by rw [rI_ne k2, rI_ne k5, rI_ne k4, rI_ne k3, q0 k k1]
              refine InvC_set hI h r0 (fun k k1 k2 => q k (by omega) (by omega) (by omega) (by omega) (by omega)) (by rw [rI_ne (by decide), rI_ne (by decide), rI_ne (by decide), rI_ne (by decide)]; exact c6) (by rw [rI_ne (by decide), rI_ne (by decide), rI_ne (by decide), rI_ne (by decide)]; exact c7) rfl rfl rfl ?_ ?_
              · unfold CLine
                rw [q 2 (by decide) (by decide) (by decide) (by decide) (by decide), q 3 (by decide) (by decide) (by decide) (by decide) (by decide), q 4 (by decide) (by decide) (by decide) (by decide) (by decide), q 5 (by decide) (by decide) (by decide) (by decide) (by decide), q 6 (by decide) (by decide) (by decide) (by decide) (by decide), q 7 (by decide) (by decide) (by decide) (by decide) (by decide), q 8 (by decide) (by decide) (by decide) (by decide) (by decide), rI, if_neg (by decide), rI_ne (by decide), rI_ne (by decide), rI_ne (by decide), q0 1 (by decide)]
                exact hI.1
              · refine ⟨g4, fun i hi => ⟨?_, ?_, ?_⟩⟩
                · refine late_row (A := σ.2.1 9) (fun i hi => (hI.2.2.1.2 i hi).1) ?_ i hi
                  rw [rI_ne (by decide), rI_ne (by decide), rI_ne (by decide), rI_eq, q0 9 (by decide)]
                · refine late_row (A := σ.2.1 10) (fun i hi => (hI.2.2.1.2 i hi).2.1) ?_ i hi
                  rw [rI_ne (by decide), rI_ne (by decide), rI_eq, rI_ne (by decide), q0 10 (by decide)]
                · refine late_row (A := σ.2.1 11) (fun i hi => (hI.2.2.1.2 i hi).2.2) ?_ i hi
                  rw [rI_ne (by decide), rI_eq, rI_ne (by decide), rI_ne (by decide), q0 11 (by decide)]
          · have e8 := hI.2.2.1.1
            have l10 : W.2.1.1 < 11 := by omega
            have h1 : Hp (sI σ 52 W.2.1.1 (nI b)) := h
            have h2 : Hp (sI (sI σ 52 W.2.1.1 (nI b)) 53 W.2.1.1 (nI s)) := h
            have h3 : Hp (sI (sI (sI σ 52 W.2.1.1 (nI b)) 53 W.2.1.1 (nI s)) 54 W.2.1.1 (nI v)) := h
            have h4 : Hp (sI (sI (sI (sI σ 52 W.2.1.1 (nI b)) 53 W.2.1.1 (nI s)) 54 W.2.1.1 (nI v)) 44 8 (nI (W.2.1.1 + 1))) := h
            have g1 : (sI σ 52 W.2.1.1 (nI b)).2.1 44 8 = nI W.2.1.1 := by rw [rI_ne (by decide)]; exact e8
            have g2 : (sI (sI σ 52 W.2.1.1 (nI b)) 53 W.2.1.1 (nI s)).2.1 44 8 = nI W.2.1.1 := by rw [rI_ne (by decide)]; exact g1
            have g3 : (sI (sI (sI σ 52 W.2.1.1 (nI b)) 53 W.2.1.1 (nI s)) 54 W.2.1.1 (nI v)).2.1 44 8 = nI W.2.1.1 := by rw [rI_ne (by decide)]; exact g2
            have g4 : (sI (sI (sI (sI σ 52 W.2.1.1 (nI b)) 53 W.2.1.1 (nI s)) 54 W.2.1.1 (nI v)) 44 8 (nI (W.2.1.1 + 1))).2.1 44 8 = nI (W.2.1.1 + 1) := by rw [rI, if_pos ⟨rfl, rfl⟩]
            refine ⟨sI (sI (sI (sI σ 52 W.2.1.1 (nI b)) 53 W.2.1.1 (nI s)) 54 W.2.1.1 (nI v)) 44 8 (nI (W.2.1.1 + 1)), ?_, h, ?_, fun k hk => by rw [rI_ne (by omega), rI_ne (by omega), rI_ne (by omega), rI_ne (by omega)], rfl, rfl⟩
            · unfold f_X5_late
              rw [ck_44 h, ob, ib_y h hI.1.1 hB8 b1, ob, if_neg z10, on_y hs2, ob, if_neg z10, iy_1_900 hq2, ob, if_neg z10, gI_5_44_8 h, ob, e8, if_neg (show ¬ nI W.2.1.1 = 10 from fun z => e ((nI_eq (b := 10) (by omega) (by decide)).mp z))]
              simp only [ob, gR_5_44_9 h, xI_52 h l10, gR_5_44_10 h1, gI_5_44_8 h1, g1, xI_53 h1 l10, gR_5_44_11 h2, gI_5_44_8 h2, g2, xI_54 h2 l10, gI_5_44_8 h3, g3, nI_1, pI_5_44_8 h3, gI_5_44_8 h4, g4, em]
            · have q : ∀ k, k ≠ 44 → k ≠ 52 → k ≠ 53 → k ≠ 54 → (sI (sI (sI (sI σ 52 W.2.1.1 (nI b)) 53 W.2.1.1 (nI s)) 54 W.2.1.1 (nI v)) 44 8 (nI (W.2.1.1 + 1))).2.1 k = σ.2.1 k := fun k k1 k2 k3 k4 => by rw [rI_ne k1, rI_ne k4, rI_ne k3, rI_ne k2]
              have q44 : ∀ j, j ≠ 8 → (sI (sI (sI (sI σ 52 W.2.1.1 (nI b)) 53 W.2.1.1 (nI s)) 54 W.2.1.1 (nI v)) 44 8 (nI (W.2.1.1 + 1))).2.1 44 j = σ.2.1 44 j := fun j hj => by rw [rI, if_neg (fun z => hj z.2), rI_ne (by decide), rI_ne (by decide), rI_ne (by decide)]
              refine InvM_set hI (fun k k1 k2 => q k (by omega) (by omega) (by omega) (by omega)) (q44 12 (by decide)) (q44 14 (by decide)) rfl rfl rfl ?_ ?_
              · unfold MLine
                rw [q44 3 (by decide), q 45 (by decide) (by decide) (by decide) (by decide), q 46 (by decide) (by decide) (by decide) (by decide), q 47 (by decide) (by decide) (by decide) (by decide), q 48 (by decide) (by decide) (by decide) (by decide), q 49 (by decide) (by decide) (by decide) (by decide), q 50 (by decide) (by decide) (by decide) (by decide), q 51 (by decide) (by decide) (by decide) (by decide)]
                exact hI.1
              · refine ⟨g4, fun i hi => ⟨?_, ?_, ?_⟩⟩
                · refine late_row (A := σ.2.1 52) (fun i hi => (hI.2.2.1.2 i hi).1) ?_ i hi
                  rw [rI_ne (by decide), rI_ne (by decide), rI_ne (by decide), rI_eq]
                · refine late_row (A := σ.2.1 53) (fun i hi => (hI.2.2.1.2 i hi).2.1) ?_ i hi
                  rw [rI_ne (by decide), rI_ne (by decide), rI_eq, rI_ne (by decide)]
                · refine late_row (A := σ.2.1 54) (fun i hi => (hI.2.2.1.2 i hi).2.2) ?_ i hi
                  rw [rI_ne (by decide), rI_eq, rI_ne (by decide), rI_ne (by decide)]
      · refine ⟨W, (-2), hW, CZ_no (fun σ h hI => ?_), MZ_no (fun σ h hI => ?_)⟩
        · unfold f_X4_late X4_late_b32
          rw [gR_4_0_0 h, ob, ck_1 h, ob, hb_y h hI.1.1 hB8 b1, ob, if_neg z10, go_y hs, ob, if_neg z10]
          rcases nRg (lo := 1) (by decide) (by decide) hq with z | z
          · rw [if_pos (show k < 1 from z)]
          · rw [if_neg (show ¬ k ≤ 900 from i_nle (by decide) z), ite_self]
        · unfold f_X5_late
          rw [ck_44 h, ob, ib_y h hI.1.1 hB8 b1, ob, if_neg z10, on_y hs, ob, if_neg z10, im_1_900 hq, ob, if_pos rfl]
    · refine ⟨W, (-1), hW, CZ_no (fun σ h hI => ?_), MZ_no (fun σ h hI => ?_)⟩
      · unfold f_X4_late X4_late_b18
        rw [gR_4_0_0 h, ob, ck_1 h, ob, hb_y h hI.1.1 hB8 b1, ob, if_neg z10, go_n hs, ob, if_pos rfl]
      · unfold f_X5_late X5_late_b15
        rw [ck_44 h, ob, ib_y h hI.1.1 hB8 b1, ob, if_neg z10, on_n hs, ob, if_pos rfl]
  · refine ⟨W, (-1), hW, CZ_no (fun σ h hI => ?_), MZ_no (fun σ h hI => ?_)⟩
    · unfold f_X4_late X4_late_b18
      rw [gR_4_0_0 h, ob, ck_1 h, ob, hb_n h hI.1.1 hB8 hb, ob, if_pos rfl]
    · unfold f_X5_late X5_late_b15
      rw [ck_44 h, ob, ib_n h hI.1.1 hB8 hb, ob, if_pos rfl]
end
