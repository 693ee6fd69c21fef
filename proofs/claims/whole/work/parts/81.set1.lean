theorem CZ_no {α : Type} {f : Sg → Option (α × Sg)} {W : Wd} {r : α} (h : ∀ σ, Hp σ → InvC σ W → f σ = some (r, σ)) : CZ f W W r := fun σ hp hI => ⟨σ, h σ hp hI, hp, hI, fun _ _ => rfl⟩
theorem MZ_no {α : Type} {f : Sg → Option (α × Sg)} {W : Wd} {r : α} (h : ∀ σ, Hp σ → InvM σ W → f σ = some (r, σ)) : MZ f W W r := fun σ hp hI => ⟨σ, h σ hp hI, hp, hI, fun _ _ => rfl, rfl, rfl⟩
def upN (f : Nat → Nat) (k v : Nat) : Nat → Nat := fun j => if j = k then v else f j
def uFin (S : Se) (k v : Nat) : Se := (S.1, S.2.1, (S.2.2.1.1, S.2.2.1.2.1, upN S.2.2.1.2.2 k v), S.2.2.2)
def uSet (S : Se) (k v : Nat) : Se := (S.1, upN S.2.1 k v, S.2.2)
def uRide (S : Se) (k v : Nat) : Se := ((S.1.1, upN S.1.2.1 k v, S.1.2.2), S.2)
def uGap (S : Se) (k v : Nat) : Se := ((S.1.1, S.1.2.1, upN S.1.2.2.1 k v, S.1.2.2.2), S.2)
def uTrip (S : Se) (k v : Nat) : Se := ((S.1.1, S.1.2.1, S.1.2.2.1, upN S.1.2.2.2 k v), S.2)
def uBus (S : Se) (g v : Nat) : Se := ((S.1.1 + 1, S.1.2), S.2.1, (upN S.2.2.1.1 S.1.1 g, upN S.2.2.1.2.1 S.1.1 v, upN S.2.2.1.2.2 S.1.1 9), S.2.2.2)
theorem forget {n : Nat} {σ : Sg} (h : Hp σ) : f_X4_forgetCourse n 0 σ = some (sI (sI σ 0 6 0) 0 7 0) := by
  unfold f_X4_forgetCourse
  have h1 : Hp (sI σ 0 6 0) := h
  rw [pI_4_0_6 h, ob, pI_4_0_7 h1, ob]
section
variable {W : Wd}
-- told
theorem z_told (hW : Ok W) (n : Nat) (i : Int32) : Pz (f_X4_told n 0 i) (f_X5_told n 44 i) W := by
  have hn2 : ¬ Rg i 4 8 → i ≠ 0 → i ≠ 1 → i ≠ 2 → i ≠ 3 → Pz (f_X4_told n 0 i) (f_X5_told n 44 i) W := by
    intro hr e0 e1 e2 e3
    refine ⟨W, (-2), hW, CZ_no (fun σ h hI => ?_), MZ_no (fun σ h hI => ?_)⟩
    · unfold f_X4_told X4_told_b89
      rw [ob, if_neg e0, if_neg e1, if_neg e2, if_neg e3]
      rcases nRg (lo := 4) (by decide) (by decide) hr with z | z
      · rw [if_pos (show i < 4 from z)]
      · by_cases y : i < 4
        · rw [if_pos y]
        · rw [if_neg y, if_pos (show 9 ≤ i from z)]
    · unfold f_X5_told
      rw [if_neg e0, if_neg e1, if_neg e2, if_neg e3, im_4_8 hr, ob, if_pos rfl]
  by_cases e0 : i = 0
  · subst e0
    refine ⟨W, nI (eB W.1), hW, CZ_no (fun σ h hI => ?_), MZ_no (fun σ h hI => ?_)⟩
    · unfold f_X4_told
      rw [ob, if_pos rfl, gR_4_0_0 h, ob, gI_1_1_7 h, ob, hI.1.1]
    · unfold f_X5_told
      rw [if_pos rfl, gI_5_44_3 h, ob, hI.1.1]
  by_cases e1 : i = 1
  · subst e1
    refine ⟨W, nI W.2.1.1, hW, CZ_no (fun σ h hI => ?_), MZ_no (fun σ h hI => ?_)⟩
    · unfold f_X4_told
      rw [ob, if_neg e0, if_pos rfl, gR_4_0_0 h, ob, gI_1_1_11 h, ob, hI.2.2.1.1]
    · unfold f_X5_told
      rw [if_neg e0, if_pos rfl, gI_5_44_8 h, ob, hI.2.2.1.1]
  by_cases e2 : i = 2
  · subst e2
    refine ⟨W, nI W.2.2.1, hW, CZ_no (fun σ h hI => ?_), MZ_no (fun σ h hI => ?_)⟩
    · unfold f_X4_told
      rw [ob, if_neg e0, if_neg e1, if_pos rfl, gR_4_0_1 h, ob, gI_3_12_1 h, ob, hI.2.2.2.1.1]
    · unfold f_X5_told
      rw [if_neg e0, if_neg e1, if_pos rfl, gI_5_44_12 h, ob, hI.2.2.2.1.1]
  by_cases e3 : i = 3
  · subst e3
    refine ⟨W, nI W.2.2.2.2, hW, CZ_no (fun σ h hI => ?_), MZ_no (fun σ h hI => ?_)⟩
    · unfold f_X4_told
      rw [ob, if_neg e0, if_neg e1, if_neg e2, if_pos rfl, gR_4_0_4 h, ob, gIr_2 h (rp_Ru h), ob, hI.2.2.2.2.1]
    · unfold f_X5_told
      rw [if_neg e0, if_neg e1, if_neg e2, if_pos rfl, gI_5_44_14 h, ob, hI.2.2.2.2]
  by_cases hr : Rg i 4 8
  · have hr2 := hr
    obtain ⟨a, a1, a2, rfl⟩ := hr
    have em : nI a - 4 = nI (a - 4) := nsub (b := 4) a1
    refine ⟨W, nI (eSet W.1 (a - 4)), hW, CZ_no (fun σ h hI => ?_), MZ_no (fun σ h hI => ?_)⟩
    · unfold f_X4_told
      rw [ob, if_neg e0, if_neg e1, if_neg e2, if_neg e3, if_neg (show ¬ nI a < 4 from nI_nlt (b := 4) a1 (by omega)), if_neg (show ¬ (9 : Int32) ≤ nI a from nI_ge (b := 9) (by omega) (by decide)), gR_4_0_0 h, ob, gR_1_1_3 h, ob, em, aI_5 h (by omega), ob, hI.1.2.2.2.2.1 (a - 4) (by omega)]
    · unfold f_X5_told
      rw [if_neg e0, if_neg e1, if_neg e2, if_neg e3, iy_4_8 hr2, ob, if_neg (show ¬ (1 : Int32) = 0 by decide), gR_5_44_7 h, ob, em, aI_51 h (by omega), ob, hI.1.2.2.2.2.1 (a - 4) (by omega)]
  · exact hn2 hr e0 e1 e2 e3
-- turn
theorem z_turn (hW : Ok W) (n : Nat) (i j : Int32) : Pz (f_X4_turn n 0 i j) (f_X5_turn n 44 i j) W := by
  have hB8 : eB W.1 ≤ 8 := hW.1.1
  by_cases hb : ∃ b, b < eB W.1 ∧ i = nI b
  · obtain ⟨b, b1, rfl⟩ := hb
    by_cases hr : Rg j 1 9
    · have hr2 := hr
      obtain ⟨v, v1, v2, rfl⟩ := hr
      refine ⟨(uFin W.1 b v, W.2), nI (eFin W.1 b), ⟨?_, hW.2.1, hW.2.2.1, hW.2.2.2.1, hW.2.2.2.2⟩, fun σ h hI => ?_, fun σ h hI => ?_⟩
      · obtain ⟨a1, a2, a3, a4, a5, a6, a7, a8, a9⟩ := hW.1
        refine ⟨a1, a2, a3, a4, a5, a6, fun c hc => ?_, a8, a9⟩
        obtain ⟨c1, c2, c3, c4, c5⟩ := a7 c hc
        refine ⟨c1, c2, c3, ?_⟩
        show 1 ≤ upN (eFin W.1) b v c ∧ upN (eFin W.1) b v c ≤ 9
        unfold upN
        split
        · exact ⟨v1, v2⟩
        · exact ⟨c4, c5⟩
      · have h1 : Hp (sI (sI σ 0 6 0) 0 7 0) := h
        have e8 : (sI (sI σ 0 6 0) 0 7 0).2.1 8 b = nI (eFin W.1 b) := by rw [rI_ne (by decide), rI_ne (by decide)]; exact (hI.1.2.2.2.2.2 b b1).2.2
        refine ⟨sI (sI (sI σ 0 6 0) 0 7 0) 8 b (nI v), ?_, h, ?_, fun k hk => by rw [rI_ne (by omega), rI_ne (by omega), rI_ne (by omega)]⟩
        · unfold f_X4_turn
          rw [gR_4_0_0 h, ob, ck_1 h, ob, hb_y h hI.1.1 hB8 b1, ob, if_neg (show ¬ (1 : Int32) = 0 by decide), if_neg (show ¬ nI v < 1 from nI_nlt (b := 1) v1 (by omega)), if_pos (show nI v ≤ 9 from nI_le (b := 9) v2 (by decide)), ck_0 h, ob, forget h, ob, gR_4_0_0 h1, ob, gR_1_1_6 h1, ob, aI_8 h1 (by omega), ob, e8, ob, gR_1_1_6 h1, ob, xI_8 h1 (by omega), ob]
        · have q : ∀ k, k ≠ 0 → k ≠ 8 → (sI (sI (sI σ 0 6 0) 0 7 0) 8 b (nI v)).2.1 k = σ.2.1 k := fun k k1 k2 => by rw [rI_ne k2, rI_ne k1, rI_ne k1]
          refine InvC_set hI h rfl (fun k k1 k2 => q k (by omega) (by omega)) (by rw [rI_ne (by decide), rI, if_neg (by decide), rI, if_pos ⟨rfl, rfl⟩]) (by rw [rI_ne (by decide), rI, if_pos ⟨rfl, rfl⟩]) rfl rfl rfl ?_ ?_
          · obtain ⟨a1, a2, a3, a4, a5, a6⟩ := hI.1
            unfold CLine
            rw [q 1 (by decide) (by decide), q 2 (by decide) (by decide), q 3 (by decide) (by decide), q 4 (by decide) (by decide), q 5 (by decide) (by decide), q 6 (by decide) (by decide), q 7 (by decide) (by decide)]
            refine ⟨a1, a2, a3, a4, a5, fun c hc => ⟨(a6 c hc).1, (a6 c hc).2.1, ?_⟩⟩
            rw [rI, rI_ne (by decide), rI_ne (by decide), (a6 c hc).2.2]
            show _ = nI (upN (eFin W.1) b v c)
            unfold upN
            by_cases e : c = b
            · rw [if_pos ⟨rfl, e⟩, if_pos e]
            · rw [if_neg (fun z => e z.2), if_neg e]
          · unfold CLate
            rw [q 1 (by decide) (by decide), q 9 (by decide) (by decide), q 10 (by decide) (by decide), q 11 (by decide) (by decide)]
            exact hI.2.2.1
      · refine ⟨sI σ 50 b (nI v), ?_, h, ?_, fun k hk => by rw [rI_ne (by omega)], rfl, rfl⟩
        · unfold f_X5_turn
          rw [ck_44 h, ob, ib_y h hI.1.1 hB8 b1, ob, if_neg (show ¬ (1 : Int32) = 0 by decide), iy_1_9 hr2, ob, if_neg (show ¬ (1 : Int32) = 0 by decide), gR_5_44_6 h, ob, aI_50 h (by omega), ob, (hI.1.2.2.2.2.2 b b1).2.2, ob, xI_50 h (by omega), ob]
        · have q : ∀ k, k ≠ 50 → (sI σ 50 b (nI v)).2.1 k = σ.2.1 k := fun k k2 => by rw [rI_ne k2]
          refine InvM_set hI (fun k k1 k2 => q k (by omega)) (by rw [q 44 (by decide)]) (by rw [q 44 (by decide)]) rfl rfl rfl ?_ ?_
          · obtain ⟨a1, a2, a3, a4, a5, a6⟩ := hI.1
            unfold MLine
            rw [q 44 (by decide), q 45 (by decide), q 46 (by decide), q 47 (by decide), q 48 (by decide), q 49 (by decide), q 51 (by decide)]
            refine ⟨a1, a2, a3, a4, a5, fun c hc => ⟨(a6 c hc).1, (a6 c hc).2.1, ?_⟩⟩
            rw [rI, (a6 c hc).2.2]
            show _ = nI (upN (eFin W.1) b v c)
            unfold upN
            by_cases e : c = b
            · rw [if_pos ⟨rfl, e⟩, if_pos e]
            · rw [if_neg (fun z => e z.2), if_neg e]
          · unfold MLt
            rw [q 44 (by decide), q 52 (by decide), q 53 (by decide), q 54 (by decide)]
            exact hI.2.2.1
    · refine ⟨W, (-2), hW, CZ_no (fun σ h hI => ?_), MZ_no (fun σ h hI => ?_)⟩
      · unfold f_X4_turn X4_turn_b24
        rw [gR_4_0_0 h, ob, ck_1 h, ob, hb_y h hI.1.1 hB8 b1, ob, if_neg (show ¬ (1 : Int32) = 0 by decide)]
        rcases nRg (lo := 1) (by decide) (by decide) hr with z | z
        · rw [if_pos (show j < 1 from z)]
        · rw [if_neg (show ¬ j ≤ 9 from i_nle (by decide) z), ite_self]
      · unfold f_X5_turn
        rw [ck_44 h, ob, ib_y h hI.1.1 hB8 b1, ob, if_neg (show ¬ (1 : Int32) = 0 by decide), im_1_9 hr, ob, if_pos rfl]
  · refine ⟨W, (-1), hW, CZ_no (fun σ h hI => ?_), MZ_no (fun σ h hI => ?_)⟩
    · unfold f_X4_turn
      rw [gR_4_0_0 h, ob, ck_1 h, ob, hb_n h hI.1.1 hB8 hb, ob, if_pos rfl]
    · unfold f_X5_turn
      rw [ck_44 h, ob, ib_n h hI.1.1 hB8 hb, ob, if_pos rfl]
end
