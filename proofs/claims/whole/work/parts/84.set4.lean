section
variable {W : Wd}
-- stop
def Alw (i j : Int32) : Prop := (i = 0 ∧ Rg j 10 900) ∨ (i = 1 ∧ (j = 0 ∨ Rg j 10 900)) ∨ (i = 2 ∧ Rg j 1 9)
theorem alw_y {i j : Int32} {n : Nat} {σ : Sg} (h : Alw i j) : f_X1_allowsAtStop n i j σ = some (1, σ) := by
  unfold f_X1_allowsAtStop
  rw [ob]
  rcases h with ⟨rfl, a, a1, a2, rfl⟩ | ⟨rfl, rfl | ⟨a, a1, a2, rfl⟩⟩ | ⟨rfl, a, a1, a2, rfl⟩
  · rw [if_pos rfl, if_neg (show ¬ nI a < 10 from nI_nlt (b := 10) a1 (by omega)), if_neg (show ¬ 900 < nI a from nI_nlt (a := 900) a2 (by decide))]; rfl
  · rw [if_neg (by decide), if_pos rfl, if_pos rfl]; rfl
  · rw [if_neg (by decide), if_pos rfl, if_neg (show ¬ nI a = 0 from nI_ne0 (by omega) (by omega)), if_neg (show ¬ nI a < 10 from nI_nlt (b := 10) a1 (by omega)), if_neg (show ¬ 900 < nI a from nI_nlt (a := 900) a2 (by decide))]; rfl
  · rw [if_neg (by decide), if_neg (by decide), if_pos rfl, if_neg (show ¬ nI a < 1 from nI_nlt (b := 1) a1 (by omega)), if_neg (show ¬ 9 < nI a from nI_nlt (a := 9) a2 (by decide))]; rfl
theorem alw_n {i j : Int32} {n : Nat} {σ : Sg} (h : ¬ Alw i j) : f_X1_allowsAtStop n i j σ = some (0, σ) := by
  unfold f_X1_allowsAtStop X1_allowsAtStop_b45 X1_allowsAtStop_b64 X1_allowsAtStop_b68 X1_allowsAtStop_b85
  rw [ob]
  by_cases e0 : i = 0
  · rw [if_pos e0]
    rcases nRg (lo := 10) (by decide) (by decide) (fun z => h (Or.inl ⟨e0, z⟩)) with z | z
    · rw [if_pos (show j < 10 from z)]; rfl
    · rw [if_pos (show 900 < j from nI_le_lt (by decide) z), ite_self]; rfl
  rw [if_neg e0]
  by_cases e1 : i = 1
  · rw [if_pos e1, if_neg (fun z => h (Or.inr (Or.inl ⟨e1, Or.inl z⟩)))]
    rcases nRg (lo := 10) (by decide) (by decide) (fun z => h (Or.inr (Or.inl ⟨e1, Or.inr z⟩))) with z | z
    · rw [if_pos (show j < 10 from z)]; rfl
    · rw [if_pos (show 900 < j from nI_le_lt (by decide) z), ite_self]; rfl
  rw [if_neg e1]
  by_cases e2 : i = 2
  · rw [if_pos e2]
    rcases nRg (lo := 1) (by decide) (by decide) (fun z => h (Or.inr (Or.inr ⟨e2, z⟩))) with z | z
    · rw [if_pos (show j < 1 from z)]; rfl
    · rw [if_pos (show 9 < j from nI_le_lt (by decide) z), ite_self]; rfl
  rw [if_neg e2]; rfl
theorem alw_my {i j k : Int32} {n : Nat} {σ : Sg} (hk : Rg k 0 8) (h : Alw i j) : f_X5_stop n 44 k i j σ = X5_stop_b74 n 44 k i j 1 σ := by
  unfold f_X5_stop
  rw [on_y hk, ob, if_neg z10]
  rcases h with ⟨rfl, h⟩ | ⟨rfl, rfl | h⟩ | ⟨rfl, h⟩
  · rw [if_pos rfl, iy_10_900 h, ob]
  · rw [if_neg (by decide), if_pos rfl, if_pos rfl]; rfl
  · by_cases e : j = 0
    · rw [if_neg (by decide), if_pos rfl, if_pos e]; rfl
    · rw [if_neg (by decide), if_pos rfl, if_neg e, iy_10_900 h, ob, if_neg z10]; rfl
  · rw [if_neg (by decide), if_neg (by decide), if_pos rfl, iy_1_9 h, ob, if_neg z10]
theorem alw_mn {i j k : Int32} {n : Nat} {σ : Sg} (hk : Rg k 0 8) (h : ¬ Alw i j) : f_X5_stop n 44 k i j σ = some ((-2), σ) := by
  have e74 : X5_stop_b74 n 44 k i j 0 σ = some ((-2), σ) := by unfold X5_stop_b74; rw [if_pos rfl]
  unfold f_X5_stop X5_stop_b73
  rw [on_y hk, ob, if_neg z10]
  by_cases e0 : i = 0
  · rw [if_pos e0, im_10_900 (fun z => h (Or.inl ⟨e0, z⟩)), ob]; exact e74
  rw [if_neg e0]
  by_cases e1 : i = 1
  · rw [if_pos e1, if_neg (fun z => h (Or.inr (Or.inl ⟨e1, Or.inl z⟩))), im_10_900 (fun z => h (Or.inr (Or.inl ⟨e1, Or.inr z⟩))), ob, if_pos rfl]; exact e74
  rw [if_neg e1]
  by_cases e2 : i = 2
  · rw [if_pos e2, im_1_9 (fun z => h (Or.inr (Or.inr ⟨e2, z⟩))), ob, if_pos rfl]; exact e74
  rw [if_neg e2]; exact e74
/-- the class's change at a stop -/
theorem stop_c {k s v : Nat} {old : Nat} {S' : Se} {n : Nat} {i : Int32} (hk : k = 2 ∨ k = 3 ∨ k = 4) (hs : s < 9) (hal : Alw i (nI v)) (hch : ∀ σ, Hp σ → f_X1_changeStop n 1 (nI s) i (nI v) σ = some (σ.2.1 k s, sI σ k s (nI v)))
    (e1 : eHow S' = eHow W.1) (e2 : eBy S' = eBy W.1) (hold : ∀ σ, CLine σ W.1 → σ.2.1 k s = nI old) (hL : ∀ σ, CLine σ W.1 → CLine (sI σ k s (nI v)) S') : CZ (f_X4_stop n 0 (nI s) i (nI v)) W (S', W.2) (nI old) := by
  intro σ h hI
  have h1 : Hp (sI (sI σ 0 6 0) 0 7 0) := h
  have hL1 : CLine (sI (sI σ 0 6 0) 0 7 0) W.1 := by
    unfold CLine
    rw [clrk (by decide), clrk (by decide), clrk (by decide), clrk (by decide), clrk (by decide), clrk (by decide), clrk (by decide), clrk (by decide)]
    exact hI.1
  refine ⟨sI (sI (sI σ 0 6 0) 0 7 0) k s (nI v), ?_, h, ?_, fun q hq => by rw [rI_ne (by omega), clrk (by omega)]⟩
  · unfold f_X4_stop
    rw [go_y ⟨s, Nat.zero_le _, by omega, rfl⟩, ob, if_neg z10, alw_y hal, ob, if_neg z10, ck_0 h, ob, forget h, ob, gR_4_0_0 h1, ob, ck_1 h1, ob, hch _ h1, ob, hold _ hL1]
  · have q : ∀ q, q ≠ 0 → q ≠ k → (sI (sI (sI σ 0 6 0) 0 7 0) k s (nI v)).2.1 q = σ.2.1 q := fun q k1 k2 => by rw [rI_ne k2, clrk k1]
    refine InvC_set hI h rfl (fun q' k1 k2 => q q' (by omega) (by omega)) (by rw [rI_ne (by omega), clr6]) (by rw [rI_ne (by omega), clr7]) e1 e2 rfl (hL _ hL1) ?_
    unfold CLate
    rw [q 1 (by decide) (by omega), q 9 (by decide) (by omega), q 10 (by decide) (by omega), q 11 (by decide) (by omega)]
    exact hI.2.2.1
theorem stop_m {k s v : Nat} {old : Nat} {S' : Se} {n : Nat} {i : Int32} (hk : k = 45 ∨ k = 46 ∨ k = 47) (hs : s < 9) (hal : Alw i (nI v)) (hch : ∀ σ, Hp σ → X5_stop_b74 n 44 (nI s) i (nI v) 1 σ = some (σ.2.1 k s, sI σ k s (nI v)))
    (e1 : eHow S' = eHow W.1) (e2 : eBy S' = eBy W.1) (hold : ∀ σ, MLine σ W.1 → σ.2.1 k s = nI old) (hL : ∀ σ, MLine σ W.1 → MLine (sI σ k s (nI v)) S') : MZ (f_X5_stop n 44 (nI s) i (nI v)) W (S', W.2) (nI old) := by
  intro σ h hI
  refine ⟨sI σ k s (nI v), ?_, h, ?_, fun q hq => by rw [rI_ne (by omega)], rfl, rfl⟩
  · rw [alw_my ⟨s, Nat.zero_le _, by omega, rfl⟩ hal, hch _ h, hold _ hI.1]
  · have q : ∀ q, q ≠ k → (sI σ k s (nI v)).2.1 q = σ.2.1 q := fun q k2 => by rw [rI_ne k2]
    refine InvM_set hI (fun q' k1 k2 => q q' (by omega)) (by rw [q 44 (by omega)]) (by rw [q 44 (by omega)]) e1 e2 rfl (hL _ hI.1) ?_
    unfold MLt
    rw [q 44 (by omega), q 52 (by omega), q 53 (by omega), q 54 (by omega)]
    exact hI.2.2.1
theorem z_stop (hW : Ok W) (n : Nat) (i j k : Int32) : Pz (f_X4_stop n 0 i j k) (f_X5_stop n 44 i j k) W := by
  by_cases hi : Rg i 0 8
  · by_cases ha : Alw j k
    · have ha2 := ha
      obtain ⟨s, s1, s2, rfl⟩ := hi
      obtain ⟨o1, o2, o3, o4, o5, o6⟩ := hW.1
      have hs9 : s < 9 := by omega
      rcases ha with ⟨rfl, v, v1, v2, rfl⟩ | ⟨rfl, hv⟩ | ⟨rfl, v, v1, v2, rfl⟩
      · refine ⟨(uRide W.1 s v, W.2), nI (eRide W.1 s), Ok_set hW ⟨o1, fun q hq => ?_, o3, o4, o5, o6⟩ rfl rfl, stop_c (k := 2) (Or.inl rfl) (by omega) ha2 (fun σ h => ?_) rfl rfl (fun σ hL => hL.2.1 s (by omega)) (fun σ hL => ?_), stop_m (k := 45) (Or.inl rfl) (by omega) ha2 (fun σ h => ?_) rfl rfl (fun σ hL => hL.2.1 s (by omega)) (fun σ hL => ?_)⟩
        · show 10 ≤ upN (eRide W.1) s v q ∧ upN (eRide W.1) s v q ≤ 900
          unfold upN
          split
          · exact ⟨v1, v2⟩
          · exact o2 q hq
        · unfold f_X1_changeStop X1_changeStop_b27
          rw [if_pos rfl, gR_1_1_0 h, ob, aI_2 h (by omega), ob, xI_2 h (by omega), ob]
        · obtain ⟨a1, a2, a3, a4, a5, a6⟩ := hL
          unfold CLine
          rw [rI_eq, rI_ne (q := 1) (by decide), rI_ne (q := 3) (by decide), rI_ne (q := 4) (by decide), rI_ne (q := 5) (by decide), rI_ne (q := 6) (by decide), rI_ne (q := 7) (by decide), rI_ne (q := 8) (by decide)]
          exact ⟨a1, row_up a2, a3, a4, a5, a6⟩
        · unfold X5_stop_b74 X5_stop_b117 X5_stop_b155
          rw [if_neg z10, if_pos rfl, gR_5_44_0 h, ob, aI_45 h hs9, ob, if_pos rfl, ob, xI_45 h hs9, ob]
        · obtain ⟨a1, a2, a3, a4, a5, a6⟩ := hL
          unfold MLine
          rw [rI_eq, rI_ne (q := 44) (by decide), rI_ne (q := 46) (by decide), rI_ne (q := 47) (by decide), rI_ne (q := 51) (by decide), rI_ne (q := 48) (by decide), rI_ne (q := 49) (by decide), rI_ne (q := 50) (by decide)]
          exact ⟨a1, row_up a2, a3, a4, a5, a6⟩
      · obtain ⟨v, v2, rfl⟩ : ∃ v, v ≤ 900 ∧ k = nI v := by
          rcases hv with rfl | ⟨v, v1, v2, rfl⟩
          · exact ⟨0, by decide, rfl⟩
          · exact ⟨v, v2, rfl⟩
        refine ⟨(uGap W.1 s v, W.2), nI (eGap W.1 s), Ok_set hW ⟨o1, o2, fun q => ?_, ?_, o5, o6⟩ rfl rfl, stop_c (k := 3) (Or.inr (Or.inl rfl)) (by omega) ha2 (fun σ h => ?_) rfl rfl (fun σ hL => hL.2.2.1 s (by omega)) (fun σ hL => ?_), stop_m (k := 46) (Or.inr (Or.inl rfl)) (by omega) ha2 (fun σ h => ?_) rfl rfl (fun σ hL => hL.2.2.1 s (by omega)) (fun σ hL => ?_)⟩
        · show upN (eGap W.1) s v q ≤ 900
          unfold upN
          split
          · exact v2
          · exact o3 q
        · show upN (eGap W.1) s v 9 = 0
          unfold upN
          rw [if_neg (by omega)]
          exact o4
        · unfold f_X1_changeStop X1_changeStop_b27
          rw [if_neg (by decide), if_pos rfl, gR_1_1_1 h, ob, aI_3 h (by omega), ob, xI_3 h (by omega), ob]
        · obtain ⟨a1, a2, a3, a4, a5, a6⟩ := hL
          unfold CLine
          rw [rI_eq, rI_ne (q := 1) (by decide), rI_ne (q := 2) (by decide), rI_ne (q := 4) (by decide), rI_ne (q := 5) (by decide), rI_ne (q := 6) (by decide), rI_ne (q := 7) (by decide), rI_ne (q := 8) (by decide)]
          exact ⟨a1, a2, row_up a3, a4, a5, a6⟩
        · unfold X5_stop_b74 X5_stop_b117 X5_stop_b155
          rw [if_neg z10, if_neg (by decide), if_pos rfl, gR_5_44_1 h, ob, aI_46 h hs9, ob, if_neg (by decide), if_pos rfl, ob, xI_46 h hs9, ob]
        · obtain ⟨a1, a2, a3, a4, a5, a6⟩ := hL
          unfold MLine
          rw [rI_eq, rI_ne (q := 44) (by decide), rI_ne (q := 45) (by decide), rI_ne (q := 47) (by decide), rI_ne (q := 51) (by decide), rI_ne (q := 48) (by decide), rI_ne (q := 49) (by decide), rI_ne (q := 50) (by decide)]
          exact ⟨a1, a2, row_up a3, a4, a5, a6⟩
      · refine ⟨(uTrip W.1 s v, W.2), nI (eTrip W.1 s), Ok_set hW ⟨o1, o2, o3, o4, fun q hq => ?_, o6⟩ rfl rfl, stop_c (k := 4) (Or.inr (Or.inr rfl)) (by omega) ha2 (fun σ h => ?_) rfl rfl (fun σ hL => hL.2.2.2.1 s (by omega)) (fun σ hL => ?_), stop_m (k := 47) (Or.inr (Or.inr rfl)) (by omega) ha2 (fun σ h => ?_) rfl rfl (fun σ hL => hL.2.2.2.1 s (by omega)) (fun σ hL => ?_)⟩
        · show 1 ≤ upN (eTrip W.1) s v q ∧ upN (eTrip W.1) s v q ≤ 9
          unfold upN
          split
          · exact ⟨v1, v2⟩
          · exact o5 q hq
        · unfold f_X1_changeStop X1_changeStop_b27
          rw [if_neg (by decide), if_neg (by decide), gR_1_1_2 h, ob, aI_4 h (by omega), ob, xI_4 h (by omega), ob]
        · obtain ⟨a1, a2, a3, a4, a5, a6⟩ := hL
          unfold CLine
          rw [rI_eq, rI_ne (q := 1) (by decide), rI_ne (q := 2) (by decide), rI_ne (q := 3) (by decide), rI_ne (q := 5) (by decide), rI_ne (q := 6) (by decide), rI_ne (q := 7) (by decide), rI_ne (q := 8) (by decide)]
          exact ⟨a1, a2, a3, row_up a4, a5, a6⟩
        · unfold X5_stop_b74 X5_stop_b117 X5_stop_b155
          rw [if_neg z10, if_neg (by decide), if_neg (by decide), gR_5_44_2 h, ob, aI_47 h hs9, ob, if_neg (by decide), if_neg (by decide), ob, xI_47 h hs9, ob]
        · obtain ⟨a1, a2, a3, a4, a5, a6⟩ := hL
          unfold MLine
          rw [rI_eq, rI_ne (q := 44) (by decide), rI_ne (q := 45) (by decide), rI_ne (q := 46) (by decide), rI_ne (q := 51) (by decide), rI_ne (q := 48) (by decide), rI_ne (q := 49) (by decide), rI_ne (q := 50) (by decide)]
          exact ⟨a1, a2, a3, row_up a4, a5, a6⟩
    · refine ⟨W, (-2), hW, CZ_no (fun σ h hI => ?_), MZ_no (fun σ h hI => alw_mn hi ha)⟩
      unfold f_X4_stop
      rw [go_y hi, ob, if_neg z10, alw_n ha, ob, if_pos rfl]
  · refine ⟨W, (-1), hW, CZ_no (fun σ h hI => ?_), MZ_no (fun σ h hI => ?_)⟩
    · unfold f_X4_stop
      rw [go_n hi, ob, if_pos rfl]
    · unfold f_X5_stop
      rw [on_n hi, ob, if_pos rfl]
-- signs
theorem xS_congr {W W' : Wd} (e1 : W'.1 = W.1) (e2 : W'.2.1 = W.2.1) (sk : Nat → Bool) : xS W' sk = xS W sk := by unfold xS; rw [e1, e2]
theorem pl_congr {W W' : Wd} (e1 : W'.1 = W.1) (e2 : W'.2.1 = W.2.1) : pl W' = pl W := by unfold pl; rw [xS_congr e1 e2]
theorem cst_congr {W W' : Wd} (e1 : W'.1 = W.1) (e2 : W'.2.1 = W.2.1) (i : Nat) : cst W' i = cst W i := by unfold cst gS; rw [xS_congr e1 e2]
theorem bst_congr {W W' : Wd} (e1 : W'.1 = W.1) (e2 : W'.2.1 = W.2.1) : ∀ i, bst W' i = bst W i := by
  intro i
  induction i with
  | zero => rfl
  | succ i ih =>
    unfold bst
    rw [ih, cst_congr e1 e2, cst_congr e1 e2]
theorem InvC_sig {σ τ : Sg} {W W' : Wd} (hI : InvC σ W) (hp : Hp σ) (h1 : ∀ k, k < 44 → k ≠ 12 → k ≠ 13 → (k < sp σ ∨ sp σ + 2 < k) → τ.2.1 k = σ.2.1 k) (h2 : τ.2.2.1 = σ.2.2.1) (h3 : τ.2.2.2 = σ.2.2.2) (e1 : W'.1 = W.1) (e2 : W'.2.1 = W.2.1) (e3 : W'.2.2.2.2 = W.2.2.2.2) (hs : CSig τ W') : InvC τ W' := by
  obtain ⟨a1, a2, a3, a4, a5, a6, a7⟩ := hI
  have hr := rp_or hp
  refine ⟨?_, ?_, ?_, hs, ?_, ?_, ?_⟩
  · unfold CLine
    rw [e1, h1 1 (by decide) (by decide) (by decide) (by omega), h1 2 (by decide) (by decide) (by decide) (by omega), h1 3 (by decide) (by decide) (by decide) (by omega), h1 4 (by decide) (by decide) (by decide) (by omega), h1 5 (by decide) (by decide) (by decide) (by omega), h1 6 (by decide) (by decide) (by decide) (by omega), h1 7 (by decide) (by decide) (by decide) (by omega), h1 8 (by decide) (by decide) (by decide) (by omega)]
    exact a1
  · unfold CRule
    rw [e1, rp_of h3, h1 (rp σ + 1) (by omega) (by omega) (by omega) (by omega), h1 (rp σ + 2) (by omega) (by omega) (by omega) (by omega)]
    exact a2
  · unfold CLate
    rw [e2, h1 1 (by decide) (by decide) (by decide) (by omega), h1 9 (by decide) (by decide) (by decide) (by omega), h1 10 (by decide) (by decide) (by decide) (by omega), h1 11 (by decide) (by decide) (by decide) (by omega)]
    exact a3
  · rw [e3, rp_of h3, h1 (rp σ) (by omega) (by omega) (by omega) (by omega)]
    exact a5
  · unfold CRb
    rw [e1, pl_congr e1 e2, h1 0 (by decide) (by decide) (by decide) (by omega), h2, h1 14 (by decide) (by decide) (by decide) (by omega), h1 (14 + 1) (by decide) (by decide) (by decide) (by omega), h1 (14 + 2) (by decide) (by decide) (by decide) (by omega), h1 (14 + 3) (by decide) (by decide) (by decide) (by omega), h1 (14 + 4) (by decide) (by decide) (by decide) (by omega), h1 (14 + 5) (by decide) (by decide) (by decide) (by omega), h1 (14 + 6) (by decide) (by decide) (by decide) (by omega), h1 (14 + 8) (by decide) (by decide) (by decide) (by omega), h1 (14 + 10) (by decide) (by decide) (by decide) (by omega)]
    exact a6
  · rw [e1, bst_congr e1 e2, h1 0 (by decide) (by decide) (by decide) (by omega)]
    exact a7
theorem InvM_sig {σ τ : Sg} {W W' : Wd} (hI : InvM σ W) (h1 : ∀ k, 44 < k → k ≠ 55 → k < 58 → τ.2.1 k = σ.2.1 k) (h44 : ∀ j, j ≠ 12 → j < 20 → τ.2.1 44 j = σ.2.1 44 j) (e1 : W'.1 = W.1) (e2 : W'.2.1 = W.2.1) (e3 : W'.2.2.2.2 = W.2.2.2.2) (hs : MSig τ W') : InvM τ W' := by
  obtain ⟨a1, a2, a3, a4, a5⟩ := hI
  refine ⟨?_, ?_, ?_, hs, ?_⟩
  · unfold MLine
    rw [e1, h44 3 (by decide) (by decide), h1 45 (by decide) (by decide) (by decide), h1 46 (by decide) (by decide) (by decide), h1 47 (by decide) (by decide) (by decide), h1 48 (by decide) (by decide) (by decide), h1 49 (by decide) (by decide) (by decide), h1 50 (by decide) (by decide) (by decide), h1 51 (by decide) (by decide) (by decide)]
    exact a1
  · unfold MRu
    rw [e1, h1 56 (by decide) (by decide) (by decide), h1 57 (by decide) (by decide) (by decide)]
    exact a2
  · unfold MLt
    rw [e2, h44 8 (by decide) (by decide), h1 52 (by decide) (by decide) (by decide), h1 53 (by decide) (by decide) (by decide), h1 54 (by decide) (by decide) (by decide)]
    exact a3
  · rw [e3, h44 14 (by decide) (by decide)]; exact a5
theorem z_wipe (hW : Ok W) (n : Nat) : Pz (f_X4_wipe n 0) (f_X5_wipe n 44) W := by
  refine ⟨(W.1, W.2.1, (0, W.2.2.2)), nI W.2.2.1, ⟨hW.1, hW.2.1, ⟨Nat.zero_le _, fun i hi => absurd hi (Nat.not_lt_zero _)⟩, hW.2.2.2⟩, fun σ h hI => ?_, fun σ h hI => ?_⟩
  · refine ⟨sI σ 12 1 0, ?_, h, ?_, fun k hk => by rw [rI_ne (by omega)]⟩
    · unfold f_X4_wipe
      simp only [ob, gR_4_0_1 h, gI_3_12_1 h, hI.2.2.2.1.1, pI_3_12_1 h]
    · exact InvC_sig hI h (fun k k1 k2 k3 k4 => by rw [rI_ne k2]) rfl rfl rfl rfl rfl ⟨by rw [rI, if_pos ⟨rfl, rfl⟩]; rfl, fun i hi => absurd hi (Nat.not_lt_zero _)⟩
  · refine ⟨sI σ 44 12 0, ?_, h, ?_, fun k hk => by rw [rI_ne (by omega)], rfl, rfl⟩
    · unfold f_X5_wipe
      simp only [ob, gI_5_44_12 h, hI.2.2.2.1.1, pI_5_44_12 h]
    · exact InvM_sig hI (fun k k1 k2 k3 => by rw [rI_ne (by omega)]) (fun j hj _ => by rw [rI, if_neg (fun z => hj z.2)]) rfl rfl rfl ⟨by rw [rI, if_pos ⟨rfl, rfl⟩]; rfl, fun i hi => absurd hi (Nat.not_lt_zero _)⟩
theorem z_say (hW : Ok W) (n : Nat) (i : Int32) : Pz (f_X4_say n 0 i) (f_X5_say n 44 i) W := by
  have hm := hW.2.2.1.1
  by_cases hr : Rg i 33 126
  · have hr2 := hr
    obtain ⟨v, v1, v2, rfl⟩ := hr
    by_cases e : W.2.2.1 = 40
    · refine ⟨W, (-4), hW, CZ_no (fun σ h hI => ?_), MZ_no (fun σ h hI => ?_)⟩
      · unfold f_X4_say
        rw [if_neg (show ¬ nI v < 33 from nI_nlt (b := 33) v1 (by omega)), if_pos (show nI v ≤ 126 from nI_le (b := 126) v2 (by decide)), gR_4_0_1 h, ob, gI_3_12_1 h, ob, hI.2.2.2.1.1, e, if_neg (show ¬ nI 40 < 40 by decide)]
      · unfold f_X5_say
        rw [iy_33_126 hr2, ob, if_neg z10, gI_5_44_12 h, ob, hI.2.2.2.1.1, e, if_pos (show nI 40 = 40 from rfl)]
    · have l40 : W.2.2.1 < 40 := by omega
      refine ⟨(W.1, W.2.1, (W.2.2.1 + 1, upN W.2.2.2.1 W.2.2.1 v, W.2.2.2.2)), nI (W.2.2.1 + 1), ⟨hW.1, hW.2.1, ⟨by show W.2.2.1 + 1 ≤ 40; omega, fun i hi => ?_⟩, hW.2.2.2⟩, fun σ h hI => ?_, fun σ h hI => ?_⟩
      · have hi' : i < W.2.2.1 + 1 := hi
        show 33 ≤ upN W.2.2.2.1 W.2.2.1 v i ∧ upN W.2.2.2.1 W.2.2.1 v i ≤ 126
        unfold upN
        by_cases ei : i = W.2.2.1
        · rw [if_pos ei]; exact ⟨v1, v2⟩
        · rw [if_neg ei]; exact hW.2.2.1.2 i (by omega)
      · have h1 : Hp (sI σ 13 W.2.2.1 (nI v)) := h
        have h2 : Hp (sI (sI σ 13 W.2.2.1 (nI v)) 12 1 (nI (W.2.2.1 + 1))) := h
        have k1 : (sI σ 13 W.2.2.1 (nI v)).2.1 12 1 = nI W.2.2.1 := by rw [rI_ne (by decide)]; exact hI.2.2.2.1.1
        have k2 : (sI (sI σ 13 W.2.2.1 (nI v)) 12 1 (nI (W.2.2.1 + 1))).2.1 12 1 = nI (W.2.2.1 + 1) := by rw [rI, if_pos ⟨rfl, rfl⟩]
        refine ⟨sI (sI σ 13 W.2.2.1 (nI v)) 12 1 (nI (W.2.2.1 + 1)), ?_, h, ?_, fun k hk => by rw [rI_ne (by omega), rI_ne (by omega)]⟩
        · unfold f_X4_say
          rw [if_neg (show ¬ nI v < 33 from nI_nlt (b := 33) v1 (by omega)), if_pos (show nI v ≤ 126 from nI_le (b := 126) v2 (by decide)), gR_4_0_1 h, ob, gI_3_12_1 h, ob, hI.2.2.2.1.1, if_pos (show nI W.2.2.1 < 40 from nI_lt (b := 40) l40 (by decide))]
          unfold f_X3_add
          simp only [ob, ck_12 h, gR_3_12_0 h, gI_3_12_1 h, hI.2.2.2.1.1, xI_13 h l40, gI_3_12_1 h1, k1, nI_1, pI_3_12_1 h1, gI_3_12_1 h2, k2]
        · refine InvC_sig hI h (fun k q1 q2 q3 q4 => by rw [rI_ne q2, rI_ne q3]) rfl rfl rfl rfl rfl ⟨k2, fun i hi => ?_⟩
          refine late_row (A := σ.2.1 13) hI.2.2.2.1.2 ?_ i hi
          rw [rI_ne (by decide), rI_eq]
      · have h1 : Hp (sI σ 55 W.2.2.1 (nI v)) := h
        have h2 : Hp (sI (sI σ 55 W.2.2.1 (nI v)) 44 12 (nI (W.2.2.1 + 1))) := h
        have k1 : (sI σ 55 W.2.2.1 (nI v)).2.1 44 12 = nI W.2.2.1 := by rw [rI_ne (by decide)]; exact hI.2.2.2.1.1
        have k2 : (sI (sI σ 55 W.2.2.1 (nI v)) 44 12 (nI (W.2.2.1 + 1))).2.1 44 12 = nI (W.2.2.1 + 1) := by rw [rI, if_pos ⟨rfl, rfl⟩]
        refine ⟨sI (sI σ 55 W.2.2.1 (nI v)) 44 12 (nI (W.2.2.1 + 1)), ?_, h, ?_, fun k hk => by rw [rI_ne (by omega), rI_ne (by omega)], rfl, rfl⟩
        · unfold f_X5_say
          rw [iy_33_126 hr2, ob, if_neg z10, gI_5_44_12 h, ob, hI.2.2.2.1.1, if_neg (show ¬ nI W.2.2.1 = 40 from fun z => e ((nI_eq (b := 40) (by omega) (by decide)).mp z))]
          simp only [ob, gR_5_44_13 h, xI_55 h l40, gI_5_44_12 h1, k1, nI_1, pI_5_44_12 h1, gI_5_44_12 h2, k2]
        · refine InvM_sig hI (fun k q1 q2 q3 => by rw [rI_ne (by omega), rI_ne (by omega)]) (fun j hj _ => by rw [rI, if_neg (fun z => hj z.2), rI_ne (by decide)]) rfl rfl rfl ⟨k2, fun i hi => ?_⟩
          refine late_row (A := σ.2.1 55) hI.2.2.2.1.2 ?_ i hi
          rw [rI_ne (by decide), rI_eq]
  · refine ⟨W, (-2), hW, CZ_no (fun σ h hI => ?_), MZ_no (fun σ h hI => ?_)⟩
    · unfold f_X4_say X4_say_b12
      rcases nRg (lo := 33) (by decide) (by decide) hr with z | z
      · rw [if_pos (show i < 33 from z)]
      · rw [if_neg (show ¬ i ≤ 126 from i_nle (by decide) z), ite_self]
    · unfold f_X5_say
      rw [im_33_126 hr, ob, if_pos rfl]
end
