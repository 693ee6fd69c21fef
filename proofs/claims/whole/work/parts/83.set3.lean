section
variable {W : Wd}
theorem Ok_set {S : Se} (hW : Ok W) (h : SeOk (wE S (fun _ _ => 0)) 9990) (e1 : eHow S = eHow W.1) (e2 : eBy S = eBy W.1) : Ok (S, W.2) := ⟨h, hW.2.1, hW.2.2.1, by show ∀ s, s < 10 → eHow S s ≤ 2 ∧ eBy S s ≤ 999; rw [e1, e2]; exact hW.2.2.2.1, hW.2.2.2.2⟩
/-- one cell of an array, set anew -/
theorem row_up {A : Nat → Int32} {f : Nat → Nat} {N k v : Nat} (h : ∀ j, j < N → A j = nI (f j)) : ∀ j, j < N → upd A k (nI v) j = nI (upN f k v j) := by
  intro j hj
  unfold upN
  by_cases e : j = k
  · rw [if_pos e, e]; exact pk_us
  · rw [if_neg e, pk_un e]; exact h j hj
theorem set_cls {a v lim : Nat} {n : Nat} {i2 : Int32} (hW : Ok W) (ha : a < 5) (hmo : mo (nI a) = some (nI lim)) (hlim : lim < 1000) (hv : i2 = nI v) (hvl : v ≤ lim) (hOk : SeOk (wE (uSet W.1 a v) (fun _ _ => 0)) 9990) : CZ (f_X4_set n 0 (nI a) i2) W (uSet W.1 a v, W.2) (nI (eSet W.1 a)) := by
  intro σ h hI
  subst hv
  have h1 : Hp (sI (sI σ 0 6 0) 0 7 0) := h
  have e5 : (sI (sI σ 0 6 0) 0 7 0).2.1 5 a = nI (eSet W.1 a) := by rw [clrk (by decide)]; exact hI.1.2.2.2.2.1 a ha
  refine ⟨sI (sI (sI σ 0 6 0) 0 7 0) 5 a (nI v), ?_, h, ?_, fun k hk => by rw [rI_ne (by omega), clrk (by omega)]⟩
  · unfold f_X4_set
    rw [if_neg (nI_pos (by omega)), if_neg (show ¬ (5 : Int32) ≤ nI a from nI_ge (b := 5) ha (by decide)), if_neg (nI_pos (by omega)), hmo, ob, if_pos (nI_le hvl (by omega)), ck_0 h, ob, forget h, ob]
    simp only [ob, gR_4_0_0 h1, gR_1_1_3 h1, aI_5 h1 ha, e5, xI_5 h1 ha]
  · have q : ∀ k, k ≠ 0 → k ≠ 5 → (sI (sI (sI σ 0 6 0) 0 7 0) 5 a (nI v)).2.1 k = σ.2.1 k := fun k k1 k2 => by rw [rI_ne k2, clrk k1]
    refine InvC_set hI h rfl (fun k k1 k2 => q k (by omega) (by omega)) (by rw [rI_ne (by decide), clr6]) (by rw [rI_ne (by decide), clr7]) rfl rfl rfl ?_ ?_
    · obtain ⟨a1, a2, a3, a4, a5, a6⟩ := hI.1
      unfold CLine
      rw [q 1 (by decide) (by decide), q 2 (by decide) (by decide), q 3 (by decide) (by decide), q 4 (by decide) (by decide), q 6 (by decide) (by decide), q 7 (by decide) (by decide), q 8 (by decide) (by decide), rI_eq, clrk (by decide)]
      exact ⟨a1, a2, a3, a4, row_up a5, a6⟩
    · unfold CLate
      rw [q 1 (by decide) (by decide), q 9 (by decide) (by decide), q 10 (by decide) (by decide), q 11 (by decide) (by decide)]
      exact hI.2.2.1
theorem set_mod {a v : Nat} {n : Nat} {i2 : Int32} {hi : Int32} (ha : a < 5) (hin : ∀ σ, f_X5_in n i2 0 hi σ = some (1, σ)) (hv : i2 = nI v) {σ : Sg} (h : Hp σ) (hI : InvM σ W) : ∃ τ, X5_set_b45 n 44 (nI a) i2 i2 0 hi σ = some (nI (eSet W.1 a), τ) ∧ Hp τ ∧ InvM τ (uSet W.1 a v, W.2) ∧ (∀ k, k < 44 → τ.2.1 k = σ.2.1 k) ∧ τ.2.2.1 = σ.2.2.1 ∧ τ.2.2.2 = σ.2.2.2 := by
  subst hv
  refine ⟨sI σ 51 a (nI v), ?_, h, ?_, fun k hk => by rw [rI_ne (by omega)], rfl, rfl⟩
  · unfold X5_set_b45
    rw [hin, ob, if_neg z10]
    simp only [ob, gR_5_44_7 h, aI_51 h ha, hI.1.2.2.2.2.1 a ha, xI_51 h ha]
  · have q : ∀ k, k ≠ 51 → (sI σ 51 a (nI v)).2.1 k = σ.2.1 k := fun k k2 => by rw [rI_ne k2]
    refine InvM_set hI (fun k k1 k2 => q k (by omega)) (by rw [q 44 (by decide)]) (by rw [q 44 (by decide)]) rfl rfl rfl ?_ ?_
    · obtain ⟨a1, a2, a3, a4, a5, a6⟩ := hI.1
      unfold MLine
      rw [q 44 (by decide), q 45 (by decide), q 46 (by decide), q 47 (by decide), q 48 (by decide), q 49 (by decide), q 50 (by decide), rI_eq]
      exact ⟨a1, a2, a3, a4, row_up a5, a6⟩
    · unfold MLt
      rw [q 44 (by decide), q 52 (by decide), q 53 (by decide), q 54 (by decide)]
      exact hI.2.2.1
theorem set_no {a lim : Nat} {n : Nat} {i2 : Int32} (ha : a < 5) (hmo : mo (nI a) = some (nI lim)) (hlim : lim < 1000) (hr : ¬ Rg i2 0 lim) : CZ (f_X4_set n 0 (nI a) i2) W W (-2) := by
  refine CZ_no (fun σ h hI => ?_)
  unfold f_X4_set X4_set_b22
  rw [if_neg (nI_pos (by omega)), if_neg (show ¬ (5 : Int32) ≤ nI a from nI_ge (b := 5) ha (by decide)), hmo, ob]
  rcases nRg (lo := 0) (by omega) (by omega) hr with z | z
  · rw [if_pos (show i2 < 0 from z)]
  · rw [if_neg (i_nle (by omega) z), ite_self]
theorem z_set (hW : Ok W) (n : Nat) (i j : Int32) : Pz (f_X4_set n 0 i j) (f_X5_set n 44 i j) W := by
  by_cases hr : Rg i 0 4
  · obtain ⟨a, a1, a2, rfl⟩ := hr
    have hi4 : ∀ σ, f_X5_in n (nI a) 0 4 σ = some (1, σ) := fun σ => iy_0_4 ⟨a, a1, a2, rfl⟩
    obtain ⟨o1, o2, o3, o4, o5, o6, o7⟩ := hW.1
    have okS : ∀ v, (a = 0 → v ≤ 60) → (a = 1 → v ≤ 10) → (a = 2 → v ≤ 10) → (a = 3 → v ≤ 1) → (a = 4 → v ≤ 600) → SeOk (wE (uSet W.1 a v) (fun _ _ => 0)) 9990 := by
      intro v c0 c1 c2 c3 c4
      refine ⟨o1, o2, o3, o4, o5, ?_, o7⟩
      show upN (eSet W.1) a v 0 ≤ 60 ∧ upN (eSet W.1) a v 1 ≤ 10 ∧ upN (eSet W.1) a v 2 ≤ 10 ∧ upN (eSet W.1) a v 3 ≤ 1 ∧ upN (eSet W.1) a v 4 ≤ 600
      obtain ⟨p0, p1, p2, p3, p4⟩ := o6
      unfold upN
      refine ⟨?_, ?_, ?_, ?_, ?_⟩ <;> split
      · exact c0 (by omega)
      · exact p0
      · exact c1 (by omega)
      · exact p1
      · exact c2 (by omega)
      · exact p2
      · exact c3 (by omega)
      · exact p3
      · exact c4 (by omega)
      · exact p4
    have go : ∀ lim : Nat, ∀ hi : Int32, mo (nI a) = some (nI lim) → lim < 1000 → hi = nI lim → (∀ v, v ≤ lim → SeOk (wE (uSet W.1 a v) (fun _ _ => 0)) 9990) → (∀ σ, f_X5_set n 44 (nI a) j σ = X5_set_b45 n 44 (nI a) j j 0 hi σ) → Pz (f_X4_set n 0 (nI a) j) (f_X5_set n 44 (nI a) j) W := by
      intro lim hi hmo hlim hhi hok hm
      subst hhi
      by_cases hr2 : Rg j 0 lim
      · have hr3 := hr2
        obtain ⟨v, v1, v2, rfl⟩ := hr2
        refine ⟨(uSet W.1 a v, W.2), nI (eSet W.1 a), Ok_set hW (hok v v2) rfl rfl, set_cls hW (by omega) hmo hlim rfl v2 (hok v v2), fun σ h hI => ?_⟩
        rw [hm]
        exact set_mod (by omega) (fun σ => in_y (lo := 0) (by omega) hr3) rfl h hI
      · refine ⟨W, (-2), hW, set_no (by omega) hmo hlim hr2, MZ_no (fun σ h hI => ?_)⟩
        rw [hm]
        unfold X5_set_b45
        rw [show f_X5_in n j 0 (nI lim) σ = some (0, σ) from in_n (lo := 0) (by omega) (by omega) hr2, ob, if_pos rfl]
    have hc : a = 0 ∨ a = 1 ∨ a = 2 ∨ a = 3 ∨ a = 4 := by omega
    rcases hc with e | e | e | e | e
    · refine go 60 60 (by rw [e]; decide) (by decide) rfl (fun v hv => okS v (fun _ => hv) (fun _ => by omega) (fun _ => by omega) (fun _ => by omega) (fun _ => by omega)) (fun σ => ?_)
      unfold f_X5_set
      rw [hi4, ob, if_neg z10, e, if_pos (show nI 0 = 0 from rfl)]
    · refine go 10 10 (by rw [e]; decide) (by decide) rfl (fun v hv => okS v (fun _ => by omega) (fun _ => hv) (fun _ => by omega) (fun _ => by omega) (fun _ => by omega)) (fun σ => ?_)
      unfold f_X5_set
      rw [hi4, ob, if_neg z10, e, if_neg (show ¬ nI 1 = 0 by decide), if_neg (show ¬ 3 ≤ nI 1 by decide)]
    · refine go 10 10 (by rw [e]; decide) (by decide) rfl (fun v hv => okS v (fun _ => by omega) (fun _ => by omega) (fun _ => hv) (fun _ => by omega) (fun _ => by omega)) (fun σ => ?_)
      unfold f_X5_set
      rw [hi4, ob, if_neg z10, e, if_neg (show ¬ nI 2 = 0 by decide), if_neg (show ¬ 3 ≤ nI 2 by decide)]
    · refine go 1 1 (by rw [e]; decide) (by decide) rfl (fun v hv => okS v (fun _ => by omega) (fun _ => by omega) (fun _ => by omega) (fun _ => hv) (fun _ => by omega)) (fun σ => ?_)
      unfold f_X5_set
      rw [hi4, ob, if_neg z10, e, if_neg (show ¬ nI 3 = 0 by decide), if_pos (show 3 ≤ nI 3 by decide), if_pos (show nI 3 = 3 from rfl)]
    · refine go 600 600 (by rw [e]; decide) (by decide) rfl (fun v hv => okS v (fun _ => by omega) (fun _ => by omega) (fun _ => by omega) (fun _ => by omega) (fun _ => hv)) (fun σ => ?_)
      unfold f_X5_set
      rw [hi4, ob, if_neg z10, e, if_neg (show ¬ nI 4 = 0 by decide), if_pos (show 3 ≤ nI 4 by decide), if_neg (show ¬ nI 4 = 3 by decide)]
  · refine ⟨W, (-2), hW, CZ_no (fun σ h hI => ?_), MZ_no (fun σ h hI => ?_)⟩
    · unfold f_X4_set X4_set_b22
      rcases nRg (lo := 0) (by decide) (by decide) hr with z | z
      · rw [if_pos (show i < 0 from z)]
      · rw [if_pos (show 5 ≤ i from z), ite_self]
    · unfold f_X5_set
      rw [im_0_4 hr, ob, if_pos rfl]
-- bus
def eFrom (S : Se) : Nat := if eB S = 0 then 0 else eBeg S (eB S - 1)
theorem z_bus (hW : Ok W) (n : Nat) (i j : Int32) : Pz (f_X4_bus n 0 i j) (f_X5_bus n 44 i j) W := by
  have hB8 : eB W.1 ≤ 8 := hW.1.1
  obtain ⟨o1, o2, o3, o4, o5, o6, o7, o8, o9⟩ := hW.1
  have hfr : eFrom W.1 ≤ 7200 := by
    unfold eFrom
    split
    · omega
    · exact (o7 (eB W.1 - 1) (by show eB W.1 - 1 < eB W.1; omega)).1
  have he : ∀ σ, Hp σ → InvC σ W → f_X1_earliestNewBus n 1 σ = some (nI (eFrom W.1), σ) := by
    intro σ h hI
    unfold f_X1_earliestNewBus eFrom
    rw [gI_1_1_7 h, ob, hI.1.1]
    by_cases e : eB W.1 = 0
    · rw [if_pos ((nI_le0 (by omega)).mpr e), if_pos e]; rfl
    · rw [if_neg (fun z => e ((nI_le0 (by omega)).mp z)), if_neg e, gR_1_1_4 h, ob, ob, show nI (eB W.1) - 1 = nI (eB W.1 - 1) from nsub (b := 1) (by omega), aI_6 h (by omega), ob, (hI.1.2.2.2.2.2 (eB W.1 - 1) (by omega)).1]
  have hm : ∀ σ, Hp σ → InvM σ W → f_X5_bus n 44 i j σ = X5_bus_b23 n 44 i j i (nI (eFrom W.1)) σ := by
    intro σ h hI
    unfold f_X5_bus eFrom
    rw [gI_5_44_3 h, ob, hI.1.1]
    by_cases e : eB W.1 = 0
    · rw [if_pos ((nI_0' (by omega)).mpr e), if_pos e]; rfl
    · rw [if_neg (fun z => e ((nI_0' (by omega)).mp z)), if_neg e, gR_5_44_4 h, ob, ob, show nI (eB W.1) - 1 = nI (eB W.1 - 1) from nsub (b := 1) (by omega), aI_48 h (by omega), ob, (hI.1.2.2.2.2.2 (eB W.1 - 1) (by omega)).1]
  by_cases hr : Rg i (eFrom W.1) 7200
  · have hr2 := hr
    obtain ⟨g, g1, g2, rfl⟩ := hr
    have hm1 : ∀ σ, f_X5_in n (nI g) (nI (eFrom W.1)) 7200 σ = some (1, σ) := fun σ => in_y (hi := 7200) (by decide) hr2
    by_cases hj : Rg j 1 80
    · have hj2 := hj
      obtain ⟨v, v1, v2, rfl⟩ := hj
      by_cases e8 : eB W.1 = 8
      · refine ⟨W, (-4), hW, CZ_no (fun σ h hI => ?_), MZ_no (fun σ h hI => ?_)⟩
        · unfold f_X4_bus
          rw [gR_4_0_0 h, ob, ck_1 h, ob, he σ h hI, ob, if_neg (nI_nlt g1 (by omega)), if_pos (show nI g ≤ 7200 from nI_le (b := 7200) g2 (by decide)), if_neg (show ¬ nI v < 1 from nI_nlt (b := 1) v1 (by omega)), if_pos (show nI v ≤ 80 from nI_le (b := 80) v2 (by decide)), gR_4_0_0 h, ob, gI_1_1_7 h, ob, hI.1.1, e8, if_neg (show ¬ nI 8 < 8 by decide)]
        · rw [hm σ h hI]
          unfold X5_bus_b23
          rw [hm1, ob, if_neg z10, iy_1_80 hj2, ob, if_neg z10, gI_5_44_3 h, ob, hI.1.1, e8, if_pos (show nI 8 = 8 from rfl)]
      · have l8 : eB W.1 < 8 := by omega
        have em : nI (eB W.1 + 1) - 1 = nI (eB W.1) := nsub (b := 1) (by omega)
        have hord : ∀ a b, a < b → b < eB W.1 + 1 → upN (eBeg W.1) (eB W.1) g a ≤ upN (eBeg W.1) (eB W.1) g b := by
          intro a b hab hb
          unfold upN
          rw [if_neg (by omega)]
          by_cases eb : b = eB W.1
          · rw [if_pos eb]
            have e0 : ¬ eB W.1 = 0 := by omega
            have : eFrom W.1 = eBeg W.1 (eB W.1 - 1) := by unfold eFrom; rw [if_neg e0]
            by_cases ea : a = eB W.1 - 1
            · rw [ea]; omega
            · have := o8 a (eB W.1 - 1) (by omega) (by show eB W.1 - 1 < eB W.1; omega)
              have t2 : eBeg W.1 a ≤ eBeg W.1 (eB W.1 - 1) := this
              omega
          · rw [if_neg eb]
            exact o8 a b hab (by show b < eB W.1; omega)
        refine ⟨(uBus W.1 g v, W.2), nI (eB W.1), Ok_set hW ⟨?_, o2, o3, o4, o5, o6, fun c hc => ?_, hord, o9⟩ rfl rfl, fun σ h hI => ?_, fun σ h hI => ?_⟩
        · show eB W.1 + 1 ≤ 8; omega
        · show upN (eBeg W.1) (eB W.1) g c ≤ 7200 ∧ 1 ≤ upN (eSeat W.1) (eB W.1) v c ∧ upN (eSeat W.1) (eB W.1) v c ≤ 80 ∧ 1 ≤ upN (eFin W.1) (eB W.1) 9 c ∧ upN (eFin W.1) (eB W.1) 9 c ≤ 9
          have hc' : c < eB W.1 + 1 := hc
          unfold upN
          by_cases e : c = eB W.1
          · rw [if_pos e, if_pos e, if_pos e]; exact ⟨g2, v1, v2, by decide, by decide⟩
          · rw [if_neg e, if_neg e, if_neg e]; exact o7 c (by show c < eB W.1; omega)
        · have ec := clrk (σ := σ) (k := 1) (by decide)
          have e7 : (sI (sI σ 0 6 0) 0 7 0).2.1 1 7 = nI (eB W.1) := by rw [ec]; exact hI.1.1
          have h0 : Hp (sI (sI σ 0 6 0) 0 7 0) := h
          have q0 : ∀ k, k ≠ 0 → (sI (sI σ 0 6 0) 0 7 0).2.1 k = σ.2.1 k := fun k hk => clrk hk
          have c6 := clr6 (σ := σ)
          have c7 := clr7 (σ := σ)
          have f0 := forget (n := n) h
          have r0 : (sI (sI σ 0 6 0) 0 7 0).2.2.2 = σ.2.2.2 := rfl
          generalize sI (sI σ 0 6 0) 0 7 0 = ρ at e7 h0 q0 c6 c7 f0 r0
          have h1 : Hp (sI ρ 6 (eB W.1) (nI g)) := h0
          have h2 : Hp (sI (sI ρ 6 (eB W.1) (nI g)) 7 (eB W.1) (nI v)) := h0
          have h3 : Hp (sI (sI (sI ρ 6 (eB W.1) (nI g)) 7 (eB W.1) (nI v)) 8 (eB W.1) 9) := h0
          have h4 : Hp (sI (sI (sI (sI ρ 6 (eB W.1) (nI g)) 7 (eB W.1) (nI v)) 8 (eB W.1) 9) 1 7 (nI (eB W.1 + 1))) := h0
          have k1 : (sI ρ 6 (eB W.1) (nI g)).2.1 1 7 = nI (eB W.1) := by rw [rI_ne (by decide)]; exact e7
          have k2 : (sI (sI ρ 6 (eB W.1) (nI g)) 7 (eB W.1) (nI v)).2.1 1 7 = nI (eB W.1) := by rw [rI_ne (by decide)]; exact k1
          have k3 : (sI (sI (sI ρ 6 (eB W.1) (nI g)) 7 (eB W.1) (nI v)) 8 (eB W.1) 9).2.1 1 7 = nI (eB W.1) := by rw [rI_ne (by decide)]; exact k2
          have k4 : (sI (sI (sI (sI ρ 6 (eB W.1) (nI g)) 7 (eB W.1) (nI v)) 8 (eB W.1) 9) 1 7 (nI (eB W.1 + 1))).2.1 1 7 = nI (eB W.1 + 1) := by rw [rI, if_pos ⟨rfl, rfl⟩]
          refine ⟨sI (sI (sI (sI ρ 6 (eB W.1) (nI g)) 7 (eB W.1) (nI v)) 8 (eB W.1) 9) 1 7 (nI (eB W.1 + 1)), ?_, h4, ?_, fun k hk => by rw [rI_ne (by omega), rI_ne (by omega), rI_ne (by omega), rI_ne (by omega), q0 k (by omega)]⟩
          · unfold f_X4_bus
            rw [gR_4_0_0 h, ob, ck_1 h, ob, he σ h hI, ob, if_neg (nI_nlt g1 (by omega)), if_pos (show nI g ≤ 7200 from nI_le (b := 7200) g2 (by decide)), if_neg (show ¬ nI v < 1 from nI_nlt (b := 1) v1 (by omega)), if_pos (show nI v ≤ 80 from nI_le (b := 80) v2 (by decide)), gR_4_0_0 h, ob, gI_1_1_7 h, ob, hI.1.1, if_pos (show nI (eB W.1) < 8 from nI_lt (b := 8) l8 (by decide)), ck_0 h, ob, f0, ob, gR_4_0_0 h0, ob, ck_1 h0, ob]
            unfold f_X1_addBus
            simp only [ob, gR_1_1_4 h0, gI_1_1_7 h0, e7, xI_6 h0 l8, gR_1_1_5 h1, gI_1_1_7 h1, k1, xI_7 h1 l8, gR_1_1_6 h2, gI_1_1_7 h2, k2, xI_8 h2 l8, gI_1_1_7 h3, k3, nI_1, pI_1_1_7 h3, gI_1_1_7 h4, k4, em]
          · have q : ∀ k, k ≠ 0 → k ≠ 1 → k ≠ 6 → k ≠ 7 → k ≠ 8 → (sI (sI (sI (sI ρ 6 (eB W.1) (nI g)) 7 (eB W.1) (nI v)) 8 (eB W.1) 9) 1 7 (nI (eB W.1 + 1))).2.1 k = σ.2.1 k := fun k k1 k2 k3 k4 k5 => by rw [rI_ne k2, rI_ne k5, rI_ne k4, rI_ne k3, q0 k k1]
            refine InvC_set hI h r0 (fun k k1 k2 => q k (by omega) (by omega) (by omega) (by omega) (by omega)) (by rw [rI_ne (by decide), rI_ne (by decide), rI_ne (by decide), rI_ne (by decide)]; exact c6) (by rw [rI_ne (by decide), rI_ne (by decide), rI_ne (by decide), rI_ne (by decide)]; exact c7) rfl rfl rfl ?_ ?_
            · obtain ⟨a1, a2, a3, a4, a5, a6⟩ := hI.1
              unfold CLine
              rw [q 2 (by decide) (by decide) (by decide) (by decide) (by decide), q 3 (by decide) (by decide) (by decide) (by decide) (by decide), q 4 (by decide) (by decide) (by decide) (by decide) (by decide), q 5 (by decide) (by decide) (by decide) (by decide) (by decide)]
              refine ⟨k4, a2, a3, a4, a5, fun c hc => ⟨?_, ?_, ?_⟩⟩
              · refine late_row (A := σ.2.1 6) (fun i hi => (a6 i hi).1) ?_ c hc
                rw [rI_ne (by decide), rI_ne (by decide), rI_ne (by decide), rI_eq, q0 6 (by decide)]
              · refine late_row (A := σ.2.1 7) (fun i hi => (a6 i hi).2.1) ?_ c hc
                rw [rI_ne (by decide), rI_ne (by decide), rI_eq, rI_ne (by decide), q0 7 (by decide)]
              · refine late_row (A := σ.2.1 8) (fun i hi => (a6 i hi).2.2) ?_ c hc
                rw [rI_ne (by decide), rI_eq, rI_ne (by decide), rI_ne (by decide), q0 8 (by decide)]
                rfl
            · unfold CLate
              rw [q 9 (by decide) (by decide) (by decide) (by decide) (by decide), q 10 (by decide) (by decide) (by decide) (by decide) (by decide), q 11 (by decide) (by decide) (by decide) (by decide) (by decide), rI, if_neg (by decide), rI_ne (by decide), rI_ne (by decide), rI_ne (by decide), q0 1 (by decide)]
              exact hI.2.2.1
        · have e3 := hI.1.1
          have h1 : Hp (sI σ 48 (eB W.1) (nI g)) := h
          have h2 : Hp (sI (sI σ 48 (eB W.1) (nI g)) 49 (eB W.1) (nI v)) := h
          have h3 : Hp (sI (sI (sI σ 48 (eB W.1) (nI g)) 49 (eB W.1) (nI v)) 50 (eB W.1) 9) := h
          have h4 : Hp (sI (sI (sI (sI σ 48 (eB W.1) (nI g)) 49 (eB W.1) (nI v)) 50 (eB W.1) 9) 44 3 (nI (eB W.1 + 1))) := h
          have k1 : (sI σ 48 (eB W.1) (nI g)).2.1 44 3 = nI (eB W.1) := by rw [rI_ne (by decide)]; exact e3
          have k2 : (sI (sI σ 48 (eB W.1) (nI g)) 49 (eB W.1) (nI v)).2.1 44 3 = nI (eB W.1) := by rw [rI_ne (by decide)]; exact k1
          have k3 : (sI (sI (sI σ 48 (eB W.1) (nI g)) 49 (eB W.1) (nI v)) 50 (eB W.1) 9).2.1 44 3 = nI (eB W.1) := by rw [rI_ne (by decide)]; exact k2
          have k4 : (sI (sI (sI (sI σ 48 (eB W.1) (nI g)) 49 (eB W.1) (nI v)) 50 (eB W.1) 9) 44 3 (nI (eB W.1 + 1))).2.1 44 3 = nI (eB W.1 + 1) := by rw [rI, if_pos ⟨rfl, rfl⟩]
          refine ⟨sI (sI (sI (sI σ 48 (eB W.1) (nI g)) 49 (eB W.1) (nI v)) 50 (eB W.1) 9) 44 3 (nI (eB W.1 + 1)), ?_, h, ?_, fun k hk => by rw [rI_ne (by omega), rI_ne (by omega), rI_ne (by omega), rI_ne (by omega)], rfl, rfl⟩
          · rw [hm σ h hI]
            unfold X5_bus_b23
            rw [hm1, ob, if_neg z10, iy_1_80 hj2, ob, if_neg z10, gI_5_44_3 h, ob, e3, if_neg (show ¬ nI (eB W.1) = 8 from fun z => e8 ((nI_eq (b := 8) (by omega) (by decide)).mp z))]
            simp only [ob, gR_5_44_4 h, xI_48 h l8, gR_5_44_5 h1, gI_5_44_3 h1, k1, xI_49 h1 l8, gR_5_44_6 h2, gI_5_44_3 h2, k2, xI_50 h2 l8, gI_5_44_3 h3, k3, nI_1, pI_5_44_3 h3, gI_5_44_3 h4, k4, em]
          · have q : ∀ k, k ≠ 44 → k ≠ 48 → k ≠ 49 → k ≠ 50 → (sI (sI (sI (sI σ 48 (eB W.1) (nI g)) 49 (eB W.1) (nI v)) 50 (eB W.1) 9) 44 3 (nI (eB W.1 + 1))).2.1 k = σ.2.1 k := fun k k1 k2 k3 k4 => by rw [rI_ne k1, rI_ne k4, rI_ne k3, rI_ne k2]
            have q44 : ∀ j, j ≠ 3 → (sI (sI (sI (sI σ 48 (eB W.1) (nI g)) 49 (eB W.1) (nI v)) 50 (eB W.1) 9) 44 3 (nI (eB W.1 + 1))).2.1 44 j = σ.2.1 44 j := fun j hj => by rw [rI, if_neg (fun z => hj z.2), rI_ne (by decide), rI_ne (by decide), rI_ne (by decide)]
            refine InvM_set hI (fun k k1 k2 => q k (by omega) (by omega) (by omega) (by omega)) (q44 12 (by decide)) (q44 14 (by decide)) rfl rfl rfl ?_ ?_
            · obtain ⟨a1, a2, a3, a4, a5, a6⟩ := hI.1
              unfold MLine
              rw [q 45 (by decide) (by decide) (by decide) (by decide), q 46 (by decide) (by decide) (by decide) (by decide), q 47 (by decide) (by decide) (by decide) (by decide), q 51 (by decide) (by decide) (by decide) (by decide)]
              refine ⟨k4, a2, a3, a4, a5, fun c hc => ⟨?_, ?_, ?_⟩⟩
              · refine late_row (A := σ.2.1 48) (fun i hi => (a6 i hi).1) ?_ c hc
                rw [rI_ne (by decide), rI_ne (by decide), rI_ne (by decide), rI_eq]
              · refine late_row (A := σ.2.1 49) (fun i hi => (a6 i hi).2.1) ?_ c hc
                rw [rI_ne (by decide), rI_ne (by decide), rI_eq, rI_ne (by decide)]
              · refine late_row (A := σ.2.1 50) (fun i hi => (a6 i hi).2.2) ?_ c hc
                rw [rI_ne (by decide), rI_eq, rI_ne (by decide), rI_ne (by decide)]
                rfl
            · unfold MLt
              rw [q44 8 (by decide), q 52 (by decide) (by decide) (by decide) (by decide), q 53 (by decide) (by decide) (by decide) (by decide), q 54 (by decide) (by decide) (by decide) (by decide)]
              exact hI.2.2.1
    · refine ⟨W, (-2), hW, CZ_no (fun σ h hI => ?_), MZ_no (fun σ h hI => ?_)⟩
      · unfold f_X4_bus X4_bus_b32
        rw [gR_4_0_0 h, ob, ck_1 h, ob, he σ h hI, ob, if_neg (nI_nlt g1 (by omega)), if_pos (show nI g ≤ 7200 from nI_le (b := 7200) g2 (by decide))]
        rcases nRg (lo := 1) (by decide) (by decide) hj with z | z
        · rw [if_pos (show j < 1 from z)]
        · rw [if_neg (show ¬ j ≤ 80 from i_nle (by decide) z), ite_self]
      · rw [hm σ h hI]
        unfold X5_bus_b23 X5_bus_b42
        rw [hm1, ob, if_neg z10, im_1_80 hj, ob, if_pos rfl]
  · refine ⟨W, (-2), hW, CZ_no (fun σ h hI => ?_), MZ_no (fun σ h hI => ?_)⟩
    · unfold f_X4_bus X4_bus_b18
      rw [gR_4_0_0 h, ob, ck_1 h, ob, he σ h hI, ob]
      rcases nRg (by omega) (by decide) hr with z | z
      · rw [if_pos z]
      · rw [if_neg (show ¬ i ≤ 7200 from i_nle (by decide) z), ite_self]
    · rw [hm σ h hI]
      unfold X5_bus_b23 X5_bus_b42
      rw [show f_X5_in n i (nI (eFrom W.1)) 7200 σ = some (0, σ) from in_n (hi := 7200) (by omega) (by decide) hr, ob, if_pos rfl]
end
