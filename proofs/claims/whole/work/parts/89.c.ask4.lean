/-! held, mean -/
theorem i_ss (a b c : Int32) : a - b - c = a - (b + c) := by
  rw [Int32.sub_eq_add_neg (a - b) c, Int32.sub_eq_add_neg a b, Int32.sub_eq_add_neg a (b + c), Int32.neg_add, Int32.sub_eq_add_neg (-b) c, Int32.add_assoc]
theorem held_eq (a r a0 r0 : Nat) : (((lN a + lN r) - lN a0) - lN r0).toInt32 = (nI a + nI r) - (nI a0 + nI r0) := by
  rw [lg_l2i_sub, lg_l2i_sub, lg_l2i_add, lN_i, lN_i, lN_i, lN_i, i_ss]
section
variable {W : Wd}
theorem exL_up {lb ls lq : Nat → Nat} {sk : Nat → Bool} {b0 s0 q0 b s l : Nat} : exL (upN lb l b0) (upN ls l s0) (upN lq l q0) sk b s (l + 1) = exL lb ls lq sk b s l + (if sk l = false ∧ b0 = b ∧ s0 = s then q0 else 0) := by
  show exL (upN lb l b0) (upN ls l s0) (upN lq l q0) sk b s l + (if sk l = false ∧ upN lb l b0 l = b ∧ upN ls l s0 l = s then upN lq l q0 l else 0) = _
  have e : ∀ (f : Nat → Nat) (v : Nat), upN f l v l = v := fun f v => by unfold upN; rw [if_pos rfl]
  rw [e, e, e, exL_congr (lb := lb) (ls := ls) (lq := lq) (fun i hi => ?_)]
  have e2 : ∀ (f : Nat → Nat) (v : Nat), upN f l v i = f i := fun f v => by unfold upN; rw [if_neg (by omega)]
  exact ⟨e2 _ _, e2 _ _, e2 _ _⟩
def hdP (W : Wd) (b s q : Nat) : Ps := ply (xS (uLate W b s q) (fun _ => false)) 10
def hdR (W : Wd) (b s q : Nat) : Int32 := (nI (dsum (hdP W b s q 7) 9 0) + nI (hdP W b s q 9 0)) - (nI (dsum (pl W 7) 9 0) + nI (pl W 9 0))
theorem hd_ok (hW : Ok W) {b s q : Nat} (hb : b < 8) (hs : s < 9) (hq : q ≤ 900) : SeOk (xS (uLate W b s q) (fun _ => false)) 9990 := xS_ok (W := uLate W b s q) hW.1 (by have := hW.2.1.1; show W.2.1.1 + 1 ≤ 11; omega) (Lo_up hW.2.1.2 hb hs hq) _
set_option maxHeartbeats 1000000 in
theorem hd_c (hW : Ok W) {n : Nat} (hn : 400 ≤ n) {b s q : Nat} (b1 : b < eB W.1) (hs : s < 9) (hf : s ≤ eFin W.1 b) (q1 : 1 ≤ q) (q2 : q ≤ 900) : CZ (f_X4_held n 0 (nI b) (nI s) (nI q)) W W (hdR W b s q) := by
  intro σ h hI
  have hB8 : eB W.1 ≤ 8 := hW.1.1
  have hS := hd_ok hW (show b < 8 by omega) hs q2
  have hc : 10 * b + s < 80 := by omega
  have hx : Cr 26 := Or.inr rfl
  have hcm := pc_comes hW.x h hI.1 (n := n) b1 (show s < 10 by omega)
  have e' : s ≤ eFin (xS W (fun _ => false)) b := hf
  rw [if_pos e'] at hcm
  obtain ⟨τ, t1, t2, t3⟩ := pc_lays hW.2.1.1 hW.2.1.2 (x := 26) (n := n) hx sk_no (by omega) h hI.2.2.1
  have h1 := t2.hp h
  have er : rp τ = rp σ := rp_of t2.2.1
  have ev := t3 b s (by omega) (by omega)
  have f1 : FD 26 τ (sI τ (26 + 7) (10 * b + s) (nI (exL W.2.1.2.1 W.2.1.2.2.1 W.2.1.2.2.2 (fun _ => false) b s W.2.1.1 + q))) := ⟨rfl, rfl, fun k hk => rI_ne (by omega), fun _ _ => rfl⟩
  have fd1 := t2.tr f1
  have hEx : ∀ c k, c < 8 → k < 10 → (sI τ (26 + 7) (10 * b + s) (nI (exL W.2.1.2.1 W.2.1.2.2.1 W.2.1.2.2.2 (fun _ => false) b s W.2.1.1 + q))).2.1 (26 + 7) (10 * c + k) = nI (eEx (xS (uLate W b s q) (fun _ => false)) c k) := by
    intro c k hc8 hk
    have ee : eEx (xS (uLate W b s q) (fun _ => false)) c k = exL W.2.1.2.1 W.2.1.2.2.1 W.2.1.2.2.2 (fun _ => false) c k W.2.1.1 + (if (fun _ => false : Nat → Bool) W.2.1.1 = false ∧ b = c ∧ s = k then q else 0) := exL_up
    rw [ee, rI]
    by_cases e : 10 * c + k = 10 * b + s
    · have z1 : b = c := by omega
      have z2 : s = k := by omega
      rw [if_pos ⟨rfl, e⟩, if_pos ⟨rfl, z1, z2⟩, z1, z2]
    · rw [if_neg (fun z => e z.2), t3 c k hc8 hk, if_neg (fun z => by omega)]
      rfl
  have x1 : xI (26 + 7) (nI (10 * b + s)) (nI (exL W.2.1.2.1 W.2.1.2.2.1 W.2.1.2.2.2 (fun _ => false) b s W.2.1.1 + q)) τ = some (sI τ (26 + 7) (10 * b + s) (nI (exL W.2.1.2.1 W.2.1.2.2.1 W.2.1.2.2.2 (fun _ => false) b s W.2.1.1 + q))) := xIc_7 h1 hx hc
  have er2 : rp (sI τ (26 + 7) (10 * b + s) (nI (exL W.2.1.2.1 W.2.1.2.2.1 W.2.1.2.2.2 (fun _ => false) b s W.2.1.1 + q))) = rp σ := er
  have h1' := f1.hp h1
  generalize sI τ (26 + 7) (10 * b + s) (nI (exL W.2.1.2.1 W.2.1.2.2.1 W.2.1.2.2.2 (fun _ => false) b s W.2.1.1 + q)) = τ' at f1 fd1 hEx x1 er2 h1'
  obtain ⟨ρ, r1, r2, r3⟩ := pc_play hS (x := 26) (y := rp σ) (n := n) hx (rp_Ru h) (by omega) h1' (fd1.line hx hI.1) (fd1.rule hx (rp_Ru h) hI.2.1) (fun c hcb k hk => hEx c k (by have : c < eB W.1 := hcb; omega) hk)
  have h2 := r2.hp h1'
  have fd := fd1.tr r2.fd
  have hI2 := InvC_26 hI h fd
  obtain ⟨υ, u1, u2, u3, u4, u5, u6⟩ := pc_pres hW (n := n) (by omega) h2 hI2
  have hCu : CRb 26 υ (hdP W b s q) (Vd W.1 10) := by
    unfold CRb
    rw [(u5 26 (by decide)).1, (u5 26 (by decide)).2, (u5 (26 + 1) (by decide)).1, (u5 (26 + 2) (by decide)).1, (u5 (26 + 3) (by decide)).1, (u5 (26 + 4) (by decide)).1, (u5 (26 + 5) (by decide)).1, (u5 (26 + 6) (by decide)).1, (u5 (26 + 8) (by decide)).1, (u5 (26 + 9) (by decide)).2, (u5 (26 + 10) (by decide)).1]
    exact r3
  refine ⟨υ, ?_, u2, u3, fun k hk => by rw [(u5 k (by omega)).1]; exact fd.2.2.1 k (by omega)⟩
  unfold f_X4_held
  rw [gR_4_0_0 h, ob, ck_1 h, ob, hb_y h hI.1.1 hB8 b1, ob, if_neg z10, go_y ⟨s, Nat.zero_le _, by omega, rfl⟩, ob, if_neg z10, gR_4_0_0 h, ob, ck_1 h, ob, hcm, ob, if_neg z10, if_neg (show ¬ nI q < 1 from nI_nlt (b := 1) q1 (by omega)), if_pos (show nI q ≤ 900 from nI_le (b := 900) q2 (by decide)), gR_4_0_3 h, ob, gR_4_0_0 h, ob, ck26 h, ob, t1, ob, gR_4_0_3 h1, ob, gRc_6 h1 hx, ob, pc_cell, ob, aIc_7 h1 hx hc, ob, ev, nI_add, x1, ob, gR_4_0_3 h1', ob, gR_4_0_0 h1', ob, gR_4_0_4 h1', ob, er2, ck26 h1', ob, r1, ob, ck_0 h2, ob, u1, ob, gR_4_0_3 u2, ob, ck26 u2, ob, pc_sum hx u2 (fun k hk => (hCu.2.1 k hk).2.1) (by omega), ob, gR_4_0_3 u2, ob, gJc_10 u2 hx, ob, hCu.2.2.1, ck14 u2, ob, pc_sum (x := 14) (Or.inl rfl) u2 (fun k hk => (u4.2.1 k hk).2.1) (by omega), ob, gJc_10 (x := 14) u2 (Or.inl rfl), ob, u4.2.2.1, held_eq]
  have d1 : dsum (hdP W b s q 7) 10 0 = dsum (hdP W b s q 7) 9 0 := dsum_10 hS
  have d2 : dsum (pl W 7) 10 0 = dsum (pl W 7) 9 0 := dsum_10 hW.x
  rw [d1, d2]
  rfl
set_option maxHeartbeats 1000000 in
theorem hd_m (hW : Ok W) {n : Nat} (hn : 400 ≤ n) {b s q : Nat} (b1 : b < eB W.1) (hs : s < 9) (hf : s ≤ eFin W.1 b) (q1 : 1 ≤ q) (q2 : q ≤ 900) : MZ (f_X5_held n 44 (nI b) (nI s) (nI q)) W W (hdR W b s q) := by
  intro σ h hI
  have hB8 : eB W.1 ≤ 8 := hW.1.1
  have hl := hW.2.1.1
  have hS := hd_ok hW (show b < 8 by omega) hs q2
  have hc : 10 * b + s < 80 := by omega
  obtain ⟨τ, t1, t2, t3⟩ := pm_prs hW hn h hI
  have h0 := t2.hp h
  have hI0 := InvM_fn hI t2
  obtain ⟨m0, -, -⟩ := t3.1 b b1 s (by omega)
  have e' : s ≤ eFin (xS W (fun _ => false)) b := hf
  rw [if_pos e'] at m0
  have hbd := hW.bd b1 hf
  have e8 := hI0.2.2.1.1
  have l10 : W.2.1.1 < 11 := by omega
  have em : nI (W.2.1.1 + 1) - 1 = nI W.2.1.1 := nsub (b := 1) (by omega)
  have h1 : Hp (sI τ 52 W.2.1.1 (nI b)) := h0
  have h2 : Hp (sI (sI τ 52 W.2.1.1 (nI b)) 53 W.2.1.1 (nI s)) := h0
  have h3 : Hp (sI (sI (sI τ 52 W.2.1.1 (nI b)) 53 W.2.1.1 (nI s)) 54 W.2.1.1 (nI q)) := h0
  have h4 : Hp (sI (sI (sI (sI τ 52 W.2.1.1 (nI b)) 53 W.2.1.1 (nI s)) 54 W.2.1.1 (nI q)) 44 8 (nI (W.2.1.1 + 1))) := h0
  have g1 : (sI τ 52 W.2.1.1 (nI b)).2.1 44 8 = nI W.2.1.1 := by rw [rI_ne (by decide)]; exact e8
  have g2 : (sI (sI τ 52 W.2.1.1 (nI b)) 53 W.2.1.1 (nI s)).2.1 44 8 = nI W.2.1.1 := by rw [rI_ne (by decide)]; exact g1
  have g3 : (sI (sI (sI τ 52 W.2.1.1 (nI b)) 53 W.2.1.1 (nI s)) 54 W.2.1.1 (nI q)).2.1 44 8 = nI W.2.1.1 := by rw [rI_ne (by decide)]; exact g2
  have g4 : (sI (sI (sI (sI τ 52 W.2.1.1 (nI b)) 53 W.2.1.1 (nI s)) 54 W.2.1.1 (nI q)) 44 8 (nI (W.2.1.1 + 1))).2.1 44 8 = nI (W.2.1.1 + 1) := by rw [rI, if_pos ⟨rfl, rfl⟩]
  have qk : ∀ k, k ≠ 44 → k ≠ 52 → k ≠ 53 → k ≠ 54 → (sI (sI (sI (sI τ 52 W.2.1.1 (nI b)) 53 W.2.1.1 (nI s)) 54 W.2.1.1 (nI q)) 44 8 (nI (W.2.1.1 + 1))).2.1 k = τ.2.1 k := fun k k1 k2 k3 k4 => by rw [rI_ne k1, rI_ne k4, rI_ne k3, rI_ne k2]
  have q44 : ∀ j, j ≠ 8 → (sI (sI (sI (sI τ 52 W.2.1.1 (nI b)) 53 W.2.1.1 (nI s)) 54 W.2.1.1 (nI q)) 44 8 (nI (W.2.1.1 + 1))).2.1 44 j = τ.2.1 44 j := fun j hj => by rw [rI, if_neg (fun z => hj z.2), rI_ne (by decide), rI_ne (by decide), rI_ne (by decide)]
  have r52 : (sI (sI (sI (sI τ 52 W.2.1.1 (nI b)) 53 W.2.1.1 (nI s)) 54 W.2.1.1 (nI q)) 44 8 (nI (W.2.1.1 + 1))).2.1 52 = upd (τ.2.1 52) W.2.1.1 (nI b) := by rw [rI_ne (by decide), rI_ne (by decide), rI_ne (by decide), rI_eq]
  have r53 : (sI (sI (sI (sI τ 52 W.2.1.1 (nI b)) 53 W.2.1.1 (nI s)) 54 W.2.1.1 (nI q)) 44 8 (nI (W.2.1.1 + 1))).2.1 53 = upd (τ.2.1 53) W.2.1.1 (nI s) := by rw [rI_ne (by decide), rI_ne (by decide), rI_eq, rI_ne (by decide)]
  have r54 : (sI (sI (sI (sI τ 52 W.2.1.1 (nI b)) 53 W.2.1.1 (nI s)) 54 W.2.1.1 (nI q)) 44 8 (nI (W.2.1.1 + 1))).2.1 54 = upd (τ.2.1 54) W.2.1.1 (nI q) := by rw [rI_ne (by decide), rI_eq, rI_ne (by decide), rI_ne (by decide)]
  have rR : (sI (sI (sI (sI τ 52 W.2.1.1 (nI b)) 53 W.2.1.1 (nI s)) 54 W.2.1.1 (nI q)) 44 8 (nI (W.2.1.1 + 1))).2.2.2 = τ.2.2.2 := rfl
  have rJ2 : (sI (sI (sI (sI τ 52 W.2.1.1 (nI b)) 53 W.2.1.1 (nI s)) 54 W.2.1.1 (nI q)) 44 8 (nI (W.2.1.1 + 1))).2.2.1 = τ.2.2.1 := rfl
  have p4 := pI_5_44_8 (v := nI (W.2.1.1 + 1)) h3
  generalize sI (sI (sI (sI τ 52 W.2.1.1 (nI b)) 53 W.2.1.1 (nI s)) 54 W.2.1.1 (nI q)) 44 8 (nI (W.2.1.1 + 1)) = ρ at h4 g4 qk q44 r52 r53 r54 rR rJ2 p4
  have hL4 : MLine ρ W.1 := by
    unfold MLine
    rw [q44 3 (by decide), qk 45 (by decide) (by decide) (by decide) (by decide), qk 46 (by decide) (by decide) (by decide) (by decide), qk 47 (by decide) (by decide) (by decide) (by decide), qk 48 (by decide) (by decide) (by decide) (by decide), qk 49 (by decide) (by decide) (by decide) (by decide), qk 50 (by decide) (by decide) (by decide) (by decide), qk 51 (by decide) (by decide) (by decide) (by decide)]
    exact hI0.1
  have hR4 : MRu ρ W.1 := by
    unfold MRu
    rw [qk 56 (by decide) (by decide) (by decide) (by decide), qk 57 (by decide) (by decide) (by decide) (by decide)]
    exact hI0.2.1
  have hT4 : MLt ρ (uLate W b s q) := ⟨g4, fun i hi => ⟨late_row (fun i hi => (hI0.2.2.1.2 i hi).1) r52 i hi, late_row (fun i hi => (hI0.2.2.1.2 i hi).2.1) r53 i hi, late_row (fun i hi => (hI0.2.2.1.2 i hi).2.2) r54 i hi⟩⟩
  obtain ⟨υ, u1, u2, u3⟩ := pm_pres (W := uLate W b s q) hW.1 (show W.2.1.1 + 1 ≤ 11 by omega) (Lo_up hW.2.1.2 (by omega) hs q2) hW.2.2.2.1 sk_no hn h4 hL4 hR4 hT4
  have h5 := u2.hp h4
  have e8u : υ.2.1 44 8 = nI (W.2.1.1 + 1) := by rw [u2.2.2.2.2 8 (by decide) (by decide) (by decide)]; exact g4
  have h6 : Hp (sI υ 44 8 (nI W.2.1.1)) := h5
  have hMF : MFin (xS (uLate W b s q) (fun _ => false)) (sI υ 44 8 (nI W.2.1.1)) := MFin_g u3 (fun k k1 k2 => by rw [rI_ne (by omega)]) (by rw [rI, if_neg (by decide)]) (by rw [rI, if_neg (by decide)])
  have cell : ∀ k, 44 < k → k < 58 → k ≠ 52 → k ≠ 53 → k ≠ 54 → (sI υ 44 8 (nI W.2.1.1)).2.1 k = τ.2.1 k := fun k k1 k2 k3 k4 k5 => by rw [rI_ne (by omega), u2.2.2.2.1 k (by omega), qk k (by omega) k3 k4 k5]
  have c44 : ∀ j, j ≠ 8 → j < 29 → (sI υ 44 8 (nI W.2.1.1)).2.1 44 j = τ.2.1 44 j := fun j hj h29 => by rw [rI, if_neg (fun z => hj z.2), u2.2.2.2.2 j (by omega) (by omega) (by omega), q44 j hj]
  refine ⟨sI υ 44 8 (nI W.2.1.1), ?_, h6, ⟨?_, ?_, ?_, ?_, ?_⟩, fun k hk => ?_, ?_, ?_⟩
  · have z29 : ∀ ρ : Sg, Hp ρ → MFin (xS W (fun _ => false)) ρ → f_X5_allWaited n 44 ρ = some (nI (dsum (pl W 7) 9 0), ρ) := fun ρ hh hm => pm_sum hh (fun k hk => (hm.2.1 k hk).2.1) (by omega)
    have z30 : f_X5_allWaited n 44 (sI υ 44 8 (nI W.2.1.1)) = some (nI (dsum (hdP W b s q 7) 9 0), sI υ 44 8 (nI W.2.1.1)) := pm_sum h6 (fun k hk => (hMF.2.1 k hk).2.1) (by omega)
    have z31 : (sI υ 44 8 (nI W.2.1.1)).2.1 44 29 = nI (hdP W b s q 9 0) := hMF.2.2.1
    have z32 : τ.2.1 44 29 = nI (pl W 9 0) := t3.2.2.1
    unfold f_X5_held
    rw [ck_44 h, ob, ib_y h hI.1.1 hB8 b1, ob, if_neg z10, on_y ⟨s, Nat.zero_le _, by omega, rfl⟩, ob, if_neg z10, iy_1_900 ⟨q, q1, q2, rfl⟩, ob, if_neg z10, ck_44 h, ob, t1, ob, gR_5_44_17 h0, ob, p10, aI_58 h0 hc, ob, m0, if_pos (nI_pos' (by have := hbd; unfold pl at this; omega)), ck_44 h0, ob, z29 τ h0 t3, ob, gI_5_44_29 h0, ob, z32, ob]
    simp only [ob, gR_5_44_9 h0, gI_5_44_8 h0, e8, xI_52 h0 l10, gR_5_44_10 h1, gI_5_44_8 h1, g1, xI_53 h1 l10, gR_5_44_11 h2, gI_5_44_8 h2, g2, xI_54 h2 l10, gI_5_44_8 h3, g3, nI_1, p4, ck_44 h4, u1, gI_5_44_8 h5, e8u, em, pI_5_44_8 h5, ck_44 h6, z30, gI_5_44_29 h6, z31]
    rfl
  · unfold MLine
    rw [c44 3 (by decide) (by decide), cell 45 (by decide) (by decide) (by decide) (by decide) (by decide), cell 46 (by decide) (by decide) (by decide) (by decide) (by decide), cell 47 (by decide) (by decide) (by decide) (by decide) (by decide), cell 48 (by decide) (by decide) (by decide) (by decide) (by decide), cell 49 (by decide) (by decide) (by decide) (by decide) (by decide), cell 50 (by decide) (by decide) (by decide) (by decide) (by decide), cell 51 (by decide) (by decide) (by decide) (by decide) (by decide)]
    exact hI0.1
  · unfold MRu
    rw [cell 56 (by decide) (by decide) (by decide) (by decide) (by decide), cell 57 (by decide) (by decide) (by decide) (by decide) (by decide)]
    exact hI0.2.1
  · refine ⟨by rw [rI, if_pos ⟨rfl, rfl⟩], fun i hi => ?_⟩
    rw [rI_ne (by decide), rI_ne (by decide), rI_ne (by decide), u2.2.2.2.1 52 (by decide), u2.2.2.2.1 53 (by decide), u2.2.2.2.1 54 (by decide), r52, r53, r54, pk_un (by omega), pk_un (by omega), pk_un (by omega)]
    exact hI0.2.2.1.2 i hi
  · unfold MSig
    rw [c44 12 (by decide) (by decide), cell 55 (by decide) (by decide) (by decide) (by decide) (by decide)]
    exact hI0.2.2.2.1
  · rw [c44 14 (by decide) (by decide)]; exact hI0.2.2.2.2
  · rw [rI_ne (by omega), u2.2.2.2.1 k (by omega), qk k (by omega) (by omega) (by omega) (by omega), t2.2.2.2.1 k (Or.inl hk)]
  · show υ.2.2.1 = _
    rw [u2.2.2.1, rJ2, t2.2.2.1]
  · show υ.2.2.2 = _
    rw [u2.2.1, rR, t2.2.1]
theorem z_held (hW : Ok W) {n : Nat} (hn : 400 ≤ n) (i j k : Int32) : Pz (f_X4_held n 0 i j k) (f_X5_held n 44 i j k) W := by
  have hB8 : eB W.1 ≤ 8 := hW.1.1
  by_cases hb : ∃ b, b < eB W.1 ∧ i = nI b
  · obtain ⟨b, b1, rfl⟩ := hb
    by_cases hs : Rg j 0 8
    · have hs2 := hs
      obtain ⟨s, s1, s2, rfl⟩ := hs
      by_cases hf : s ≤ eFin W.1 b
      · by_cases hq : Rg k 1 900
        · obtain ⟨q, q1, q2, rfl⟩ := hq
          exact ⟨W, hdR W b s q, hW, hd_c hW hn b1 (by omega) hf q1 q2, hd_m hW hn b1 (by omega) hf q1 q2⟩
        · refine ⟨W, (-2000000000), hW, CZ_no (fun σ h hI => ?_), MZ_no (fun σ h hI => ?_)⟩
          · have hcm := pc_comes hW.x h hI.1 (n := n) b1 (show s < 10 by omega)
            have e' : s ≤ eFin (xS W (fun _ => false)) b := hf
            rw [if_pos e'] at hcm
            unfold f_X4_held X4_held_b45
            rw [gR_4_0_0 h, ob, ck_1 h, ob, hb_y h hI.1.1 hB8 b1, ob, if_neg z10, go_y hs2, ob, if_neg z10, gR_4_0_0 h, ob, ck_1 h, ob, hcm, ob, if_neg z10]
            rcases nRg (lo := 1) (by decide) (by decide) hq with z | z
            · rw [if_pos (show k < 1 from z)]
            · rw [if_neg (show ¬ k ≤ 900 from i_nle (by decide) z), ite_self]
          · unfold f_X5_held X5_held_b26
            rw [ck_44 h, ob, ib_y h hI.1.1 hB8 b1, ob, if_neg z10, on_y hs2, ob, if_neg z10, im_1_900 hq, ob, if_pos rfl]
      · refine ⟨W, (-2000000000), hW, CZ_no (fun σ h hI => ?_), fun σ h hI => ?_⟩
        · have hcm := pc_comes hW.x h hI.1 (n := n) b1 (show s < 10 by omega)
          have e' : ¬ s ≤ eFin (xS W (fun _ => false)) b := hf
          rw [if_neg e'] at hcm
          unfold f_X4_held X4_held_b30
          rw [gR_4_0_0 h, ob, ck_1 h, ob, hb_y h hI.1.1 hB8 b1, ob, if_neg z10, go_y hs2, ob, if_neg z10, gR_4_0_0 h, ob, ck_1 h, ob, hcm, ob, if_pos rfl]
        · by_cases hq : Rg k 1 900
          · obtain ⟨τ, t1, t2, t3⟩ := pm_prs hW hn h hI
            have h1 := t2.hp h
            refine ⟨τ, ?_, h1, InvM_fn hI t2, fun q hq => t2.2.2.2.1 q (Or.inl hq), t2.2.2.1, t2.2.1⟩
            obtain ⟨m0, m1, m2⟩ := t3.1 b b1 s (by omega)
            have e' : ¬ s ≤ eFin (xS W (fun _ => false)) b := hf
            rw [if_neg e'] at m0
            unfold f_X5_held
            rw [ck_44 h, ob, ib_y h hI.1.1 hB8 b1, ob, if_neg z10, on_y hs2, ob, if_neg z10, iy_1_900 hq, ob, if_neg z10, ck_44 h, ob, t1, ob, gR_5_44_17 h1, ob, p10, aI_58 h1 (by omega), ob, m0, if_neg (show ¬ (0 : Int32) ≤ -6 by decide)]
          · refine ⟨σ, ?_, h, hI, fun _ _ => rfl, rfl, rfl⟩
            unfold f_X5_held X5_held_b26
            rw [ck_44 h, ob, ib_y h hI.1.1 hB8 b1, ob, if_neg z10, on_y hs2, ob, if_neg z10, im_1_900 hq, ob, if_pos rfl]
    · refine ⟨W, (-2000000000), hW, CZ_no (fun σ h hI => ?_), MZ_no (fun σ h hI => ?_)⟩
      · unfold f_X4_held X4_held_b30
        rw [gR_4_0_0 h, ob, ck_1 h, ob, hb_y h hI.1.1 hB8 b1, ob, if_neg z10, go_n hs, ob, if_pos rfl]
      · unfold f_X5_held X5_held_b26
        rw [ck_44 h, ob, ib_y h hI.1.1 hB8 b1, ob, if_neg z10, on_n hs, ob, if_pos rfl]
  · refine ⟨W, (-2000000000), hW, CZ_no (fun σ h hI => ?_), MZ_no (fun σ h hI => ?_)⟩
    · unfold f_X4_held X4_held_b30
      rw [gR_4_0_0 h, ob, ck_1 h, ob, hb_n h hI.1.1 hB8 hb, ob, if_pos rfl]
    · unfold f_X5_held X5_held_b26
      rw [ck_44 h, ob, ib_n h hI.1.1 hB8 hb, ob, if_pos rfl]
end
