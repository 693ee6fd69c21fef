/-! best, the model's -/
section
variable {W : Wd}
def cdB (W : Wd) (i : Nat) : Int32 := if i = 0 then (-6) else nI (1000 * (bst W (i - 1) / 11) + 60 * (bst W (i - 1) % 11))
def kB (W : Wd) (i : Nat) : Int32 := if i = 0 then 0 else nI (cst W (bst W (i - 1)))
def BN (σ0 σ : Sg) : Prop := σ.1 = σ0.1 ∧ σ.2.2.2 = σ0.2.2.2 ∧ σ.2.2.1 = σ0.2.2.1 ∧ (∀ k, (k < 44 ∨ (44 < k ∧ k < 56)) → σ.2.1 k = σ0.2.1 k) ∧ (∀ j, j < 29 → σ.2.1 44 j = σ0.2.1 44 j)
theorem BN.hp {σ0 σ : Sg} (h : BN σ0 σ) (hp : Hp σ0) : Hp σ := Hp_eq h.1 h.2.1 hp
theorem BN.rf {σ : Sg} : BN σ σ := ⟨rfl, rfl, rfl, fun _ _ => rfl, fun _ _ => rfl⟩
theorem BN.wI {σ0 σ : Sg} {k j : Nat} {v : Int32} (h : BN σ0 σ) (hk : 56 ≤ k) : BN σ0 (sI σ k j v) := ⟨h.1, h.2.1, h.2.2.1, fun q hq => by rw [rI_ne (by omega)]; exact h.2.2.2.1 q hq, fun q hq => by rw [rI_ne (by omega)]; exact h.2.2.2.2 q hq⟩
theorem BN.fm {σ0 σ τ : Sg} (h : BN σ0 σ) (hf : FM σ τ) : BN σ0 τ := ⟨hf.1.trans h.1, hf.2.1.trans h.2.1, hf.2.2.1.trans h.2.2.1, fun q hq => (hf.2.2.2.1 q (by omega)).trans (h.2.2.2.1 q hq), fun q hq => (hf.2.2.2.2 q (by omega) (by omega) (by omega)).trans (h.2.2.2.2 q hq)⟩
def BK (σ0 σ : Sg) : Prop := BN σ0 σ ∧ ∀ k, k < 10 → σ.2.1 71 k = σ0.2.1 56 k ∧ σ.2.1 72 k = σ0.2.1 57 k
theorem BK.wI {σ0 σ : Sg} {k j : Nat} {v : Int32} (h : BK σ0 σ) (hk : k = 56 ∨ k = 57) : BK σ0 (sI σ k j v) := ⟨h.1.wI (by omega), fun q hq => by rw [rI_ne (by omega), rI_ne (by omega)]; exact h.2 q hq⟩
theorem BK.fm {σ0 σ τ : Sg} (h : BK σ0 σ) (hf : FM σ τ) : BK σ0 τ := ⟨h.1.fm hf, fun q hq => by rw [hf.2.2.2.1 71 (by decide), hf.2.2.2.1 72 (by decide)]; exact h.2 q hq⟩
theorem mb_24 {N : Nat} {w i2 i3 i4 i5 : Int32} {σ : Sg} : X5_best_run (N + 1) 24 44 w i2 i3 i4 i5 σ = X5_best_b24 N (X5_best_run N) 44 w i2 σ := rfl
theorem mb_75 {N : Nat} {w i2 i3 i4 i5 : Int32} {σ : Sg} : X5_best_run (N + 1) 75 44 w i2 i3 i4 i5 σ = X5_best_b75 N (X5_best_run N) 44 w i2 i3 i4 σ := rfl
theorem mb_85 {N : Nat} {w i2 i3 i4 i5 : Int32} {σ : Sg} : X5_best_run (N + 1) 85 44 w i2 i3 i4 i5 σ = X5_best_b85 N (X5_best_run N) 44 w i2 i3 i4 i5 σ := rfl
theorem mb_182 {N : Nat} {w i2 i3 i4 i5 : Int32} {σ : Sg} : X5_best_run (N + 1) 182 44 w i2 i3 i4 i5 σ = X5_best_b182 N (X5_best_run N) 44 w i2 i4 σ := rfl
theorem mb_copy {w : Int32} {σ0 : Sg} (h0 : Hp σ0) : ∀ (m i N : Nat) (σ : Sg), i + m = 10 → m + 1 ≤ N → BN σ0 σ → σ.2.1 57 = σ0.2.1 57 → (∀ k, k < 10 → i ≤ k → σ.2.1 56 k = σ0.2.1 56 k) → (∀ k, k < i → σ.2.1 71 k = σ0.2.1 56 k ∧ σ.2.1 72 k = σ0.2.1 57 k ∧ σ.2.1 56 k = 0) →
    ∃ τ N', N ≤ N' + (m + 1) ∧ X5_best_run N 24 44 w (nI i) 0 0 0 σ = X5_best_run N' 75 44 w (-6) 0 0 0 τ ∧ BK σ0 τ ∧ ∀ k, k < 10 → τ.2.1 56 k = 0 := by
  intro m
  induction m with
  | zero =>
    intro i N σ hi hn b1 b2 b3 b4
    obtain ⟨q, rfl⟩ : ∃ q, N = q + 1 := ⟨N - 1, by omega⟩
    rw [mb_24]
    unfold X5_best_b24
    rw [if_pos (show (10 : Int32) ≤ nI i by rw [show i = 10 by omega]; decide)]
    exact ⟨σ, q, by omega, rfl, ⟨b1, fun k hk => ⟨(b4 k (by omega)).1, (b4 k (by omega)).2.1⟩⟩, fun k hk => (b4 k (by omega)).2.2⟩
  | succ m ih =>
    intro i N σ hi hn b1 b2 b3 b4
    obtain ⟨q, rfl⟩ : ∃ q, N = q + 1 := ⟨N - 1, by omega⟩
    have h := b1.hp h0
    rw [mb_24]
    unfold X5_best_b24
    have h1 : Hp (sI σ 71 i (σ.2.1 56 i)) := h
    have e57 : (sI σ 71 i (σ.2.1 56 i)).2.1 57 i = σ0.2.1 57 i := by rw [rI_ne (by decide), b2]
    have h2 : Hp (sI (sI σ 71 i (σ.2.1 56 i)) 72 i (σ0.2.1 57 i)) := h
    rw [if_neg (show ¬ (10 : Int32) ≤ nI i from nI_ge (b := 10) (by omega) (by decide)), gR_5_44_35 h, ob, gR_5_44_15 h, ob, aI_56 h (by omega), ob, xI_71 h (by omega), ob, gR_5_44_36 h1, ob, gR_5_44_16 h1, ob, aI_57 h1 (by omega), ob, e57, xI_72 h1 (by omega), ob, gR_5_44_15 h2, ob, xI_56 h2 (by omega), ob, nI_1, ob]
    obtain ⟨τ, N', t1, t2, t3⟩ := ih (i + 1) q (sI (sI (sI σ 71 i (σ.2.1 56 i)) 72 i (σ0.2.1 57 i)) 56 i 0) (by omega) (by omega) (((b1.wI (by decide)).wI (by decide)).wI (by decide)) (by rw [rI_ne (by decide), rI_ne (by decide), rI_ne (by decide), b2]) (fun k k1 k2 => by
        rw [rI, if_neg (by omega), rI_ne (by decide), rI_ne (by decide)]; exact b3 k k1 (by omega)) (fun k k1 => by
        by_cases e : k = i
        · subst e
          refine ⟨?_, ?_, ?_⟩
          · rw [rI_ne (by decide), rI_ne (by decide), rI, if_pos ⟨rfl, rfl⟩]; exact b3 k (by omega) (Nat.le_refl _)
          · rw [rI_ne (by decide), rI, if_pos ⟨rfl, rfl⟩]
          · rw [rI, if_pos ⟨rfl, rfl⟩]
        · obtain ⟨d1, d2, d3⟩ := b4 k (by omega)
          refine ⟨?_, ?_, ?_⟩
          · rw [rI_ne (by decide), rI_ne (by decide), rI, if_neg (fun z => e z.2)]; exact d1
          · rw [rI_ne (by decide), rI, if_neg (fun z => e z.2), rI_ne (by decide)]; exact d2
          · rw [rI, if_neg (fun z => e z.2), rI_ne (by decide), rI_ne (by decide)]; exact d3)
    exact ⟨τ, N', by omega, t2, t3⟩
theorem mb_back {w i2 : Int32} {σ0 : Sg} (h0 : Hp σ0) : ∀ (m i N : Nat) (σ : Sg), i + m = 10 → m + 1 ≤ N → BK σ0 σ → (∀ k, k < i → σ.2.1 56 k = σ0.2.1 56 k ∧ σ.2.1 57 k = σ0.2.1 57 k) →
    ∃ τ, X5_best_run N 182 44 w i2 0 (nI i) 0 σ = some (if w = 0 then i2 / 1000 else i2 - i2 / 1000 * 1000, τ) ∧ BN σ0 τ ∧ ∀ k, k < 10 → τ.2.1 56 k = σ0.2.1 56 k ∧ τ.2.1 57 k = σ0.2.1 57 k := by
  intro m
  induction m with
  | zero =>
    intro i N σ hi hn b1 b2
    obtain ⟨q, rfl⟩ : ∃ q, N = q + 1 := ⟨N - 1, by omega⟩
    rw [mb_182]
    unfold X5_best_b182
    rw [if_pos (show (10 : Int32) ≤ nI i by rw [show i = 10 by omega]; decide)]
    have d : dv 1000 = some () := by rfl
    refine ⟨σ, ?_, b1.1, fun k hk => b2 k (by omega)⟩
    by_cases e : w = 0
    · rw [if_pos e, if_pos e, d, ob]
    · rw [if_neg e, if_neg e, d, ob]
  | succ m ih =>
    intro i N σ hi hn b1 b2
    obtain ⟨q, rfl⟩ : ∃ q, N = q + 1 := ⟨N - 1, by omega⟩
    have h := b1.1.hp h0
    rw [mb_182]
    unfold X5_best_b182
    have h1 : Hp (sI σ 56 i (σ0.2.1 56 i)) := h
    have e57 : (sI σ 56 i (σ0.2.1 56 i)).2.1 72 i = σ0.2.1 57 i := by rw [rI_ne (by decide)]; exact (b1.2 i (by omega)).2
    rw [if_neg (show ¬ (10 : Int32) ≤ nI i from nI_ge (b := 10) (by omega) (by decide)), gR_5_44_15 h, ob, gR_5_44_35 h, ob, aI_71 h (by omega), ob, (b1.2 i (by omega)).1, xI_56 h (by omega), ob, gR_5_44_16 h1, ob, gR_5_44_36 h1, ob, aI_72 h1 (by omega), ob, e57, xI_57 h1 (by omega), ob, nI_1, ob]
    refine ih (i + 1) q _ (by omega) (by omega) ((b1.wI (Or.inl rfl)).wI (Or.inr rfl)) (fun k hk => ?_)
    rw [rI_ne (by decide), rI, rI, rI_ne (by decide)]
    by_cases e : k = i
    · subst e
      rw [if_pos ⟨rfl, rfl⟩, if_pos ⟨rfl, rfl⟩]
      exact ⟨rfl, rfl⟩
    · rw [if_neg (fun z => e z.2), if_neg (fun z => e z.2)]
      exact b2 k (by omega)
set_option maxHeartbeats 1000000 in
theorem mb_step (hW : Ok W) {w : Int32} {σ0 : Sg} (h0 : Hp σ0) (hI0 : InvM σ0 W) {s g n : Nat} (hs : s < 9) (hg : g < 11) (hn : 400 ≤ n) {σ : Sg} (hK : BK σ0 σ) (hz : ∀ k, k < 10 → k ≠ s → σ.2.1 56 k = 0) :
    ∃ τ, X5_best_run (n + 1) 85 44 w (cdB W (11 * s + g)) (kB W (11 * s + g)) (nI s) (nI (60 * g)) σ = X5_best_run n 85 44 w (cdB W (11 * s + g + 1)) (kB W (11 * s + g + 1)) (nI s) (nI (60 * (g + 1))) τ ∧ BK σ0 τ ∧ ∀ k, k < 10 → k ≠ s → τ.2.1 56 k = 0 := by
  have hS := gS_k hW (s := s) (g := 60 * g) (by omega)
  have hB8 : eB W.1 ≤ 8 := hW.1.1
  have h : Hp σ := hK.1.hp h0
  have h1 : Hp (sI σ 56 s 2) := h
  have h2 : Hp (sI (sI σ 56 s 2) 57 s (nI (60 * g))) := h
  have hK2 : BK σ0 (sI (sI σ 56 s 2) 57 s (nI (60 * g))) := (hK.wI (Or.inl rfl)).wI (Or.inr rfl)
  generalize hυ : sI (sI σ 56 s 2) 57 s (nI (60 * g)) = υ at h2 hK2
  obtain ⟨⟨c1, c2, c3, c4, c5⟩, c6⟩ := hK2
  have hL : MLine υ W.1 := by
    unfold MLine
    rw [c5 3 (by decide), c4 45 (by decide), c4 46 (by decide), c4 47 (by decide), c4 48 (by decide), c4 49 (by decide), c4 50 (by decide), c4 51 (by decide)]
    exact hI0.1
  have hT : MLt υ W := by
    unfold MLt
    rw [c5 8 (by decide), c4 52 (by decide), c4 53 (by decide), c4 54 (by decide)]
    exact hI0.2.2.1
  have hR : MRule υ (gS W s (60 * g)) := by
    intro k hk
    show (if k = s then 2 else 0) ≤ 2 ∧ (if k = s then 60 * g else 0) ≤ 999 ∧ _ = nI (if k = s then 2 else 0) ∧ ((if k = s then 2 else 0) ≠ 0 → _ = nI (if k = s then 60 * g else 0))
    rw [← hυ, rI_ne (by decide), rI, rI]
    by_cases e : k = s
    · rw [if_pos e, if_pos e, if_pos ⟨rfl, e⟩, if_pos ⟨rfl, e⟩]
      exact ⟨by decide, by omega, rfl, fun _ => rfl⟩
    · rw [if_neg e, if_neg e, if_neg (fun z => e z.2), hz k hk e]
      exact ⟨by decide, by decide, rfl, fun z => absurd rfl z⟩
  obtain ⟨τ, t1, t2, t3⟩ := pm_lay hS (n := n) (w := (-6)) hn h2 hL hR (MEx_of (S := gS W s (60 * g)) (by have := hW.2.1.1; omega) hW.2.1.2 sk_no hB8 (fun b s => rfl) h2 hT)
  have h3 := t2.hp h2
  have hK3 : BK σ0 τ := BK.fm ⟨⟨c1, c2, c3, c4, c5⟩, c6⟩ t2
  have hz3 : ∀ k, k < 10 → k ≠ s → τ.2.1 56 k = 0 := fun k k1 k2 => by
    rw [t2.2.2.2.1 56 (by decide), ← hυ, rI_ne (by decide), rI, if_neg (fun z => k2 z.2)]
    exact hz k k1 k2
  have ec : cst W (11 * s + g) = dsum (ply (gS W s (60 * g)) 10 7) 9 0 + ply (gS W s (60 * g)) 10 9 0 + 1000 * ply (gS W s (60 * g)) 10 10 0 := cst_sg hg
  rw [mb_85]
  unfold X5_best_b85
  rw [if_neg (show ¬ 600 < nI (60 * g) from nI_nlt (a := 600) (by omega) (by decide)), gR_5_44_15 h, ob, xI_56 h (by omega), ob, gR_5_44_16 h1, ob, xI_57 h1 (by omega), ob, hυ, ck_44 h2, ob, t1, ob, ck_44 h3, ob, pm_sum h3 (fun k hk => (t3.2.1 k hk).2.1) (by omega), ob, gI_5_44_29 h3, ob, gI_5_44_30 h3, ob, t3.2.2.1, t3.2.2.2, show (1000 : Int32) = nI 1000 from rfl, pk_mul, nI_add, nI_add, ← ec, ob]
  have take : bst W (11 * s + g) = 11 * s + g → ∃ υ, X5_best_b146 n (X5_best_run n) 44 w (nI s) (nI (60 * g)) (nI (cst W (11 * s + g))) τ = X5_best_run n 85 44 w (cdB W (11 * s + g + 1)) (kB W (11 * s + g + 1)) (nI s) (nI (60 * (g + 1))) υ ∧ BK σ0 υ ∧ ∀ k, k < 10 → k ≠ s → υ.2.1 56 k = 0 := by
    intro eb
    refine ⟨τ, ?_, hK3, hz3⟩
    unfold X5_best_b146 X5_best_b159
    rw [show (1000 : Int32) = nI 1000 from rfl, pk_mul, nI_add, ob, show nI (60 * g) + 60 = nI (60 * (g + 1)) by rw [show (60 : Int32) = nI 60 from rfl, nI_add]; congr 1, ob]
    unfold cdB kB
    rw [if_neg (by omega), if_neg (by omega), show 11 * s + g + 1 - 1 = 11 * s + g by omega, eb, show (11 * s + g) / 11 = s by omega, show (11 * s + g) % 11 = g by omega]
  have keep : 11 * s + g ≠ 0 → bst W (11 * s + g) = bst W (11 * s + g - 1) → ∃ υ, X5_best_b159 n (X5_best_run n) 44 w (cdB W (11 * s + g)) (kB W (11 * s + g)) (nI s) (nI (60 * g)) τ = X5_best_run n 85 44 w (cdB W (11 * s + g + 1)) (kB W (11 * s + g + 1)) (nI s) (nI (60 * (g + 1))) υ ∧ BK σ0 υ ∧ ∀ k, k < 10 → k ≠ s → υ.2.1 56 k = 0 := by
    intro e0 eb
    refine ⟨τ, ?_, hK3, hz3⟩
    unfold X5_best_b159
    rw [show nI (60 * g) + 60 = nI (60 * (g + 1)) by rw [show (60 : Int32) = nI 60 from rfl, nI_add]; congr 1, ob]
    unfold cdB kB
    rw [if_neg e0, if_neg e0, if_neg (by omega), if_neg (by omega), show 11 * s + g + 1 - 1 = 11 * s + g by omega, eb]
  by_cases e0 : 11 * s + g = 0
  · have hc : cdB W (11 * s + g) < 0 := by unfold cdB; rw [if_pos e0]; decide
    rw [if_pos hc]
    refine take ?_
    rw [e0]
    rfl
  · have hb := bst_le (W := W) (11 * s + g - 1)
    have hc : ¬ cdB W (11 * s + g) < 0 := by
      unfold cdB
      rw [if_neg e0]
      exact nI_pos (by omega)
    have c1 := cst_lt hW (11 * s + g)
    have c2 := cst_lt hW (bst W (11 * s + g - 1))
    have ej : kB W (11 * s + g) = nI (cst W (bst W (11 * s + g - 1))) := by unfold kB; rw [if_neg e0]
    have eb : bst W (11 * s + g) = if cst W (11 * s + g) < cst W (bst W (11 * s + g - 1)) then 11 * s + g else bst W (11 * s + g - 1) := by
      obtain ⟨z, hz⟩ : ∃ z, 11 * s + g = z + 1 := ⟨11 * s + g - 1, by omega⟩
      rw [hz, show z + 1 - 1 = z by omega]
      rfl
    rw [if_neg hc]
    by_cases e : cst W (11 * s + g) < cst W (bst W (11 * s + g - 1))
    · rw [if_neg (by rw [ej]; exact nI_ge e c2)]
      rw [if_pos e] at eb
      exact take eb
    · rw [if_pos (by rw [ej]; exact nI_le (by omega) c1)]
      rw [if_neg e] at eb
      exact keep e0 eb
theorem mb_in (hW : Ok W) {w : Int32} {σ0 : Sg} (h0 : Hp σ0) (hI0 : InvM σ0 W) {s : Nat} (hs : s < 9) : ∀ (m g N : Nat) (σ : Sg), g + m = 11 → 400 + m ≤ N → BK σ0 σ → (∀ k, k < 10 → k ≠ s → σ.2.1 56 k = 0) →
    ∃ τ N', N ≤ N' + m ∧ X5_best_run N 85 44 w (cdB W (11 * s + g)) (kB W (11 * s + g)) (nI s) (nI (60 * g)) σ = X5_best_run N' 85 44 w (cdB W (11 * (s + 1))) (kB W (11 * (s + 1))) (nI s) (nI 660) τ ∧ BK σ0 τ ∧ ∀ k, k < 10 → k ≠ s → τ.2.1 56 k = 0 := by
  intro m
  induction m with
  | zero =>
    intro g N σ hg hn hQ hz
    have e : g = 11 := by omega
    subst e
    rw [show 11 * s + 11 = 11 * (s + 1) by omega]
    exact ⟨σ, N, by omega, rfl, hQ, hz⟩
  | succ m ih =>
    intro g N σ hg hn hQ hz
    obtain ⟨q, rfl⟩ : ∃ q, N = q + 1 := ⟨N - 1, by omega⟩
    obtain ⟨τ, t1, t2, t3⟩ := mb_step hW (w := w) h0 hI0 hs (show g < 11 by omega) (show 400 ≤ q by omega) hQ hz
    obtain ⟨ρ, N', r0, r1, r2, r3⟩ := ih (g + 1) q τ (by omega) (by omega) t2 t3
    rw [t1]
    exact ⟨ρ, N', by omega, r1, r2, r3⟩
theorem mb_out (hW : Ok W) {w : Int32} {σ0 : Sg} (h0 : Hp σ0) (hI0 : InvM σ0 W) : ∀ (m s N : Nat) (σ : Sg), s + m = 9 → 420 + 13 * m ≤ N → BK σ0 σ → (∀ k, k < 10 → σ.2.1 56 k = 0) →
    ∃ τ N', 400 ≤ N' ∧ X5_best_run N 75 44 w (cdB W (11 * s)) (kB W (11 * s)) (nI s) 0 σ = X5_best_run N' 182 44 w (cdB W 99) 0 0 0 τ ∧ BK σ0 τ := by
  intro m
  induction m with
  | zero =>
    intro s N σ hs hn hQ hz
    obtain ⟨q, rfl⟩ : ∃ q, N = q + 1 := ⟨N - 1, by omega⟩
    rw [show 11 * s = 99 by omega, mb_75]
    unfold X5_best_b75
    rw [if_pos (show (9 : Int32) ≤ nI s by rw [show s = 9 by omega]; decide)]
    exact ⟨σ, q, by omega, rfl, hQ⟩
  | succ m ih =>
    intro s N σ hs hn hQ hz
    obtain ⟨q, rfl⟩ : ∃ q, N = q + 1 := ⟨N - 1, by omega⟩
    obtain ⟨τ, N', t0, t1, t2, t3⟩ := mb_in hW (w := w) h0 hI0 (s := s) (by omega) 11 0 q σ rfl (by omega) hQ (fun k k1 _ => hz k k1)
    rw [Nat.add_zero, Nat.mul_zero, nI_0] at t1
    obtain ⟨p, rfl⟩ : ∃ p, N' = p + 1 := ⟨N' - 1, by omega⟩
    have h := t2.1.hp h0
    rw [mb_75]
    unfold X5_best_b75
    rw [if_neg (show ¬ (9 : Int32) ≤ nI s from nI_ge (b := 9) (by omega) (by decide)), t1, mb_85]
    unfold X5_best_b85
    rw [if_pos (show 600 < nI 660 by decide), gR_5_44_15 h, ob, xI_56 h (by omega), ob, nI_1, ob]
    exact ih (s + 1) p _ (by omega) (by omega) (t2.wI (Or.inl rfl)) (fun k hk => by
      rw [rI]
      by_cases e : k = s
      · rw [if_pos ⟨rfl, e⟩]
      · rw [if_neg (fun z => e z.2)]; exact t3 k hk e)
theorem best_m (hW : Ok W) {n : Nat} (hn : 1000 ≤ n) {w : Nat} (hw : w ≤ 1) (hB : 1 ≤ eB W.1) : MZ (f_X5_best n 44 (nI w)) W W (nI (if w = 0 then bst W 98 / 11 else 60 * (bst W 98 % 11))) := by
  intro σ h hI
  have hB8 : eB W.1 ≤ 8 := hW.1.1
  obtain ⟨τ, N1, t0, t1, t2, t3⟩ := mb_copy (w := nI w) h 10 0 n σ rfl (by omega) BN.rf rfl (fun _ _ _ => rfl) (fun k hk => absurd hk (by omega))
  obtain ⟨ρ, N2, r0, r1, r2⟩ := mb_out hW (w := nI w) h hI 9 0 N1 τ rfl (by omega) t2 t3
  obtain ⟨υ, u1, u2, u3⟩ := mb_back (w := nI w) (i2 := cdB W 99) h 10 0 N2 ρ rfl (by omega) r2 (fun k hk => absurd hk (by omega))
  have hb := bst_le (W := W) 98
  have ecd : cdB W 99 = nI (1000 * (bst W 98 / 11) + 60 * (bst W 98 % 11)) := by unfold cdB; rw [if_neg (by decide)]
  have ed : cdB W 99 / 1000 = nI (bst W 98 / 11) := by
    rw [ecd, show (1000 : Int32) = nI 1000 from rfl, pk_div (by omega) (by decide) (by decide)]
    congr 1
    omega
  have r1' : X5_best_run N1 75 44 (nI w) (-6) 0 0 0 τ = X5_best_run N2 182 44 (nI w) (cdB W 99) 0 0 0 ρ := r1
  have t1' : X5_best_run n 24 44 (nI w) 0 0 0 0 σ = X5_best_run N1 75 44 (nI w) (-6) 0 0 0 τ := t1
  have u1' : X5_best_run N2 182 44 (nI w) (cdB W 99) 0 0 0 ρ = _ := u1
  refine ⟨υ, ?_, u2.hp h, ?_, fun k hk => u2.2.2.2.1 k (Or.inl hk), u2.2.2.1, u2.2.1⟩
  · unfold f_X5_best X5_best_b0
    rw [iy_0_1 ⟨w, Nat.zero_le _, hw, rfl⟩, ob, if_neg z10, gI_5_44_3 h, ob, hI.1.1, if_neg (fun z => by have := (nI_0' (by omega)).mp z; omega), t1', r1', u1', ed]
    by_cases ew : w = 0
    · rw [if_pos ((nI_0' (by omega)).mpr ew), if_pos ew]
    · rw [if_neg (fun z => ew ((nI_0' (by omega)).mp z)), if_neg ew, ecd, show (1000 : Int32) = nI 1000 from rfl, pk_mul, nsub (by omega)]
      congr 2
      congr 1
      omega
  · obtain ⟨c1, c2, c3, c4, c5⟩ := u2
    obtain ⟨a1, a2, a3, a4, a5⟩ := hI
    refine ⟨?_, ?_, ?_, ?_, ?_⟩
    · unfold MLine
      rw [c5 3 (by decide), c4 45 (by decide), c4 46 (by decide), c4 47 (by decide), c4 48 (by decide), c4 49 (by decide), c4 50 (by decide), c4 51 (by decide)]
      exact a1
    · intro s hs
      rw [(u3 s hs).1, (u3 s hs).2]
      exact a2 s hs
    · unfold MLt
      rw [c5 8 (by decide), c4 52 (by decide), c4 53 (by decide), c4 54 (by decide)]
      exact a3
    · unfold MSig
      rw [c5 12 (by decide), c4 55 (by decide)]
      exact a4
    · rw [c5 14 (by decide)]
      exact a5
theorem z_best (hW : Ok W) {n : Nat} (hn : 1000 ≤ n) (i : Int32) : Pz (f_X4_best n 0 i) (f_X5_best n 44 i) W := by
  have hB8 : eB W.1 ≤ 8 := hW.1.1
  by_cases hi : Rg i 0 1
  · have hi2 := hi
    obtain ⟨w, w1, w2, rfl⟩ := hi
    by_cases hB : 1 ≤ eB W.1
    · exact ⟨W, _, hW, best_c hW (by omega) w2 hB, best_m hW hn w2 hB⟩
    · refine ⟨W, (-3), hW, CZ_no (fun σ h hI => ?_), MZ_no (fun σ h hI => ?_)⟩
      · unfold f_X4_best
        rw [if_neg (nI_pos (by omega)), if_pos (show nI w ≤ 1 from nI_le (b := 1) w2 (by decide)), gR_4_0_0 h, ob, gI_1_1_7 h, ob, hI.1.1, if_neg (show ¬ (1 : Int32) ≤ nI (eB W.1) from nI_ge (b := 1) (by omega) (by decide))]
      · unfold f_X5_best X5_best_b0
        rw [iy_0_1 hi2, ob, if_neg z10, gI_5_44_3 h, ob, hI.1.1, if_pos ((nI_0' (by omega)).mpr (by omega))]
  · refine ⟨W, (-2), hW, CZ_no (fun σ h hI => ?_), MZ_no (fun σ h hI => ?_)⟩
    · unfold f_X4_best X4_best_b9
      rcases nRg (lo := 0) (by decide) (by decide) hi with z | z
      · rw [if_pos (show i < 0 from z)]
      · rw [if_neg (show ¬ i ≤ 1 from i_nle (by decide) z), ite_self]
    · unfold f_X5_best X5_best_b0
      rw [im_0_1 hi, ob, if_pos rfl]
end
