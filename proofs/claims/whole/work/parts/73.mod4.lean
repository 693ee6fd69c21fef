def MRel (S : Se) (s : Nat) (σ : Sg) (P : Ps) (A : List Nat) : Prop :=
  (∀ b, b < eB S → ∀ k, k ≤ s → σ.2.1 58 (10 * b + k) = if k ≤ eFin S b then nI (P 0 (10 * b + k)) else (-6)) ∧
  (∀ b, b < eB S → ∀ k, k < 10 → σ.2.1 59 (10 * b + k) = if (k < s ∧ k ≤ eFin S b) ∨ (k = s ∧ b ∈ A) then nI (P 1 (10 * b + k)) else (-6)) ∧
  (∀ b, b < eB S → ∀ k, k < 10 → ((k < s ∧ k ≤ eFin S b) ∨ (k = s ∧ b ∈ A)) → σ.2.1 60 (10 * b + k) = nI (P 2 (10 * b + k)) ∧ σ.2.1 61 (10 * b + k) = nI (P 3 (10 * b + k)) ∧ σ.2.1 62 (10 * b + k) = nI (P 4 (10 * b + k)) ∧ σ.2.1 63 (10 * b + k) = nI (P 5 (10 * b + k))) ∧
  (∀ c, c < 80 → σ.2.1 64 c = nI (P 11 c) ∧ σ.2.1 65 c = nI (P 12 c)) ∧
  (∀ k, k < 9 → σ.2.1 66 k = nI (P 6 k) ∧ σ.2.1 67 k = nI (P 7 k) ∧ σ.2.1 68 k = nI (P 8 k)) ∧
  (σ.2.1 44 29 = nI (P 13 0) ∧ σ.2.1 44 30 = nI (P 10 0))
/-- the extra seconds, as the model works them out -/
def MEx (σ : Sg) (S : Se) (w : Int32) : Prop := ∀ τ, FM σ τ → ∀ n, 20 ≤ n → ∀ b, b < eB S → ∀ s, s < 9 → f_X5_lateAt n 44 (nI b) (nI s) w τ = some (nI (eEx S b s), τ)
theorem MEx.fm {σ τ : Sg} {S : Se} {w : Int32} (h : MEx σ S w) (hf : FM σ τ) : MEx τ S w := fun ρ hr => h ρ (hf.tr hr)
set_option maxHeartbeats 8000000 in
theorem pm_visit {σ : Sg} {S : Se} {X : Nat} (hS : SeOk S X) (h : Hp σ) (hL : MLine σ S) (hR : MRule σ S) {w : Int32} (hEx : MEx σ S w) {s b n k cnt : Nat} {bef : Int32} {P : Ps} {pre : List Nat} (hs : s < 10) (hV : Vis S X s b P) (hn : 20 ≤ n) (hM : MRel S s σ P pre) (h31 : σ.2.1 44 31 = nI (P 6 s)) (hord : σ.2.1 69 k = nI b) (hk : k < cnt) (hcnt : cnt ≤ 8) (hbf : BF bef (P 14 0)) (hbp : b ∉ pre) :
    ∃ τ bef', X5_atStop_run (n + (9 - s + 1) + 1) 22 44 (nI s) w (nI cnt) (lgI (P 15 0)) bef (nI k) 0 0 0 0 0 0 σ = X5_atStop_run n 22 44 (nI s) w (nI cnt) (lgI (sv S s b P 15 0)) bef' (nI (k + 1)) 0 0 0 0 0 0 τ ∧ FM σ τ ∧ BF bef' (sv S s b P 14 0) ∧ MRel S s τ (sv S s b P) (pre ++ [b]) ∧ τ.2.1 44 31 = nI (sv S s b P 6 s) ∧ τ.2.1 69 = σ.2.1 69 := by
  have hV0 := hV
  obtain ⟨⟨hb, hsf, hB, hraw, htk⟩, ⟨v1, v2, v3, v4, v5⟩, ⟨l1, l2, l3, l4, l5, l6, l7, l8, l9⟩, ⟨w1, w2, w3, w4, w5, w6⟩⟩ := hV
  obtain ⟨m1, m2, m3, m4, m5, m6, m7⟩ := hM
  have hX := hS.2.2.2.2.2.2.2.2.2.2.2
  have hT := tU9 hX
  have hB8 := hS.1
  have hc : 10 * b + s < 80 := by omega
  obtain ⟨-, s1, s2, s3, s4⟩ := hS.2.2.2.2.2.2.1 b hb
  have hset := hS.2.2.2.2.2.1
  have hgo := goal9 (S := S) hs
  have hd := vT_d htk
  have hvN := vN_le (s := s) (P := P) hS hb
  have hvG : vG S s b P ≤ 80 := vG_le l1 l2 (by omega)
  obtain ⟨ends, hends⟩ : ∃ e : Bool, e = decide (¬ s < eFin S b) := ⟨_, rfl⟩
  have hE : (ends = true) ↔ ¬ s < eFin S b := by rw [hends]; exact decide_eq_true_iff
  -- the head
  show ∃ τ bef', X5_atStop_b22 (n + (9 - s + 1)) (X5_atStop_run (n + (9 - s + 1))) 44 (nI s) w (nI cnt) (lgI (P 15 0)) bef (nI k) σ = _ ∧ _
  have e22 : X5_atStop_b22 (n + (9 - s + 1)) (X5_atStop_run (n + (9 - s + 1))) 44 (nI s) w (nI cnt) (lgI (P 15 0)) bef (nI k) σ = X5_atStop_b68 (n + (9 - s + 1)) (X5_atStop_run (n + (9 - s + 1))) 44 (nI s) w (nI cnt) (lgI (P 15 0)) bef (nI k) (nI b) (nI (10 * b + s)) (if ends = true then 1 else 0) σ := by
    unfold X5_atStop_b22
    rw [if_neg (nI_ge hk (by omega)), gR_5_44_28 h, ob, aI_69 h (by omega), ob, hord, p10, ob]
    unfold X5_atStop_b63
    by_cases e : s < eFin S b
    · rw [if_neg (show ¬ nI s = 9 from fun q => by have := (nI_eq (b := 9) (by omega) (by decide)).mp q; omega), gR_5_44_6 h, ob, aI_50 h (by omega), ob, (hL.2.2.2.2.2 b hb).2.2, if_neg (fun q => by have := (nI_eq (by omega) (by omega)).mp q; omega), if_neg (fun q => hE.mp q e)]
    · rw [if_pos (hE.mpr e)]
      by_cases e9 : s = 9
      · rw [if_pos (by rw [e9]; rfl)]
      · rw [if_neg (show ¬ nI s = 9 from fun q => e9 ((nI_eq (b := 9) (by omega) (by decide)).mp q)), gR_5_44_6 h, ob, aI_50 h (by omega), ob, (hL.2.2.2.2.2 b hb).2.2, if_pos (by rw [show eFin S b = s by omega])]
  have hcome : σ.2.1 58 (10 * b + s) = nI (P 0 (10 * b + s)) := by rw [m1 b hb s (Nat.le_refl _), if_pos hsf]
  have e68 : X5_atStop_b68 (n + (9 - s + 1)) (X5_atStop_run (n + (9 - s + 1))) 44 (nI s) w (nI cnt) (lgI (P 15 0)) bef (nI k) (nI b) (nI (10 * b + s)) (if ends = true then 1 else 0) σ = X5_atStop_b109 (n + (9 - s + 1)) (X5_atStop_run (n + (9 - s + 1))) 44 (nI s) w (nI cnt) (lgI (P 15 0)) bef (nI k) (nI b) (nI (10 * b + s)) (if ends = true then 1 else 0) 58 (nI (10 * b + s)) (nI (vC S s b P)) σ := by
    have z3 : aI 51 3 σ = some (σ.2.1 51 3) := aI_51 (j := 3) h (by decide)
    have e102 : X5_atStop_b102 (n + (9 - s + 1)) (X5_atStop_run (n + (9 - s + 1))) 44 (nI s) w (nI cnt) (lgI (P 15 0)) bef (nI k) (nI b) (nI (10 * b + s)) (if ends = true then 1 else 0) 58 (nI (10 * b + s)) σ = X5_atStop_b109 (n + (9 - s + 1)) (X5_atStop_run (n + (9 - s + 1))) 44 (nI s) w (nI cnt) (lgI (P 15 0)) bef (nI k) (nI b) (nI (10 * b + s)) (if ends = true then 1 else 0) 58 (nI (10 * b + s)) (nI (P 0 (10 * b + s))) σ := by
      unfold X5_atStop_b102
      rw [gR_5_44_17 h, ob, aI_58 h hc, ob, hcome]
    unfold X5_atStop_b68
    rw [gR_5_44_17 h, ob, gR_5_44_7 h, ob, z3, ob, hL.2.2.2.2.1 3 (by decide)]
    by_cases e : eSet S 3 = 0
    · have eC : vC S s b P = max (P 0 (10 * b + s)) (P 14 0) := by unfold vC; rw [if_pos e]
      have hbc := BF_come hbf (C := P 0 (10 * b + s)) (by omega) (by omega)
      rw [if_pos ((nI_0' (by omega)).mpr e), ob, aI_58 h hc, ob, hcome, e102, eC, ← hbc]
      by_cases z : bef ≤ nI (P 0 (10 * b + s))
      · rw [if_pos z, if_pos z]
      · rw [if_neg z, if_neg z]
    · have eC : vC S s b P = P 0 (10 * b + s) := by unfold vC; rw [if_neg e]
      rw [if_neg (fun z => e ((nI_0' (by omega)).mp z)), e102, eC]
  rw [e22, e68]
  unfold X5_atStop_b109
  rw [xI_58 h hc, ob]
  have f1 : FM σ (sI σ 58 (10 * b + s) (nI (vC S s b P))) := FM.rf.wI (by decide) (by decide)
  have h1 := f1.hp h
  have q1 : ∀ q, q ≠ 58 → (sI σ 58 (10 * b + s) (nI (vC S s b P))).2.1 q = σ.2.1 q := fun q hq => rI_ne hq
  have hBi := (hB.2.2.1 hsf).1
  obtain ⟨σ2, o1, o2, o3, o4, o5, o6, o7, o8, o9⟩ := pm_getOff h1 (n := n + (9 - s + 1)) (C := vC S s b P) (rm := P 13 0) (sd := P 10 0) (wa := fun k => P 11 (10 * b + k)) (sc := fun k => P 12 (10 * b + k)) (ends := ends) (show b < 8 by omega) hs (by omega)
    (fun k k1 k2 => by
      rw [q1 64 (by decide), q1 65 (by decide)]
      refine ⟨(m4 _ (by omega)).1, (m4 _ (by omega)).2, ?_⟩
      exact Nat.le_trans (hBi k k1 k2).2 (Nat.mul_le_mul (Nat.le_refl _) l5))
    (by rw [rI, if_pos ⟨rfl, rfl⟩]) (by rw [q1 44 (by decide)]; exact m6) (by rw [q1 44 (by decide)]; exact m7)
  have hgone : (if ends = true then P 11 (10 * b + s) + dsum (fun k => P 11 (10 * b + k)) (9 - s) (s + 1) else P 11 (10 * b + s)) = vG S s b P := by
    unfold vG
    by_cases e : s < eFin S b
    · rw [if_pos e, if_neg (fun q => hE.mp q e)]; rfl
    · rw [if_neg e, if_pos (hE.mpr e), l1, l2]; rfl
  rw [ck_44 h1, ob, o1, ob, nI_1, ob]
  rw [hgone]
  have f2 := f1.tr o2
  have h2 := f2.hp h
  have hst := pm_stay h2 (s := s) (w := w) (cnt := nI cnt) (lat := lgI (P 15 0)) (bef := bef) (k := nI k) (ends := if ends = true then 1 else 0) (gone := nI (vG S s b P)) (b := b) (by omega) (f := fun j => if ends = true then 0 else P 11 (10 * b + j)) (9 - s) (s + 1) n 0 (by omega) (fun j j1 j2 => by
    rw [o8, q1 64 (by decide), (m4 _ (by omega)).1]
    by_cases e : ends = true
    · rw [if_pos (Or.inr ⟨e, by omega, by omega⟩)]
      simp only [e, if_true]
    · rw [if_neg (fun z => by rcases z with z | z; omega; exact e z.1)]
      simp only [e]
      rfl)
  have hstay : dsum (fun j => if ends = true then 0 else P 11 (10 * b + j)) (9 - s) (s + 1) = vS S s b P := by
    unfold vS
    by_cases e : s < eFin S b
    · rw [if_pos e, l1, l2, dsum_congr (g := fun j => P 11 (10 * b + j)) (fun j _ _ => by rw [if_neg (fun q => hE.mp q e)])]
      omega
    · rw [if_neg e]
      exact dsum_zero (fun j _ _ => by rw [if_pos (hE.mpr e)])
  rw [Nat.zero_add, hstay] at hst
  have hst' : X5_atStop_run (n + (9 - s + 1)) 129 44 (nI s) w (nI cnt) (lgI (P 15 0)) bef (nI k) (nI b) (nI (10 * b + s)) (if ends = true then 1 else 0) (nI (vG S s b P)) 0 (nI (s + 1)) σ2 = _ := hst
  show ∃ τ bef', X5_atStop_run (n + (9 - s + 1)) 129 44 (nI s) w (nI cnt) (lgI (P 15 0)) bef (nI k) (nI b) (nI (10 * b + s)) (if ends = true then 1 else 0) (nI (vG S s b P)) 0 (nI (s + 1)) σ2 = _ ∧ _
  rw [hst']
  show ∃ τ bef', X5_atStop_b129 n (X5_atStop_run n) 44 (nI s) w (nI cnt) (lgI (P 15 0)) bef (nI k) (nI b) (nI (10 * b + s)) (if ends = true then 1 else 0) (nI (vG S s b P)) (nI (vS S s b P)) (nI 10) σ2 = _ ∧ _
  unfold X5_atStop_b129
  have hvSs : vS S s b P ≤ eSeat S b := by
    unfold vS
    split
    · omega
    · omega
  rw [if_pos (show (10 : Int32) ≤ nI 10 by decide), gR_5_44_5 h2, ob, aI_49 h2 (by omega), ob, (((f2.line hL)).2.2.2.2.2 b hb).2.1, nsub hvSs, ck_44 h2, ob]
  obtain ⟨σ3, g1, g2, g3, g4, g5, g6, g7, g8, g9, g10, g11, g12, g13⟩ := pm_getOn hS h2 (f2.line hL) (b := b) (s := s) (n := n) (C := vC S s b P) (fr := eSeat S b - vS S s b P) (tk := P 6 s) (lo := P 8 s) (W := vT S s b P) (N := vN S s b P) hb hs hsf
    (by rw [o6 58 (by decide) (by decide) (by decide) (by decide), rI, if_pos ⟨rfl, rfl⟩]) (by rw [o5, q1 44 (by decide)]; exact h31) (fun z => by rw [o6 68 (by decide) (by decide) (by decide) (by decide), q1 68 (by decide)]; exact (m5 s z).2.2) (by omega) w1 (by omega) (by omega) hd rfl rfl
  rw [g1, ob]
  have f3 := f2.tr g2
  have h3 := f3.hp h
  rw [gR_5_44_21 h3, ob, nI_add, xI_62 h3 hc, ob]
  have f4 : FM σ (sI σ3 62 (10 * b + s) (nI (vS S s b P + vN S s b P))) := f3.wI (by decide) (by decide)
  have q62 : ∀ j, (sI σ3 62 (10 * b + s) (nI (vS S s b P + vN S s b P))).2.1 62 j = if j = 10 * b + s then nI (vS S s b P + vN S s b P) else σ.2.1 62 j := fun j => by
    rw [rI, g6 62 (by decide) (by decide) (by decide) (by decide) (by decide) (by decide) (by decide) (by decide), o6 62 (by decide) (by decide) (by decide) (by decide), q1 62 (by decide)]
    by_cases z : j = 10 * b + s
    · rw [if_pos ⟨rfl, z⟩, if_pos z]
    · rw [if_neg (fun q => z q.2), if_neg z]
  have q4 : ∀ q, q ≠ 62 → (sI σ3 62 (10 * b + s) (nI (vS S s b P + vN S s b P))).2.1 q = σ3.2.1 q := fun q hq => rI_ne hq
  have q58 : ∀ j, (sI σ3 62 (10 * b + s) (nI (vS S s b P + vN S s b P))).2.1 58 j = if j = 10 * b + s then nI (vC S s b P) else σ.2.1 58 j := fun j => by
    rw [q4 58 (by decide), g6 58 (by decide) (by decide) (by decide) (by decide) (by decide) (by decide) (by decide) (by decide), o6 58 (by decide) (by decide) (by decide) (by decide), rI]
    by_cases z : j = 10 * b + s
    · rw [if_pos ⟨rfl, z⟩, if_pos z]
    · rw [if_neg (fun q => z q.2), if_neg z]
  have q5969 : ∀ q, q = 59 ∨ q = 69 → (sI σ3 62 (10 * b + s) (nI (vS S s b P + vN S s b P))).2.1 q = σ.2.1 q := fun q hq => by
    rw [q4 q (by omega), g6 q (by omega) (by omega) (by omega) (by omega) (by omega) (by omega) (by omega) (by omega), o6 q (by omega) (by omega) (by omega) (by omega), q1 q (by omega)]
  generalize (sI σ3 62 (10 * b + s) (nI (vS S s b P + vN S s b P))) = σ4 at f4 q62 q4 q58 q5969 ⊢
  have h4 := f4.hp h
  have hL4 := f4.line hL
  have z0 : aI 51 0 σ4 = some (σ4.2.1 51 0) := aI_51 (j := 0) h4 (by decide)
  have z1 : aI 51 1 σ4 = some (σ4.2.1 51 1) := aI_51 (j := 1) h4 (by decide)
  have z2 : aI 51 2 σ4 = some (σ4.2.1 51 2) := aI_51 (j := 2) h4 (by decide)
  rw [gR_5_44_17 h4, ob, aI_58 h4 hc, ob, q58, if_pos rfl, nI_add]
  have hL0 : vC S s b P + vD S s b P ≤ vL S s b P := by
    unfold vL
    split
    · exact Nat.le_max_left _ _
    · exact Nat.le_refl _
  have hvF : vF S s b P ≤ tU X 9 := by
    unfold vF
    split
    · exact v1
    · rename_i e0
      have h1 := Bi_up hB (s - 1) (by omega)
      have h2 := l9 e0
      rw [show 10 * b + (s - 1) = 10 * b + s - 1 by omega] at h1
      omega
  have hF4 : σ4.2.1 58 (10 * b) = nI (vF S s b P) := by
    rw [q58]
    unfold vF
    by_cases e : s = 0
    · rw [if_pos (by omega), if_pos e]
    · rw [if_neg (by omega), if_neg e]
      have := m1 b hb 0 (by omega)
      rw [if_pos (Nat.zero_le _)] at this
      exact this
  -- the leaving
  obtain ⟨bef', t1, t2⟩ : ∃ bef', (if nI (vG S s b P + vN S s b P) ≤ 0 then X5_atStop_b236 n (X5_atStop_run n) 44 (nI s) w (nI cnt) (lgI (P 15 0)) bef (nI k) (nI b) (nI (10 * b + s)) (if ends = true then 1 else 0) (nI (vC S s b P)) 0 σ4 else (gR 5 44 7 σ4).bind fun q_62 => (aI q_62 0 σ4).bind fun v_63 => (gR 5 44 7 σ4).bind fun q_64 => (aI q_64 1 σ4).bind fun v_65 => (gR 5 44 7 σ4).bind fun q_66 => (aI q_66 2 σ4).bind fun v_67 => X5_atStop_b236 n (X5_atStop_run n) 44 (nI s) w (nI cnt) (lgI (P 15 0)) bef (nI k) (nI b) (nI (10 * b + s)) (if ends = true then 1 else 0) (nI (vC S s b P)) ((v_63 + (v_65 * nI (vN S s b P))) + (v_67 * nI (vG S s b P))) σ4) = X5_atStop_run n 22 44 (nI s) w (nI cnt) (lgI (sv S s b P 15 0)) bef' (nI (k + 1)) 0 0 0 0 0 0 (sI σ4 59 (10 * b + s) (nI (vL S s b P))) ∧ BF bef' (sv S s b P 14 0) := by
    have e236 : ∀ st : Nat, vC S s b P + st + eEx S b s = vC S s b P + vD S s b P → ∃ bef', X5_atStop_b236 n (X5_atStop_run n) 44 (nI s) w (nI cnt) (lgI (P 15 0)) bef (nI k) (nI b) (nI (10 * b + s)) (if ends = true then 1 else 0) (nI (vC S s b P)) (nI st) σ4 = X5_atStop_run n 22 44 (nI s) w (nI cnt) (lgI (sv S s b P 15 0)) bef' (nI (k + 1)) 0 0 0 0 0 0 (sI σ4 59 (10 * b + s) (nI (vL S s b P))) ∧ BF bef' (sv S s b P 14 0) := by
      intro st hst2
      have e255 : X5_atStop_b236 n (X5_atStop_run n) 44 (nI s) w (nI cnt) (lgI (P 15 0)) bef (nI k) (nI b) (nI (10 * b + s)) (if ends = true then 1 else 0) (nI (vC S s b P)) (nI st) σ4 = X5_atStop_b255 n (X5_atStop_run n) 44 (nI s) w (nI cnt) (lgI (P 15 0)) bef (nI k) (nI b) (nI (10 * b + s)) (if ends = true then 1 else 0) (nI (vC S s b P + st)) (nI (eEx S b s)) σ4 := by
        unfold X5_atStop_b236
        rw [nI_add]
        by_cases e9 : s = 9
        · rw [if_pos (show nI s = 9 by rw [e9]; rfl), show eEx S b s = 0 by rw [e9]; exact hS.2.2.2.2.2.2.2.2.2.1 b]
          rfl
        · rw [if_neg (show ¬ nI s = 9 from fun q => e9 ((nI_eq (b := 9) (by omega) (by decide)).mp q)), ck_44 h4, ob, hEx σ4 f4 n hn b hb s (by omega), ob]
      rw [e255]
      obtain ⟨bef', y1, y2⟩ := pm_tail h4 (f4.rule hR) (b := b) (s := s) (n := n) (F := vF S s b P) (L0 := vC S s b P + vD S s b P) (q := P 15 0) (la := P 14 0) (w := w) (cnt := nI cnt) (bef := bef) (k := k) (ends := ends) (K := X5_atStop_run n) (by omega) hs hF4 hbf (by omega) (by omega) (by omega) (by omega) hst2
      have eQ : (if eHow S s = 1 then vF S s b P + 10 * eBy S s else if eHow S s = 2 ∧ P 15 0 ≠ 0 then P 15 0 - 1 + eBy S s else 0) = vQ S s b P := rfl
      have eL : (if ends = true then vC S s b P + vD S s b P else max (vC S s b P + vD S s b P) (vQ S s b P)) = vL S s b P := by
        unfold vL
        by_cases e : s < eFin S b
        · rw [if_pos e, if_neg (fun q => hE.mp q e)]
        · rw [if_neg e, if_pos (hE.mpr e)]
      rw [eQ, eL] at y1 y2
      have e15 : (if ends = true then P 15 0 else max (P 15 0) (max (vC S s b P + vD S s b P) (vQ S s b P) + 1)) = sv S s b P 15 0 := by
        rw [sv_15]
        by_cases e : s < eFin S b
        · rw [if_pos e, if_neg (fun q => hE.mp q e), ← eL, if_neg (fun q => hE.mp q e)]
        · rw [if_neg e, if_pos (hE.mpr e)]
      rw [e15] at y1
      exact ⟨bef', y1, y2⟩
    by_cases e : vN S s b P = 0 ∧ vG S s b P = 0
    · rw [if_pos ((nI_le0 (by omega)).mpr (by omega))]
      refine e236 0 ?_
      unfold vD
      rw [if_pos e]
      omega
    · rw [if_neg (fun q => by have := (nI_le0 (by omega)).mp q; omega), gR_5_44_7 h4, ob, z0, ob, ob, z1, ob, ob, z2, ob, hL4.2.2.2.2.1 0 (by decide), hL4.2.2.2.2.1 1 (by decide), hL4.2.2.2.2.1 2 (by decide), pk_mul, pk_mul, nI_add, nI_add]
      refine e236 (eSet S 0 + eSet S 1 * vN S s b P + eSet S 2 * vG S s b P) ?_
      unfold vD
      rw [if_neg e]
      omega
  rw [t1]
  refine ⟨_, bef', rfl, f4.wI (by decide) (by decide), t2, ?_, ?_, ?_⟩
  · have qz : ∀ q, q ≠ 59 → (sI σ4 59 (10 * b + s) (nI (vL S s b P))).2.1 q = σ4.2.1 q := fun q hq => rI_ne hq
    refine ⟨fun a ha j hj => ?_, fun a ha j hj => ?_, fun a ha j hj hA => ?_, fun c hc2 => ?_, fun j hj => ?_, ?_, ?_⟩
    · rw [qz 58 (by decide), q58, sv_0]
      by_cases z : 10 * a + j = 10 * b + s
      · have e1 : a = b := by omega
        have e2 : j = s := by omega
        subst e1; subst e2
        rw [if_pos rfl, if_pos rfl, if_pos hsf]
      · rw [if_neg z, if_neg z]
        exact m1 a ha j hj
    · rw [rI, sv_1]
      by_cases z : 10 * a + j = 10 * b + s
      · have e1 : a = b := by omega
        have e2 : j = s := by omega
        subst e1; subst e2
        rw [if_pos ⟨rfl, rfl⟩, if_pos (Or.inr ⟨rfl, List.mem_append_right _ List.mem_cons_self⟩), if_pos rfl]
      · rw [if_neg (fun q => z q.2), if_neg z, q5969 59 (Or.inl rfl), m2 a ha j hj]
        have : ((j < s ∧ j ≤ eFin S a) ∨ (j = s ∧ a ∈ pre)) ↔ ((j < s ∧ j ≤ eFin S a) ∨ (j = s ∧ a ∈ pre ++ [b])) := by
          constructor
          · rintro (q | q)
            · exact Or.inl q
            · exact Or.inr ⟨q.1, List.mem_append_left _ q.2⟩
          · rintro (q | q)
            · exact Or.inl q
            · rcases List.mem_append.mp q.2 with q2 | q2
              · exact Or.inr ⟨q.1, q2⟩
              · rw [List.mem_singleton.mp q2, q.1] at z
                exact absurd rfl z
        by_cases y : (j < s ∧ j ≤ eFin S a) ∨ (j = s ∧ a ∈ pre)
        · rw [if_pos y, if_pos (this.mp y)]
        · rw [if_neg y, if_neg (fun q => y (this.mpr q))]
    · rw [qz 60 (by decide), qz 61 (by decide), qz 62 (by decide), qz 63 (by decide), q62, q4 60 (by decide), q4 61 (by decide), q4 63 (by decide), g7, g8, g6 61 (by decide) (by decide) (by decide) (by decide) (by decide) (by decide) (by decide) (by decide), o7, o6 60 (by decide) (by decide) (by decide) (by decide), o6 63 (by decide) (by decide) (by decide) (by decide), q1 60 (by decide), q1 61 (by decide), q1 63 (by decide), sv_2, sv_3, sv_4, sv_5]
      by_cases z : 10 * a + j = 10 * b + s
      · rw [if_pos z, if_pos z, if_pos z, if_pos z, if_pos z, if_pos z, if_pos z, if_pos z]
        exact ⟨rfl, rfl, rfl, rfl⟩
      · rw [if_neg z, if_neg z, if_neg z, if_neg z, if_neg z, if_neg z, if_neg z, if_neg z]
        refine m3 a ha j hj ?_
        rcases hA with q | q
        · exact Or.inl q
        · rcases List.mem_append.mp q.2 with q2 | q2
          · exact Or.inr ⟨q.1, q2⟩
          · rw [List.mem_singleton.mp q2, q.1] at z
            exact absurd rfl z
    · rw [qz 64 (by decide), qz 65 (by decide), q4 64 (by decide), q4 65 (by decide), g9, g10, o8, o9, q1 64 (by decide), q1 65 (by decide), (m4 c hc2).1, (m4 c hc2).2, sv_11, sv_12]
      have hcond : (c = 10 * b + s ∨ (ends = true ∧ 10 * b + s ≤ c ∧ c < 10 * b + 10)) ↔ (c = 10 * b + s ∨ (¬ s < eFin S b ∧ 10 * b + s ≤ c ∧ c < 10 * b + 10)) := by rw [hE]
      by_cases y1 : c = 10 * b + eGoal S s ∧ 0 < vN S s b P
      · have hsl : s < eFin S b := by
          rcases Nat.lt_or_ge s (eFin S b) with q | q
          · exact q
          · have : vN S s b P = 0 := by unfold vN; rw [if_neg (by omega)]
            omega
        have hg2 := goal_in hS (s := s) (by omega)
        have y2 : ¬ (c = 10 * b + s ∨ (ends = true ∧ 10 * b + s ≤ c ∧ c < 10 * b + 10)) := by
          rw [hcond]
          omega
        rw [if_pos y1, if_pos y1, if_pos y1, if_pos y1, if_neg y2, if_neg y2, nI_add, nI_add]
        exact ⟨rfl, rfl⟩
      · rw [if_neg y1, if_neg y1, if_neg y1, if_neg y1]
        by_cases y2 : c = 10 * b + s ∨ (ends = true ∧ 10 * b + s ≤ c ∧ c < 10 * b + 10)
        · rw [if_pos y2, if_pos y2, if_pos (hcond.mp y2), if_pos (hcond.mp y2)]
          exact ⟨rfl, rfl⟩
        · rw [if_neg y2, if_neg y2, if_neg (fun q => y2 (hcond.mpr q)), if_neg (fun q => y2 (hcond.mpr q))]
          exact ⟨rfl, rfl⟩
    · rw [qz 66 (by decide), qz 67 (by decide), qz 68 (by decide), q4 66 (by decide), q4 67 (by decide), q4 68 (by decide), g11, g12, g13, o6 66 (by decide) (by decide) (by decide) (by decide), o6 67 (by decide) (by decide) (by decide) (by decide), o6 68 (by decide) (by decide) (by decide) (by decide), q1 66 (by decide), q1 67 (by decide), q1 68 (by decide), (m5 j hj).1, (m5 j hj).2.1, (m5 j hj).2.2]
      by_cases y : j = s
      · subst y
        rw [sv_8s, sv_6, sv_7, if_pos rfl, if_pos rfl]
        by_cases z : 0 < vN S j b P
        · rw [if_pos ⟨rfl, z⟩, if_pos ⟨rfl, z⟩, if_pos ⟨rfl, z⟩, if_pos z, nI_add, nI_add]
          exact ⟨rfl, rfl, rfl⟩
        · have e0 : vN S j b P = 0 := by omega
          rw [if_neg (fun q => z q.2), if_neg (fun q => z q.2), if_neg (fun q => z q.2), if_neg z, e0]
          refine ⟨rfl, ?_, rfl⟩
          simp
      · rw [sv_6, sv_7, sv_8, if_neg y, if_neg y, if_neg (fun q => y q.1), if_neg (fun q => y q.1), if_neg (fun q => y q.1), if_neg (fun q => y q.1)]
        exact ⟨rfl, rfl, rfl⟩
    · rw [qz 44 (by decide), q4 44 (by decide), g3, o3, sv_13]
      by_cases e : s < eFin S b
      · rw [if_pos e, if_neg (fun q => hE.mp q e)]; rfl
      · rw [if_neg e, if_pos (hE.mpr e), l1]
        congr 2
        rw [l2, l3]
        rfl
    · rw [qz 44 (by decide), q4 44 (by decide), g4, o4, sv_10]
      by_cases e : s < eFin S b
      · rw [if_pos e, if_neg (fun q => hE.mp q e)]; rfl
      · rw [if_neg e, if_pos (hE.mpr e), l1]
        congr 1
        have : P 17 b - vO s b P = dsum (fun to => P 11 (10 * b + to)) (9 - s) (s + 1) := by omega
        rw [this]
  · rw [rI_ne (by decide), q4 44 (by decide), g5, sv_6, if_pos rfl]
  · rw [rI_ne (by decide), q5969 69 (Or.inr rfl)]
