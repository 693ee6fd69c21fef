theorem pm_visits {S : Se} {X : Nat} (hS : SeOk S X) {s : Nat} {w : Int32} (hs : s < 10) {r : List Nat} : ∀ (post pre : List Nat) (P : Ps) (σ : Sg) (n : Nat) (bef : Int32), r.reverse = pre ++ post → Hp σ → MLine σ S → MRule σ S → MEx σ S w → Sti S X s P pre post → 20 + 12 * (post.length + 1) ≤ n → Arr (σ.2.1 69) r → BF bef (P 14 0) → MRel S s σ P pre → σ.2.1 44 31 = nI (P 6 s) →
    ∃ τ, X5_atStop_run n 22 44 (nI s) w (nI (pre ++ post).length) (lgI (P 15 0)) bef (nI pre.length) 0 0 0 0 0 0 σ = some τ ∧ FM σ τ ∧ MRel S s τ (svs S s post P) (pre ++ post) := by
  intro post
  induction post with
  | nil =>
    intro pre P σ n bef hr h hL hR hE hI hn hA hbf hM h31
    obtain ⟨n, rfl⟩ : ∃ q, n = q + 1 := ⟨n - 1, by omega⟩
    rw [List.append_nil]
    have hl : pre.length ≤ 8 := by
      refine len_nodup (by have := hI.2.1.1; rw [List.append_nil] at this; exact this) (fun z hz => ?_)
      have := (hI.2.1.2 z (List.mem_append_left _ hz)).1
      have := hS.1
      omega
    show ∃ τ, X5_atStop_b22 n _ 44 (nI s) w _ _ _ _ σ = _ ∧ _
    unfold X5_atStop_b22
    rw [if_pos (nI_le (Nat.le_refl _) (by omega))]
    exact ⟨σ, rfl, FM.rf, hM⟩
  | cons b post ih =>
    intro pre P σ n bef hr h hL hR hE hI hn hA hbf hM h31
    rw [List.length_cons] at hn
    obtain ⟨n, rfl⟩ : ∃ q, n = q + (9 - s + 1) + 1 := ⟨n - (9 - s + 1) - 1, by omega⟩
    have hl : (pre ++ b :: post).length ≤ 8 := by
      refine len_nodup hI.2.1.1 (fun z hz => ?_)
      have := (hI.2.1.2 z hz).1
      have := hS.1
      omega
    have hll : (pre ++ b :: post).length = pre.length + (post.length + 1) := by rw [List.length_append, List.length_cons]
    have hbp := (nodup_mid hI.2.1.1).1
    obtain ⟨τ, bef', t1, t2, t3, t4, t5, t6⟩ := pm_visit hS h hL hR hE (n := n) (k := pre.length) (cnt := (pre ++ b :: post).length) hs (Sti_vis hS hs hI).1 (by omega) hM h31 (Arr_at hA hr) (by omega) hl hbf hbp
    rw [t1]
    have e1 : pre ++ b :: post = (pre ++ [b]) ++ post := by simp
    have e2 : pre.length + 1 = (pre ++ [b]).length := by simp
    rw [e1, e2]
    obtain ⟨ρ, r1, r2, r3⟩ := ih (pre ++ [b]) (sv S s b P) τ n bef' (hr.trans e1) (t2.hp h) (t2.line hL) (t2.rule hR) (hE.fm t2) (Sti_step hS hs hI) (by omega) (by rw [t6]; exact hA) t3 t4 t5
    exact ⟨ρ, r1, t2.tr r2, r3⟩
/-- the model between two stops -/
def MRb (S : Se) (s : Nat) (σ : Sg) (P : Ps) : Prop :=
  (∀ b, b < eB S → ∀ k, k < s → σ.2.1 58 (10 * b + k) = if k ≤ eFin S b then nI (P 0 (10 * b + k)) else (-6)) ∧
  (∀ b, b < eB S → ∀ k, k < 10 → σ.2.1 59 (10 * b + k) = if k < s ∧ k ≤ eFin S b then nI (P 1 (10 * b + k)) else (-6)) ∧
  (∀ b, b < eB S → ∀ k, k < 10 → (k < s ∧ k ≤ eFin S b) → σ.2.1 60 (10 * b + k) = nI (P 2 (10 * b + k)) ∧ σ.2.1 61 (10 * b + k) = nI (P 3 (10 * b + k)) ∧ σ.2.1 62 (10 * b + k) = nI (P 4 (10 * b + k)) ∧ σ.2.1 63 (10 * b + k) = nI (P 5 (10 * b + k))) ∧
  (∀ c, c < 80 → σ.2.1 64 c = nI (P 11 c) ∧ σ.2.1 65 c = nI (P 12 c)) ∧
  (∀ k, k < 9 → σ.2.1 66 k = nI (P 6 k) ∧ σ.2.1 67 k = nI (P 7 k) ∧ σ.2.1 68 k = nI (P 8 k)) ∧
  (σ.2.1 44 29 = nI (P 13 0) ∧ σ.2.1 44 30 = nI (P 10 0))
set_option maxHeartbeats 4000000 in
theorem pm_atStop {S : Se} {X : Nat} (hS : SeOk S X) {s n : Nat} {w : Int32} (hs : s < 10) (hn : 150 ≤ n) {P : Ps} (hB : Bd S X s P) {σ : Sg} (h : Hp σ) (hL : MLine σ S) (hR : MRule σ S) (hE : MEx σ S w) (hC : MRb S s σ P) :
    ∃ τ, f_X5_atStop n 44 (nI s) w σ = some τ ∧ FM σ τ ∧ MRb S (s + 1) τ (stp S s P) := by
  have hB8 := hS.1
  have hT := tU9 hS.2.2.2.2.2.2.2.2.2.2.2
  have hI := Sti_start hS hs hB
  obtain ⟨c1, c2, c3, c4, c5, c6, c7⟩ := hC
  have hbd : ∀ b, b < eB S → s ≤ eFin S b → comeT s (sr S s P) b < 2 ^ 31 := by
    intro b hb hbs
    have hV := hI.2.2.1 b (ordC_mem.mpr ⟨hb, hbs⟩)
    have hgp : gp S s [] b = s := by unfold gp; rw [if_neg List.not_mem_nil]; omega
    have := raw_le hS hb hs (fun e => hI.1.2 b hb (s - 1) (by rw [hgp]; omega)) hV
    have h3 : tA X s ≤ tU X 9 := by
      have := tU_eq X s
      have := tU_mono (X := X) (show s ≤ 9 by omega)
      omega
    show sr S s P 0 (10 * b + s) < 2 ^ 31
    omega
  obtain ⟨τ, q1, q2, q3, q4⟩ := pm_lo hS hs (P := P) h hL (fun e b hb => by
      have := c1 b hb (s - 1) (by omega)
      rw [show 10 * b + (s - 1) = 10 * b + s - 1 by omega] at this
      refine ⟨fun z => ?_, fun z => by rw [this, if_neg z]⟩
      refine ⟨P 0 (10 * b + s - 1), ?_, by rw [this, if_pos z]⟩
      have h1 := hB.1.2 b hb (s - 1) (by omega)
      have h2 := ((hB.1.1 b hb).1 (s - 1) (by omega)).1
      have h3 := tU_mono (X := X) (show s - 1 ≤ 9 by omega)
      rw [show 10 * b + s - 1 = 10 * b + (s - 1) by omega]
      omega) (fun b hb hbs e => by
      have := c2 b hb (s - 1) (by omega)
      rw [if_pos ⟨by omega, by omega⟩, show 10 * b + (s - 1) = 10 * b + s - 1 by omega] at this
      exact this) hbd (eB S) 0 n σ (by omega) (by omega) ⟨rfl, rfl, rfl, fun _ _ _ => rfl, fun _ _ => rfl⟩ (fun b hb => by omega) (by rw [rowM_0]; trivial)
  rw [rowM_0] at q1
  have q1' : f_X5_layOrder n 44 (nI s) σ = some (nI (rowM S s P (eB S)).length, τ) := q1
  unfold f_X5_atStop X5_atStop_b0
  rw [ck_44 h, ob, q1', ob]
  have erow : rowM S s P (eB S) = rowR (comeT s (sr S s P)) (comeW S s) (eB S) := by
    unfold rowM
    by_cases e : eSet S 3 = 1
    · rw [if_pos e]
    · have := hS.2.2.2.2.2.1
      rw [if_neg e, ordC_n hS hs hB (by omega)]
  rw [erow] at q4 ⊢
  have h2 := q2.fm.hp h
  rw [pI_5_44_31 h2, ob]
  have f3 : FM σ (sI τ 44 31 0) := q2.fm.wF (Or.inr (Or.inr rfl))
  have hlen : (rowR (comeT s (sr S s P)) (comeW S s) (eB S)).length = ([] ++ ordC S s P).length := by
    unfold ordC
    rw [List.nil_append, List.length_reverse]
  have hlB := rowR_len (t := comeT s (sr S s P)) (w := comeW S s) (eB S)
  have hol : (ordC S s P).length ≤ 8 := by
    have : (ordC S s P).length = (rowR (comeT s (sr S s P)) (comeW S s) (eB S)).length := by rw [hlen, List.nil_append]
    omega
  have same : ∀ q, q ≠ 44 → q ≠ 58 → q ≠ 69 → (sI τ 44 31 0).2.1 q = σ.2.1 q := fun q z1 z2 z3 => by rw [rI_ne z1, q2.2.2.2.1 q z2 z3]
  have hM : MRel S s (sI τ 44 31 0) (sr S s P) [] := by
    refine ⟨fun b hb k hk => ?_, fun b hb k hk => ?_, fun b hb k hk hA => ?_, fun c hc => ?_, fun k hk => ?_, ?_, ?_⟩
    · rw [rI_ne (by decide), sr_0 (by omega)]
      by_cases e : k = s
      · subst e
        rw [q3 b hb]
        by_cases e2 : k ≤ eFin S b
        · rw [if_pos e2, if_pos e2]
          unfold comeT
          rw [sr_0 hs]
        · rw [if_neg e2, if_neg e2]
      · rw [q2.2.2.2.2 _ (by omega), c1 b hb k (by omega)]
        have : ¬ (k = s ∧ b < eB S ∧ s ≤ eFin S b) := fun z => e z.1
        rw [if_neg this]
    · rw [same 59 (by decide) (by decide) (by decide), c2 b hb k hk]
      by_cases e : k < s ∧ k ≤ eFin S b
      · rw [if_pos e, if_pos (Or.inl e)]; rfl
      · rw [if_neg e, if_neg (fun z => by rcases z with z | z; exact e z; exact absurd z.2 List.not_mem_nil)]
    · rw [same 60 (by decide) (by decide) (by decide), same 61 (by decide) (by decide) (by decide), same 62 (by decide) (by decide) (by decide), same 63 (by decide) (by decide) (by decide)]
      refine c3 b hb k hk ?_
      rcases hA with z | z
      · exact z
      · exact absurd z.2 List.not_mem_nil
    · rw [same 64 (by decide) (by decide) (by decide), same 65 (by decide) (by decide) (by decide)]
      exact c4 c hc
    · rw [same 66 (by decide) (by decide) (by decide), same 67 (by decide) (by decide) (by decide), same 68 (by decide) (by decide) (by decide)]
      exact c5 k hk
    · rw [rI, if_neg (by omega), q2.2.2.2.1 44 (by decide) (by decide)]
      exact c6
    · rw [rI, if_neg (by omega), q2.2.2.2.1 44 (by decide) (by decide)]
      exact c7
  obtain ⟨ρ, r1, r2, r3⟩ := pm_visits hS hs (w := w) (r := rowR (comeT s (sr S s P)) (comeW S s) (eB S)) (ordC S s P) [] (sr S s P) (sI τ 44 31 0) n (-6) rfl (f3.hp h) (f3.line hL) (f3.rule hR) (hE.fm f3) hI (by omega) (by rw [rI_ne (by decide)]; exact q4) (Or.inl ⟨rfl, rfl⟩) hM (by
    rw [rI, if_pos ⟨rfl, rfl⟩]
    have : sr S s P 6 s = 0 := (hB.2.2.2.2 s (Nat.le_refl _)).1
    rw [this]; rfl)
  have r1' : X5_atStop_run n 22 44 (nI s) w (nI (rowR (comeT s (sr S s P)) (comeW S s) (eB S)).length) (-6) (-6) 0 0 0 0 0 0 0 (sI τ 44 31 0) = some ρ := by rw [hlen]; exact r1
  refine ⟨ρ, r1', f3.tr r2, ?_⟩
  obtain ⟨m1, m2, m3, m4, m5, m6, m7⟩ := r3
  have hiff : ∀ b, b < eB S → ∀ k, (((k < s ∧ k ≤ eFin S b) ∨ (k = s ∧ b ∈ [] ++ ordC S s P)) ↔ (k < s + 1 ∧ k ≤ eFin S b)) := by
    intro b hb k
    rw [List.nil_append, ordC_mem]
    constructor
    · rintro (z | z)
      · exact ⟨by omega, z.2⟩
      · exact ⟨by omega, by omega⟩
    · intro z
      by_cases e : k = s
      · exact Or.inr ⟨e, hb, by omega⟩
      · exact Or.inl ⟨by omega, z.2⟩
  refine ⟨fun b hb k hk => m1 b hb k (by omega), fun b hb k hk => ?_, fun b hb k hk hA => m3 b hb k hk ((hiff b hb k).mpr hA), m4, m5, m6, m7⟩
  rw [m2 b hb k hk]
  by_cases e : k < s + 1 ∧ k ≤ eFin S b
  · rw [if_pos e, if_pos ((hiff b hb k).mpr e)]; rfl
  · rw [if_neg e, if_neg (fun z => e ((hiff b hb k).mp z))]
theorem pm_stops {S : Se} {X : Nat} (hS : SeOk S X) {w : Int32} : ∀ (m s n : Nat) (σ : Sg), s + m = 10 → 150 + m < n → Hp σ → MLine σ S → MRule σ S → MEx σ S w → MRb S s σ (ply S s) →
    ∃ τ, X5_lay_run n 91 44 w (nI s) σ = some τ ∧ FM σ τ ∧ MRb S 10 τ (ply S 10) := by
  intro m
  induction m with
  | zero =>
    intro s n σ hs hn h hL hR hE hC
    obtain ⟨n, rfl⟩ : ∃ q, n = q + 1 := ⟨n - 1, by omega⟩
    have e : s = 10 := by omega
    subst e
    show ∃ τ, X5_lay_b91 n (X5_lay_run n) 44 w (nI 10) σ = _ ∧ _
    unfold X5_lay_b91
    rw [if_pos (show (10 : Int32) ≤ nI 10 by decide)]
    exact ⟨σ, rfl, FM.rf, hC⟩
  | succ m ih =>
    intro s n σ hs hn h hL hR hE hC
    obtain ⟨n, rfl⟩ : ∃ q, n = q + 1 := ⟨n - 1, by omega⟩
    show ∃ τ, X5_lay_b91 n _ 44 w _ σ = _ ∧ _
    unfold X5_lay_b91
    obtain ⟨τ, q1, q2, q3⟩ := pm_atStop hS (s := s) (n := n) (by omega) (by omega) (Bd_ply hS s (by omega)) h hL hR hE hC
    rw [if_neg (show ¬ (10 : Int32) ≤ nI s from nI_ge (b := 10) (by omega) (by decide)), ck_44 h, ob, q1, ob, nI_1, ob]
    obtain ⟨ρ, r1, r2, r3⟩ := ih (s + 1) n τ (by omega) (by omega) (q2.hp h) (q2.line hL) (q2.rule hR) (hE.fm q2) q3
    exact ⟨ρ, r1, q2.tr r2, r3⟩
theorem pm_lay12 {w : Int32} : ∀ (m i n : Nat) (σ : Sg), i + m = 80 → Hp σ → (∀ c, c < i → σ.2.1 58 c = (-6) ∧ σ.2.1 59 c = (-6) ∧ σ.2.1 64 c = 0 ∧ σ.2.1 65 c = 0) →
    ∃ τ, X5_lay_run (n + m + 1) 12 44 w (nI i) σ = X5_lay_run n 56 44 w 0 τ ∧ FM σ τ ∧ τ.2.1 44 = σ.2.1 44 ∧ (∀ c, c < 80 → τ.2.1 58 c = (-6) ∧ τ.2.1 59 c = (-6) ∧ τ.2.1 64 c = 0 ∧ τ.2.1 65 c = 0) := by
  intro m
  induction m with
  | zero =>
    intro i n σ hi h hc
    have e : i = 80 := by omega
    subst e
    show ∃ τ, X5_lay_b12 n (X5_lay_run n) 44 w (nI 80) σ = _ ∧ _
    unfold X5_lay_b12
    rw [if_pos (show (80 : Int32) ≤ nI 80 by decide)]
    exact ⟨σ, rfl, FM.rf, rfl, hc⟩
  | succ m ih =>
    intro i n σ hi h hc
    show ∃ τ, X5_lay_b12 (n + m + 1) (X5_lay_run (n + m + 1)) 44 w _ σ = _ ∧ _
    unfold X5_lay_b12
    have i80 : i < 80 := by omega
    rw [if_neg (show ¬ (80 : Int32) ≤ nI i from nI_ge (b := 80) (by omega) (by decide)), gR_5_44_17 h, ob, xI_58 h i80, ob]
    have h1 : Hp (sI σ 58 i (-6)) := h
    rw [gR_5_44_18 h1, ob, xI_59 h1 i80, ob]
    have h2 : Hp (sI (sI σ 58 i (-6)) 59 i (-6)) := h
    rw [gR_5_44_23 h2, ob, xI_64 h2 i80, ob]
    have h3 : Hp (sI (sI (sI σ 58 i (-6)) 59 i (-6)) 64 i 0) := h
    rw [gR_5_44_24 h3, ob, xI_65 h3 i80, ob, nI_1, ob]
    have f : FM σ (sI (sI (sI (sI σ 58 i (-6)) 59 i (-6)) 64 i 0) 65 i 0) := (((FM.rf.wI (by decide) (by decide)).wI (by decide) (by decide)).wI (by decide) (by decide)).wI (by decide) (by decide)
    obtain ⟨τ, t1, t2, t3, t4⟩ := ih (i + 1) n (sI (sI (sI (sI σ 58 i (-6)) 59 i (-6)) 64 i 0) 65 i 0) (by omega) h (fun c hc2 => by
      simp only [rI]
      by_cases e : c = i
      · subst e
        simp
      · have := hc c (by omega)
        simp [e, this])
    refine ⟨τ, t1, f.tr t2, ?_, t4⟩
    rw [t3, rI_ne (by decide), rI_ne (by decide), rI_ne (by decide), rI_ne (by decide)]
theorem pm_lay56 {w : Int32} : ∀ (m i n : Nat) (σ : Sg), i + m = 9 → Hp σ → (∀ c, c < i → σ.2.1 66 c = 0 ∧ σ.2.1 67 c = 0 ∧ σ.2.1 68 c = 0) →
    ∃ τ, X5_lay_run (n + m + 1) 56 44 w (nI i) σ = X5_lay_run n 91 44 w 0 τ ∧ FM σ τ ∧ (∀ q, q ≠ 66 → q ≠ 67 → q ≠ 68 → τ.2.1 q = σ.2.1 q) ∧ (∀ c, c < 9 → τ.2.1 66 c = 0 ∧ τ.2.1 67 c = 0 ∧ τ.2.1 68 c = 0) := by
  intro m
  induction m with
  | zero =>
    intro i n σ hi h hc
    have e : i = 9 := by omega
    subst e
    show ∃ τ, X5_lay_b56 n (X5_lay_run n) 44 w (nI 9) σ = _ ∧ _
    unfold X5_lay_b56
    rw [if_pos (show (9 : Int32) ≤ nI 9 by decide)]
    exact ⟨σ, rfl, FM.rf, fun _ _ _ _ => rfl, hc⟩
  | succ m ih =>
    intro i n σ hi h hc
    show ∃ τ, X5_lay_b56 (n + m + 1) (X5_lay_run (n + m + 1)) 44 w _ σ = _ ∧ _
    unfold X5_lay_b56
    have i9 : i < 9 := by omega
    rw [if_neg (show ¬ (9 : Int32) ≤ nI i from nI_ge (b := 9) (by omega) (by decide)), gR_5_44_25 h, ob, xI_66 h i9, ob]
    have h1 : Hp (sI σ 66 i 0) := h
    rw [gR_5_44_26 h1, ob, xI_67 h1 i9, ob]
    have h2 : Hp (sI (sI σ 66 i 0) 67 i 0) := h
    rw [gR_5_44_27 h2, ob, xI_68 h2 i9, ob, nI_1, ob]
    have f : FM σ (sI (sI (sI σ 66 i 0) 67 i 0) 68 i 0) := ((FM.rf.wI (by decide) (by decide)).wI (by decide) (by decide)).wI (by decide) (by decide)
    obtain ⟨τ, t1, t2, t3, t4⟩ := ih (i + 1) n (sI (sI (sI σ 66 i 0) 67 i 0) 68 i 0) (by omega) h (fun c hc2 => by
      simp only [rI]
      by_cases e : c = i
      · subst e
        simp
      · have := hc c (by omega)
        simp [e, this])
    refine ⟨τ, t1, f.tr t2, fun q z1 z2 z3 => ?_, t4⟩
    rw [t3 q z1 z2 z3, rI_ne z3, rI_ne z2, rI_ne z1]
/-- the model when all has been played -/
def MFin (S : Se) (σ : Sg) : Prop :=
  (∀ b, b < eB S → ∀ k, k < 10 → σ.2.1 58 (10 * b + k) = (if k ≤ eFin S b then nI (ply S 10 0 (10 * b + k)) else (-6)) ∧ σ.2.1 59 (10 * b + k) = (if k ≤ eFin S b then nI (ply S 10 1 (10 * b + k)) else (-6)) ∧
    (k ≤ eFin S b → σ.2.1 60 (10 * b + k) = nI (ply S 10 2 (10 * b + k)) ∧ σ.2.1 61 (10 * b + k) = nI (ply S 10 3 (10 * b + k)) ∧ σ.2.1 62 (10 * b + k) = nI (ply S 10 4 (10 * b + k)) ∧ σ.2.1 63 (10 * b + k) = nI (ply S 10 5 (10 * b + k)))) ∧
  (∀ k, k < 9 → σ.2.1 66 k = nI (ply S 10 6 k) ∧ σ.2.1 67 k = nI (ply S 10 7 k) ∧ σ.2.1 68 k = nI (ply S 10 8 k)) ∧
  (σ.2.1 44 29 = nI (ply S 10 9 0) ∧ σ.2.1 44 30 = nI (ply S 10 10 0))
theorem rode_eq {S : Se} {X : Nat} (hS : SeOk S X) : ply S 10 13 0 = ply S 10 9 0 := by
  have hB := Bd_ply hS 10 (Nat.le_refl _)
  have hz : ∀ b, ply S 10 17 b = 0 ∧ ply S 10 18 b = 0 := by
    intro b
    by_cases e : b < eB S
    · have hf := (hS.2.2.2.2.2.2.1 b e).2.2.2.2
      exact (hB.1.1 b e).2.2.2.2.2 (by omega)
    · exact (hB.2.2.1.2.2.1 b e).2
  have e1 : fb_sm (ply S 10 18) 8 = 0 := (fb_sm_cong (g := fun _ => 0) (n := 8) (fun k _ => (hz k).2)).trans (fb_sm_const 0 8)
  have e2 : fb_sm (fun b => ply S 10 17 b * ply S 10 16 b) 8 = 0 := (fb_sm_cong (g := fun _ => 0) (n := 8) (fun k _ => by show ply S 10 17 k * _ = 0; rw [(hz k).1, Nat.zero_mul])).trans (fb_sm_const 0 8)
  have := hB.2.2.1.1
  rw [e1, e2] at this
  omega
/-- A WHOLE PLAY of the model is the specification's -/
theorem pm_lay {S : Se} {X : Nat} (hS : SeOk S X) {n : Nat} {w : Int32} (hn : 400 ≤ n) {σ : Sg} (h : Hp σ) (hL : MLine σ S) (hR : MRule σ S) (hE : MEx σ S w) :
    ∃ τ, f_X5_lay n 44 w σ = some τ ∧ FM σ τ ∧ MFin S τ := by
  obtain ⟨n, rfl⟩ : ∃ q, n = ((q + 9 + 1) + 80) + 1 := ⟨n - 91, by omega⟩
  unfold f_X5_lay X5_lay_b0
  rw [pI_5_44_29 h, ob]
  have f1 : FM σ (sI σ 44 29 0) := FM.rf.wF (Or.inl rfl)
  rw [pI_5_44_30 (f1.hp h), ob]
  have f2 : FM σ (sI (sI σ 44 29 0) 44 30 0) := f1.wF (Or.inr (Or.inl rfl))
  obtain ⟨τ, t1, t2, t3, t4⟩ := pm_lay12 (w := w) 80 0 (n + 9 + 1) (sI (sI σ 44 29 0) 44 30 0) rfl (f2.hp h) (fun c hc => by omega)
  have t1' : X5_lay_run (((n + 9 + 1) + 80) + 1) 12 44 w 0 (sI (sI σ 44 29 0) 44 30 0) = X5_lay_run (n + 9 + 1) 56 44 w 0 τ := t1
  rw [t1']
  have f3 := f2.tr t2
  obtain ⟨ρ, r1, r2, r3, r4⟩ := pm_lay56 (w := w) 9 0 n τ rfl (f3.hp h) (fun c hc => by omega)
  have r1' : X5_lay_run (n + 9 + 1) 56 44 w 0 τ = X5_lay_run n 91 44 w 0 ρ := r1
  rw [r1']
  have f4 := f3.tr r2
  have hM : MRb S 0 ρ (ply S 0) := by
    have hB8 := hS.1
    refine ⟨fun b hb k hk => by omega, fun b hb k hk => ?_, fun b hb k hk hA => by omega, fun c hc => ?_, fun k hk => ?_, ?_, ?_⟩
    · rw [if_neg (by omega), r3 59 (by decide) (by decide) (by decide)]
      exact (t4 _ (by omega)).2.1
    · rw [r3 64 (by decide) (by decide) (by decide), r3 65 (by decide) (by decide) (by decide)]
      exact ⟨(t4 c hc).2.2.1, (t4 c hc).2.2.2⟩
    · exact r4 k hk
    · rw [r3 44 (by decide) (by decide) (by decide), t3, rI, if_neg (by omega), rI, if_pos ⟨rfl, rfl⟩]; rfl
    · rw [r3 44 (by decide) (by decide) (by decide), t3, rI, if_pos ⟨rfl, rfl⟩]; rfl
  obtain ⟨υ, u1, u2, u3⟩ := pm_stops hS 10 0 n ρ rfl (by omega) (f4.hp h) (f4.line hL) (f4.rule hR) (hE.fm f4) hM
  refine ⟨υ, u1, f4.tr u2, ?_⟩
  obtain ⟨m1, m2, m3, m4, m5, m6, m7⟩ := u3
  refine ⟨fun b hb k hk => ⟨m1 b hb k hk, ?_, fun e => m3 b hb k hk ⟨hk, e⟩⟩, m5, ?_, m7⟩
  · rw [m2 b hb k hk]
    by_cases e : k ≤ eFin S b
    · rw [if_pos e, if_pos ⟨hk, e⟩]
    · rw [if_neg e, if_neg (fun z => e z.2)]
  · rw [m6, rode_eq hS]
