def Oc (x s : Nat) (σ τ : Sg) : Prop := τ.1 = σ.1 ∧ τ.2.2.2 = σ.2.2.2 ∧ τ.2.2.1 = σ.2.2.1 ∧ (∀ q, q ≠ x + 1 → q ≠ x + 11 → τ.2.1 q = σ.2.1 q) ∧ (∀ c, c % 10 ≠ s → τ.2.1 (x + 1) c = σ.2.1 (x + 1) c)
theorem Oc.fc {x s : Nat} {σ τ : Sg} (h : Oc x s σ τ) : FC x σ τ := ⟨h.1, h.2.1, fun k hk => h.2.2.2.1 k (by omega) (by omega), fun k hk => by rw [h.2.2.1]⟩
set_option maxHeartbeats 4000000 in
theorem pc_oc {S : Se} {X : Nat} (hS : SeOk S X) {x s : Nat} (hx : Cr x) (hs : s < 10) {P : Ps} {σ0 : Sg} (h0 : Hp σ0) (hL : CLine σ0 S) (hle : ∀ b, b < eB S → s ≤ eFin S b → s ≠ 0 → σ0.2.1 (x + 2) (10 * b + s - 1) = nI (P 1 (10 * b + s - 1))) (hbd : ∀ b, b < eB S → s ≤ eFin S b → comeT s (sr S s P) b < 2 ^ 31) :
    ∀ (m k n : Nat) (σ : Sg), k + m = eB S → 20 + m ≤ n → Oc x s σ0 σ → (∀ b, b < k → comeW S s b = true → σ.2.1 (x + 1) (10 * b + s) = nI (comeT s (sr S s P) b)) → Arr (σ.2.1 (x + 11)) (rowR (comeT s (sr S s P)) (comeW S s) k) →
    ∃ τ, X0_orderComing_run n x 1 (nI s) (nI (rowR (comeT s (sr S s P)) (comeW S s) k).length) (nI k) σ = some (nI (rowR (comeT s (sr S s P)) (comeW S s) (eB S)).length, τ) ∧ Oc x s σ0 τ ∧ (∀ b, b < eB S → comeW S s b = true → τ.2.1 (x + 1) (10 * b + s) = nI (comeT s (sr S s P) b)) ∧ Arr (τ.2.1 (x + 11)) (rowR (comeT s (sr S s P)) (comeW S s) (eB S)) := by
  intro m
  have hB8 := hS.1
  induction m with
  | zero =>
    intro k n σ hk hn hO hc hA
    obtain ⟨n, rfl⟩ : ∃ q, n = q + 1 := ⟨n - 1, by omega⟩
    have e : k = eB S := by omega
    subst e
    have h := hO.fc.hp h0
    have hL2 := hO.fc.line hx hL
    show ∃ τ, X0_orderComing_b5 n _ x 1 (nI s) _ (nI (eB S)) σ = _ ∧ _
    unfold X0_orderComing_b5
    rw [gI_1_1_7 h, ob, hL2.1, if_pos (nI_le (Nat.le_refl _) (by omega))]
    exact ⟨σ, rfl, hO, hc, hA⟩
  | succ m ih =>
    intro k n σ hk hn hO hc hA
    obtain ⟨n, rfl⟩ : ∃ q, n = q + 1 := ⟨n - 1, by omega⟩
    have h := hO.fc.hp h0
    have hL2 := hO.fc.line hx hL
    have hkB : k < eB S := by omega
    have hlen := rowR_len (t := comeT s (sr S s P)) (w := comeW S s) k
    show ∃ τ, X0_orderComing_b5 n _ x 1 (nI s) _ (nI k) σ = _ ∧ _
    unfold X0_orderComing_b5
    rw [gI_1_1_7 h, ob, hL2.1, if_neg (nI_ge hkB (by omega)), ck_1 h, ob, pc_comes hS h hL2 hkB hs, ob]
    by_cases e : s ≤ eFin S k
    · have hw : comeW S s k = true := decide_eq_true e
      have hT : comeT s (sr S s P) k = if s = 0 then eBeg S k else P 1 (10 * k + s - 1) + eRide S (s - 1) := by
        unfold comeT
        have c1 : s = s ∧ k < eB S ∧ s ≤ eFin S k := ⟨rfl, hkB, e⟩
        rw [sr_0 hs, if_pos c1]
      rw [if_pos e, if_neg (show ¬ (1 : Int32) = 0 by decide), pc_cell, ob, gRc_0 h hx, ob]
      have key : X0_orderComing_b70 n (X0_orderComing_run n) x 1 (nI s) (nI (rowR (comeT s (sr S s P)) (comeW S s) k).length) (nI k) (x + 1) (nI (10 * k + s)) (nI (comeT s (sr S s P) k)) σ = X0_orderComing_b70 n (X0_orderComing_run n) x 1 (nI s) (nI (rowR (comeT s (sr S s P)) (comeW S s) k).length) (nI k) (x + 1) (nI (10 * k + s)) (nI (comeT s (sr S s P) k)) σ := rfl
      have go : ∃ τ, X0_orderComing_b70 n (X0_orderComing_run n) x 1 (nI s) (nI (rowR (comeT s (sr S s P)) (comeW S s) k).length) (nI k) (x + 1) (nI (10 * k + s)) (nI (comeT s (sr S s P) k)) σ = some (nI (rowR (comeT s (sr S s P)) (comeW S s) (eB S)).length, τ) ∧ Oc x s σ0 τ ∧ (∀ b, b < eB S → comeW S s b = true → τ.2.1 (x + 1) (10 * b + s) = nI (comeT s (sr S s P) b)) ∧ Arr (τ.2.1 (x + 11)) (rowR (comeT s (sr S s P)) (comeW S s) (eB S)) := by
        unfold X0_orderComing_b70
        rw [xIc_1 h hx (by omega), ob]
        have h1 : Hp (sI σ (x + 1) (10 * k + s) (nI (comeT s (sr S s P) k))) := h
        rw [gRc_0 h1 hx, ob, ckc h1 hx, ob]
        obtain ⟨A, q1, q2⟩ := pc_putInOrder (a1 := x + 1) (n := n) (t := comeT s (sr S s P)) (r := rowR (comeT s (sr S s P)) (comeW S s) k) hx (Or.inl rfl) hs (show k < 8 by omega) h1 (fun a ha => by
          rcases List.mem_cons.mp ha with rfl | ha
          · refine ⟨by omega, ?_, hbd a hkB e⟩
            rw [rI, if_pos ⟨rfl, rfl⟩]
          · have ha2 := rowR_mem.mp ha
            refine ⟨by omega, ?_, hbd a (by omega) (of_decide_eq_true ha2.2)⟩
            rw [rI, if_neg (by omega)]
            exact hc a ha2.1 ha2.2) (by omega) (by omega) (by rw [rI_ne (by omega)]; exact hA)
        rw [q1, ob, nI_1, ob]
        unfold X0_orderComing_b86
        rw [nI_1, ob]
        have er : rowR (comeT s (sr S s P)) (comeW S s) (k + 1) = insR (comeT s (sr S s P)) k (rowR (comeT s (sr S s P)) (comeW S s) k) := by
          show (if comeW S s k = true then _ else _) = _
          rw [if_pos hw]
        have el : (rowR (comeT s (sr S s P)) (comeW S s) k).length + 1 = (rowR (comeT s (sr S s P)) (comeW S s) (k + 1)).length := by rw [er, insR_len]
        rw [el]
        refine ih (k + 1) n _ (by omega) (by omega) ⟨hO.1, hO.2.1, hO.2.2.1, fun q q1 q2 => ?_, fun c hc2 => ?_⟩ (fun b hb hwb => ?_) (by rw [sA_eq, er]; exact q2)
        · rw [sA_ne q2, rI_ne q1]; exact hO.2.2.2.1 q q1 q2
        · rw [sA_ne (by omega), rI, if_neg (by omega)]; exact hO.2.2.2.2 c hc2
        · rw [sA_ne (by omega), rI]
          by_cases z : b = k
          · rw [if_pos ⟨rfl, by omega⟩, z]
          · rw [if_neg (by omega)]
            exact hc b (by omega) hwb
      by_cases e0 : s = 0
      · rw [if_pos ((nI_0' (by omega)).mpr e0), gR_1_1_4 h, ob, aI_6 h (by omega), ob, (hL2.2.2.2.2.2 k hkB).1]
        rw [hT, if_pos e0] at go
        exact go
      · have ei : nI (10 * k + s) - 1 = nI (10 * k + s - 1) := nsub (b := 1) (by omega)
        have ej : nI s - 1 = nI (s - 1) := nsub (b := 1) (by omega)
        rw [if_neg (fun z => e0 ((nI_0' (by omega)).mp z)), gRc_1 h hx, ob, ei, aIc_2 h hx (by omega), ob, hO.2.2.2.1 (x + 2) (by omega) (by omega), hle k hkB e e0, gR_1_1_0 h, ob, ej, aI_2 h (by omega), ob, hL2.2.1 (s - 1) (by omega), nI_add]
        rw [hT, if_neg e0] at go
        exact go
    · have hw : ¬ comeW S s k = true := fun z => e (of_decide_eq_true z)
      rw [if_neg e, if_pos rfl]
      unfold X0_orderComing_b86
      rw [nI_1, ob]
      have er : rowR (comeT s (sr S s P)) (comeW S s) (k + 1) = rowR (comeT s (sr S s P)) (comeW S s) k := by
        show (if comeW S s k = true then _ else _) = _
        rw [if_neg hw]
      rw [← er]
      refine ih (k + 1) n σ (by omega) (by omega) hO (fun b hb hwb => ?_) (by rw [er]; exact hA)
      by_cases z : b = k
      · rw [z] at hwb; exact absurd hwb hw
      · exact hc b (by omega) hwb
/-- the cells that have been visited before a stop -/
def Vd (S : Se) (s c : Nat) : Prop := ∃ b k, b < eB S ∧ k < s ∧ k ≤ eFin S b ∧ c = 10 * b + k
/-- the course between two stops -/
def CRb (x : Nat) (σ : Sg) (P : Ps) (V : Nat → Prop) : Prop :=
  (∀ c, V c → σ.2.1 (x + 1) c = nI (P 0 c) ∧ σ.2.1 (x + 2) c = nI (P 1 c) ∧ σ.2.1 (x + 3) c = nI (P 2 c) ∧ σ.2.1 (x + 4) c = nI (P 3 c) ∧ σ.2.1 (x + 5) c = nI (P 4 c) ∧ σ.2.1 (x + 6) c = nI (P 5 c)) ∧
  (∀ k, k < 10 → σ.2.1 (x + 8) k = nI (P 6 k) ∧ σ.2.2.1 (x + 9) k = lN (P 7 k) ∧ σ.2.1 (x + 10) k = nI (P 8 k)) ∧
  (σ.2.2.1 x 10 = lN (P 9 0) ∧ σ.2.1 x 11 = nI (P 10 0))
theorem pc_visits {S : Se} {X : Nat} (hS : SeOk S X) {x y s : Nat} (hx : Cr x) (hy : Ru y) (hs : s < 10) {r : List Nat} : ∀ (post pre : List Nat) (P : Ps) (σ : Sg) (n : Nat), r.reverse = pre ++ post → Hp σ → CLine σ S → CRule σ y S → CEx σ x S → Sti S X s P pre post → 20 + post.length < n → Arr (σ.2.1 (x + 11)) r →
    CRel x σ P (fun c => Vd S s c ∨ ∃ a ∈ pre, c = 10 * a + s) (fun c => ∃ a ∈ pre ++ post, c = 10 * a + s) →
    ∃ τ, X0_playStop_run n x 1 y (nI s) (nI (pre ++ post).length) (nI pre.length) σ = some τ ∧ FC x σ τ ∧ CRel x τ (svs S s post P) (fun c => Vd S s c ∨ ∃ a ∈ pre ++ post, c = 10 * a + s) (fun c => ∃ a ∈ pre ++ post, c = 10 * a + s) := by
  intro post
  induction post with
  | nil =>
    intro pre P σ n hr h hL hR hE hI hn hA hC
    obtain ⟨n, rfl⟩ : ∃ q, n = q + 1 := ⟨n - 1, by omega⟩
    rw [List.append_nil]
    have hl : pre.length ≤ 8 := by
      refine len_nodup (by have := hI.2.1.1; rw [List.append_nil] at this; exact this) (fun z hz => ?_)
      have := (hI.2.1.2 z (List.mem_append_left _ hz)).1
      have := hS.1
      omega
    show ∃ τ, X0_playStop_b22 n _ x 1 y (nI s) _ _ σ = _ ∧ _
    unfold X0_playStop_b22
    rw [if_pos (nI_le (Nat.le_refl _) (by omega))]
    rw [List.append_nil] at hC
    exact ⟨σ, rfl, FC.rf, hC⟩
  | cons b post ih =>
    intro pre P σ n hr h hL hR hE hI hn hA hC
    rw [List.length_cons] at hn
    obtain ⟨n, rfl⟩ : ∃ q, n = q + 1 := ⟨n - 1, by omega⟩
    have hl : (pre ++ b :: post).length ≤ 8 := by
      refine len_nodup hI.2.1.1 (fun z hz => ?_)
      have := (hI.2.1.2 z hz).1
      have := hS.1
      omega
    have hll : (pre ++ b :: post).length = pre.length + (post.length + 1) := by rw [List.length_append, List.length_cons]
    have hbm : b ∈ pre ++ b :: post := List.mem_append_right _ List.mem_cons_self
    obtain ⟨hbB, hbs⟩ := hI.2.1.2 b hbm
    obtain ⟨τ, t1, t2, t3, t4⟩ := pc_visit hS h hL hx hy hR hE (n := n) hs (Sti_vis hS hs hI).1 (by omega) hC (fun k hk => Or.inl ⟨b, k, hbB, hk, by omega, rfl⟩) ⟨b, hbm, rfl⟩
    show ∃ τ, X0_playStop_b22 n _ x 1 y (nI s) _ _ σ = _ ∧ _
    unfold X0_playStop_b22
    rw [if_neg (nI_ge (by omega) (by omega)), gRc_12 h hx, ob, aIc_11 h hx (by omega), ob, Arr_at hA hr, ckc h hx, ob, t1, ob, nI_1, ob]
    have e1 : pre ++ b :: post = (pre ++ [b]) ++ post := by simp
    have e2 : pre.length + 1 = (pre ++ [b]).length := by simp
    rw [e1, e2]
    obtain ⟨ρ, r1, r2, r3⟩ := ih (pre ++ [b]) (sv S s b P) τ n (hr.trans e1) (t2.hp h) (t2.line hx hL) (t2.rule hx hy hR) (t2.ex hE) (Sti_step hS hs hI) (by omega) (by rw [t3]; exact hA) ⟨fun c hc => t4.1 c (by
      rcases hc with hc | ⟨a, ha, hc⟩
      · exact Or.inl (Or.inl hc)
      · rcases List.mem_append.mp ha with ha | ha
        · exact Or.inl (Or.inr ⟨a, ha, hc⟩)
        · rw [List.mem_singleton.mp ha] at hc
          exact Or.inr hc), fun c hc => t4.2.1 c (by
      obtain ⟨a, ha, hc⟩ := hc
      exact ⟨a, by rw [e1]; exact ha, hc⟩), t4.2.2⟩
    exact ⟨ρ, r1, t2.tr r2, r3⟩
set_option maxHeartbeats 4000000 in
theorem pc_playStop {S : Se} {X : Nat} (hS : SeOk S X) {x y s n : Nat} (hx : Cr x) (hy : Ru y) (hs : s < 10) (hn : 40 ≤ n) {P : Ps} (hB : Bd S X s P) {σ : Sg} (h : Hp σ) (hL : CLine σ S) (hR : CRule σ y S) (hE : CEx σ x S) (hC : CRb x σ P (Vd S s)) :
    ∃ τ, f_X0_playStop n x 1 y (nI s) σ = some τ ∧ FC x σ τ ∧ CRb x τ (stp S s P) (Vd S (s + 1)) := by
  have hB8 := hS.1
  have hT := tU9 hS.2.2.2.2.2.2.2.2.2.2.2
  have hI := Sti_start hS hs hB
  unfold f_X0_playStop X0_playStop_b0
  rw [pIc_13 h hx, ob]
  have f1 : FC x σ (sI σ x 13 0) := FC.rf.sI (by omega) (by omega) (by omega)
  rw [pIc_14 (f1.hp h) hx, ob]
  have f2 : FC x σ (sI (sI σ x 13 0) x 14 (-6)) := f1.sI (by omega) (by omega) (by omega)
  have h2 := f2.hp h
  rw [ckc h2 hx, ob]
  have hbd : ∀ b, b < eB S → s ≤ eFin S b → comeT s (sr S s P) b < 2 ^ 31 := by
    intro b hb hbs
    have hV := hI.2.2.1 b (ordC_mem.mpr ⟨hb, hbs⟩)
    have hgp : gp S s [] b = s := by unfold gp; rw [if_neg List.not_mem_nil]; omega
    have := raw_le hS hb hs (fun e => hI.1.2 b hb (s - 1) (by rw [hgp]; omega)) hV
    have h3 : tA X s ≤ tU X 9 := by
      have := tU_eq X s
      have := tU_mono (X := X) (show s ≤ 9 by omega)
      omega
    show sr S s P 0 (10 * b + s) < 2 ^ 31
    omega
  obtain ⟨τ, q1, q2, q3, q4⟩ := pc_oc hS hx hs (P := P) h2 (f2.line hx hL) (fun b hb hbs e => by
      rw [rI_ne (by omega), rI_ne (by omega)]
      have := (hC.1 (10 * b + (s - 1)) ⟨b, s - 1, hb, by omega, by omega, rfl⟩).2.1
      rw [show 10 * b + (s - 1) = 10 * b + s - 1 by omega] at this
      exact this) hbd (eB S) 0 n _ (by omega) (by omega) ⟨rfl, rfl, rfl, fun _ _ _ => rfl, fun _ _ => rfl⟩ (fun b hb => by omega) trivial
  have q1' : f_X0_orderComing n x 1 (nI s) (sI (sI σ x 13 0) x 14 (-6)) = some (nI (rowR (comeT s (sr S s P)) (comeW S s) (eB S)).length, τ) := q1
  rw [q1', ob]
  have hlen : (rowR (comeT s (sr S s P)) (comeW S s) (eB S)).length = ([] ++ ordC S s P).length := by
    unfold ordC
    rw [List.nil_append, List.length_reverse]
  have hlB := rowR_len (t := comeT s (sr S s P)) (w := comeW S s) (eB S)
  have f3 := f2.tr q2.fc
  have hol : (ordC S s P).length ≤ 8 := by
    have : (ordC S s P).length = (rowR (comeT s (sr S s P)) (comeW S s) (eB S)).length := by rw [hlen, List.nil_append]
    omega
  have x13 : τ.2.1 x 13 = nI 0 := by
    rw [q2.2.2.2.1 x (by omega) (by omega), rI, if_neg (by omega), rI, if_pos ⟨rfl, rfl⟩]; rfl
  have x14 : τ.2.1 x 14 = lgI 0 := by
    rw [q2.2.2.2.1 x (by omega) (by omega), rI, if_pos ⟨rfl, rfl⟩]; rfl
  have same : ∀ q, q ≠ x → q ≠ x + 1 → q ≠ x + 11 → τ.2.1 q = σ.2.1 q := by
    intro q z1 z2 z3
    rw [q2.2.2.2.1 q z2 z3, rI_ne z1, rI_ne z1]
  have hCR : CRel x τ (sr S s P) (fun c => Vd S s c ∨ ∃ a ∈ ([] : List Nat), c = 10 * a + s) (fun c => ∃ a ∈ [] ++ ordC S s P, c = 10 * a + s) := by
    refine ⟨fun c hc => ?_, fun c hc => ?_, fun k hk => ?_, ?_, ?_, x13, x14⟩
    · rcases hc with hc | ⟨a, ha, -⟩
      · obtain ⟨b, k, hb, hk, hkf, rfl⟩ := hc
        have h9 := hC.1 (10 * b + k) ⟨b, k, hb, hk, hkf, rfl⟩
        have hk10 : k < 10 := by omega
        rw [same (x + 2) (by omega) (by omega) (by omega), same (x + 3) (by omega) (by omega) (by omega), same (x + 4) (by omega) (by omega) (by omega), same (x + 5) (by omega) (by omega) (by omega), same (x + 6) (by omega) (by omega) (by omega), q2.2.2.2.2 (10 * b + k) (by omega), rI_ne (by omega), rI_ne (by omega), sr_0 hk10, if_neg (by omega)]
        exact h9
      · exact absurd ha List.not_mem_nil
    · obtain ⟨a, ha, rfl⟩ := hc
      rw [List.nil_append] at ha
      have ha2 := ordC_mem.mp ha
      exact q3 a ha2.1 (decide_eq_true ha2.2)
    · rw [same (x + 8) (by omega) (by omega) (by omega), same (x + 10) (by omega) (by omega) (by omega), q2.2.2.1]
      exact hC.2.1 k hk
    · rw [q2.2.2.1]; exact hC.2.2.1
    · rw [q2.2.2.2.1 x (by omega) (by omega), rI, if_neg (by omega), rI, if_neg (by omega)]; exact hC.2.2.2
  rw [hlen, show (0 : Int32) = nI ([] : List Nat).length from rfl]
  obtain ⟨ρ, r1, r2, r3⟩ := pc_visits hS hx hy hs (r := rowR (comeT s (sr S s P)) (comeW S s) (eB S)) (ordC S s P) [] (sr S s P) τ n rfl (f3.hp h) (f3.line hx hL) (f3.rule hx hy hR) (f3.ex hE) hI (by omega) q4 hCR
  refine ⟨ρ, r1, f3.tr r2, ⟨fun c hc => r3.1 c ?_, r3.2.2.1, r3.2.2.2.1, r3.2.2.2.2.1⟩⟩
  obtain ⟨b, k, hb, hk, hkf, rfl⟩ := hc
  by_cases e : k = s
  · subst e
    exact Or.inr ⟨b, by rw [List.nil_append]; exact ordC_mem.mpr ⟨hb, hkf⟩, rfl⟩
  · exact Or.inl ⟨b, k, hb, by omega, hkf, rfl⟩
theorem pc_stops {S : Se} {X : Nat} (hS : SeOk S X) {x y : Nat} (hx : Cr x) (hy : Ru y) : ∀ (m s n : Nat) (σ : Sg), s + m = 10 → 40 + m < n → Hp σ → CLine σ S → CRule σ y S → CEx σ x S → CRb x σ (ply S s) (Vd S s) →
    ∃ τ, X0_play_run n x 1 y (nI s) σ = some τ ∧ FC x σ τ ∧ CRb x τ (ply S 10) (Vd S 10) := by
  intro m
  induction m with
  | zero =>
    intro s n σ hs hn h hL hR hE hC
    obtain ⟨n, rfl⟩ : ∃ q, n = q + 1 := ⟨n - 1, by omega⟩
    have e : s = 10 := by omega
    subst e
    show ∃ τ, X0_play_b36 n _ x 1 y _ σ = _ ∧ _
    unfold X0_play_b36
    rw [if_pos (show (10 : Int32) ≤ nI 10 by decide)]
    exact ⟨σ, rfl, FC.rf, hC⟩
  | succ m ih =>
    intro s n σ hs hn h hL hR hE hC
    obtain ⟨n, rfl⟩ : ∃ q, n = q + 1 := ⟨n - 1, by omega⟩
    show ∃ τ, X0_play_b36 n _ x 1 y _ σ = _ ∧ _
    unfold X0_play_b36
    obtain ⟨τ, q1, q2, q3⟩ := pc_playStop hS hx hy (s := s) (n := n) (by omega) (by omega) (Bd_ply hS s (by omega)) h hL hR hE hC
    rw [if_neg (show ¬ (10 : Int32) ≤ nI s from nI_ge (b := 10) (by omega) (by decide)), ckc h hx, ob, q1, ob, nI_1, ob]
    obtain ⟨ρ, r1, r2, r3⟩ := ih (s + 1) n τ (by omega) (by omega) (q2.hp h) (q2.line hx hL) (q2.rule hx hy hR) (q2.ex hE) q3
    exact ⟨ρ, r1, q2.tr r2, r3⟩
/-- A WHOLE PLAY of the class is the specification's -/
theorem pc_play {S : Se} {X : Nat} (hS : SeOk S X) {x y n : Nat} (hx : Cr x) (hy : Ru y) (hn : 200 ≤ n) {σ : Sg} (h : Hp σ) (hL : CLine σ S) (hR : CRule σ y S) (hE : CEx σ x S) :
    ∃ τ, f_X0_play n x 1 y σ = some τ ∧ FC x σ τ ∧ CRb x τ (ply S 10) (Vd S 10) := by
  have k8 : kd (x + 8) = 6 ∧ ln (x + 8) = 10 := by rcases hx with rfl | rfl <;> decide
  have k9 : kd (x + 9) = 7 ∧ ln (x + 9) = 10 := by rcases hx with rfl | rfl <;> decide
  have k10 : kd (x + 10) = 6 ∧ ln (x + 10) = 10 := by rcases hx with rfl | rfl <;> decide
  unfold f_X0_play X0_play_b0
  rw [gRc_7 h hx, ob, pc_fill h k8.1 (by omega) k8.2 (by decide) (by omega), ob]
  have f1 : FC x σ (sA σ (x + 8) (fun j => if j < 10 then 0 else σ.2.1 (x + 8) j)) := ⟨rfl, rfl, fun q hq => sA_ne (by omega), fun q hq => rfl⟩
  generalize hs1 : sA σ (x + 8) (fun j => if j < 10 then 0 else σ.2.1 (x + 8) j) = σ1 at f1 ⊢
  have h1 := f1.hp h
  rw [gRc_8 h1 hx, ob, pc_fillJ h1 k9.1 (by omega) k9.2 (by decide) (by omega), ob]
  have f2 : FC x σ (sB σ1 (x + 9) (fun j => if j < 10 then 0 else σ1.2.2.1 (x + 9) j)) := f1.tr ⟨rfl, rfl, fun q hq => rfl, fun q hq => sB_ne (by omega)⟩
  generalize hs2 : sB σ1 (x + 9) (fun j => if j < 10 then 0 else σ1.2.2.1 (x + 9) j) = σ2 at f2 ⊢
  have h2 := f2.hp h
  rw [gRc_9 h2 hx, ob, pc_fill h2 k10.1 (by omega) k10.2 (by decide) (by omega), ob]
  have f3 : FC x σ (sA σ2 (x + 10) (fun j => if j < 10 then 0 else σ2.2.1 (x + 10) j)) := f2.tr ⟨rfl, rfl, fun q hq => sA_ne (by omega), fun q hq => rfl⟩
  generalize hs3 : sA σ2 (x + 10) (fun j => if j < 10 then 0 else σ2.2.1 (x + 10) j) = σ3 at f3 ⊢
  have h3 := f3.hp h
  rw [pJc_10 h3 hx, ob]
  have f4 : FC x σ (sJ σ3 x 10 0) := f3.sJ (by omega) (by omega)
  rw [pIc_11 (f4.hp h) hx, ob]
  have f5 : FC x σ (sI (sJ σ3 x 10 0) x 11 0) := f4.sI (by omega) (by omega) (by omega)
  have hCb : CRb x (sI (sJ σ3 x 10 0) x 11 0) (ply S 0) (Vd S 0) := by
    refine ⟨fun c hc => ?_, fun k hk => ⟨?_, ?_, ?_⟩, ?_, ?_⟩
    · obtain ⟨b, k, -, hk, -⟩ := hc
      omega
    · rw [rI_ne (by omega), rI_J, ← hs3, sA_ne (by omega), ← hs2]
      show σ1.2.1 (x + 8) k = _
      rw [← hs1, sA_eq, if_pos hk]; rfl
    · rw [rJ_I, rJ_ne (by omega), ← hs3]
      show σ2.2.2.1 (x + 9) k = _
      rw [← hs2, sB_eq, if_pos hk]; rfl
    · rw [rI_ne (by omega), rI_J, ← hs3, sA_eq, if_pos hk]; rfl
    · rw [rJ_I, rJ, if_pos ⟨rfl, rfl⟩]; rfl
    · rw [rI, if_pos ⟨rfl, rfl⟩]; rfl
  obtain ⟨τ, q1, q2, q3⟩ := pc_stops hS hx hy 10 0 n _ (by omega) (by omega) (f5.hp h) (f5.line hx hL) (f5.rule hx hy hR) (f5.ex hE) hCb
  exact ⟨τ, q1, f5.tr q2, q3⟩
