def Om (s : Nat) (σ τ : Sg) : Prop := τ.1 = σ.1 ∧ τ.2.2.2 = σ.2.2.2 ∧ τ.2.2.1 = σ.2.2.1 ∧ (∀ q, q ≠ 58 → q ≠ 69 → τ.2.1 q = σ.2.1 q) ∧ (∀ c, c % 10 ≠ s → τ.2.1 58 c = σ.2.1 58 c)
theorem Om.fm {s : Nat} {σ τ : Sg} (h : Om s σ τ) : FM σ τ := ⟨h.1, h.2.1, h.2.2.1, fun k hk => h.2.2.2.1 k (by omega) (by omega), fun j _ _ _ => by rw [h.2.2.2.1 44 (by decide) (by decide)]⟩
theorem pm_ins {s b len : Nat} (hs : s < 10) (hb : b < 8) {t : Nat → Nat} : ∀ (r : List Nat) (σ : Sg) (n : Nat), Hp σ → σ.2.1 51 3 = 1 → (∀ a ∈ b :: r, a < 8 ∧ σ.2.1 58 (10 * a + s) = nI (t a) ∧ t a < 2 ^ 31) → r.length < 8 → r.length < n → Arr (σ.2.1 69) r →
    ∃ A n', n ≤ n' + r.length + 1 ∧ X5_layOrder_run n 111 44 (nI s) (nI len) (nI b) (nI (10 * b + s)) (nI r.length) σ = X5_layOrder_run n' 4 44 (nI s) (nI (len + 1)) (nI (b + 1)) 0 0 (sA σ 69 A) ∧ Arr A (insR t b r) ∧ ∀ i, r.length < i → A i = σ.2.1 69 i := by
  intro r
  induction r with
  | nil =>
    intro σ n h h3 ht hl hn hA
    obtain ⟨n, rfl⟩ : ∃ q, n = q + 1 := ⟨n - 1, by simp at hn; omega⟩
    have z3 : aI 51 3 σ = some (σ.2.1 51 3) := aI_51 (j := 3) h (by decide)
    show ∃ A n', _ ∧ X5_layOrder_b111 n (X5_layOrder_run n) 44 (nI s) (nI len) (nI b) (nI (10 * b + s)) (nI 0) σ = _ ∧ _
    unfold X5_layOrder_b111
    rw [gR_5_44_7 h, ob, z3, ob, h3, if_pos rfl, if_pos (show nI 0 ≤ 0 by decide)]
    unfold X5_layOrder_b177
    rw [gR_5_44_28 h, ob, xI_69 h (by omega), ob, nI_1, ob, sI_sA]
    unfold X5_layOrder_b188
    rw [nI_1, ob]
    exact ⟨_, n, by simp, rfl, ⟨pk_us, trivial⟩, fun i hi => pk_un (by simp at hi; omega)⟩
  | cons a r ih =>
    intro σ n h h3 ht hl hn hA
    obtain ⟨n, rfl⟩ : ∃ q, n = q + 1 := ⟨n - 1, by simp at hn; omega⟩
    have z3 : aI 51 3 σ = some (σ.2.1 51 3) := aI_51 (j := 3) h (by decide)
    rw [List.length_cons] at hl hn ⊢
    have ha8 := ht a (List.mem_cons_of_mem _ List.mem_cons_self)
    have hb8 := ht b List.mem_cons_self
    show ∃ A n', _ ∧ X5_layOrder_b111 n (X5_layOrder_run n) 44 (nI s) (nI len) (nI b) (nI (10 * b + s)) (nI (r.length + 1)) σ = _ ∧ _
    unfold X5_layOrder_b111
    have em : nI (r.length + 1) - 1 = nI r.length := nsub (b := 1) (by omega)
    have em2 : nI (r.length + 1) + (-1) = nI r.length := pk_m1 _
    rw [gR_5_44_7 h, ob, z3, ob, h3, if_pos rfl, if_neg (fun z => by have := (nI_le0 (by omega)).mp z; omega), gR_5_44_17 h, ob, gR_5_44_28 h, ob, em, aI_69 h (by omega), ob, hA.1, p10, aI_58 h (by omega), ob, ha8.2.1, ob, aI_58 h (by omega), ob, hb8.2.1]
    by_cases e : t b < t a
    · rw [if_neg (nI_ge e ha8.2.2), ob, ob, aI_69 h (by omega), ob, hA.1, xI_69 h (by omega), ob, em2, ob]
      have hr : r.length < 8 := by omega
      obtain ⟨A, n', q0, q1, q2, q3⟩ := ih (sI σ 69 (r.length + 1) (nI a)) n h (by rw [rI_ne (by decide)]; exact h3) (fun c hc => by
        have hc' := ht c (by
          rcases List.mem_cons.mp hc with rfl | hc
          · exact List.mem_cons_self
          · exact List.mem_cons_of_mem _ (List.mem_cons_of_mem _ hc))
        rw [rI_ne (by decide)]
        exact hc') hr (by omega) (by
        refine Arr_congr (fun i hi => ?_) hA.2
        rw [rI_eq]
        exact pk_un (by omega))
      rw [q1, sI_sA, sA_sA]
      refine ⟨A, n', by omega, rfl, ?_, fun i hi => ?_⟩
      · unfold insR
        rw [if_pos e]
        refine ⟨?_, q2⟩
        rw [insR_len, q3 (r.length + 1) (by omega), rI_eq]
        exact pk_us
      · rw [q3 i (by omega), rI_eq]
        exact pk_un (by omega)
    · rw [if_pos (nI_le (by omega) hb8.2.2)]
      unfold X5_layOrder_b177
      rw [gR_5_44_28 h, ob, xI_69 h (by omega), ob, nI_1, ob, sI_sA]
      unfold X5_layOrder_b188
      rw [nI_1, ob]
      refine ⟨_, n, by omega, rfl, ?_, fun i hi => pk_un (by omega)⟩
      unfold insR
      rw [if_neg e]
      refine ⟨by rw [List.length_cons]; exact pk_us, ?_⟩
      refine Arr_congr (fun i hi => ?_) hA
      rw [List.length_cons] at hi
      exact pk_un (by omega)
theorem pm_app {s b n : Nat} {r : List Nat} {σ : Sg} (h : Hp σ) (h3 : ¬ σ.2.1 51 3 = 1) (hl : r.length < 8) (hA : Arr (σ.2.1 69) r) :
    ∃ A, X5_layOrder_run (n + 1) 111 44 (nI s) (nI r.length) (nI b) (nI (10 * b + s)) (nI r.length) σ = X5_layOrder_run n 4 44 (nI s) (nI (r.length + 1)) (nI (b + 1)) 0 0 (sA σ 69 A) ∧ Arr A (b :: r) := by
  have z3 : aI 51 3 σ = some (σ.2.1 51 3) := aI_51 (j := 3) h (by decide)
  show ∃ A, X5_layOrder_b111 n (X5_layOrder_run n) 44 (nI s) (nI r.length) (nI b) (nI (10 * b + s)) (nI r.length) σ = _ ∧ _
  unfold X5_layOrder_b111
  rw [gR_5_44_7 h, ob, z3, ob, if_neg h3]
  unfold X5_layOrder_b177
  rw [gR_5_44_28 h, ob, xI_69 h (by omega), ob, nI_1, ob, sI_sA]
  unfold X5_layOrder_b188
  rw [nI_1, ob]
  exact ⟨_, rfl, pk_us, Arr_congr (fun i hi => pk_un (by omega)) hA⟩
/-- the row as the model lays it -/
def rowM (S : Se) (s : Nat) (P : Ps) (k : Nat) : List Nat := if eSet S 3 = 1 then rowR (comeT s (sr S s P)) (comeW S s) k else rowN (comeW S s) k
theorem rowM_0 {S : Se} {s : Nat} {P : Ps} : rowM S s P 0 = [] := by unfold rowM; split <;> rfl
theorem rowM_n {S : Se} {s : Nat} {P : Ps} {k : Nat} (h : ¬ comeW S s k = true) : rowM S s P (k + 1) = rowM S s P k := by
  unfold rowM
  split
  · show (if comeW S s k = true then _ else _) = _
    rw [if_neg h]
  · show (if comeW S s k = true then _ else _) = _
    rw [if_neg h]
theorem rowM_y {S : Se} {s : Nat} {P : Ps} {k : Nat} (h : comeW S s k = true) : rowM S s P (k + 1) = if eSet S 3 = 1 then insR (comeT s (sr S s P)) k (rowM S s P k) else k :: rowM S s P k := by
  unfold rowM
  split
  · show (if comeW S s k = true then _ else _) = _
    rw [if_pos h]
  · show (if comeW S s k = true then _ else _) = _
    rw [if_pos h]
theorem rowM_mem {S : Se} {s : Nat} {P : Ps} {x : Nat} : ∀ {k : Nat}, x ∈ rowM S s P k → x < k ∧ comeW S s x = true := by
  intro k
  induction k with
  | zero => intro h; rw [rowM_0] at h; exact absurd h List.not_mem_nil
  | succ k ih =>
    intro h
    by_cases e : comeW S s k = true
    · rw [rowM_y e] at h
      split at h
      · rcases insR_mem.mp h with h | h
        · rw [h]; exact ⟨Nat.lt_succ_self _, e⟩
        · have := ih h; exact ⟨by omega, this.2⟩
      · rcases List.mem_cons.mp h with h | h
        · rw [h]; exact ⟨Nat.lt_succ_self _, e⟩
        · have := ih h; exact ⟨by omega, this.2⟩
    · rw [rowM_n e] at h
      have := ih h; exact ⟨by omega, this.2⟩
theorem rowM_len {S : Se} {s : Nat} {P : Ps} : ∀ (k : Nat), (rowM S s P k).length ≤ k := by
  intro k
  induction k with
  | zero => rw [rowM_0]; exact Nat.le_refl _
  | succ k ih =>
    by_cases e : comeW S s k = true
    · rw [rowM_y e]
      split
      · rw [insR_len]; omega
      · rw [List.length_cons]; omega
    · rw [rowM_n e]; omega
set_option maxHeartbeats 4000000 in
theorem pm_lo {S : Se} {X : Nat} (hS : SeOk S X) {s : Nat} (hs : s < 10) {P : Ps} {σ0 : Sg} (h0 : Hp σ0) (hL : MLine σ0 S)
    (h58 : s ≠ 0 → ∀ b, b < eB S → (s - 1 ≤ eFin S b → ∃ c, c < 2 ^ 31 ∧ σ0.2.1 58 (10 * b + s - 1) = nI c) ∧ (¬ s - 1 ≤ eFin S b → σ0.2.1 58 (10 * b + s - 1) = (-6)))
    (hle : ∀ b, b < eB S → s ≤ eFin S b → s ≠ 0 → σ0.2.1 59 (10 * b + s - 1) = nI (P 1 (10 * b + s - 1))) (hbd : ∀ b, b < eB S → s ≤ eFin S b → comeT s (sr S s P) b < 2 ^ 31) :
    ∀ (m k n : Nat) (σ : Sg), k + m = eB S → 20 + 10 * m ≤ n → Om s σ0 σ → (∀ b, b < k → σ.2.1 58 (10 * b + s) = if s ≤ eFin S b then nI (comeT s (sr S s P) b) else (-6)) → Arr (σ.2.1 69) (rowM S s P k) →
    ∃ τ, X5_layOrder_run n 4 44 (nI s) (nI (rowM S s P k).length) (nI k) 0 0 σ = some (nI (rowM S s P (eB S)).length, τ) ∧ Om s σ0 τ ∧ (∀ b, b < eB S → τ.2.1 58 (10 * b + s) = if s ≤ eFin S b then nI (comeT s (sr S s P) b) else (-6)) ∧ Arr (τ.2.1 69) (rowM S s P (eB S)) := by
  intro m
  have hB8 := hS.1
  induction m with
  | zero =>
    intro k n σ hk hn hO hc hA
    obtain ⟨n, rfl⟩ : ∃ q, n = q + 1 := ⟨n - 1, by omega⟩
    have e : k = eB S := by omega
    subst e
    have h := hO.fm.hp h0
    have hL2 := hO.fm.line hL
    show ∃ τ, X5_layOrder_b4 n _ 44 (nI s) _ (nI (eB S)) σ = _ ∧ _
    unfold X5_layOrder_b4
    rw [gI_5_44_3 h, ob, hL2.1, if_pos (nI_le (Nat.le_refl _) (by omega))]
    exact ⟨σ, rfl, hO, hc, hA⟩
  | succ m ih =>
    intro k n σ hk hn hO hc hA
    obtain ⟨n, rfl⟩ : ∃ q, n = q + 1 := ⟨n - 1, by omega⟩
    have h := hO.fm.hp h0
    have hL2 := hO.fm.line hL
    have hkB : k < eB S := by omega
    have hlen := rowM_len (S := S) (s := s) (P := P) k
    have hc80 : 10 * k + s < 80 := by omega
    have e3 : σ.2.1 51 3 = nI (eSet S 3) := hL2.2.2.2.2.1 3 (by decide)
    have hset := hS.2.2.2.2.2.1
    show ∃ τ, X5_layOrder_b4 n (X5_layOrder_run n) 44 (nI s) _ (nI k) σ = _ ∧ _
    have go : ∀ v, v = (if s ≤ eFin S k then nI (comeT s (sr S s P) k) else (-6)) → ∃ τ, X5_layOrder_b102 n (X5_layOrder_run n) 44 (nI s) (nI (rowM S s P k).length) (nI k) (nI (10 * k + s)) (if s ≤ eFin S k then 1 else 0) 58 (nI (10 * k + s)) v σ = some (nI (rowM S s P (eB S)).length, τ) ∧ Om s σ0 τ ∧ (∀ b, b < eB S → τ.2.1 58 (10 * b + s) = if s ≤ eFin S b then nI (comeT s (sr S s P) b) else (-6)) ∧ Arr (τ.2.1 69) (rowM S s P (eB S)) := by
      intro v hv
      unfold X5_layOrder_b102
      rw [xI_58 h hc80, ob]
      have h1 : Hp (sI σ 58 (10 * k + s) v) := h
      have O1 : Om s σ0 (sI σ 58 (10 * k + s) v) := ⟨hO.1, hO.2.1, hO.2.2.1, fun q q1 q2 => by rw [rI_ne q1]; exact hO.2.2.2.1 q q1 q2, fun c hc2 => by rw [rI, if_neg (by omega)]; exact hO.2.2.2.2 c hc2⟩
      have c1 : ∀ b, b < k + 1 → (sI σ 58 (10 * k + s) v).2.1 58 (10 * b + s) = if s ≤ eFin S b then nI (comeT s (sr S s P) b) else (-6) := by
        intro b hb
        rw [rI]
        by_cases z : b = k
        · rw [if_pos ⟨rfl, by omega⟩, z]; exact hv
        · rw [if_neg (by omega)]; exact hc b (by omega)
      have A1 : Arr ((sI σ 58 (10 * k + s) v).2.1 69) (rowM S s P k) := by rw [rI_ne (by decide)]; exact hA
      have e31 : (sI σ 58 (10 * k + s) v).2.1 51 3 = nI (eSet S 3) := by rw [rI_ne (by decide)]; exact e3
      generalize sI σ 58 (10 * k + s) v = σ1 at h1 O1 c1 A1 e31 ⊢
      by_cases e : s ≤ eFin S k
      · have hw : comeW S s k = true := decide_eq_true e
        rw [if_pos e, if_neg (show ¬ (1 : Int32) = 0 by decide)]
        by_cases ep : eSet S 3 = 1
        · obtain ⟨A, n', q0, q1, q2, q3⟩ := pm_ins (len := (rowM S s P k).length) (t := comeT s (sr S s P)) hs (show k < 8 by omega) (rowM S s P k) σ1 n h1 (by rw [e31, ep]; rfl) (fun a ha => by
            rcases List.mem_cons.mp ha with rfl | ha
            · refine ⟨by omega, ?_, hbd a hkB e⟩
              rw [c1 a (by omega), if_pos e]
            · have ha2 := rowM_mem ha
              have ha3 : s ≤ eFin S a := of_decide_eq_true ha2.2
              refine ⟨by omega, ?_, hbd a (by omega) ha3⟩
              rw [c1 a (by omega), if_pos ha3]) (by omega) (by omega) A1
          rw [q1]
          have er : rowM S s P (k + 1) = insR (comeT s (sr S s P)) k (rowM S s P k) := by rw [rowM_y hw, if_pos ep]
          have el : (rowM S s P k).length + 1 = (rowM S s P (k + 1)).length := by rw [er, insR_len]
          rw [el]
          exact ih (k + 1) n' _ (by omega) (by omega) ⟨O1.1, O1.2.1, O1.2.2.1, fun q q1 q2 => by rw [sA_ne q2]; exact O1.2.2.2.1 q q1 q2, fun c hc2 => by rw [sA_ne (by decide)]; exact O1.2.2.2.2 c hc2⟩ (fun b hb => by rw [sA_ne (by decide)]; exact c1 b hb) (by rw [sA_eq, er]; exact q2)
        · obtain ⟨n, rfl⟩ : ∃ q, n = q + 1 := ⟨n - 1, by omega⟩
          obtain ⟨A, q1, q2⟩ := pm_app (s := s) (b := k) (n := n) (r := rowM S s P k) h1 (by rw [e31]; exact fun z => ep ((nI_eq (b := 1) (by omega) (by decide)).mp z)) (by omega) A1
          rw [q1]
          have er : rowM S s P (k + 1) = k :: rowM S s P k := by rw [rowM_y hw, if_neg ep]
          have el : (rowM S s P k).length + 1 = (rowM S s P (k + 1)).length := by rw [er, List.length_cons]
          rw [el]
          exact ih (k + 1) n _ (by omega) (by omega) ⟨O1.1, O1.2.1, O1.2.2.1, fun q q1 q2 => by rw [sA_ne q2]; exact O1.2.2.2.1 q q1 q2, fun c hc2 => by rw [sA_ne (by decide)]; exact O1.2.2.2.2 c hc2⟩ (fun b hb => by rw [sA_ne (by decide)]; exact c1 b hb) (by rw [sA_eq, er]; exact q2)
      · have hw : ¬ comeW S s k = true := fun z => e (of_decide_eq_true z)
        rw [if_neg e, if_pos rfl]
        unfold X5_layOrder_b188
        rw [nI_1, ob, ← rowM_n (P := P) hw]
        exact ih (k + 1) n σ1 (by omega) (by omega) O1 c1 (by rw [rowM_n hw]; exact A1)
    have go0 : ¬ s ≤ eFin S k → ∃ τ, X5_layOrder_b52 n (X5_layOrder_run n) 44 (nI s) (nI (rowM S s P k).length) (nI k) (nI (10 * k + s)) σ = some (nI (rowM S s P (eB S)).length, τ) ∧ Om s σ0 τ ∧ (∀ b, b < eB S → τ.2.1 58 (10 * b + s) = if s ≤ eFin S b then nI (comeT s (sr S s P) b) else (-6)) ∧ Arr (τ.2.1 69) (rowM S s P (eB S)) := by
      intro e
      unfold X5_layOrder_b52 X5_layOrder_b53
      rw [gR_5_44_17 h, ob, if_pos rfl]
      have := go (-6) (by rw [if_neg e])
      rw [if_neg e] at this
      exact this
    have go1 : s ≤ eFin S k → ∃ τ, X5_layOrder_b48 n (X5_layOrder_run n) 44 (nI s) (nI (rowM S s P k).length) (nI k) (nI (10 * k + s)) σ = some (nI (rowM S s P (eB S)).length, τ) ∧ Om s σ0 τ ∧ (∀ b, b < eB S → τ.2.1 58 (10 * b + s) = if s ≤ eFin S b then nI (comeT s (sr S s P) b) else (-6)) ∧ Arr (τ.2.1 69) (rowM S s P (eB S)) := by
      intro e
      unfold X5_layOrder_b48 X5_layOrder_b53
      have c1 : s = s ∧ k < eB S ∧ s ≤ eFin S k := ⟨rfl, hkB, e⟩
      have hT : comeT s (sr S s P) k = if s = 0 then eBeg S k else P 1 (10 * k + s - 1) + eRide S (s - 1) := by
        unfold comeT
        rw [sr_0 hs, if_pos c1]
      have this := go (nI (comeT s (sr S s P) k)) (by rw [if_pos e])
      rw [if_pos e] at this
      rw [gR_5_44_17 h, ob, if_neg (show ¬ (1 : Int32) = 0 by decide)]
      by_cases e0 : s = 0
      · rw [if_pos ((nI_0' (by omega)).mpr e0), gR_5_44_4 h, ob, aI_48 h (by omega), ob, (hL2.2.2.2.2.2 k hkB).1]
        rw [hT, if_pos e0] at this
        exact this
      · have ei : nI (10 * k + s) - 1 = nI (10 * k + s - 1) := nsub (b := 1) (by omega)
        have ej : nI s - 1 = nI (s - 1) := nsub (b := 1) (by omega)
        rw [if_neg (fun z => e0 ((nI_0' (by omega)).mp z)), gR_5_44_18 h, ob, ei, aI_59 h (by omega), ob, hO.2.2.2.1 59 (by decide) (by decide), hle k hkB e e0, gR_5_44_0 h, ob, ej, aI_45 h (by omega), ob, hL2.2.1 (s - 1) (by omega), nI_add]
        rw [hT, if_neg e0] at this
        exact this
    unfold X5_layOrder_b4
    rw [gI_5_44_3 h, ob, hL2.1, if_neg (nI_ge hkB (by omega)), p10, ob]
    by_cases e0 : s = 0
    · rw [if_pos ((nI_0' (by omega)).mpr e0)]
      exact go1 (by omega)
    · have ei : nI (10 * k + s) - 1 = nI (10 * k + s - 1) := nsub (b := 1) (by omega)
      have ej : nI s - 1 = nI (s - 1) := nsub (b := 1) (by omega)
      rw [if_neg (fun z => e0 ((nI_0' (by omega)).mp z)), gR_5_44_17 h, ob, ei, aI_58 h (by omega), ob, hO.2.2.2.2 _ (by omega)]
      by_cases ep : s - 1 ≤ eFin S k
      · obtain ⟨c, c1, c2⟩ := (h58 e0 k hkB).1 ep
        have hf := (hS.2.2.2.2.2.2.1 k hkB).2.2.2.2
        have nn : ¬ nI c < 0 := by
          have := nI_le (Nat.zero_le c) c1
          intro z
          exact absurd z (by rw [Int32.not_lt]; exact this)
        rw [c2, if_neg nn, gR_5_44_6 h, ob, aI_50 h (by omega), ob, (hL2.2.2.2.2.2 k hkB).2.2, ej]
        by_cases e : s ≤ eFin S k
        · rw [if_neg (nI_ge (by omega) (by omega))]
          exact go1 e
        · rw [if_pos (nI_le (by omega) (by omega))]
          exact go0 e
      · rw [(h58 e0 k hkB).2 ep, if_pos (show (-6 : Int32) < 0 by decide)]
        exact go0 (by omega)
