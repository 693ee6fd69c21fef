/-! board -/
def lf (S : Se) (P : Ps) (t b k : Nat) : Nat := if k ≤ eFin S b ∧ ¬ t < P 1 (10 * b + k) then 1 else 0
def cnB (S : Se) (P : Ps) (s t b : Nat) : Nat := dsum (lf S P t b) s 0
def nb (S : Se) (P : Ps) (s t : Nat) : Nat → Nat × Nat
  | 0 => (0, 0)
  | b + 1 => if s ≤ eFin S b ∧ t < P 0 (10 * b + s) ∧ (nb S P s t b).2 < cnB S P s t b then (b + 1, cnB S P s t b) else nb S P s t b
theorem nb_in {S : Se} {P : Ps} {s t : Nat} : ∀ {k : Nat}, (nb S P s t k).1 ≠ 0 → (nb S P s t k).1 ≤ k ∧ s ≤ eFin S ((nb S P s t k).1 - 1) ∧ (nb S P s t k).2 = cnB S P s t ((nb S P s t k).1 - 1) ∧ 1 ≤ (nb S P s t k).2 := by
  intro k
  induction k with
  | zero => intro h; exact absurd rfl h
  | succ k ih =>
    intro h
    unfold nb at h ⊢
    by_cases e : s ≤ eFin S k ∧ t < P 0 (10 * k + s) ∧ (nb S P s t k).2 < cnB S P s t k
    · rw [if_pos e]
      refine ⟨Nat.le_refl _, ?_, ?_, ?_⟩
      · show s ≤ eFin S (k + 1 - 1)
        rw [show k + 1 - 1 = k by omega]; exact e.1
      · show cnB S P s t k = cnB S P s t (k + 1 - 1)
        rw [show k + 1 - 1 = k by omega]
      · show 1 ≤ cnB S P s t k
        omega
    · rw [if_neg e] at h ⊢
      obtain ⟨h1, h2⟩ := ih h
      exact ⟨by omega, h2⟩
theorem lf_le {S : Se} {P : Ps} {t b k : Nat} : lf S P t b k ≤ 1 := by
  unfold lf
  split
  · exact Nat.le_refl _
  · exact Nat.zero_le _
theorem dsum_le1 {f : Nat → Nat} (h : ∀ k, f k ≤ 1) : ∀ {m s : Nat}, dsum f m s ≤ m := by
  intro m
  induction m with
  | zero => intro s; exact Nat.le_refl _
  | succ m ih =>
    intro s
    have h1 := h s
    have h2 := ih (s := s + 1)
    show f s + dsum f m (s + 1) ≤ m + 1
    omega
theorem cnB_le {S : Se} {P : Ps} {s t b : Nat} : cnB S P s t b ≤ s := dsum_le1 (fun k => lf_le)
theorem nb_le {S : Se} {P : Ps} {s t : Nat} : ∀ {k : Nat}, (nb S P s t k).1 ≤ k ∧ (nb S P s t k).2 ≤ s := by
  intro k
  induction k with
  | zero => exact ⟨Nat.le_refl _, Nat.zero_le _⟩
  | succ k ih =>
    unfold nb
    split
    · exact ⟨Nat.le_refl _, cnB_le⟩
    · exact ⟨by omega, ih.2⟩
theorem ply_mono {S : Se} {X : Nat} (hS : SeOk S X) {b : Nat} (hb : b < eB S) : ∀ {m k : Nat}, k + m ≤ eFin S b → ply S 10 1 (10 * b + k) ≤ ply S 10 1 (10 * b + (k + m)) := by
  intro m
  induction m with
  | zero => intro k _; exact Nat.le_refl _
  | succ m ih =>
    intro k h
    have h1 := ih (k := k) (by omega)
    have h2 := ply_go hS hb (show k + m < eFin S b by omega)
    have h3 := (ply_bd hS hb (show k + m + 1 ≤ eFin S b by omega)).1
    rw [show k + (m + 1) = k + m + 1 by omega]
    rw [show 10 * b + (k + m + 1) = 10 * b + (k + m) + 1 by omega] at h2 h3 ⊢
    omega
theorem lf_zero {S : Se} {X : Nat} (hS : SeOk S X) {b k t : Nat} (hb : b < eB S) (h : t < ply S 10 1 (10 * b + k)) : ∀ {m : Nat}, k + m ≤ eFin S b + 1 → dsum (lf S (ply S 10) t b) m k = 0 := by
  intro m hm
  refine dsum_zero (fun j j1 j2 => ?_)
  unfold lf
  rw [if_neg]
  rintro ⟨h1, h2⟩
  have := ply_mono hS hb (m := j - k) (k := k) (by omega)
  rw [show k + (j - k) = j by omega] at this
  omega
theorem pc_left {S : Se} {X : Nat} (hS : SeOk S X) {x s b t : Nat} (hx : Cr x) (hs : s < 10) (hb : b < eB S) (hf : s ≤ eFin S b) (ht : t < 2 ^ 30) {σ : Sg} (h : Hp σ) (hC : CRb x σ (ply S 10) (Vd S 10)) :
    ∀ (m k n : Nat), k + m = s → m < n → X0_stopsLeft_run n x (nI b) (nI s) (nI t) (nI k) σ = some (nI (k + dsum (lf S (ply S 10) t b) m k), σ) := by
  intro m
  have hB8 := hS.1
  have hT := tU9 hS.2.2.2.2.2.2.2.2.2.2.2
  induction m with
  | zero =>
    intro k n hk hn
    obtain ⟨n, rfl⟩ : ∃ q, n = q + 1 := ⟨n - 1, by omega⟩
    show X0_stopsLeft_b3 n (X0_stopsLeft_run n) x _ _ _ _ σ = _
    unfold X0_stopsLeft_b3 X0_stopsLeft_b30
    rw [if_pos (nI_le (by omega) (by omega))]
    rfl
  | succ m ih =>
    intro k n hk hn
    obtain ⟨n, rfl⟩ : ∃ q, n = q + 1 := ⟨n - 1, by omega⟩
    have c1 := (hC.1 (10 * b + k) ⟨b, k, hb, by omega, by omega, rfl⟩).2.1
    have hbd := (ply_bd hS hb (show k ≤ eFin S b by omega)).2
    show X0_stopsLeft_b3 n (X0_stopsLeft_run n) x _ _ _ _ σ = _
    unfold X0_stopsLeft_b3 X0_stopsLeft_b30
    rw [if_neg (nI_ge (by omega) (by omega)), gRc_1 h hx, ob, pc_cell, ob, aIc_2 h hx (by omega), ob, c1]
    by_cases e : t < ply S 10 1 (10 * b + k)
    · rw [if_pos (nI_lt e (by omega)), lf_zero hS hb e (by omega)]
      rfl
    · have c2 : k ≤ eFin S b ∧ ¬ t < ply S 10 1 (10 * b + k) := ⟨by omega, e⟩
      rw [if_neg (nI_nlt (by omega) (by omega)), nI_1, ob, ih (k + 1) n (by omega) (by omega)]
      show some (nI (k + 1 + dsum (lf S (ply S 10) t b) m (k + 1)), σ) = some (nI (k + (lf S (ply S 10) t b k + dsum (lf S (ply S 10) t b) m (k + 1))), σ)
      have : lf S (ply S 10) t b k = 1 := by unfold lf; rw [if_pos c2]
      rw [this, Nat.add_assoc]
theorem pc_stopsLeft {S : Se} {X : Nat} (hS : SeOk S X) {x s b t n : Nat} (hx : Cr x) (hs : s < 10) (hb : b < eB S) (hf : s ≤ eFin S b) (ht : t < 2 ^ 30) (hn : 20 ≤ n) {σ : Sg} (h : Hp σ) (hC : CRb x σ (ply S 10) (Vd S 10)) : f_X0_stopsLeft n x (nI b) (nI s) (nI t) σ = some (nI (cnB S (ply S 10) s t b), σ) := by
  have := pc_left hS hx hs hb hf ht h hC s 0 n (by omega) (by omega)
  rw [Nat.zero_add] at this
  exact this
theorem pc_near {S : Se} {X : Nat} (hS : SeOk S X) {x s t : Nat} (hx : Cr x) (hs : s < 10) (ht : t < 2 ^ 30) {σ : Sg} (h : Hp σ) (hL : CLine σ S) (hC : CRb x σ (ply S 10) (Vd S 10)) :
    ∀ (m b n : Nat), b + m = eB S → 20 + m < n → X0_nearestBus_run n x 1 (nI s) (nI t) (lgI (nb S (ply S 10) s t b).1) (nI (nb S (ply S 10) s t b).2) (nI b) σ = some (lgI (nb S (ply S 10) s t (eB S)).1, σ) := by
  intro m
  have hB8 := hS.1
  have hT := tU9 hS.2.2.2.2.2.2.2.2.2.2.2
  induction m with
  | zero =>
    intro b n hb hn
    obtain ⟨n, rfl⟩ : ∃ q, n = q + 1 := ⟨n - 1, by omega⟩
    have e : b = eB S := by omega
    subst e
    show X0_nearestBus_b10 n (X0_nearestBus_run n) x 1 _ _ _ _ _ σ = _
    unfold X0_nearestBus_b10
    rw [gI_1_1_7 h, ob, hL.1, if_pos (nI_le (Nat.le_refl _) (by omega))]
  | succ m ih =>
    intro b n hb hn
    obtain ⟨n, rfl⟩ : ∃ q, n = q + 1 := ⟨n - 1, by omega⟩
    have hbB : b < eB S := by omega
    have hn2 := (nb_le (S := S) (P := ply S 10) (s := s) (t := t) (k := b)).2
    have hc := cnB_le (S := S) (P := ply S 10) (s := s) (t := t) (b := b)
    have next := ih (b + 1) n (by omega) (by omega)
    have skip : ¬ (s ≤ eFin S b ∧ t < ply S 10 0 (10 * b + s) ∧ (nb S (ply S 10) s t b).2 < cnB S (ply S 10) s t b) → X0_nearestBus_b69 n (X0_nearestBus_run n) x 1 (nI s) (nI t) (lgI (nb S (ply S 10) s t b).1) (nI (nb S (ply S 10) s t b).2) (nI b) σ = some (lgI (nb S (ply S 10) s t (eB S)).1, σ) := by
      intro e
      have er : nb S (ply S 10) s t (b + 1) = nb S (ply S 10) s t b := by
        show (if _ then _ else _) = _
        rw [if_neg e]
      unfold X0_nearestBus_b69
      rw [nI_1, ob]
      rw [er] at next
      exact next
    show X0_nearestBus_b10 n (X0_nearestBus_run n) x 1 _ _ _ _ _ σ = _
    unfold X0_nearestBus_b10
    rw [gI_1_1_7 h, ob, hL.1, if_neg (nI_ge hbB (by omega)), ck_1 h, ob, pc_comes hS h hL hbB hs, ob]
    by_cases e1 : s ≤ eFin S b
    · have c1 := (hC.1 (10 * b + s) ⟨b, s, hbB, by omega, e1, rfl⟩).1
      have hbd := ply_bd hS hbB e1
      rw [if_pos e1, if_neg z10, gRc_0 h hx, ob, pc_cell, ob, aIc_1 h hx (by omega), ob, c1]
      by_cases e2 : t < ply S 10 0 (10 * b + s)
      · rw [if_neg (nI_ge e2 (by omega)), ckc h hx, ob, pc_stopsLeft hS hx hs hbB e1 ht (by omega) h hC, ob]
        by_cases e3 : (nb S (ply S 10) s t b).2 < cnB S (ply S 10) s t b
        · rw [if_neg (nI_ge e3 (by omega))]
          have er : nb S (ply S 10) s t (b + 1) = (b + 1, cnB S (ply S 10) s t b) := by
            show (if _ then _ else _) = _
            rw [if_pos ⟨e1, e2, e3⟩]
          unfold X0_nearestBus_b69
          rw [nI_1, ob]
          rw [er] at next
          exact next
        · rw [if_pos (nI_le (by omega) (by omega))]
          exact skip (fun z => e3 z.2.2)
      · rw [if_pos (nI_le (by omega) (by omega))]
        exact skip (fun z => e2 z.2.1)
    · rw [if_neg e1, if_pos rfl]
      exact skip (fun z => e1 z.1)
/-- a ride's end, as it is shown -/
def shX (S : Se) (P : Ps) (s t b : Nat) : Nat := P 1 (10 * b + (cnB S P s t b - 1)) + dsum (eRide S) (s - (cnB S P s t b - 1)) (cnB S P s t b - 1)
def shV (S : Se) (P : Ps) (s t b : Nat) : Int32 := if nI (shX S P s t b) - nI t < 0 then 0 else nI (shX S P s t b) - nI t
theorem pc_shown_run {S : Se} {s t : Nat} (hs : s < 10) {σ : Sg} (h : Hp σ) (hL : CLine σ S) : ∀ (m k n a : Nat), k + m = s → m < n → X0_shownSeconds_run n 1 (nI s) (nI t) (nI a) (nI k) σ = some (if nI (a + dsum (eRide S) m k) - nI t < 0 then 0 else nI (a + dsum (eRide S) m k) - nI t, σ) := by
  intro m
  induction m with
  | zero =>
    intro k n a hk hn
    obtain ⟨n, rfl⟩ : ∃ q, n = q + 1 := ⟨n - 1, by omega⟩
    show X0_shownSeconds_b36 n (X0_shownSeconds_run n) 1 _ _ _ _ σ = _
    unfold X0_shownSeconds_b36
    rw [if_pos (nI_le (by omega) (by omega))]
    rfl
  | succ m ih =>
    intro k n a hk hn
    obtain ⟨n, rfl⟩ : ∃ q, n = q + 1 := ⟨n - 1, by omega⟩
    show X0_shownSeconds_b36 n (X0_shownSeconds_run n) 1 _ _ _ _ σ = _
    unfold X0_shownSeconds_b36
    rw [if_neg (nI_ge (by omega) (by omega)), gR_1_1_0 h, ob, aI_2 h (by omega), ob, hL.2.1 k (by omega), nI_add, ob, nI_1, ob, ih (k + 1) n (a + eRide S k) (by omega) (by omega)]
    rw [show a + eRide S k + dsum (eRide S) m (k + 1) = a + dsum (eRide S) (m + 1) k by show _ = a + (eRide S k + dsum (eRide S) m (k + 1)); omega]
theorem pc_shown {S : Se} {X : Nat} (hS : SeOk S X) {x s b t n : Nat} (hx : Cr x) (hs : s < 10) (hb : b < eB S) (hf : s ≤ eFin S b) (ht : t < 2 ^ 30) (hn : 20 ≤ n) (hc1 : 1 ≤ cnB S (ply S 10) s t b) {σ : Sg} (h : Hp σ) (hL : CLine σ S) (hC : CRb x σ (ply S 10) (Vd S 10)) : f_X0_shownSeconds n x 1 (nI b) (nI s) (nI t) σ = some (shV S (ply S 10) s t b, σ) := by
  have hB8 := hS.1
  have hc := cnB_le (S := S) (P := ply S 10) (s := s) (t := t) (b := b)
  have c1 := (hC.1 (10 * b + (cnB S (ply S 10) s t b - 1)) ⟨b, _, hb, by omega, by omega, rfl⟩).2.1
  unfold f_X0_shownSeconds X0_shownSeconds_b0
  rw [ckc h hx, ob, pc_stopsLeft hS hx hs hb hf ht hn h hC, ob, show nI (cnB S (ply S 10) s t b) - 1 = nI (cnB S (ply S 10) s t b - 1) from nsub (b := 1) hc1, ob, if_pos (nI_pos' (by omega)), gRc_1 h hx, ob, pc_cell, ob, aIc_2 h hx (by omega), ob, c1]
  exact pc_shown_run hs h hL (s - (cnB S (ply S 10) s t b - 1)) (cnB S (ply S 10) s t b - 1) n _ (by omega) (by omega)
/-! the model's -/
theorem pm_b66 {S : Se} {X : Nat} (hS : SeOk S X) {s t b : Nat} {w q mx : Int32} (hs : s < 10) (ht : t < 2 ^ 30) (hb : b < eB S) {σ : Sg} (h : Hp σ) (hM : MFin S σ) : ∀ (m k n a : Nat), k + m = s →
    X5_board_run (n + m) 66 44 (nI s) (nI t) w q mx (nI b) (nI a) (nI k) σ = X5_board_run n 66 44 (nI s) (nI t) w q mx (nI b) (nI (a + dsum (lf S (ply S 10) t b) m k)) (nI s) σ := by
  intro m
  have hB8 := hS.1
  have hT := tU9 hS.2.2.2.2.2.2.2.2.2.2.2
  induction m with
  | zero =>
    intro k n a hk
    have e : k = s := by omega
    subst e
    rfl
  | succ m ih =>
    intro k n a hk
    have m1 := (hM.1 b hb k (by omega)).2.1
    have step : X5_board_run (n + (m + 1)) 66 44 (nI s) (nI t) w q mx (nI b) (nI a) (nI k) σ = X5_board_run (n + m) 66 44 (nI s) (nI t) w q mx (nI b) (nI (a + lf S (ply S 10) t b k)) (nI (k + 1)) σ := by
      show X5_board_b66 (n + m) (X5_board_run (n + m)) 44 (nI s) (nI t) w q mx (nI b) (nI a) (nI k) σ = _
      unfold X5_board_b66
      rw [if_neg (nI_ge (by omega) (by omega)), gR_5_44_18 h, ob, p10, aI_59 h (by omega), ob, m1]
      unfold lf
      by_cases e1 : k ≤ eFin S b
      · have hbd := (ply_bd hS hb e1).2
        rw [if_pos e1, if_neg (nI_pos (by omega)), ob, aI_59 h (by omega), ob, m1, if_pos e1]
        by_cases e2 : t < ply S 10 1 (10 * b + k)
        · have c2 : ¬ (k ≤ eFin S b ∧ ¬ t < ply S 10 1 (10 * b + k)) := fun z => z.2 e2
          rw [if_pos (nI_lt e2 (by omega)), if_neg c2]
          unfold X5_board_b111 X5_board_b112
          rw [show nI a + 0 = nI (a + 0) from nI_add a 0, ob, nI_1, ob]
        · have c2 : k ≤ eFin S b ∧ ¬ t < ply S 10 1 (10 * b + k) := ⟨e1, e2⟩
          rw [if_neg (nI_nlt (by omega) (by omega)), if_pos c2]
          unfold X5_board_b112
          rw [nI_1, ob, nI_1, ob]
      · have c2 : ¬ (k ≤ eFin S b ∧ ¬ t < ply S 10 1 (10 * b + k)) := fun z => e1 z.1
        rw [if_neg e1, if_pos (show (-6 : Int32) < 0 by decide), if_neg c2]
        unfold X5_board_b111 X5_board_b112
        rw [show nI a + 0 = nI (a + 0) from nI_add a 0, ob, nI_1, ob]
    rw [step, ih (k + 1) n (a + lf S (ply S 10) t b k) (by omega)]
    rw [show a + lf S (ply S 10) t b k + dsum (lf S (ply S 10) t b) m (k + 1) = a + dsum (lf S (ply S 10) t b) (m + 1) k by show _ = a + (lf S (ply S 10) t b k + dsum (lf S (ply S 10) t b) m (k + 1)); omega]
theorem pm_b51 {S : Se} {X : Nat} (hS : SeOk S X) {s t : Nat} {w : Int32} (hs : s < 10) (ht : t < 2 ^ 30) {σ : Sg} (h : Hp σ) (hL : MLine σ S) (hM : MFin S σ) : ∀ (m b n : Nat), b + m = eB S → 40 + 12 * m ≤ n →
    ∃ n', 40 ≤ n' ∧ X5_board_run n 51 44 (nI s) (nI t) w (lgI (nb S (ply S 10) s t b).1) (nI (nb S (ply S 10) s t b).2) (nI b) 0 0 σ = X5_board_run n' 51 44 (nI s) (nI t) w (lgI (nb S (ply S 10) s t (eB S)).1) (nI (nb S (ply S 10) s t (eB S)).2) (nI (eB S)) 0 0 σ := by
  intro m
  have hB8 := hS.1
  have hT := tU9 hS.2.2.2.2.2.2.2.2.2.2.2
  induction m with
  | zero =>
    intro b n hb hn
    have e : b = eB S := by omega
    subst e
    exact ⟨n, by omega, rfl⟩
  | succ m ih =>
    intro b n hb hn
    obtain ⟨n, rfl⟩ : ∃ q, n = ((q + 1) + s) + 1 := ⟨n - s - 2, by omega⟩
    have hbB : b < eB S := by omega
    have hn2 := (nb_le (S := S) (P := ply S 10) (s := s) (t := t) (k := b)).2
    have hc := cnB_le (S := S) (P := ply S 10) (s := s) (t := t) (b := b)
    obtain ⟨n', q1, q2⟩ := ih (b + 1) n (by omega) (by omega)
    refine ⟨n', q1, ?_⟩
    rw [← q2]
    show X5_board_b51 ((n + 1) + s) (X5_board_run ((n + 1) + s)) 44 (nI s) (nI t) w (lgI (nb S (ply S 10) s t b).1) (nI (nb S (ply S 10) s t b).2) (nI b) σ = _
    unfold X5_board_b51
    rw [gI_5_44_3 h, ob, hL.1, if_neg (nI_ge hbB (by omega))]
    have e66 := pm_b66 hS (s := s) (t := t) (b := b) (w := w) (q := lgI (nb S (ply S 10) s t b).1) (mx := nI (nb S (ply S 10) s t b).2) hs ht hbB h hM s 0 (n + 1) 0 (by omega)
    rw [Nat.zero_add] at e66
    have e66' : X5_board_run ((n + 1) + s) 66 44 (nI s) (nI t) w (lgI (nb S (ply S 10) s t b).1) (nI (nb S (ply S 10) s t b).2) (nI b) 0 0 σ = X5_board_run (n + 1) 66 44 (nI s) (nI t) w (lgI (nb S (ply S 10) s t b).1) (nI (nb S (ply S 10) s t b).2) (nI b) (nI (cnB S (ply S 10) s t b)) (nI s) σ := e66
    rw [e66']
    show X5_board_b66 n (X5_board_run n) 44 (nI s) (nI t) w (lgI (nb S (ply S 10) s t b).1) (nI (nb S (ply S 10) s t b).2) (nI b) (nI (cnB S (ply S 10) s t b)) (nI s) σ = _
    unfold X5_board_b66
    have m0 := (hM.1 b hbB s hs).1
    rw [if_pos (nI_le (Nat.le_refl _) (by omega)), gR_5_44_17 h, ob, p10, aI_58 h (by omega), ob, m0]
    have skip : ¬ (s ≤ eFin S b ∧ t < ply S 10 0 (10 * b + s) ∧ (nb S (ply S 10) s t b).2 < cnB S (ply S 10) s t b) → X5_board_b152 n (X5_board_run n) 44 (nI s) (nI t) w (lgI (nb S (ply S 10) s t b).1) (nI (nb S (ply S 10) s t b).2) (nI b) σ = X5_board_run n 51 44 (nI s) (nI t) w (lgI (nb S (ply S 10) s t (b + 1)).1) (nI (nb S (ply S 10) s t (b + 1)).2) (nI (b + 1)) 0 0 σ := by
      intro e
      have er : nb S (ply S 10) s t (b + 1) = nb S (ply S 10) s t b := by
        show (if _ then _ else _) = _
        rw [if_neg e]
      unfold X5_board_b152
      rw [nI_1, ob, er]
    by_cases e1 : s ≤ eFin S b
    · have hbd := ply_bd hS hbB e1
      rw [if_pos e1]
      by_cases e2 : t < ply S 10 0 (10 * b + s)
      · rw [if_neg (nI_ge e2 (by omega))]
        by_cases e3 : (nb S (ply S 10) s t b).2 < cnB S (ply S 10) s t b
        · rw [if_neg (nI_ge e3 (by omega))]
          have er : nb S (ply S 10) s t (b + 1) = (b + 1, cnB S (ply S 10) s t b) := by
            show (if _ then _ else _) = _
            rw [if_pos ⟨e1, e2, e3⟩]
          unfold X5_board_b152
          rw [nI_1, ob, er]
          rfl
        · rw [if_pos (nI_le (by omega) (by omega))]
          exact skip (fun z => e3 z.2.2)
      · rw [if_pos (nI_le (by omega) (by omega))]
        exact skip (fun z => e2 z.2.1)
    · have l6 : (-6 : Int32) ≤ nI t := Int32.le_trans (by decide) (nI_pos' (by omega))
      rw [if_neg e1, if_pos l6]
      exact skip (fun z => e1 z.1)
theorem i_sa (a b c : Int32) : a - b + c = (a + c) - b := by
  rw [Int32.sub_eq_add_neg, Int32.sub_eq_add_neg, Int32.add_assoc, Int32.add_comm (-b) c, Int32.add_assoc]
theorem pm_b201 {S : Se} {s t : Nat} {w q : Int32} (hs : s < 10) {σ : Sg} (h : Hp σ) (hL : MLine σ S) : ∀ (m k n a : Nat), k + m = s →
    X5_board_run (n + m + 1) 201 44 (nI s) (nI t) w q 0 (nI a - nI t) (nI k) 0 σ = X5_board_b236 n (X5_board_run n) 44 (nI s) (nI t) w q (if nI (a + dsum (eRide S) m k) - nI t < 0 then 0 else nI (a + dsum (eRide S) m k) - nI t) σ := by
  intro m
  induction m with
  | zero =>
    intro k n a hk
    have e : k = s := by omega
    subst e
    show X5_board_b201 n (X5_board_run n) 44 (nI k) (nI t) w q (nI a - nI t) (nI k) σ = _
    unfold X5_board_b201
    rw [if_pos (nI_le (Nat.le_refl _) (by omega))]
    show _ = X5_board_b236 n (X5_board_run n) 44 (nI k) (nI t) w q (if nI (a + 0) - nI t < 0 then 0 else nI (a + 0) - nI t) σ
    rw [Nat.add_zero]
    by_cases e : nI a - nI t < 0
    · rw [if_neg (fun z => by rw [← Int32.not_lt] at z; exact z e), if_pos e]
    · rw [if_pos (Int32.not_lt.mp e), if_neg e]
  | succ m ih =>
    intro k n a hk
    show X5_board_b201 (n + m + 1) (X5_board_run (n + m + 1)) 44 (nI s) (nI t) w q (nI a - nI t) (nI k) σ = _
    unfold X5_board_b201
    rw [if_neg (nI_ge (by omega) (by omega)), gR_5_44_0 h, ob, aI_45 h (by omega), ob, hL.2.1 k (by omega), i_sa, nI_add, ob, nI_1, ob, ih (k + 1) n (a + eRide S k) (by omega)]
    rw [show a + eRide S k + dsum (eRide S) m (k + 1) = a + dsum (eRide S) (m + 1) k by show _ = a + (eRide S k + dsum (eRide S) m (k + 1)); omega]
section
variable {W : Wd}
def bdR (W : Wd) (s t w : Nat) : Int32 :=
  if (nb (xS W (fun _ => false)) (pl W) s t (eB W.1)).1 = 0 then (if w = 2 then (-2000000000) else (-6))
  else if w = 0 then shV (xS W (fun _ => false)) (pl W) s t ((nb (xS W (fun _ => false)) (pl W) s t (eB W.1)).1 - 1)
  else if w = 1 then nI ((nb (xS W (fun _ => false)) (pl W) s t (eB W.1)).1 - 1)
  else (nI (pl W 0 (10 * ((nb (xS W (fun _ => false)) (pl W) s t (eB W.1)).1 - 1) + s)) - nI t) - shV (xS W (fun _ => false)) (pl W) s t ((nb (xS W (fun _ => false)) (pl W) s t (eB W.1)).1 - 1)
theorem bd_c (hW : Ok W) {n : Nat} (hn : 400 ≤ n) {s t w : Nat} (s1 : 1 ≤ s) (s2 : s ≤ 9) (ht : t ≤ 20000) (hw : w ≤ 2) : CZ (f_X4_board n 0 (nI s) (nI t) (nI w)) W W (bdR W s t w) := by
  intro σ h hI
  have hB8 : eB W.1 ≤ 8 := hW.1.1
  obtain ⟨τ, t1, t2, t3, t4, t5, t6⟩ := pc_pres hW (n := n) (by omega) h hI
  have hx : Cr 14 := Or.inl rfl
  refine ⟨τ, ?_, t2, t3, fun q hq => (t5 q (by omega)).1⟩
  have hnr := pc_near hW.x (x := 14) (s := s) (t := t) hx (by omega) (by omega) t2 t3.1 t4 (eB W.1) 0 n (Nat.zero_add _) (by omega)
  have hnr' : f_X0_nearestBus n 14 1 (nI s) (nI t) τ = some (lgI (nb (xS W (fun _ => false)) (pl W) s t (eB W.1)).1, τ) := hnr
  have hq := nb_le (S := xS W (fun _ => false)) (P := pl W) (s := s) (t := t) (k := eB W.1)
  have hin := nb_in (S := xS W (fun _ => false)) (P := pl W) (s := s) (t := t) (k := eB W.1)
  unfold f_X4_board
  rw [if_neg (show ¬ nI s < 1 from nI_nlt (b := 1) s1 (by omega)), if_pos (show nI s ≤ 9 from nI_le (b := 9) s2 (by decide)), if_neg (nI_pos (by omega)), if_neg (show ¬ 20000 < nI t from nI_nlt (a := 20000) ht (by decide)), if_neg (nI_pos (by omega)), if_pos (show nI w ≤ 2 from nI_le (b := 2) hw (by decide)), ck_0 h, ob, t1, ob, gR_4_0_0 t2, ob, ck14 t2, ob, hnr', ob]
  unfold bdR
  generalize hg : (nb (xS W (fun _ => false)) (pl W) s t (eB W.1)).1 = q at hq hin ⊢
  by_cases e : q = 0
  · rw [if_pos ((lgI_6 (by omega)).mpr e), if_pos e]
    by_cases ew : w = 2
    · rw [if_pos ew, if_pos (show nI w = 2 by rw [ew]; rfl)]
    · rw [if_neg ew, if_neg (show ¬ nI w = 2 from fun z => ew ((nI_eq (b := 2) (by omega) (by decide)).mp z))]
  · obtain ⟨i1, i2, i3, i4⟩ := hin e
    have hqb : q - 1 < eB W.1 := by omega
    have elg : lgI q = nI (q - 1) := by unfold lgI; rw [if_neg e]
    have hsh := pc_shown hW.x (x := 14) (s := s) (t := t) (b := q - 1) (n := n) hx (by omega) hqb i2 (by omega) (by omega) (by rw [i3] at i4; exact i4) t2 t3.1 t4
    have hsh' : f_X0_shownSeconds n 14 1 (nI (q - 1)) (nI s) (nI t) τ = some (shV (xS W (fun _ => false)) (pl W) s t (q - 1), τ) := hsh
    have c0 := (t4.1 (10 * (q - 1) + s) ⟨q - 1, s, hqb, by omega, i2, rfl⟩).1
    rw [if_neg (fun z => e ((lgI_6 (by omega)).mp z)), if_neg e, elg]
    by_cases ew1 : w = 1
    · rw [if_pos (show nI w = 1 by rw [ew1]; rfl), if_neg (show ¬ w = 0 by omega), if_pos ew1]
    · rw [if_neg (show ¬ nI w = 1 from fun z => ew1 ((nI_eq (b := 1) (by omega) (by decide)).mp z)), gR_4_0_0 t2, ob, ck14 t2, ob, hsh', ob]
      by_cases ew0 : w = 0
      · rw [if_pos ((nI_0' (by omega)).mpr ew0), if_pos ew0]
      · rw [if_neg (fun z => ew0 ((nI_0' (by omega)).mp z)), if_neg ew0, if_neg ew1, gRc_0 t2 hx, ob, pc_cell, ob, aIc_1 t2 hx (by omega), ob, c0]
theorem bd_m (hW : Ok W) {n : Nat} (hn : 400 ≤ n) {s t w : Nat} (s1 : 1 ≤ s) (s2 : s ≤ 9) (ht : t ≤ 20000) (hw : w ≤ 2) : MZ (f_X5_board n 44 (nI s) (nI t) (nI w)) W W (bdR W s t w) := by
  intro σ h hI
  have hB8 : eB W.1 ≤ 8 := hW.1.1
  obtain ⟨τ, t1, t2, t3⟩ := pm_prs hW hn h hI
  have h1 := t2.hp h
  have hL := (InvM_fn hI t2).1
  refine ⟨τ, ?_, h1, InvM_fn hI t2, fun q hq => t2.2.2.2.1 q (Or.inl hq), t2.2.2.1, t2.2.1⟩
  obtain ⟨n', q1, q2⟩ := pm_b51 hW.x (s := s) (t := t) (w := nI w) (by omega) (by omega) h1 hL t3 (eB W.1) 0 n (Nat.zero_add _) (by omega)
  have q2' : X5_board_run n 51 44 (nI s) (nI t) (nI w) (-6) 0 0 0 0 τ = X5_board_run n' 51 44 (nI s) (nI t) (nI w) (lgI (nb (xS W (fun _ => false)) (pl W) s t (eB W.1)).1) (nI (nb (xS W (fun _ => false)) (pl W) s t (eB W.1)).2) (nI (eB W.1)) 0 0 τ := q2
  have hq := nb_le (S := xS W (fun _ => false)) (P := pl W) (s := s) (t := t) (k := eB W.1)
  have hin := nb_in (S := xS W (fun _ => false)) (P := pl W) (s := s) (t := t) (k := eB W.1)
  unfold f_X5_board X5_board_b0
  rw [iy_1_9 ⟨s, s1, s2, rfl⟩, ob, if_neg z10, iy_0_20000 ⟨t, Nat.zero_le _, ht, rfl⟩, ob, if_neg z10, iy_0_2 ⟨w, Nat.zero_le _, hw, rfl⟩, ob, if_neg z10, ck_44 h, ob, t1, ob, q2']
  obtain ⟨n', rfl⟩ : ∃ q, n' = q + 1 := ⟨n' - 1, by omega⟩
  show X5_board_b51 n' (X5_board_run n') 44 (nI s) (nI t) (nI w) (lgI (nb (xS W (fun _ => false)) (pl W) s t (eB W.1)).1) (nI (nb (xS W (fun _ => false)) (pl W) s t (eB W.1)).2) (nI (eB W.1)) τ = _
  unfold X5_board_b51
  rw [gI_5_44_3 h1, ob, hL.1, if_pos (nI_le (Nat.le_refl _) (by omega))]
  unfold bdR
  generalize hg2 : (nb (xS W (fun _ => false)) (pl W) s t (eB W.1)).2 = mx at hq hin ⊢
  generalize hg : (nb (xS W (fun _ => false)) (pl W) s t (eB W.1)).1 = q at hq hin ⊢
  by_cases e : q = 0
  · have elg : lgI q = (-6) := (lgI_6 (by omega)).mpr e
    rw [elg, if_neg (show ¬ (0 : Int32) ≤ -6 by decide), if_pos e]
    by_cases ew : w = 2
    · rw [if_pos ew, if_pos (show nI w = 2 by rw [ew]; rfl)]
    · rw [if_neg ew, if_neg (show ¬ nI w = 2 from fun z => ew ((nI_eq (b := 2) (by omega) (by decide)).mp z))]
  · obtain ⟨i1, i2, i3, i4⟩ := hin e
    have hqb : q - 1 < eB W.1 := by omega
    have elg : lgI q = nI (q - 1) := by unfold lgI; rw [if_neg e]
    have hc := cnB_le (S := xS W (fun _ => false)) (P := pl W) (s := s) (t := t) (b := q - 1)
    have hmx : mx ≤ s := by omega
    have i2' : s ≤ eFin (xS W (fun _ => false)) (q - 1) := i2
    have m1 := (t3.1 (q - 1) hqb (mx - 1) (by omega)).2.1
    rw [if_pos (by omega)] at m1
    have m0 := (t3.1 (q - 1) hqb s (by omega)).1
    rw [if_pos i2'] at m0
    have eix : 10 * nI (q - 1) + nI mx - 1 = nI (10 * (q - 1) + (mx - 1)) := by
      rw [p10, show nI (10 * (q - 1) + mx) - 1 = nI (10 * (q - 1) + mx - 1) from nsub (b := 1) (by omega)]
      congr 1
      omega
    obtain ⟨n2, rfl⟩ : ∃ z, n' = z + (s - (mx - 1)) + 1 := ⟨n' - (s - (mx - 1)) - 1, by omega⟩
    have e201 := pm_b201 (S := xS W (fun _ => false)) (s := s) (t := t) (w := nI w) (q := nI (q - 1)) (by omega) h1 hL (s - (mx - 1)) (mx - 1) n2 (ply (xS W (fun _ => false)) 10 1 (10 * (q - 1) + (mx - 1))) (by omega)
    have esh : (if nI (ply (xS W (fun _ => false)) 10 1 (10 * (q - 1) + (mx - 1)) + dsum (eRide (xS W (fun _ => false))) (s - (mx - 1)) (mx - 1)) - nI t < 0 then 0 else nI (ply (xS W (fun _ => false)) 10 1 (10 * (q - 1) + (mx - 1)) + dsum (eRide (xS W (fun _ => false))) (s - (mx - 1)) (mx - 1)) - nI t) = shV (xS W (fun _ => false)) (pl W) s t (q - 1) := by
      unfold shV shX
      rw [← i3]
      rfl
    rw [esh] at e201
    rw [elg, if_pos (nI_pos' (by omega)), gR_5_44_18 h1, ob, eix, aI_59 h1 (by omega), ob, m1, ob, show nI mx - 1 = nI (mx - 1) from nsub (b := 1) i4, ob, e201, if_neg e]
    unfold X5_board_b236
    by_cases ew0 : w = 0
    · rw [if_pos ((nI_0' (by omega)).mpr ew0), if_pos ew0]
    · rw [if_neg (fun z => ew0 ((nI_0' (by omega)).mp z)), if_neg ew0]
      by_cases ew1 : w = 1
      · rw [if_pos (show nI w = 1 by rw [ew1]; rfl), if_pos ew1]
      · rw [if_neg (show ¬ nI w = 1 from fun z => ew1 ((nI_eq (b := 1) (by omega) (by decide)).mp z)), if_neg ew1, gR_5_44_17 h1, ob, p10, aI_58 h1 (by omega), ob, m0]
        rfl
theorem z_board (hW : Ok W) {n : Nat} (hn : 400 ≤ n) (i j k : Int32) : Pz (f_X4_board n 0 i j k) (f_X5_board n 44 i j k) W := by
  by_cases hi : Rg i 1 9
  · have hi2 := hi
    obtain ⟨s, s1, s2, rfl⟩ := hi
    have ci : ∀ (σ : Sg), ¬ nI s < 1 ∧ nI s ≤ 9 := fun _ => ⟨nI_nlt (b := 1) s1 (by omega), nI_le (b := 9) s2 (by decide)⟩
    by_cases hj : Rg j 0 20000
    · by_cases hk : Rg k 0 2
      · obtain ⟨t, t1, t2, rfl⟩ := hj
        obtain ⟨w, w1, w2, rfl⟩ := hk
        exact ⟨W, bdR W s t w, hW, bd_c hW hn s1 s2 t2 w2, bd_m hW hn s1 s2 t2 w2⟩
      · refine ⟨W, (-2), hW, CZ_no (fun σ h hI => ?_), MZ_no (fun σ h hI => ?_)⟩
        · unfold f_X4_board X4_board_b33
          rw [if_neg (ci σ).1, if_pos (ci σ).2]
          rcases nRg (lo := 0) (by decide) (by decide) hk with z | z
          · rw [if_pos (show k < 0 from z), ite_self, ite_self]
          · rw [if_neg (show ¬ k ≤ 2 from i_nle (by decide) z), ite_self, ite_self, ite_self]
        · unfold f_X5_board X5_board_b0 X5_board_b32
          rw [iy_1_9 hi2, ob, if_neg z10, iy_0_20000 hj, ob, if_neg z10, im_0_2 hk, ob, if_pos rfl]
    · refine ⟨W, (-2), hW, CZ_no (fun σ h hI => ?_), MZ_no (fun σ h hI => ?_)⟩
      · unfold f_X4_board X4_board_b33
        rw [if_neg (ci σ).1, if_pos (ci σ).2]
        rcases nRg (lo := 0) (by decide) (by decide) hj with z | z
        · rw [if_pos (show j < 0 from z)]
        · rw [if_pos (show 20000 < j from nI_le_lt (by decide) z), ite_self]
      · unfold f_X5_board X5_board_b0 X5_board_b32
        rw [iy_1_9 hi2, ob, if_neg z10, im_0_20000 hj, ob, if_pos rfl]
  · refine ⟨W, (-1), hW, CZ_no (fun σ h hI => ?_), MZ_no (fun σ h hI => ?_)⟩
    · unfold f_X4_board X4_board_b11
      rcases nRg (lo := 1) (by decide) (by decide) hi with z | z
      · rw [if_pos (show i < 1 from z)]
      · rw [if_neg (show ¬ i ≤ 9 from i_nle (by decide) z), ite_self]
    · unfold f_X5_board X5_board_b0
      rw [im_1_9 hi, ob, if_pos rfl]
end
