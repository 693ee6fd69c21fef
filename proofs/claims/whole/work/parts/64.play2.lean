def sA (σ : Sg) (k : Nat) (A : Nat → Int32) : Sg := (σ.1, va_up σ.2.1 k A, σ.2.2.1, σ.2.2.2)
def sB (σ : Sg) (k : Nat) (A : Nat → Int64) : Sg := (σ.1, σ.2.1, va_up σ.2.2.1 k A, σ.2.2.2)
theorem sI_sA {σ : Sg} {k j : Nat} {v : Int32} : sI σ k j v = sA σ k (upd (σ.2.1 k) j v) := rfl
theorem sJ_sB {σ : Sg} {k j : Nat} {v : Int64} : sJ σ k j v = sB σ k (vp_updL (σ.2.2.1 k) j v) := rfl
theorem sA_sA {σ : Sg} {k : Nat} {A B : Nat → Int32} : sA (sA σ k A) k B = sA σ k B := by
  unfold sA
  have e : va_up (va_up σ.2.1 k A) k B = va_up σ.2.1 k B := bx_uu _ _ _ _
  show (σ.1, va_up (va_up σ.2.1 k A) k B, σ.2.2.1, σ.2.2.2) = _
  rw [e]
theorem sB_sB {σ : Sg} {k : Nat} {A B : Nat → Int64} : sB (sB σ k A) k B = sB σ k B := by
  unfold sB
  show (σ.1, σ.2.1, va_up (va_up σ.2.2.1 k A) k B, σ.2.2.2) = _
  rw [bx_uu]
theorem sA_eq {σ : Sg} {k : Nat} {A : Nat → Int32} : (sA σ k A).2.1 k = A := va_up_self _ _ _
theorem sA_ne {σ : Sg} {k q : Nat} {A : Nat → Int32} (h : q ≠ k) : (sA σ k A).2.1 q = σ.2.1 q := va_up_ne _ _ h
theorem sB_eq {σ : Sg} {k : Nat} {A : Nat → Int64} : (sB σ k A).2.2.1 k = A := va_up_self _ _ _
theorem sB_ne {σ : Sg} {k q : Nat} {A : Nat → Int64} (h : q ≠ k) : (sB σ k A).2.2.1 q = σ.2.2.1 q := va_up_ne _ _ h
theorem sA_self {σ : Sg} {k : Nat} {A : Nat → Int32} (h : A = σ.2.1 k) : sA σ k A = σ := by
  subst h
  unfold sA
  have e : va_up σ.2.1 k (σ.2.1 k) = σ.2.1 := by
    funext q
    unfold va_up
    by_cases e : q = k
    · rw [if_pos e, e]
    · rw [if_neg e]
  rw [e]
theorem sB_self {σ : Sg} {k : Nat} {A : Nat → Int64} (h : A = σ.2.2.1 k) : sB σ k A = σ := by
  subst h
  unfold sB
  have e : va_up σ.2.2.1 k (σ.2.2.1 k) = σ.2.2.1 := by
    funext q
    unfold va_up
    by_cases e : q = k
    · rw [if_pos e, e]
    · rw [if_neg e]
  rw [e]
theorem pc_fill_run {k N : Nat} {v : Int32} (h1 : kd k = 6) (h2 : k < 73) (h3 : ln k = N) (hN : N < 100) : ∀ (m i n : Nat) (σ : Sg), Hp σ → i + m = N → m < n → J7_fill_53178_run n k v (nI i) (nI N) σ = some (sA σ k (fun j => if i ≤ j ∧ j < N then v else σ.2.1 k j)) := by
  intro m
  induction m with
  | zero =>
    intro i n σ h hi hn
    obtain ⟨n, rfl⟩ : ∃ q, n = q + 1 := ⟨n - 1, by omega⟩
    show J7_fill_53178_b5 n _ k v (nI i) (nI N) σ = _
    unfold J7_fill_53178_b5
    rw [if_pos (nI_le (by omega) (by omega))]
    rw [sA_self]
    funext j
    rw [if_neg (by omega)]
  | succ m ih =>
    intro i n σ h hi hn
    obtain ⟨n, rfl⟩ : ∃ q, n = q + 1 := ⟨n - 1, by omega⟩
    show J7_fill_53178_b5 n _ k v (nI i) (nI N) σ = _
    unfold J7_fill_53178_b5
    rw [if_neg (nI_ge (by omega) (by omega)), xI_g h h1 h2 h3 hN (by omega), ob, nI_1, ob, ih (i + 1) n (sI σ k i v) h (by omega) (by omega), sI_sA, sA_sA]
    congr 2
    funext j
    rw [sA_eq]
    unfold upd
    by_cases e1 : j = i
    · rw [if_neg (by omega), if_pos e1, if_pos (by omega)]
    · by_cases e2 : i + 1 ≤ j ∧ j < N
      · rw [if_pos e2, if_pos (by omega)]
      · rw [if_neg e2, if_neg e1, if_neg (by omega)]
theorem pc_fill {k N n : Nat} {v : Int32} {σ : Sg} (h : Hp σ) (h1 : kd k = 6) (h2 : k < 73) (h3 : ln k = N) (hN : N < 100) (hn : 100 ≤ n) : f_J7_fill_53178 n k v σ = some (sA σ k (fun j => if j < N then v else σ.2.1 k j)) := by
  unfold f_J7_fill_53178 J7_fill_53178_b0
  rw [al_g h (Or.inl h1) h2, ob, h3]
  rw [show (0 : Int32) = nI 0 from rfl, pc_fill_run h1 h2 h3 hN N 0 n σ h (by omega) (by omega)]
  congr 2
  funext j
  by_cases e : j < N
  · rw [if_pos e, if_pos ⟨Nat.zero_le _, e⟩]
  · rw [if_neg e, if_neg (fun z => e z.2)]
theorem pc_fillJ_run {k N : Nat} {v : Int64} (h1 : kd k = 7) (h2 : k < 73) (h3 : ln k = N) (hN : N < 100) : ∀ (m i n : Nat) (σ : Sg), Hp σ → i + m = N → m < n → J7_fill_d0a16_run n k v (nI i) (nI N) σ = some (sB σ k (fun j => if i ≤ j ∧ j < N then v else σ.2.2.1 k j)) := by
  intro m
  induction m with
  | zero =>
    intro i n σ h hi hn
    obtain ⟨n, rfl⟩ : ∃ q, n = q + 1 := ⟨n - 1, by omega⟩
    show J7_fill_d0a16_b6 n _ k v (nI i) (nI N) σ = _
    unfold J7_fill_d0a16_b6
    rw [if_pos (nI_le (by omega) (by omega))]
    rw [sB_self]
    funext j
    rw [if_neg (by omega)]
  | succ m ih =>
    intro i n σ h hi hn
    obtain ⟨n, rfl⟩ : ∃ q, n = q + 1 := ⟨n - 1, by omega⟩
    show J7_fill_d0a16_b6 n _ k v (nI i) (nI N) σ = _
    unfold J7_fill_d0a16_b6
    rw [if_neg (nI_ge (by omega) (by omega)), xJ_g h h1 h2 h3 hN (by omega), ob, nI_1, ob, ih (i + 1) n (sJ σ k i v) h (by omega) (by omega), sJ_sB, sB_sB]
    congr 2
    funext j
    rw [sB_eq]
    unfold vp_updL
    by_cases e1 : j = i
    · rw [if_neg (by omega), if_pos e1, if_pos (by omega)]
    · by_cases e2 : i + 1 ≤ j ∧ j < N
      · rw [if_pos e2, if_pos (by omega)]
      · rw [if_neg e2, if_neg e1, if_neg (by omega)]
theorem pc_fillJ {k N n : Nat} {v : Int64} {σ : Sg} (h : Hp σ) (h1 : kd k = 7) (h2 : k < 73) (h3 : ln k = N) (hN : N < 100) (hn : 100 ≤ n) : f_J7_fill_d0a16 n k v σ = some (sB σ k (fun j => if j < N then v else σ.2.2.1 k j)) := by
  unfold f_J7_fill_d0a16 J7_fill_d0a16_b0
  rw [al_g h (Or.inr h1) h2, ob, h3]
  rw [show (0 : Int32) = nI 0 from rfl, pc_fillJ_run h1 h2 h3 hN N 0 n σ h (by omega) (by omega)]
  congr 2
  funext j
  by_cases e : j < N
  · rw [if_pos e, if_pos ⟨Nat.zero_le _, e⟩]
  · rw [if_neg e, if_neg (fun z => e z.2)]
/-- an array that holds a row, told from its end -/
def Arr (A : Nat → Int32) : List Nat → Prop
  | [] => True
  | a :: r => A r.length = nI a ∧ Arr A r
theorem Arr_congr {A B : Nat → Int32} : ∀ {r : List Nat}, (∀ i, i < r.length → B i = A i) → Arr A r → Arr B r := by
  intro r
  induction r with
  | nil => intro _ _; trivial
  | cons a r ih =>
    intro h h1
    exact ⟨(h r.length (by simp)).trans h1.1, ih (fun i hi => h i (by rw [List.length_cons]; omega)) h1.2⟩
theorem Arr_app {A : Nat → Int32} : ∀ {u v : List Nat}, Arr A (u ++ v) → Arr A v := by
  intro u
  induction u with
  | nil => intro v h; exact h
  | cons a u ih => intro v h; exact ih h.2
theorem Arr_at {A : Nat → Int32} {r pre post : List Nat} {b : Nat} (h : Arr A r) (e : r.reverse = pre ++ b :: post) : A pre.length = nI b := by
  have e2 : r = post.reverse ++ (b :: pre.reverse) := by
    have := congrArg List.reverse e
    rw [List.reverse_reverse] at this
    rw [this]
    simp
  rw [e2] at h
  have h2 := (Arr_app h).1
  rw [List.length_reverse] at h2
  exact h2
theorem aI_t {σ : Sg} {x a c : Nat} (h : Hp σ) (hx : Cr x) (ha : a = x + 1 ∨ a = x + 2) (hc : c < 80) : aI a (nI c) σ = some (σ.2.1 a c) := by
  rcases ha with rfl | rfl
  · exact aIc_1 h hx hc
  · exact aIc_2 h hx hc
theorem pc_ins {x a1 s b : Nat} (hx : Cr x) (ha : a1 = x + 1 ∨ a1 = x + 2) (hs : s < 10) (hb : b < 8) {t : Nat → Nat} : ∀ (r : List Nat) (σ : Sg) (n : Nat), Hp σ → (∀ a ∈ b :: r, a < 8 ∧ σ.2.1 a1 (10 * a + s) = nI (t a) ∧ t a < 2 ^ 31) → r.length < 8 → r.length < n → Arr (σ.2.1 (x + 11)) r →
    ∃ A, X0_putInOrder_run n x a1 (nI s) (nI b) (nI r.length) σ = some (sA σ (x + 11) A) ∧ Arr A (insR t b r) ∧ ∀ i, r.length < i → A i = σ.2.1 (x + 11) i := by
  intro r
  induction r with
  | nil =>
    intro σ n h ht hl hn hA
    obtain ⟨n, rfl⟩ : ∃ q, n = q + 1 := ⟨n - 1, by simp at hn; omega⟩
    show ∃ A, X0_putInOrder_b4 n _ x a1 (nI s) (nI b) (nI 0) σ = _ ∧ _
    unfold X0_putInOrder_b4
    rw [if_pos (show nI 0 ≤ 0 by decide)]
    unfold X0_putInOrder_b56
    rw [gRc_12 h hx, ob, xIc_11 h hx (by omega), ob, sI_sA]
    refine ⟨_, rfl, ⟨pk_us, trivial⟩, fun i hi => pk_un (by simp at hi; omega)⟩
  | cons a r ih =>
    intro σ n h ht hl hn hA
    obtain ⟨n, rfl⟩ : ∃ q, n = q + 1 := ⟨n - 1, by simp at hn; omega⟩
    rw [List.length_cons] at hl hn ⊢
    have ha8 := ht a (List.mem_cons_of_mem _ List.mem_cons_self)
    have hb8 := ht b List.mem_cons_self
    show ∃ A, X0_putInOrder_b4 n _ x a1 (nI s) (nI b) (nI (r.length + 1)) σ = _ ∧ _
    unfold X0_putInOrder_b4
    have em : nI (r.length + 1) - 1 = nI r.length := nsub (b := 1) (by omega)
    have em2 : nI (r.length + 1) + (-1) = nI r.length := pk_m1 _
    rw [if_neg (fun z => by have := (nI_le0 (by omega)).mp z; omega), gRc_12 h hx, ob, em, aIc_11 h hx (by omega), ob, hA.1, pc_cell, ob, aI_t h hx ha (by omega), ob, ha8.2.1, pc_cell, ob, aI_t h hx ha (by omega), ob, hb8.2.1]
    by_cases e : t b < t a
    · rw [if_neg (nI_ge e ha8.2.2), gRc_12 h hx, ob, ob, aIc_11 h hx (by omega), ob, hA.1, xIc_11 h hx (by omega), ob, em2, ob]
      have hr : r.length < 8 := by omega
      obtain ⟨A, q1, q2, q3⟩ := ih (sI σ (x + 11) (r.length + 1) (nI a)) n h (fun c hc => by
        have hc' := ht c (by
          rcases List.mem_cons.mp hc with rfl | hc
          · exact List.mem_cons_self
          · exact List.mem_cons_of_mem _ (List.mem_cons_of_mem _ hc))
        rw [rI_ne (by omega)]
        exact hc') hr (by omega) (by
        refine Arr_congr (fun i hi => ?_) hA.2
        rw [rI_eq]
        exact pk_un (by omega))
      rw [q1, sI_sA, sA_sA]
      refine ⟨A, rfl, ?_, fun i hi => ?_⟩
      · unfold insR
        rw [if_pos e]
        refine ⟨?_, q2⟩
        rw [insR_len, q3 (r.length + 1) (by omega), rI_eq]
        exact pk_us
      · rw [q3 i (by omega), rI_eq]
        exact pk_un (by omega)
    · rw [if_pos (nI_le (by omega) hb8.2.2)]
      unfold X0_putInOrder_b56
      rw [gRc_12 h hx, ob, xIc_11 h hx (by omega), ob, sI_sA]
      refine ⟨_, rfl, ?_, fun i hi => pk_un (by omega)⟩
      unfold insR
      rw [if_neg e]
      refine ⟨by rw [List.length_cons]; exact pk_us, ?_⟩
      refine Arr_congr (fun i hi => ?_) hA
      rw [List.length_cons] at hi
      exact pk_un (by omega)
theorem pc_putInOrder {x a1 s b n : Nat} (hx : Cr x) (ha : a1 = x + 1 ∨ a1 = x + 2) (hs : s < 10) (hb : b < 8) {t : Nat → Nat} {r : List Nat} {σ : Sg} (h : Hp σ) (ht : ∀ a ∈ b :: r, a < 8 ∧ σ.2.1 a1 (10 * a + s) = nI (t a) ∧ t a < 2 ^ 31) (hl : r.length < 8) (hn : 10 ≤ n) (hA : Arr (σ.2.1 (x + 11)) r) :
    ∃ A, f_X0_putInOrder n x a1 (nI s) (nI b) (nI r.length) σ = some (sA σ (x + 11) A) ∧ Arr A (insR t b r) := by
  obtain ⟨A, q1, q2, q3⟩ := pc_ins hx ha hs hb r σ n h ht hl (by omega) hA
  exact ⟨A, q1, q2⟩
