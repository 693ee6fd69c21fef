/-! THE SPECIFICATION over natural numbers: what is set (Se), and a play of it (Ps: field by field, by cell 10 * bus + stop, by stop, or by bus) -/
abbrev Se : Type := (Nat × (Nat → Nat) × (Nat → Nat) × (Nat → Nat)) × (Nat → Nat) × ((Nat → Nat) × (Nat → Nat) × (Nat → Nat)) × (Nat → Nat → Nat) × ((Nat → Nat) × (Nat → Nat))
def eB (S : Se) : Nat := S.1.1
def eRide (S : Se) : Nat → Nat := S.1.2.1
def eGap (S : Se) : Nat → Nat := S.1.2.2.1
def eTrip (S : Se) : Nat → Nat := S.1.2.2.2
def eSet (S : Se) : Nat → Nat := S.2.1
def eBeg (S : Se) : Nat → Nat := S.2.2.1.1
def eSeat (S : Se) : Nat → Nat := S.2.2.1.2.1
def eFin (S : Se) : Nat → Nat := S.2.2.1.2.2
def eEx (S : Se) : Nat → Nat → Nat := S.2.2.2.1
def eHow (S : Se) : Nat → Nat := S.2.2.2.2.1
def eBy (S : Se) : Nat → Nat := S.2.2.2.2.2
def eGoal (S : Se) (s : Nat) : Nat := if 9 < s + eTrip S s then 9 else s + eTrip S s
/-- a sum of m terms from s on -/
def dsum (f : Nat → Nat) : Nat → Nat → Nat
  | 0, _ => 0
  | m + 1, s => f s + dsum f m (s + 1)
/-- fields: 0 come, 1 leave, 2 on, 3 off, 4 inside, 5 left (by cell); 6 taken, 7 waits, 8 longest (by stop); 9 rode; 10 stranded; 11 wants, 12 since (by cell of the goal); 13 rode as people get off; 14 latest; 15 latest of those that go on, + 1 (0: none); 16 last come, 17 inside now, 18 since of all inside (by bus) -/
abbrev Ps : Type := Nat → Nat → Nat
section
variable (S : Se) (s b : Nat) (P : Ps)
def vC : Nat := if eSet S 3 = 0 then max (P 0 (10 * b + s)) (P 14 0) else P 0 (10 * b + s)
def vB : Nat := if s = 0 then 0 else P 4 (10 * b + s - 1)
def vO : Nat := P 11 (10 * b + s)
def vS : Nat := if s < eFin S b then vB s b P - vO s b P else 0
def vT : Nat := (if eGap S s = 0 then 0 else vC S s b P / eGap S s) - P 6 s
def vN : Nat := if s < eFin S b then min (eSeat S b - vS S s b P) (vT S s b P) else 0
def vG : Nat := if s < eFin S b then vO s b P else vB s b P
def vD : Nat := if vN S s b P = 0 ∧ vG S s b P = 0 then eEx S b s else eSet S 0 + eSet S 1 * vN S s b P + eSet S 2 * vG S s b P + eEx S b s
def vF : Nat := if s = 0 then vC S s b P else P 0 (10 * b)
def vQ : Nat := if eHow S s = 1 then vF S s b P + 10 * eBy S s else if eHow S s = 2 ∧ P 15 0 ≠ 0 then P 15 0 - 1 + eBy S s else 0
def vL : Nat := if s < eFin S b then max (vC S s b P + vD S s b P) (vQ S s b P) else vC S s b P + vD S s b P
/-- a visit -/
def sv : Ps := fun f k => match f with
  | 0 => if k = 10 * b + s then vC S s b P else P 0 k
  | 1 => if k = 10 * b + s then vL S s b P else P 1 k
  | 2 => if k = 10 * b + s then vN S s b P else P 2 k
  | 3 => if k = 10 * b + s then vO s b P else P 3 k
  | 4 => if k = 10 * b + s then vS S s b P + vN S s b P else P 4 k
  | 5 => if k = 10 * b + s then vT S s b P - vN S s b P else P 5 k
  | 6 => if k = s then P 6 s + vN S s b P else P 6 k
  | 7 => if k = s then P 7 s + (vN S s b P * vC S s b P - eGap S s * (vN S s b P * P 6 s + vN S s b P * (vN S s b P + 1) / 2)) else P 7 k
  | 8 => if k = s ∧ 0 < vN S s b P then max (P 8 s) (vC S s b P - eGap S s * (P 6 s + 1)) else P 8 k
  | 9 => if s = 0 then P 9 k else P 9 k + vB s b P * (vC S s b P - P 0 (10 * b + s - 1))
  | 10 => if s < eFin S b then P 10 k else P 10 k + (vB s b P - vO s b P)
  | 11 => if k = 10 * b + eGoal S s ∧ 0 < vN S s b P then P 11 k + vN S s b P else if k = 10 * b + s ∨ (¬ s < eFin S b ∧ 10 * b + s ≤ k ∧ k < 10 * b + 10) then 0 else P 11 k
  | 12 => if k = 10 * b + eGoal S s ∧ 0 < vN S s b P then P 12 k + vN S s b P * vC S s b P else if k = 10 * b + s ∨ (¬ s < eFin S b ∧ 10 * b + s ≤ k ∧ k < 10 * b + 10) then 0 else P 12 k
  | 13 => if s < eFin S b then P 13 k + (vO s b P * vC S s b P - P 12 (10 * b + s)) else P 13 k + (vB s b P * vC S s b P - P 18 b)
  | 14 => max (P 14 k) (vL S s b P)
  | 15 => if s < eFin S b then max (P 15 k) (vL S s b P + 1) else P 15 k
  | 16 => if k = b then vC S s b P else P 16 k
  | 17 => if k = b then vS S s b P + vN S s b P else P 17 k
  | 18 => if k = b then (if s < eFin S b then P 18 b - P 12 (10 * b + s) + vN S s b P * vC S s b P else 0) else P 18 k
  | _ => P f k
/-- a stop's beginning: who would come, and when -/
def sr : Ps := fun f k => match f with
  | 0 => if k % 10 = s ∧ k / 10 < eB S ∧ s ≤ eFin S (k / 10) then (if s = 0 then eBeg S (k / 10) else P 1 (k - 1) + eRide S (s - 1)) else P 0 k
  | 14 => 0
  | 15 => 0
  | _ => P f k
end
/-- a bus put into a row that is told from its end -/
def insR (t : Nat → Nat) (b : Nat) : List Nat → List Nat
  | [] => [b]
  | a :: r => if t b < t a then a :: insR t b r else b :: a :: r
/-- the buses below n that are wanted, in order, told from its end -/
def rowR (t : Nat → Nat) (w : Nat → Bool) : Nat → List Nat
  | 0 => []
  | n + 1 => if w n then insR t n (rowR t w n) else rowR t w n
def comeT (s : Nat) (P : Ps) (b : Nat) : Nat := P 0 (10 * b + s)
def comeW (S : Se) (s : Nat) (b : Nat) : Bool := decide (s ≤ eFin S b)
def ordC (S : Se) (s : Nat) (P : Ps) : List Nat := (rowR (comeT s (sr S s P)) (comeW S s) (eB S)).reverse
def svs (S : Se) (s : Nat) : List Nat → Ps → Ps
  | [], P => P
  | b :: r, P => svs S s r (sv S s b P)
def stp (S : Se) (s : Nat) (P : Ps) : Ps := svs S s (ordC S s P) (sr S s P)
def ps0 : Ps := fun _ _ => 0
def ply (S : Se) : Nat → Ps
  | 0 => ps0
  | s + 1 => stp S s (ply S s)
-- rows
theorem insR_mem {t : Nat → Nat} {b x : Nat} : ∀ {r : List Nat}, x ∈ insR t b r ↔ x = b ∨ x ∈ r := by
  intro r
  induction r with
  | nil => simp [insR]
  | cons a r ih =>
    unfold insR
    split
    · rw [List.mem_cons, ih, List.mem_cons]
      constructor
      · rintro (h | h | h)
        · exact Or.inr (Or.inl h)
        · exact Or.inl h
        · exact Or.inr (Or.inr h)
      · rintro (h | h | h)
        · exact Or.inr (Or.inl h)
        · exact Or.inl h
        · exact Or.inr (Or.inr h)
    · simp
theorem rowR_mem {t : Nat → Nat} {w : Nat → Bool} {x : Nat} : ∀ {n : Nat}, x ∈ rowR t w n ↔ x < n ∧ w x = true := by
  intro n
  induction n with
  | zero => simp [rowR]
  | succ n ih =>
    unfold rowR
    split
    · rename_i h
      rw [insR_mem, ih]
      constructor
      · rintro (rfl | h2)
        · exact ⟨Nat.lt_succ_self _, h⟩
        · exact ⟨Nat.lt_succ_of_lt h2.1, h2.2⟩
      · rintro ⟨h1, h2⟩
        rcases Nat.lt_succ_iff_lt_or_eq.mp h1 with h3 | h3
        · exact Or.inr ⟨h3, h2⟩
        · exact Or.inl h3
    · rename_i h
      rw [ih]
      constructor
      · rintro ⟨h1, h2⟩
        exact ⟨Nat.lt_succ_of_lt h1, h2⟩
      · rintro ⟨h1, h2⟩
        rcases Nat.lt_succ_iff_lt_or_eq.mp h1 with h3 | h3
        · exact ⟨h3, h2⟩
        · subst h3
          exact absurd h2 h
theorem insR_len {t : Nat → Nat} {b : Nat} : ∀ {r : List Nat}, (insR t b r).length = r.length + 1 := by
  intro r
  induction r with
  | nil => rfl
  | cons a r ih =>
    unfold insR
    split
    · rw [List.length_cons, ih, List.length_cons]
    · rfl
theorem rowR_len {t : Nat → Nat} {w : Nat → Bool} : ∀ n : Nat, (rowR t w n).length ≤ n := by
  intro n
  induction n with
  | zero => exact Nat.le_refl _
  | succ n ih =>
    unfold rowR
    split
    · rw [insR_len]; omega
    · omega
theorem insR_nodup {t : Nat → Nat} {b : Nat} : ∀ {r : List Nat}, r.Nodup → b ∉ r → (insR t b r).Nodup := by
  intro r
  induction r with
  | nil => intro _ _; simp [insR]
  | cons a r ih =>
    intro h1 h2
    rw [List.nodup_cons] at h1
    rw [List.mem_cons, not_or] at h2
    unfold insR
    split
    · rw [List.nodup_cons]
      refine ⟨?_, ih h1.2 h2.2⟩
      rw [insR_mem, not_or]
      exact ⟨fun e => h2.1 e.symm, h1.1⟩
    · rw [List.nodup_cons, List.nodup_cons, List.mem_cons, not_or]
      exact ⟨⟨h2.1, h2.2⟩, h1⟩
theorem rowR_nodup {t : Nat → Nat} {w : Nat → Bool} : ∀ n : Nat, (rowR t w n).Nodup := by
  intro n
  induction n with
  | zero => exact List.nodup_nil
  | succ n ih =>
    unfold rowR
    split
    · exact insR_nodup ih (fun h => absurd (rowR_mem.mp h).1 (Nat.lt_irrefl n))
    · exact ih
/-- told from the end, the times fall -/
theorem insR_sorted {t : Nat → Nat} {b : Nat} : ∀ {r : List Nat}, r.Pairwise (fun x y => t y ≤ t x) → (insR t b r).Pairwise (fun x y => t y ≤ t x) := by
  intro r
  induction r with
  | nil => intro _; simp [insR]
  | cons a r ih =>
    intro h
    rw [List.pairwise_cons] at h
    unfold insR
    split
    · rename_i hlt
      rw [List.pairwise_cons]
      refine ⟨fun y hy => ?_, ih h.2⟩
      rcases insR_mem.mp hy with rfl | hy
      · omega
      · exact h.1 y hy
    · rename_i hlt
      rw [List.pairwise_cons, List.pairwise_cons]
      refine ⟨fun y hy => ?_, h⟩
      rcases List.mem_cons.mp hy with rfl | hy
      · omega
      · have := h.1 y hy
        omega
theorem rowR_sorted {t : Nat → Nat} {w : Nat → Bool} : ∀ n : Nat, (rowR t w n).Pairwise (fun x y => t y ≤ t x) := by
  intro n
  induction n with
  | zero => exact List.Pairwise.nil
  | succ n ih =>
    unfold rowR
    split
    · exact insR_sorted ih
    · exact ih
/-- where the times don't fall by number, the row is by number -/
def rowN (w : Nat → Bool) : Nat → List Nat
  | 0 => []
  | n + 1 => if w n then n :: rowN w n else rowN w n
theorem rowR_mono {t : Nat → Nat} {w : Nat → Bool} : ∀ n : Nat, (∀ a b, a < b → b < n → w a = true → w b = true → t a ≤ t b) → rowR t w n = rowN w n := by
  intro n
  induction n with
  | zero => intro _; rfl
  | succ n ih =>
    intro h
    have e := ih (fun a b h1 h2 => h a b h1 (Nat.lt_succ_of_lt h2))
    unfold rowR rowN
    split
    · rename_i hw
      rw [← e]
      cases hr : rowR t w n with
      | nil => rfl
      | cons a r =>
        have ha : a ∈ rowR t w n := by rw [hr]; exact List.mem_cons_self
        have h2 := rowR_mem.mp ha
        have h3 := h a n h2.1 (Nat.lt_succ_self n) h2.2 hw
        unfold insR
        rw [if_neg (by omega)]
    · exact e
theorem dsum_congr {f g : Nat → Nat} : ∀ {m s : Nat}, (∀ k, s ≤ k → k < s + m → f k = g k) → dsum f m s = dsum g m s := by
  intro m
  induction m with
  | zero => intro s _; rfl
  | succ m ih =>
    intro s h
    unfold dsum
    rw [h s (Nat.le_refl _) (by omega), ih (fun k h1 h2 => h k (by omega) (by omega))]
theorem dsum_zero {f : Nat → Nat} {m s : Nat} (h : ∀ k, s ≤ k → k < s + m → f k = 0) : dsum f m s = 0 := by
  induction m generalizing s with
  | zero => rfl
  | succ m ih =>
    unfold dsum
    rw [h s (Nat.le_refl _) (by omega), ih (fun k h1 h2 => h k (by omega) (by omega))]
theorem dsum_upd {f : Nat → Nat} {g d : Nat} : ∀ {m s : Nat}, s ≤ g → g < s + m → dsum (fun k => if k = g then f k + d else f k) m s = dsum f m s + d := by
  intro m
  induction m with
  | zero => intro s h1 h2; omega
  | succ m ih =>
    intro s h1 h2
    unfold dsum
    by_cases e : s = g
    · subst e
      rw [if_pos rfl, dsum_congr (g := f) (fun k h3 h4 => by rw [if_neg (by omega)])]
      omega
    · rw [if_neg e, ih (by omega) (by omega)]
      omega
