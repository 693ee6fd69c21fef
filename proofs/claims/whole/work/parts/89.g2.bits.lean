/-! ten bits -/
def bt (k M : Nat) : Nat := M / 2 ^ k % 2
def pop (M : Nat) : Nat := bt 0 M + bt 1 M + bt 2 M + bt 3 M + bt 4 M + bt 5 M + bt 6 M + bt 7 M + bt 8 M + bt 9 M
theorem bt_sh : ∀ k, k < 10 → ∀ M, M < 1024 → ((((nI M) >>> ((nI k) &&& 31)) &&& 1 = 0 ↔ bt k M = 0) ∧ (bt k M = 0 → (nI M ||| (1 <<< (nI k &&& 31))) = nI (M + 2 ^ k) ∧ M + 2 ^ k < 1024 ∧ pop (M + 2 ^ k) = pop M + 1)) := by decide +kernel
theorem bt_up : ∀ k, k < 10 → ∀ M, M < 1024 → bt k M = 0 → ∀ j, j < 10 → bt j (M + 2 ^ k) = if j = k then 1 else bt j M := by decide +kernel
theorem pop_10 : ∀ M, M < 1024 → pop M ≤ 10 ∧ (pop M = 10 ↔ M = 1023) := by decide +kernel
