theorem tk_i4 (p r : Nat) : nI p * 4 + nI r = nI (4 * p + r) := by
  rw [show (4 : Int32) = nI 4 from rfl, pk_mul, nI_add]; exact congrArg nI (by omega)
theorem tk_i4' (p r : Nat) : 4 * nI p + nI r = nI (4 * p + r) := by
  rw [show (4 : Int32) = nI 4 from rfl, pk_mul, nI_add]
theorem tk_i40 (p : Nat) : nI p * 4 = nI (4 * p) := by
  rw [show (4 : Int32) = nI 4 from rfl, pk_mul]; exact congrArg nI (by omega)
theorem tk_i40' (p : Nat) : 4 * nI p = nI (4 * p) := by
  rw [show (4 : Int32) = nI 4 from rfl, pk_mul]
theorem tk_i5 (p r : Nat) : nI p * 32 + nI r = nI (32 * p + r) := by
  rw [show (32 : Int32) = nI 32 from rfl, pk_mul, nI_add]; exact congrArg nI (by omega)
theorem tk_i5' (p r : Nat) : 32 * nI p + nI r = nI (32 * p + r) := by
  rw [show (32 : Int32) = nI 32 from rfl, pk_mul, nI_add]
theorem tk_i50 (p : Nat) : nI p * 32 = nI (32 * p) := by
  rw [show (32 : Int32) = nI 32 from rfl, pk_mul]; exact congrArg nI (by omega)
theorem tk_i50' (p : Nat) : 32 * nI p = nI (32 * p) := by
  rw [show (32 : Int32) = nI 32 from rfl, pk_mul]
theorem tk_op {w : Nat} (h : w < 512) : nI w &&& 31 = nI (w % 32) := pk_andN (by omega) 5 (by decide)
theorem tk_wa {w : Nat} (h : w < 512) : nI w >>> ((5 : Int32) &&& 31) &&& 3 = nI (w / 32 % 4) := by
  rw [pk_shrN (by omega) _ 5 (by decide), pk_andN (by omega) 2 (by decide)]
theorem tk_wb {w : Nat} (h : w < 512) : nI w >>> ((7 : Int32) &&& 31) &&& 3 = nI (w / 128) := by
  rw [pk_shrN (by omega) _ 7 (by decide), pk_andN (by omega) 2 (by decide)]
  exact congrArg nI (by omega)
theorem tk_wb' {w : Nat} (h : w < 512) : nI w >>> ((7 : Int32) &&& 31) = nI (w / 128) := pk_shrN (by omega) _ 7 (by decide)
theorem tk_e1 : ∀ e, e < 7 → (nI e - 1) / 2 = nI ((e - 1) / 2) := by decide +kernel
theorem tk_e2 : ∀ e, e < 7 → nI e - nI e / 2 * 2 = nI (e % 2) := by decide +kernel
theorem tk_e3 : ∀ e, e < 7 → nI e &&& 1 = nI (e % 2) := by decide +kernel
theorem tk_ne {a b : Nat} (ha : a < 2 ^ 31) (hb : b < 2 ^ 31) (h : a ≠ b) : ¬ nI a = nI b := fun e => h (tk_ni ha hb e)
theorem tk_lt0 {x : Int32} (h : x < 0) : ¬ 0 ≤ x := Int32.not_le.mpr h
theorem tk_ge0 {x : Int32} (h : ¬ x < 0) : 0 ≤ x := Int32.not_lt.mp h
/-- an int is below 0, or at least n, or a place below n: with both forms of each comparison -/
theorem tk_ix (x : Int32) {n : Nat} (hn : n < 2 ^ 31) : x < 0 ∨ (¬ x < 0 ∧ nI n ≤ x) ∨ ∃ j : Nat, j < n ∧ x = nI j := by
  rcases pk_ix x hn with a | a | a
  · exact Or.inl a
  · by_cases h : x < 0
    · exact Or.inl h
    · exact Or.inr (Or.inl ⟨h, a⟩)
  · exact Or.inr (Or.inr a)
theorem tk_m1lt : (-1 : Int32) < 0 := by decide
theorem tk_m2lt : (-2 : Int32) < 0 := by decide
