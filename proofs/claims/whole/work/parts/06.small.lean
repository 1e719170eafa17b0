/-! small numbers under shifts and masks -/
theorem sf_shr {n j : Nat} (hn : n < 2 ^ 31) (hj : j < 32) : nI n >>> (nI j &&& 31) = nI (n / 2 ^ j) := pk_shrN hn _ j (s_l j hj)
theorem sf_and1 {n : Nat} (h : n < 2 ^ 32) : nI n &&& 1 = nI (n % 2) := pk_andN h 1 (by decide)
theorem sf_bitn {n j : Nat} (hn : n < 2 ^ 31) (hj : j < 32) : (nI n >>> (nI j &&& 31)) &&& 1 = nI (n / 2 ^ j % 2) := by
  rw [sf_shr hn hj, sf_and1 (Nat.lt_of_le_of_lt (Nat.div_le_self _ _) (by omega))]
theorem sf_1shl : ∀ j, j < 31 → (1 : Int32) <<< (nI j &&& 31) = nI (2 ^ j) := by decide +kernel
theorem sf_or : ∀ u, u < 16 → ∀ p, p < 4 → nI u ||| nI (2 ^ p) = nI (u ||| 2 ^ p) := by decide +kernel
theorem sf_andb : ∀ c, c < 32 → ∀ j, j < 5 → (nI c &&& nI (2 ^ j) = 0 ↔ ¬ c / 2 ^ j % 2 = 1) := by decide +kernel
theorem sf_us16 : ∀ code, code < 256 → ∀ i, i < 5 → sf_us code i < 16 := by decide +kernel
theorem sf_code : ∀ code, code < 256 → ∀ i, i < 4 → (nI code >>> (nI (2 * i) &&& 31)) &&& 3 = nI (sf_pv code i) := by decide +kernel
theorem sf_pv4 (code i : Nat) : sf_pv code i < 4 := Nat.mod_lt _ (by decide)
theorem sf_cell (t r c : Nat) : nI t * 16 + nI r * 4 + nI c = nI (16 * t + 4 * r + c) := by
  show nI t * nI 16 + nI r * nI 4 + nI c = _
  rw [pk_mul, pk_mul, nI_add, nI_add]
  exact congrArg nI (by omega)
theorem sf_cellY (t r c : Nat) : 16 * nI t + 4 * nI r + nI c = nI (16 * t + 4 * r + c) := by
  show nI 16 * nI t + nI 4 * nI r + nI c = _
  rw [pk_mul, pk_mul, nI_add, nI_add]
/-! how many members lie below i -/
theorem sf_cn_le : ∀ s, s < 32 → ∀ i, i < 6 → sf_cn s i ≤ i := by decide +kernel
theorem sf_cn_lt : ∀ s, s < 32 → ∀ i, i < 5 → s / 2 ^ i % 2 = 1 → sf_cn s i < sf_sz s := by decide +kernel
theorem sf_rk5 : ∀ s, s < 32 → ∀ i, i < 5 → sf_rk s i < 5 := by decide +kernel
/-! the least multiple, found by trying -/
theorem sf_least {L k : Nat} (hb : ∀ q, 0 < q → q < k → ¬ (L ≠ 0 ∧ L ∣ q)) (h : L ≠ 0 ∧ L ∣ k) (hk : 0 < k) : L = k := by
  have h1 := Nat.le_of_dvd hk h.2
  rcases Nat.lt_or_ge L k with z | z
  · exact absurd ⟨h.1, Nat.dvd_refl L⟩ (hb L (by omega) z)
  · omega
