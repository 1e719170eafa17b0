/-! sets of rows and columns as numbers; minors by expansion along the least row -/
def sf_sz (c : Nat) : Nat := c % 2 + c / 2 % 2 + c / 4 % 2 + c / 8 % 2 + c / 16 % 2
def sf_lo (r : Nat) : Nat := if r % 2 = 1 then 0 else if r / 2 % 2 = 1 then 1 else if r / 4 % 2 = 1 then 2 else if r / 8 % 2 = 1 then 3 else 0
theorem sf_lo4 (r : Nat) : sf_lo r < 4 := by
  unfold sf_lo
  split
  · decide
  · split
    · decide
    · split
      · decide
      · split
        · decide
        · decide
def sf_xs (f M : Nat → Int64) (c : Nat) : Nat → Int64 × Int64
  | 0 => (0, 1)
  | j + 1 => if c / 2 ^ j % 2 = 1 then ((sf_xs f M c j).1 + (sf_xs f M c j).2 * f j * M (c ^^^ 2 ^ j), -(sf_xs f M c j).2) else sf_xs f M c j
def sf_pm (F : Nat → Nat → Int64) : Nat → Nat → Nat → Int64
  | 0, _, _ => 1
  | k + 1, r, c => (sf_xs (F (sf_lo r)) (fun c' => sf_pm F k (r ^^^ 2 ^ sf_lo r) c') c 5).1
theorem sf_xs_t {f M : Nat → Int64} {c j : Nat} (h : c / 2 ^ j % 2 = 1) : sf_xs f M c (j + 1) = ((sf_xs f M c j).1 + (sf_xs f M c j).2 * f j * M (c ^^^ 2 ^ j), -(sf_xs f M c j).2) := by
  show (if c / 2 ^ j % 2 = 1 then _ else _) = _
  rw [if_pos h]
theorem sf_xs_f {f M : Nat → Int64} {c j : Nat} (h : ¬ c / 2 ^ j % 2 = 1) : sf_xs f M c (j + 1) = sf_xs f M c j := by
  show (if c / 2 ^ j % 2 = 1 then _ else _) = _
  rw [if_neg h]
/-! closed facts on the sets -/
theorem sf_T1 : ∀ r, r < 16 → 0 < r → r ^^^ 2 ^ sf_lo r < r ∧ sf_sz (r ^^^ 2 ^ sf_lo r) + 1 = sf_sz r ∧ r / 2 ^ sf_lo r % 2 = 1 := by decide +kernel
theorem sf_T1b : ∀ r, r < 16 → 0 < r → ∀ i, i < 4 → i ≠ sf_lo r → (r ^^^ 2 ^ sf_lo r) / 2 ^ i % 2 = r / 2 ^ i % 2 := by decide +kernel
theorem sf_T2 : ∀ c, c < 32 → ∀ j, j < 5 → c / 2 ^ j % 2 = 1 → c ^^^ 2 ^ j < 32 ∧ sf_sz (c ^^^ 2 ^ j) + 1 = sf_sz c := by decide +kernel
theorem sf_T2b' : ∀ c, c < 32 → ∀ j, j < 5 → ∀ b, b < 5 → (c / 2 ^ j % 2 = 1 ∧ ¬ b = j) → (c ^^^ 2 ^ j) / 2 ^ b % 2 = c / 2 ^ b % 2 := by decide +kernel
theorem sf_T2b (c : Nat) (hc : c < 32) (j : Nat) (hj : j < 5) (h : c / 2 ^ j % 2 = 1) (b : Nat) (hb : b < 5) (hn : b ≠ j) : (c ^^^ 2 ^ j) / 2 ^ b % 2 = c / 2 ^ b % 2 := sf_T2b' c hc j hj b hb ⟨h, hn⟩
theorem sf_T2c : ∀ c, c < 32 → ∀ j, j < 5 → c / 2 ^ j % 2 = 1 → (c ^^^ 2 ^ j) / 2 ^ j % 2 = 0 := by decide +kernel
theorem sf_sz0 : ∀ c, c < 32 → sf_sz c = 0 → c = 0 := by decide +kernel
theorem sf_sz4 : ∀ r, r < 16 → sf_sz r ≤ 4 := by decide +kernel
/-! what the expansion keeps -/
theorem sf_xs_congr {f f' M M' : Nat → Int64} {c : Nat} : ∀ j, (∀ i, i < j → c / 2 ^ i % 2 = 1 → f i = f' i ∧ M (c ^^^ 2 ^ i) = M' (c ^^^ 2 ^ i)) → sf_xs f M c j = sf_xs f' M' c j := by
  intro j
  induction j with
  | zero => exact fun _ => rfl
  | succ j ih =>
    intro h
    have e := ih (fun i hi hb => h i (by omega) hb)
    by_cases hb : c / 2 ^ j % 2 = 1
    · rw [sf_xs_t hb, sf_xs_t hb, e, (h j (by omega) hb).1, (h j (by omega) hb).2]
    · rw [sf_xs_f hb, sf_xs_f hb, e]
theorem sf_m0 (a : Int64) : a * 0 = 0 := by grind
theorem sf_0m (a b : Int64) : a * 0 * b = 0 := by grind
theorem sf_xs_zero {f M : Nat → Int64} {c : Nat} : ∀ j, (∀ i, i < j → c / 2 ^ i % 2 = 1 → f i = 0 ∨ M (c ^^^ 2 ^ i) = 0) → (sf_xs f M c j).1 = 0 := by
  intro j
  induction j with
  | zero => exact fun _ => rfl
  | succ j ih =>
    intro h
    have e := ih (fun i hi hb => h i (by omega) hb)
    by_cases hb : c / 2 ^ j % 2 = 1
    · rw [sf_xs_t hb]
      show (sf_xs f M c j).1 + (sf_xs f M c j).2 * f j * M (c ^^^ 2 ^ j) = 0
      rw [e]
      rcases h j (by omega) hb with z | z
      · rw [z, sf_0m, Int64.zero_add]
      · rw [z, sf_m0, Int64.zero_add]
    · rw [sf_xs_f hb, e]
theorem sf_xs_bound {f M : Nat → Int64} {c B : Nat} (hB : B * 1000 < 2 ^ 62) : ∀ j, j ≤ 5 → (∀ i, i < j → c / 2 ^ i % 2 = 1 → sf_ab (f i) ≤ 200 ∧ sf_ab (M (c ^^^ 2 ^ i)) ≤ B) → sf_ab (sf_xs f M c j).1 ≤ j * (200 * B) ∧ sf_ab (sf_xs f M c j).2 = 1 := by
  intro j
  induction j with
  | zero => intro _ _; exact ⟨by rw [show (sf_xs f M c 0).1 = 0 from rfl, sf_ab0]; omega, by rw [show (sf_xs f M c 0).2 = 1 from rfl, sf_ab1]⟩
  | succ j ih =>
    intro hj h
    obtain ⟨e1, e2⟩ := ih (by omega) (fun i hi hb => h i (by omega) hb)
    have hj4 : j = 0 ∨ j = 1 ∨ j = 2 ∨ j = 3 ∨ j = 4 := by omega
    by_cases hb : c / 2 ^ j % 2 = 1
    · obtain ⟨h1, h2⟩ := h j (by omega) hb
      rw [sf_xs_t hb]
      generalize sf_xs f M c j = s at *
      show sf_ab (s.1 + s.2 * f j * M (c ^^^ 2 ^ j)) ≤ _ ∧ sf_ab (-s.2) = 1
      generalize M (c ^^^ 2 ^ j) = y at *
      generalize f j = x at *
      have e3 : sf_ab (s.2 * x) = sf_ab x := by
        rw [sf_mul (by rw [e2]; omega), e2, Nat.one_mul]
      have h3 : sf_ab x * sf_ab y ≤ 200 * B := Nat.mul_le_mul h1 h2
      have e4 : sf_ab (s.2 * x * y) = sf_ab x * sf_ab y := by
        rw [sf_mul (by rw [e3]; omega), e3]
      have e5 : sf_ab (s.1 + s.2 * x * y) ≤ sf_ab s.1 + sf_ab (s.2 * x * y) := sf_add (by rw [e4]; rcases hj4 with rfl | rfl | rfl | rfl | rfl <;> omega)
      refine ⟨?_, by rw [sf_abneg (by rw [e2]; decide), e2]⟩
      rw [e4] at e5
      rcases hj4 with rfl | rfl | rfl | rfl | rfl <;> omega
    · rw [sf_xs_f hb]
      refine ⟨?_, e2⟩
      rcases hj4 with rfl | rfl | rfl | rfl | rfl <;> omega
theorem sf_pm_congr {F F' : Nat → Nat → Int64} (h : ∀ i, i < 4 → ∀ j, j < 5 → F i j = F' i j) : ∀ k r c, sf_pm F k r c = sf_pm F' k r c := by
  intro k
  induction k with
  | zero => exact fun _ _ => rfl
  | succ k ih =>
    intro r c
    show (sf_xs (F (sf_lo r)) (fun c' => sf_pm F k (r ^^^ 2 ^ sf_lo r) c') c 5).1 = (sf_xs (F' (sf_lo r)) (fun c' => sf_pm F' k (r ^^^ 2 ^ sf_lo r) c') c 5).1
    rw [sf_xs_congr 5 (fun i hi _ => ⟨h (sf_lo r) (sf_lo4 r) i hi, ih _ _⟩)]
theorem sf_pm_bound {F : Nat → Nat → Int64} (h : ∀ i, i < 4 → ∀ j, j < 5 → sf_ab (F i j) ≤ 200) : ∀ k, k ≤ 5 → ∀ r c, sf_ab (sf_pm F k r c) ≤ 1000 ^ k := by
  intro k
  induction k with
  | zero => intro _ r c; show sf_ab 1 ≤ 1; decide
  | succ k ih =>
    intro hk r c
    show sf_ab (sf_xs (F (sf_lo r)) (fun c' => sf_pm F k (r ^^^ 2 ^ sf_lo r) c') c 5).1 ≤ 1000 ^ (k + 1)
    have hp : 1000 ^ k * 1000 < 2 ^ 62 := by
      have : k = 0 ∨ k = 1 ∨ k = 2 ∨ k = 3 ∨ k = 4 := by omega
      rcases this with rfl | rfl | rfl | rfl | rfl <;> decide
    have b := (sf_xs_bound hp 5 (by omega) (fun i hi _ => ⟨h (sf_lo r) (sf_lo4 r) i hi, ih (by omega) (r ^^^ 2 ^ sf_lo r) (c ^^^ 2 ^ i)⟩)).1
    rw [Nat.pow_succ]
    refine Nat.le_trans b ?_
    omega
theorem sf_pm_row {F : Nat → Nat → Int64} {i0 : Nat} (hi : i0 < 4) (h : ∀ j, j < 5 → F i0 j = 0) : ∀ k r c, r < 16 → sf_sz r = k → r / 2 ^ i0 % 2 = 1 → sf_pm F k r c = 0 := by
  intro k
  induction k with
  | zero =>
    intro r c hr hs hb
    have := sf_sz0 r (by omega) hs
    subst this
    rw [Nat.zero_div] at hb
    exact absurd hb (by decide)
  | succ k ih =>
    intro r c hr hs hb
    show (sf_xs (F (sf_lo r)) (fun c' => sf_pm F k (r ^^^ 2 ^ sf_lo r) c') c 5).1 = 0
    have h0 : 0 < r := by
      rcases Nat.eq_zero_or_pos r with z | z
      · subst z; exact absurd hs (by show ¬ sf_sz 0 = k + 1; rw [show sf_sz 0 = 0 from rfl]; omega)
      · exact z
    obtain ⟨t1, t2, _⟩ := sf_T1 r hr h0
    refine sf_xs_zero 5 (fun i hi5 _ => ?_)
    by_cases e : i0 = sf_lo r
    · exact Or.inl (by rw [← e]; exact h i hi5)
    · exact Or.inr (ih _ _ (by omega) (by omega) (by rw [sf_T1b r hr h0 i0 hi e]; exact hb))
theorem sf_pm_col {F : Nat → Nat → Int64} {j0 : Nat} (hj : j0 < 5) (h : ∀ i, i < 4 → F i j0 = 0) : ∀ k r c, c < 32 → sf_sz c = k → c / 2 ^ j0 % 2 = 1 → sf_pm F k r c = 0 := by
  intro k
  induction k with
  | zero =>
    intro r c hr hs hb
    have := sf_sz0 c hr hs
    subst this
    rw [Nat.zero_div] at hb
    exact absurd hb (by decide)
  | succ k ih =>
    intro r c hc hs hb
    show (sf_xs (F (sf_lo r)) (fun c' => sf_pm F k (r ^^^ 2 ^ sf_lo r) c') c 5).1 = 0
    refine sf_xs_zero 5 (fun i hi5 hbi => ?_)
    by_cases e : j0 = i
    · exact Or.inl (by rw [← e]; exact h _ (sf_lo4 r))
    · obtain ⟨t1, t2⟩ := sf_T2 c hc i hi5 hbi
      exact Or.inr (ih _ _ t1 (by omega) (by rw [sf_T2b c hc i hi5 hbi j0 hj e]; exact hb))
theorem sf_pm_up {F : Nat → Nat → Int64} {k : Nat} (h : ∀ r, r < 16 → ∀ c, c < 32 → sf_sz r = k → sf_sz c = k → sf_pm F k r c = 0) : ∀ r, r < 16 → ∀ c, c < 32 → sf_sz r = k + 1 → sf_sz c = k + 1 → sf_pm F (k + 1) r c = 0 := by
  intro r hr c hc hs hs'
  show (sf_xs (F (sf_lo r)) (fun c' => sf_pm F k (r ^^^ 2 ^ sf_lo r) c') c 5).1 = 0
  have h0 : 0 < r := by
    rcases Nat.eq_zero_or_pos r with z | z
    · subst z; exact absurd hs (by rw [show sf_sz 0 = 0 from rfl]; omega)
    · exact z
  obtain ⟨t1, t2, _⟩ := sf_T1 r hr h0
  refine sf_xs_zero 5 (fun i hi5 hbi => ?_)
  obtain ⟨t3, t4⟩ := sf_T2 c hc i hi5 hbi
  exact Or.inr (h _ (by omega) _ t3 (by omega) (by omega))
/-! the goal's column (4) times q -/
theorem sf_T2d : ∀ c, c < 32 → c / 2 ^ 4 % 2 = 1 → sf_sz c = sf_sz (c - 16) + 1 := by decide +kernel
theorem sf_ringq (q s g f m : Int64) : q * s + g * f * (q * m) = q * (s + g * f * m) := by grind
theorem sf_ringq2 (q s g f m : Int64) : q * s + g * (f * q) * m = q * (s + g * f * m) := by grind
theorem sf_xs_q {f f' M M' : Nat → Int64} {c : Nat} {q : Int64} : ∀ j, (∀ i, i < j → c / 2 ^ i % 2 = 1 → f' i = f i ∧ M' (c ^^^ 2 ^ i) = q * M (c ^^^ 2 ^ i)) → (sf_xs f' M' c j).1 = q * (sf_xs f M c j).1 ∧ (sf_xs f' M' c j).2 = (sf_xs f M c j).2 := by
  intro j
  induction j with
  | zero => intro _; exact ⟨(sf_m0 q).symm, rfl⟩
  | succ j ih =>
    intro h
    obtain ⟨e1, e2⟩ := ih (fun i hi hb => h i (by omega) hb)
    by_cases hb : c / 2 ^ j % 2 = 1
    · rw [sf_xs_t hb, sf_xs_t hb]
      show (sf_xs f' M' c j).1 + (sf_xs f' M' c j).2 * f' j * M' (c ^^^ 2 ^ j) = q * ((sf_xs f M c j).1 + (sf_xs f M c j).2 * f j * M (c ^^^ 2 ^ j)) ∧ -(sf_xs f' M' c j).2 = -(sf_xs f M c j).2
      rw [e1, e2, (h j (by omega) hb).1, (h j (by omega) hb).2]
      exact ⟨sf_ringq _ _ _ _ _, rfl⟩
    · rw [sf_xs_f hb, sf_xs_f hb]; exact ⟨e1, e2⟩
theorem sf_pm_no {F F' : Nat → Nat → Int64} (h : ∀ i, i < 4 → ∀ j, j < 4 → F' i j = F i j) : ∀ k r c, c < 32 → c / 2 ^ 4 % 2 = 0 → sf_pm F' k r c = sf_pm F k r c := by
  intro k
  induction k with
  | zero => exact fun _ _ _ _ => rfl
  | succ k ih =>
    intro r c hc hb
    show (sf_xs (F' (sf_lo r)) (fun c' => sf_pm F' k (r ^^^ 2 ^ sf_lo r) c') c 5).1 = (sf_xs (F (sf_lo r)) (fun c' => sf_pm F k (r ^^^ 2 ^ sf_lo r) c') c 5).1
    rw [sf_xs_congr 5 (fun i hi hbi => ?_)]
    have hi4 : i ≠ 4 := by
      intro z; subst z; omega
    exact ⟨h (sf_lo r) (sf_lo4 r) i (by omega), ih _ _ (sf_T2 c hc i hi hbi).1 (by rw [sf_T2b c hc i hi hbi 4 (by omega) (by omega)]; exact hb)⟩
theorem sf_pm_q {F F' : Nat → Nat → Int64} {q : Int64} (h : ∀ i, i < 4 → ∀ j, j < 4 → F' i j = F i j) (hq : ∀ i, i < 4 → F' i 4 = F i 4 * q) : ∀ k r c, c < 32 → sf_sz c = k → c / 2 ^ 4 % 2 = 1 → sf_pm F' k r c = q * sf_pm F k r c := by
  intro k
  induction k with
  | zero =>
    intro r c hc hs hb
    have := sf_sz0 c hc hs
    subst this
    rw [Nat.zero_div] at hb
    exact absurd hb (by decide)
  | succ k ih =>
    intro r c hc hs hb
    show (sf_xs (F' (sf_lo r)) (fun c' => sf_pm F' k (r ^^^ 2 ^ sf_lo r) c') c (4 + 1)).1 = q * (sf_xs (F (sf_lo r)) (fun c' => sf_pm F k (r ^^^ 2 ^ sf_lo r) c') c (4 + 1)).1
    rw [sf_xs_t hb, sf_xs_t hb]
    obtain ⟨e1, e2⟩ := sf_xs_q (f := F (sf_lo r)) (f' := F' (sf_lo r)) (M := fun c' => sf_pm F k (r ^^^ 2 ^ sf_lo r) c') (M' := fun c' => sf_pm F' k (r ^^^ 2 ^ sf_lo r) c') (c := c) (q := q) 4 (fun i hi hbi => ⟨h _ (sf_lo4 r) i hi, by
      have t := sf_T2 c hc i (by omega) hbi
      exact ih _ _ t.1 (by omega) (by rw [sf_T2b c hc i (by omega) hbi 4 (by omega) (by omega)]; exact hb)⟩)
    show (sf_xs (F' (sf_lo r)) (fun c' => sf_pm F' k (r ^^^ 2 ^ sf_lo r) c') c 4).1 + (sf_xs (F' (sf_lo r)) (fun c' => sf_pm F' k (r ^^^ 2 ^ sf_lo r) c') c 4).2 * F' (sf_lo r) 4 * sf_pm F' k (r ^^^ 2 ^ sf_lo r) (c ^^^ 2 ^ 4) = q * ((sf_xs (F (sf_lo r)) (fun c' => sf_pm F k (r ^^^ 2 ^ sf_lo r) c') c 4).1 + (sf_xs (F (sf_lo r)) (fun c' => sf_pm F k (r ^^^ 2 ^ sf_lo r) c') c 4).2 * F (sf_lo r) 4 * sf_pm F k (r ^^^ 2 ^ sf_lo r) (c ^^^ 2 ^ 4))
    rw [e1, e2, hq _ (sf_lo4 r), sf_pm_no h k _ _ (sf_T2 c hc 4 (by omega) hb).1 (sf_T2c c hc 4 (by omega) hb)]
    exact sf_ringq2 _ _ _ _ _
