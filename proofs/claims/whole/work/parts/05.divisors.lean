/-! divisors of the table without and with the goal, the reference's divisors, ranks -/
def sf_D (F : Nat → Nat → Int64) (k : Nat) : Nat := sf_go (fun r c => if sf_sz r = k ∧ sf_sz c = k then sf_ab (sf_pm F k r c) else 0) 16 16
def sf_E (F : Nat → Nat → Int64) (k : Nat) : Nat := sf_go (fun r c => if sf_sz r = k ∧ sf_sz (16 + c) = k then sf_ab (sf_pm F k r (16 + c)) else 0) 16 16
def sf_Y (W : Nat → Int64) (m w k : Nat) : Nat := sf_go (fun a b => if sf_sz a = k ∧ sf_sz b = k then sf_ab (sf_mn (fun i j => W (5 * sf_rk a i + sf_rk b j)) k) else 0) (2 ^ w) (2 ^ m)
theorem sf_S2 : ∀ a, a < 32 → a < 16 → ∀ i, i < 5 → sf_rk a i < 4 := by decide +kernel
theorem sf_S3 : ∀ m, m < 5 → 0 < m → ∀ r, r < 16 → r < 2 ^ m ∨ ∃ i, i < 4 ∧ m ≤ i ∧ r / 2 ^ i % 2 = 1 := by decide +kernel
theorem sf_S4 : ∀ c, c < 16 → ∀ j, j < 4 → (16 + c) / 2 ^ j % 2 = c / 2 ^ j % 2 := by decide +kernel
theorem sf_S4b : ∀ c, c < 16 → (16 + c) / 2 ^ 4 % 2 = 1 ∧ c / 2 ^ 4 % 2 = 0 := by decide +kernel
theorem sf_S5 : ∀ n, n < 5 → 0 < n → ∀ b, b < 2 ^ n → ∀ j, j < 5 → sf_rk b j < n := by decide +kernel
theorem sf_S6a : ∀ n, n < 5 → ∀ c, c < 2 ^ n → 0 < n → sf_sz (c + 2 ^ n) = sf_sz (16 + c) := by decide +kernel
def sf_S6p (n c j : Nat) : Bool := (decide (sf_rk (c + 2 ^ n) j = n) && decide (sf_rk (16 + c) j = 4)) || (decide (sf_rk (c + 2 ^ n) j < n) && decide (sf_rk (16 + c) j = sf_rk (c + 2 ^ n) j))
theorem sf_S6q : ∀ n, n < 5 → ∀ c, c < 2 ^ n → ∀ j, j < 5 → 0 < n → sf_S6p n c j = true := by decide +kernel
theorem sf_S6b (n : Nat) (h : n < 5) (c : Nat) (hc : c < 2 ^ n) (j : Nat) (hj : j < 5) (h0 : 0 < n) : (sf_rk (c + 2 ^ n) j = n ∧ sf_rk (16 + c) j = 4) ∨ (sf_rk (c + 2 ^ n) j < n ∧ sf_rk (16 + c) j = sf_rk (c + 2 ^ n) j) := by
  have e := sf_S6q n h c hc j hj h0
  unfold sf_S6p at e
  rw [Bool.or_eq_true, Bool.and_eq_true, Bool.and_eq_true, decide_eq_true_eq, decide_eq_true_eq, decide_eq_true_eq, decide_eq_true_eq] at e
  exact e
theorem sf_S6 (n : Nat) (h : n < 5) (h0 : 0 < n) (c : Nat) (hc : c < 2 ^ n) : sf_sz (c + 2 ^ n) = sf_sz (16 + c) ∧ ∀ j, j < 5 → (sf_rk (c + 2 ^ n) j = n ∧ sf_rk (16 + c) j = 4) ∨ (sf_rk (c + 2 ^ n) j < n ∧ sf_rk (16 + c) j = sf_rk (c + 2 ^ n) j) := ⟨sf_S6a n h c hc h0, fun j hj => sf_S6b n h c hc j hj h0⟩
theorem sf_S7 : ∀ n, n < 5 → 2 ^ n ≤ 16 ∧ 2 ^ (n + 1) = 2 ^ n + 2 ^ n := by decide +kernel
theorem sf_S8 : ∀ c, c < 16 → ¬ sf_sz (16 + c) = 0 := by decide +kernel
section
variable {F : Nat → Nat → Int64} {W : Nat → Int64} {m n : Nat} {q : Int64}
theorem sf_val1 (n5 : n < 5) (n0 : 0 < n) (hW : ∀ i, i < 4 → ∀ j, j < n → W (5 * i + j) = F i j) {k a b : Nat} (ha : a < 16) (hb : b < 2 ^ n) (h0 : 0 < k) (hk : k ≤ 4) (ea : sf_sz a = k) (eb : sf_sz b = k) :
    sf_mn (fun i j => W (5 * sf_rk a i + sf_rk b j)) k = sf_pm F k a b := by
  have hb16 : b < 16 := Nat.lt_of_lt_of_le hb (sf_S7 n n5).1
  rw [sf_mnE _ h0 hk, sf_link F ha (by omega) h0 hk ea eb]
  refine sf_pm_congr (fun i hi j hj => ?_) k _ _
  exact hW _ (sf_S2 a (by omega) ha i (by omega)) _ (sf_S5 n n5 n0 b hb j hj)
theorem sf_val2 (n5 : n < 5) (n0 : 0 < n) (hW : ∀ i, i < 4 → ∀ j, j < n → W (5 * i + j) = F i j) (hG : ∀ i, i < 4 → W (5 * i + n) = F i 4 * q) {k a c : Nat} (ha : a < 16) (hc : c < 2 ^ n) (h0 : 0 < k) (hk : k ≤ 4) (ea : sf_sz a = k) (ec : sf_sz (16 + c) = k) :
    sf_mn (fun i j => W (5 * sf_rk a i + sf_rk (c + 2 ^ n) j)) k = q * sf_pm F k a (16 + c) := by
  have hc16 : c < 16 := Nat.lt_of_lt_of_le hc (sf_S7 n n5).1
  have e := sf_pm_q (F := F) (F' := fun i j => if j = 4 then F i 4 * q else F i j) (q := q) (fun i _ j hj => if_neg (by omega)) (fun i _ => if_pos rfl) k a (16 + c) (by omega) ec (sf_S4b c hc16).1
  rw [← e, sf_mnE _ h0 hk, sf_link _ ha (by omega) h0 hk ea ec]
  refine sf_pm_congr (fun i hi j hj => ?_) k _ _
  have hi4 := sf_S2 a (by omega) ha i (by omega)
  rcases (sf_S6 n n5 n0 c hc).2 j hj with ⟨z1, z2⟩ | ⟨z1, z2⟩
  · show W (5 * sf_rk a i + sf_rk (c + 2 ^ n) j) = if sf_rk (16 + c) j = 4 then F (sf_rk a i) 4 * q else F (sf_rk a i) (sf_rk (16 + c) j)
    rw [z1, if_pos z2]; exact hG _ hi4
  · show W (5 * sf_rk a i + sf_rk (c + 2 ^ n) j) = if sf_rk (16 + c) j = 4 then F (sf_rk a i) 4 * q else F (sf_rk a i) (sf_rk (16 + c) j)
    rw [z2, if_neg (by omega)]; exact hW _ hi4 _ z1
theorem sf_zr (hr : ∀ i, i < 4 → m ≤ i → ∀ j, j < 5 → F i j = 0) {k a c i : Nat} (ha : a < 16) (ea : sf_sz a = k) (hi : i < 4) (hm : m ≤ i) (hb : a / 2 ^ i % 2 = 1) : sf_ab (sf_pm F k a c) = 0 := by
  rw [sf_pm_row hi (hr i hi hm) k a c ha ea hb, sf_ab0]
theorem sf_zc (hc : ∀ j, j < 4 → n ≤ j → ∀ i, i < 4 → F i j = 0) {k a c j : Nat} (hc32 : c < 32) (ec : sf_sz c = k) (hj : j < 4) (hn : n ≤ j) (hb : c / 2 ^ j % 2 = 1) : sf_ab (sf_pm F k a c) = 0 := by
  rw [sf_pm_col (by omega) (hc j hj hn) k a c hc32 ec hb, sf_ab0]
theorem sf_Y1 (m5 : m < 5) (m0 : 0 < m) (n5 : n < 5) (n0 : 0 < n) (hW : ∀ i, i < 4 → ∀ j, j < n → W (5 * i + j) = F i j) (hr : ∀ i, i < 4 → m ≤ i → ∀ j, j < 5 → F i j = 0) (hc : ∀ j, j < 4 → n ≤ j → ∀ i, i < 4 → F i j = 0) {k : Nat} (h0 : 0 < k) (hk : k ≤ 4) : sf_Y W m n k = sf_D F k := by
  refine sf_dvd_eq (fun x => ?_)
  unfold sf_Y sf_D
  rw [sf_go_dvd, sf_go_dvd]
  have hm := (sf_S7 m m5).1
  have hn := (sf_S7 n n5).1
  constructor
  · intro h a ha b hb
    by_cases hs : sf_sz a = k ∧ sf_sz b = k
    · rw [if_pos hs]
      rcases sf_S3 m m5 m0 a ha with za | ⟨i, hi, hmi, hbi⟩
      · rcases sf_S3 n n5 n0 b hb with zb | ⟨j, hj, hnj, hbj⟩
        · have := h a za b zb
          rw [if_pos hs, sf_val1 n5 n0 hW ha zb h0 hk hs.1 hs.2] at this
          exact this
        · rw [sf_zc hc (by omega) hs.2 hj hnj hbj]; exact Nat.dvd_zero x
      · rw [sf_zr hr ha hs.1 hi hmi hbi]; exact Nat.dvd_zero x
    · rw [if_neg hs]; exact Nat.dvd_zero x
  · intro h a ha b hb
    by_cases hs : sf_sz a = k ∧ sf_sz b = k
    · have := h a (by omega) b (by omega)
      rw [if_pos hs] at this
      rw [if_pos hs, sf_val1 n5 n0 hW (by omega) hb h0 hk hs.1 hs.2]
      exact this
    · rw [if_neg hs]; exact Nat.dvd_zero x
theorem sf_Y2 (m5 : m < 5) (m0 : 0 < m) (n5 : n < 5) (n0 : 0 < n) (hW : ∀ i, i < 4 → ∀ j, j < n → W (5 * i + j) = F i j) (hG : ∀ i, i < 4 → W (5 * i + n) = F i 4 * q) (hr : ∀ i, i < 4 → m ≤ i → ∀ j, j < 5 → F i j = 0) (hc : ∀ j, j < 4 → n ≤ j → ∀ i, i < 4 → F i j = 0) (hb : ∀ i, i < 4 → ∀ j, j < 5 → sf_ab (F i j) ≤ 200) (hq : sf_ab q ≤ 100) {k : Nat} (h0 : 0 < k) (hk : k ≤ 4) : sf_Y W m (n + 1) k = Nat.gcd (sf_D F k) (sf_ab q * sf_E F k) := by
  have hm := (sf_S7 m m5).1
  have hn := (sf_S7 n n5).1
  have hn2 := (sf_S7 n n5).2
  have hbd : ∀ r c, sf_ab (q * sf_pm F k r c) = sf_ab q * sf_ab (sf_pm F k r c) := by
    intro r c
    refine sf_mul ?_
    have h1 := sf_pm_bound hb k (by omega) r c
    have h2 : 1000 ^ k ≤ 1000 ^ 4 := Nat.pow_le_pow_right (by decide) hk
    have h3 : sf_ab q * sf_ab (sf_pm F k r c) ≤ 100 * 1000 ^ 4 := Nat.mul_le_mul hq (Nat.le_trans h1 h2)
    exact Nat.lt_of_le_of_lt h3 (by decide)
  refine sf_dvd_eq (fun x => ?_)
  rw [Nat.dvd_gcd_iff]
  unfold sf_Y sf_D sf_E
  rw [← sf_go_mul, sf_go_dvd, sf_go_dvd, sf_go_dvd]
  constructor
  · intro h
    constructor
    · intro a ha b hb'
      by_cases hs : sf_sz a = k ∧ sf_sz b = k
      · rw [if_pos hs]
        rcases sf_S3 m m5 m0 a ha with za | ⟨i, hi, hmi, hbi⟩
        · rcases sf_S3 n n5 n0 b hb' with zb | ⟨j, hj, hnj, hbj⟩
          · have := h a za b (by omega)
            rw [if_pos hs, sf_val1 n5 n0 hW ha zb h0 hk hs.1 hs.2] at this
            exact this
          · rw [sf_zc hc (by omega) hs.2 hj hnj hbj]; exact Nat.dvd_zero x
        · rw [sf_zr hr ha hs.1 hi hmi hbi]; exact Nat.dvd_zero x
      · rw [if_neg hs]; exact Nat.dvd_zero x
    · intro a ha c hc'
      show x ∣ sf_ab q * (if sf_sz a = k ∧ sf_sz (16 + c) = k then sf_ab (sf_pm F k a (16 + c)) else 0)
      by_cases hs : sf_sz a = k ∧ sf_sz (16 + c) = k
      · rw [if_pos hs]
        rcases sf_S3 m m5 m0 a ha with za | ⟨i, hi, hmi, hbi⟩
        · rcases sf_S3 n n5 n0 c hc' with zb | ⟨j, hj, hnj, hbj⟩
          · have := h a za (c + 2 ^ n) (by omega)
            rw [if_pos ⟨hs.1, (sf_S6 n n5 n0 c zb).1.trans hs.2⟩, sf_val2 n5 n0 hW hG ha zb h0 hk hs.1 hs.2, hbd] at this
            exact this
          · rw [sf_zc hc (by omega) hs.2 hj hnj (by rw [sf_S4 c hc' j hj]; exact hbj), Nat.mul_zero]; exact Nat.dvd_zero x
        · rw [sf_zr hr ha hs.1 hi hmi hbi, Nat.mul_zero]; exact Nat.dvd_zero x
      · rw [if_neg hs, Nat.mul_zero]; exact Nat.dvd_zero x
  · intro h a ha b hb'
    by_cases hs : sf_sz a = k ∧ sf_sz b = k
    · rw [if_pos hs]
      rcases Nat.lt_or_ge b (2 ^ n) with zb | zb
      · have := h.1 a (by omega) b (by omega)
        rw [if_pos hs] at this
        rw [sf_val1 n5 n0 hW (by omega) zb h0 hk hs.1 hs.2]
        exact this
      · obtain ⟨c, rfl⟩ : ∃ c, b = c + 2 ^ n := ⟨b - 2 ^ n, by omega⟩
        have zc : c < 2 ^ n := by omega
        have es : sf_sz (16 + c) = k := (sf_S6 n n5 n0 c zc).1.symm.trans hs.2
        have := h.2 a (by omega) c (by omega)
        have this : x ∣ sf_ab q * (if sf_sz a = k ∧ sf_sz (16 + c) = k then sf_ab (sf_pm F k a (16 + c)) else 0) := this
        rw [if_pos ⟨hs.1, es⟩] at this
        rw [sf_val2 n5 n0 hW hG (by omega) zc h0 hk hs.1 es, hbd]
        exact this
    · rw [if_neg hs]; exact Nat.dvd_zero x
theorem sf_D0 (F : Nat → Nat → Int64) : sf_D F 0 = 1 := by
  refine sf_dvd_eq (fun x => ?_)
  unfold sf_D
  rw [sf_go_dvd]
  constructor
  · intro h
    exact h 0 (by decide) 0 (by decide)
  · intro h a ha b hb
    by_cases hs : sf_sz a = 0 ∧ sf_sz b = 0
    · rw [if_pos hs]; exact h
    · rw [if_neg hs]; exact Nat.dvd_zero x
theorem sf_E0 (F : Nat → Nat → Int64) : sf_E F 0 = 0 := by
  unfold sf_E
  rw [sf_go_zero]
  intro a ha c hc
  exact if_neg (fun z => sf_S8 c hc z.2)
theorem sf_E5 (F : Nat → Nat → Int64) : sf_E F 5 = 0 := by
  unfold sf_E
  rw [sf_go_zero]
  intro a ha c hc
  exact if_neg (fun z => absurd z.1 (by have := sf_sz4 a ha; omega))
theorem sf_Es (F : Nat → Nat → Int64) (k : Nat) (hD : sf_D F k = 0) (hE : sf_E F k = 0) : sf_E F (k + 1) = 0 := by
  unfold sf_D at hD
  unfold sf_E at hE ⊢
  rw [sf_go_zero] at hD hE ⊢
  have hall : ∀ r, r < 16 → ∀ c, c < 32 → sf_sz r = k → sf_sz c = k → sf_pm F k r c = 0 := by
    intro r hr c hc er ec
    rcases Nat.lt_or_ge c 16 with z | z
    · have := hD r hr c z
      rw [if_pos ⟨er, ec⟩] at this
      exact sf_ab_eq0.mp this
    · obtain ⟨d, rfl⟩ : ∃ d, c = 16 + d := ⟨c - 16, by omega⟩
      have := hE r hr d (by omega)
      rw [if_pos ⟨er, ec⟩] at this
      exact sf_ab_eq0.mp this
  intro a ha c hc
  by_cases hs : sf_sz a = k + 1 ∧ sf_sz (16 + c) = k + 1
  · rw [if_pos hs, sf_pm_up hall a ha (16 + c) (by omega) hs.1 hs.2, sf_ab0]
  · rw [if_neg hs]
theorem sf_pw {k : Nat} (hk : k ≤ 5) : 1000 ^ k < 2 ^ 50 := Nat.lt_of_le_of_lt (Nat.pow_le_pow_right (by decide) hk) (by decide : 1000 ^ 5 < 2 ^ 50)
theorem sf_Dlt (hb : ∀ i, i < 4 → ∀ j, j < 5 → sf_ab (F i j) ≤ 200) {k : Nat} (hk : k ≤ 5) : sf_D F k < 2 ^ 50 := by
  refine sf_go_lt (by decide) 16 (fun a ha b hb' => ?_)
  by_cases hs : sf_sz a = k ∧ sf_sz b = k
  · rw [if_pos hs]; exact Nat.lt_of_le_of_lt (sf_pm_bound hb k hk a b) (sf_pw hk)
  · rw [if_neg hs]; decide
theorem sf_Elt (hb : ∀ i, i < 4 → ∀ j, j < 5 → sf_ab (F i j) ≤ 200) {k : Nat} (hk : k ≤ 5) : sf_E F k < 2 ^ 50 := by
  refine sf_go_lt (by decide) 16 (fun a ha b hb' => ?_)
  by_cases hs : sf_sz a = k ∧ sf_sz (16 + b) = k
  · rw [if_pos hs]; exact Nat.lt_of_le_of_lt (sf_pm_bound hb k hk a (16 + b)) (sf_pw hk)
  · rw [if_neg hs]; decide
end
/-! ranks -/
def sf_rD (D : Nat → Nat) : Nat → Nat
  | 0 => 0
  | k + 1 => if D (k + 1) = 0 then sf_rD D k else k + 1
theorem sf_rD_t {D : Nat → Nat} {k : Nat} (h : D (k + 1) = 0) : sf_rD D (k + 1) = sf_rD D k := if_pos h
theorem sf_rD_f {D : Nat → Nat} {k : Nat} (h : ¬ D (k + 1) = 0) : sf_rD D (k + 1) = k + 1 := if_neg h
theorem sf_rD_le (D : Nat → Nat) : ∀ k, sf_rD D k ≤ k := by
  intro k
  induction k with
  | zero => exact Nat.le_refl 0
  | succ k ih =>
    by_cases h : D (k + 1) = 0
    · rw [sf_rD_t h]; omega
    · rw [sf_rD_f h]; omega
theorem sf_rD_ne (D : Nat → Nat) : ∀ k, sf_rD D k = 0 ∨ D (sf_rD D k) ≠ 0 := by
  intro k
  induction k with
  | zero => exact Or.inl rfl
  | succ k ih =>
    by_cases h : D (k + 1) = 0
    · rw [sf_rD_t h]; exact ih
    · rw [sf_rD_f h]; exact Or.inr h
theorem sf_rD_z (D : Nat → Nat) : ∀ k j, sf_rD D k < j → j ≤ k → D j = 0 := by
  intro k
  induction k with
  | zero => intro j h1 h2; omega
  | succ k ih =>
    intro j h1 h2
    by_cases h : D (k + 1) = 0
    · rw [sf_rD_t h] at h1
      rcases Nat.lt_or_ge k j with z | z
      · rw [show j = k + 1 from by omega]; exact h
      · exact ih j h1 z
    · rw [sf_rD_f h] at h1; omega
theorem sf_rD_u (D : Nat → Nat) {r : Nat} : ∀ k, r ≤ k → (r = 0 ∨ D r ≠ 0) → (∀ j, r < j → j ≤ k → D j = 0) → sf_rD D k = r := by
  intro k
  induction k with
  | zero => intro h1 _ _; show 0 = r; omega
  | succ k ih =>
    intro h1 h2 h3
    rcases Nat.lt_or_ge r (k + 1) with z | z
    · rw [sf_rD_t (h3 (k + 1) z (Nat.le_refl _))]
      exact ih (by omega) h2 (fun j a b => h3 j a (by omega))
    · have e : r = k + 1 := by omega
      subst e
      rcases h2 with y | y
      · omega
      · exact sf_rD_f y
theorem sf_rD_congr {D D' : Nat → Nat} : ∀ k, (∀ j, 0 < j → j ≤ k → D j = D' j) → sf_rD D k = sf_rD D' k := by
  intro k
  induction k with
  | zero => exact fun _ => rfl
  | succ k ih =>
    intro h
    have e := h (k + 1) (by omega) (Nat.le_refl _)
    by_cases z : D (k + 1) = 0
    · rw [sf_rD_t z, sf_rD_t (e ▸ z), ih (fun j a b => h j a (by omega))]
    · rw [sf_rD_f z, sf_rD_f (e ▸ z)]
def sf_Ls (D E : Nat → Nat) : Nat := if E (sf_rD D 4 + 1) = 0 then D (sf_rD D 4) / Nat.gcd (D (sf_rD D 4)) (E (sf_rD D 4)) else 0
theorem sf_lst {d e q : Nat} (hd : 0 < d) : d ∣ q * e ↔ d / Nat.gcd d e ≠ 0 ∧ d / Nat.gcd d e ∣ q := by
  have hg : 0 < Nat.gcd d e := Nat.gcd_pos_of_pos_left e hd
  obtain ⟨a, ha⟩ := Nat.gcd_dvd_left d e
  obtain ⟨b, hb⟩ := Nat.gcd_dvd_right d e
  have hco := Nat.coprime_div_gcd_div_gcd (m := d) (n := e) hg
  generalize Nat.gcd d e = g at *
  have ea : d / g = a := by rw [ha]; exact Nat.mul_div_cancel_left a hg
  have eb : e / g = b := by rw [hb]; exact Nat.mul_div_cancel_left b hg
  rw [ea, eb] at hco
  rw [ea]
  have a0 : a ≠ 0 := by
    intro z; subst z; rw [Nat.mul_zero] at ha; omega
  constructor
  · intro h
    refine ⟨a0, hco.dvd_of_dvd_mul_right (n := b) ?_⟩
    rw [ha, hb, ← Nat.mul_assoc, Nat.mul_comm q g, Nat.mul_assoc] at h
    exact Nat.dvd_of_mul_dvd_mul_left hg h
  · rintro ⟨_, t, ht⟩
    refine ⟨t * b, ?_⟩
    rw [ht, hb, ha]; ac_rfl
theorem sf_met {D E D' : Nat → Nat} {q : Nat} (hq : 0 < q) (h0 : D 0 = 1) (hE5 : E 5 = 0) (hD0 : D' 0 = 1) (hD' : ∀ k, 0 < k → k ≤ 4 → D' k = Nat.gcd (D k) (q * E k)) (hs : ∀ k, D k = 0 → E k = 0 → E (k + 1) = 0) :
    (sf_rD D' 4 = sf_rD D 4 ∧ D' (sf_rD D 4) = D (sf_rD D 4)) ↔ sf_Ls D E ≠ 0 ∧ sf_Ls D E ∣ q := by
  have r4 := sf_rD_le D 4
  have rn := sf_rD_ne D 4
  have rz := sf_rD_z D 4
  unfold sf_Ls
  generalize sf_rD D 4 = r at *
  have dp : 0 < D r := by
    rcases rn with z | z
    · rw [z, h0]; decide
    · omega
  have hdv : D' r = D r ↔ D r ∣ q * E r := by
    rcases Nat.eq_zero_or_pos r with z | z
    · rw [z, h0, hD0]; exact ⟨fun _ => Nat.one_dvd _, fun _ => rfl⟩
    · rw [hD' r z r4]; exact Nat.gcd_eq_left_iff_dvd
  constructor
  · rintro ⟨h1, h2⟩
    have e1 : E (r + 1) = 0 := by
      rcases Nat.lt_or_ge r 4 with z | z
      · have := sf_rD_z D' 4 (r + 1) (by omega) (by omega)
        rw [hD' (r + 1) (by omega) (by omega), Nat.gcd_eq_zero_iff] at this
        rcases Nat.mul_eq_zero.mp this.2 with y | y
        · omega
        · exact y
      · rw [show r = 4 from by omega]; exact hE5
    rw [if_pos e1]
    exact (sf_lst dp).mp (hdv.mp h2)
  · intro h
    by_cases e1 : E (r + 1) = 0
    · rw [if_pos e1] at h
      have h3 := (sf_lst (e := E r) dp).mpr h
      have hE : ∀ j, r < j → j ≤ 4 → E j = 0 := by
        intro j
        induction j with
        | zero => intro a; omega
        | succ j ih =>
          intro a b
          rcases Nat.lt_or_ge r j with z | z
          · exact hs j (rz j z (by omega)) (ih z (by omega))
          · rw [show j = r from by omega]; exact e1
      refine ⟨sf_rD_u D' 4 r4 ?_ ?_, hdv.mpr h3⟩
      · rcases Nat.eq_zero_or_pos r with z | z
        · exact Or.inl z
        · refine Or.inr ?_
          rw [hdv.mpr h3]; omega
      · intro j a b
        rw [hD' j (by omega) b, rz j a b, hE j a b, Nat.mul_zero]
        rfl
    · rw [if_neg e1] at h
      exact absurd rfl h.1
theorem sf_Ls_lt {D E : Nat → Nat} {B : Nat} (hB : 0 < B) (h : ∀ k, k ≤ 4 → D k < B) : sf_Ls D E < B := by
  unfold sf_Ls
  by_cases e : E (sf_rD D 4 + 1) = 0
  · rw [if_pos e]; exact Nat.lt_of_le_of_lt (Nat.div_le_self _ _) (h _ (sf_rD_le D 4))
  · rw [if_neg e]; exact hB
