/-! the i-th member of a set; minors over sets as minors over the first k rows and columns -/
def sf_rkg (s : Nat) : Nat → Nat → Nat → Nat
  | 0, _, _ => 0
  | d + 1, j, i => if s / 2 ^ j % 2 = 1 then (if i = 0 then j else sf_rkg s d (j + 1) (i - 1)) else sf_rkg s d (j + 1) i
def sf_rk (s i : Nat) : Nat := sf_rkg s 5 0 i
theorem sf_lr (F : Nat → Nat → Int64) (c : Nat) : ∀ r, r < 16 → 0 < r → sf_pm F (sf_sz r) r c = sf_pm (fun i j => F (sf_rk r i) j) (sf_sz r) (2 ^ sf_sz r - 1) c := by
  intro r hr h0
  have h : r = 1 ∨ r = 2 ∨ r = 3 ∨ r = 4 ∨ r = 5 ∨ r = 6 ∨ r = 7 ∨ r = 8 ∨ r = 9 ∨ r = 10 ∨ r = 11 ∨ r = 12 ∨ r = 13 ∨ r = 14 ∨ r = 15 := by omega
  rcases h with rfl | rfl | rfl | rfl | rfl | rfl | rfl | rfl | rfl | rfl | rfl | rfl | rfl | rfl | rfl <;> rfl
def sf_cn (s : Nat) : Nat → Nat
  | 0 => 0
  | i + 1 => if s / 2 ^ i % 2 = 1 then sf_cn s i + 1 else sf_cn s i
theorem sf_cn_rk : ∀ s, s < 32 → ∀ i, i < 5 → s / 2 ^ i % 2 = 1 → sf_rk s (sf_cn s i) = i := by decide +kernel
theorem sf_cn_sz : ∀ s, s < 32 → sf_cn s 5 = sf_sz s ∧ (s < 16 → sf_cn s 4 = sf_sz s) := by decide +kernel
def sf_xj (f M : Nat → Int64) (c : Nat) : Nat → Int64 × Int64
  | 0 => (0, 1)
  | j + 1 => ((sf_xj f M c j).1 + (sf_xj f M c j).2 * f (sf_rk c j) * M (c ^^^ 2 ^ sf_rk c j), -(sf_xj f M c j).2)
theorem sf_xj_s (f M : Nat → Int64) (c j : Nat) : sf_xj f M c (j + 1) = ((sf_xj f M c j).1 + (sf_xj f M c j).2 * f (sf_rk c j) * M (c ^^^ 2 ^ sf_rk c j), -(sf_xj f M c j).2) := rfl
theorem sf_xs_xj {f M : Nat → Int64} {c : Nat} (hc : c < 32) : ∀ i, i ≤ 5 → sf_xs f M c i = sf_xj f M c (sf_cn c i) := by
  intro i
  induction i with
  | zero => exact fun _ => rfl
  | succ i ih =>
    intro hi
    by_cases hb : c / 2 ^ i % 2 = 1
    · have e : sf_cn c (i + 1) = sf_cn c i + 1 := if_pos hb
      rw [sf_xs_t hb, e, sf_xj_s, sf_cn_rk c hc i (by omega) hb, ← ih (by omega)]
    · have e : sf_cn c (i + 1) = sf_cn c i := if_neg hb
      rw [sf_xs_f hb, e, ih (by omega)]
theorem sf_xj_congr {f f' M M' : Nat → Int64} {c c' : Nat} : ∀ n, (∀ j, j < n → f (sf_rk c j) = f' (sf_rk c' j) ∧ M (c ^^^ 2 ^ sf_rk c j) = M' (c' ^^^ 2 ^ sf_rk c' j)) → sf_xj f M c n = sf_xj f' M' c' n := by
  intro n
  induction n with
  | zero => exact fun _ => rfl
  | succ n ih =>
    intro h
    rw [sf_xj_s, sf_xj_s, ih (fun j hj => h j (by omega)), (h n (by omega)).1, (h n (by omega)).2]
def sf_K1 (c j i : Nat) : Bool := decide (sf_rk (c ^^^ 2 ^ sf_rk c j) i = sf_rk c (if i < j then i else i + 1))
theorem sf_K1t : ∀ c, c < 32 → ∀ j, j < sf_sz c → ∀ i, i < sf_sz c - 1 → sf_K1 c j i = true := by decide +kernel
theorem sf_K2 : ∀ c, c < 32 → ∀ j, j < sf_sz c → c ^^^ 2 ^ sf_rk c j < 32 ∧ sf_sz (c ^^^ 2 ^ sf_rk c j) + 1 = sf_sz c := by decide +kernel
theorem sf_K3 : ∀ k, k < 5 → ∀ j, j < k → sf_rk (2 ^ k - 1) j = j := by decide +kernel
theorem sf_K4 : ∀ k, k < 5 → 2 ^ k - 1 < 32 ∧ sf_sz (2 ^ k - 1) = k := by decide +kernel
theorem sf_lcg : ∀ k c c', c < 32 → c' < 32 → sf_sz c = k → sf_sz c' = k → ∀ F G : Nat → Nat → Int64, (∀ i j, j < k → F i (sf_rk c j) = G i (sf_rk c' j)) → ∀ r, sf_pm F k r c = sf_pm G k r c' := by
  intro k
  induction k with
  | zero => intro c c' _ _ _ _ F G _ r; rfl
  | succ k ih =>
    intro c c' hc hc' hs hs' F G h r
    show (sf_xs (F (sf_lo r)) (fun d => sf_pm F k (r ^^^ 2 ^ sf_lo r) d) c 5).1 = (sf_xs (G (sf_lo r)) (fun d => sf_pm G k (r ^^^ 2 ^ sf_lo r) d) c' 5).1
    rw [sf_xs_xj hc 5 (Nat.le_refl 5), sf_xs_xj hc' 5 (Nat.le_refl 5), (sf_cn_sz c hc).1, (sf_cn_sz c' hc').1, hs, hs']
    rw [sf_xj_congr (k + 1) (fun j hj => ⟨h _ j hj, ?_⟩)]
    obtain ⟨a1, a2⟩ := sf_K2 c hc j (by omega)
    obtain ⟨b1, b2⟩ := sf_K2 c' hc' j (by omega)
    refine ih _ _ a1 b1 (by omega) (by omega) F G (fun i i' hi' => ?_) _
    have e1 := of_decide_eq_true (sf_K1t c hc j (by omega) i' (by omega))
    have e2 := of_decide_eq_true (sf_K1t c' hc' j (by omega) i' (by omega))
    rw [e1, e2]
    by_cases z : i' < j
    · rw [if_pos z]; exact h _ _ (by omega)
    · rw [if_neg z]; exact h _ _ (by omega)
theorem sf_link (F : Nat → Nat → Int64) {k r c : Nat} (hr : r < 16) (hc : c < 32) (h0 : 0 < k) (hk : k ≤ 4) (er : sf_sz r = k) (ec : sf_sz c = k) : sf_pm F k r c = sf_pm (fun i j => F (sf_rk r i) (sf_rk c j)) k (2 ^ k - 1) (2 ^ k - 1) := by
  have r0 : 0 < r := by
    rcases Nat.eq_zero_or_pos r with z | z
    · subst z; exact absurd er (by rw [show sf_sz 0 = 0 from rfl]; omega)
    · exact z
  have e1 := sf_lr F c r hr r0
  rw [er] at e1
  rw [e1]
  refine sf_lcg k c (2 ^ k - 1) hc (sf_K4 k (by omega)).1 ec (sf_K4 k (by omega)).2 _ _ (fun i j hj => ?_) _
  rw [sf_K3 k (by omega) j hj]
/-! Leibniz: the sum over the codes -/
def sf_pv (code i : Nat) : Nat := code / 4 ^ i % 4
def sf_us (code : Nat) : Nat → Nat
  | 0 => 0
  | i + 1 => sf_us code i ||| 2 ^ sf_pv code i
def sf_iv (code i : Nat) (o : Bool) : Nat → Bool
  | 0 => o
  | j + 1 => if sf_pv code i < sf_pv code j then !(sf_iv code i o j) else sf_iv code i o j
def sf_od (code : Nat) : Nat → Bool
  | 0 => false
  | i + 1 => sf_iv code i (sf_od code i) i
def sf_gd (k code i : Nat) : Bool := decide (sf_pv code i < k) && decide (sf_us code i / 2 ^ sf_pv code i % 2 = 0)
def sf_vd (k code : Nat) : Nat → Bool
  | 0 => true
  | i + 1 => sf_vd k code i && sf_gd k code i
def sf_pp (G : Nat → Nat → Int64) (code : Nat) (p : Int64) : Nat → Int64
  | 0 => p
  | i + 1 => sf_pp G code p i * G i (sf_pv code i)
def sf_pr (G : Nat → Nat → Int64) (k code : Nat) : Int64 := if sf_vd k code k = true then sf_pp G code (if sf_od code k = true then -1 else 1) k else 0
def sf_sm (f : Nat → Int64) : Nat → Int64
  | 0 => 0
  | n + 1 => sf_sm f n + f n
def sf_mn (G : Nat → Nat → Int64) (k : Nat) : Int64 := sf_sm (sf_pr G k) (4 ^ k)
theorem sf_mnE (G : Nat → Nat → Int64) {k : Nat} (h0 : 0 < k) (hk : k ≤ 4) : sf_mn G k = sf_pm G k (2 ^ k - 1) (2 ^ k - 1) := sorry
