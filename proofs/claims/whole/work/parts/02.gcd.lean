/-! absolute values of longs, Euclid's steps, folds of greatest common divisors -/
def sf_ab (x : Int64) : Nat := x.toInt.natAbs
theorem sf_abN {k : Nat} (hk : k < 2 ^ 63) : sf_ab (lN k) = k := by
  unfold sf_ab; rw [pk_lT hk]; exact Int.natAbs_natCast k
theorem sf_z64 : (0 : Int64).toInt = 0 := by decide
theorem sf_ab0 : sf_ab 0 = 0 := by decide
theorem sf_ab1 : sf_ab 1 = 1 := by decide
theorem sf_pos {x : Int64} (h : ¬ x < 0) : x = lN (sf_ab x) ∧ sf_ab x < 2 ^ 63 := by
  obtain ⟨k, hk, rfl⟩ := pk_lOf h
  rw [sf_abN hk]; exact ⟨rfl, hk⟩
theorem sf_neg {x : Int64} (h : x < 0) (hb : sf_ab x < 2 ^ 63) : -x = lN (sf_ab x) := by
  have h1 : x.toInt < 0 := by
    have := Int64.lt_iff_toInt_lt.mp h
    rwa [sf_z64] at this
  have h2 : ((sf_ab x : Nat) : Int) = - x.toInt := by unfold sf_ab; omega
  apply Int64.toInt_inj.mp
  rw [Int64.toInt_neg, pk_lT hb, h2]
  unfold sf_ab at hb
  exact Int.bmod_eq_of_le (by omega) (by omega)
theorem sf_mul {x y : Int64} (h : sf_ab x * sf_ab y < 2 ^ 63) : sf_ab (x * y) = sf_ab x * sf_ab y := by
  unfold sf_ab at *
  rw [Int64.toInt_mul]
  rw [← Int.natAbs_mul] at h ⊢
  generalize x.toInt * y.toInt = z at *
  rw [Int.bmod_eq_of_le (by omega) (by omega)]
theorem sf_add {x y : Int64} (h : sf_ab x + sf_ab y < 2 ^ 63) : sf_ab (x + y) ≤ sf_ab x + sf_ab y := by
  unfold sf_ab at *
  rw [Int64.toInt_add, Int.bmod_eq_of_le (by omega) (by omega)]
  omega
theorem sf_abneg {x : Int64} (h : sf_ab x < 2 ^ 63) : sf_ab (-x) = sf_ab x := by
  unfold sf_ab at *
  rw [Int64.toInt_neg, Int.bmod_eq_of_le (by omega) (by omega)]; omega
theorem sf_ab_eq0 {x : Int64} : sf_ab x = 0 ↔ x = 0 := by
  constructor
  · intro h
    apply Int64.toInt_inj.mp
    rw [sf_z64]; unfold sf_ab at h; omega
  · intro h; rw [h]; exact sf_ab0
theorem sf_ab64 (x : Int32) : sf_ab x.toInt64 = x.toInt.natAbs := by
  unfold sf_ab; rw [Int32.toInt_toInt64]
/-! Euclid: d steps are enough -/
def sf_ok : Nat → Nat → Nat → Prop
  | 0, _, s => s = 0
  | d + 1, g, s => s = 0 ∨ sf_ok d s (g % s)
theorem sf_half {s r : Nat} (h0 : 0 < r) (h : r < s) : 2 * (s % r) < s := by
  have h1 := Nat.mod_lt s h0
  have h2 := Nat.div_add_mod s r
  have h3 : 0 < s / r := Nat.div_pos (Nat.le_of_lt h) h0
  have h4 : r * 1 ≤ r * (s / r) := Nat.mul_le_mul_left r h3
  generalize s % r = a at *
  generalize r * (s / r) = b at *
  omega
theorem sf_ok_of : ∀ (p g s : Nat), s < 2 ^ p → sf_ok (2 * p) g s := by
  intro p
  induction p with
  | zero =>
    intro g s h
    show s = 0
    have : s < 1 := h
    omega
  | succ p ih =>
    intro g s h
    rw [show 2 * (p + 1) = 2 * p + 1 + 1 from by omega]
    show s = 0 ∨ (g % s = 0 ∨ sf_ok (2 * p) (g % s) (s % (g % s)))
    rcases Nat.eq_zero_or_pos s with h0 | h0
    · exact Or.inl h0
    · refine Or.inr ?_
      rcases Nat.eq_zero_or_pos (g % s) with h1 | h1
      · exact Or.inl h1
      · refine Or.inr (ih _ _ ?_)
        have h3 := sf_half h1 (Nat.mod_lt g h0)
        have h2 : 2 ^ (p + 1) = 2 ^ p * 2 := Nat.pow_succ 2 p
        generalize s % (g % s) = a at *
        generalize 2 ^ p = b at *
        omega
theorem sf_gcd_step (g s : Nat) : Nat.gcd g s = Nat.gcd s (g % s) := by
  rw [Nat.gcd_comm g s, Nat.gcd_rec s g, Nat.gcd_comm]
theorem sf_gcd_lt {a b B : Nat} (ha : a < B) (hb : b < B) : Nat.gcd a b < B := by
  rcases Nat.eq_zero_or_pos a with h | h
  · subst h; rw [Nat.gcd_zero_left]; exact hb
  · exact Nat.lt_of_le_of_lt (Nat.gcd_le_left b h) ha
/-! folds -/
def sf_gc (f : Nat → Nat) (d : Nat) : Nat → Nat
  | 0 => d
  | n + 1 => Nat.gcd (sf_gc f d n) (f n)
def sf_go (f : Nat → Nat → Nat) (B : Nat) : Nat → Nat
  | 0 => 0
  | a + 1 => sf_gc (f a) (sf_go f B a) B
theorem sf_gc_dvd {f : Nat → Nat} {d x : Nat} : ∀ n, x ∣ sf_gc f d n ↔ x ∣ d ∧ ∀ i, i < n → x ∣ f i := by
  intro n
  induction n with
  | zero => exact ⟨fun h => ⟨h, fun i hi => absurd hi (Nat.not_lt_zero i)⟩, fun h => h.1⟩
  | succ n ih =>
    show x ∣ Nat.gcd (sf_gc f d n) (f n) ↔ _
    rw [Nat.dvd_gcd_iff, ih]
    constructor
    · intro h
      refine ⟨h.1.1, fun i hi => ?_⟩
      rcases Nat.lt_or_ge i n with h1 | h1
      · exact h.1.2 i h1
      · rw [show i = n from by omega]; exact h.2
    · intro h
      exact ⟨⟨h.1, fun i hi => h.2 i (by omega)⟩, h.2 n (by omega)⟩
theorem sf_go_dvd {f : Nat → Nat → Nat} {B x : Nat} : ∀ A, x ∣ sf_go f B A ↔ ∀ a, a < A → ∀ b, b < B → x ∣ f a b := by
  intro A
  induction A with
  | zero => exact ⟨fun _ a ha => absurd ha (Nat.not_lt_zero a), fun _ => Nat.dvd_zero x⟩
  | succ A ih =>
    show x ∣ sf_gc (f A) (sf_go f B A) B ↔ _
    rw [sf_gc_dvd, ih]
    constructor
    · intro h a ha
      rcases Nat.lt_or_ge a A with h1 | h1
      · exact h.1 a h1
      · rw [show a = A from by omega]; exact h.2
    · intro h
      exact ⟨fun a ha => h a (by omega), h A (by omega)⟩
theorem sf_gc_lt {f : Nat → Nat} {d Q : Nat} (hd : d < Q) : ∀ n, (∀ i, i < n → f i < Q) → sf_gc f d n < Q := by
  intro n
  induction n with
  | zero => exact fun _ => hd
  | succ n ih => exact fun h => sf_gcd_lt (ih fun i hi => h i (by omega)) (h n (by omega))
theorem sf_go_lt {f : Nat → Nat → Nat} {B Q : Nat} (hQ : 0 < Q) : ∀ A, (∀ a, a < A → ∀ b, b < B → f a b < Q) → sf_go f B A < Q := by
  intro A
  induction A with
  | zero => exact fun _ => hQ
  | succ A ih => exact fun h => sf_gc_lt (ih fun a ha => h a (by omega)) B (h A (by omega))
theorem sf_gc_mul {f : Nat → Nat} {d q : Nat} : ∀ n, sf_gc (fun i => q * f i) (q * d) n = q * sf_gc f d n := by
  intro n
  induction n with
  | zero => rfl
  | succ n ih =>
    show Nat.gcd (sf_gc (fun i => q * f i) (q * d) n) (q * f n) = q * Nat.gcd (sf_gc f d n) (f n)
    rw [ih, Nat.gcd_mul_left]
theorem sf_go_mul {f : Nat → Nat → Nat} {B q : Nat} : ∀ A, sf_go (fun a b => q * f a b) B A = q * sf_go f B A := by
  intro A
  induction A with
  | zero => rfl
  | succ A ih =>
    show sf_gc (fun b => q * f A b) (sf_go (fun a b => q * f a b) B A) B = q * sf_gc (f A) (sf_go f B A) B
    rw [ih, sf_gc_mul]
theorem sf_go_zero {f : Nat → Nat → Nat} {B A : Nat} : sf_go f B A = 0 ↔ ∀ a, a < A → ∀ b, b < B → f a b = 0 := by
  have h := sf_go_dvd (f := f) (B := B) (x := 0) A
  simp only [Nat.zero_dvd] at h
  exact h
theorem sf_dvd_eq {x y : Nat} (h : ∀ d, d ∣ x ↔ d ∣ y) : x = y :=
  Nat.dvd_antisymm ((h x).mp (Nat.dvd_refl x)) ((h y).mpr (Nat.dvd_refl y))
theorem sf_gc_congr {f f' : Nat → Nat} {d : Nat} : ∀ n, (∀ i, i < n → f i = f' i) → sf_gc f d n = sf_gc f' d n := by
  intro n
  induction n with
  | zero => exact fun _ => rfl
  | succ n ih =>
    intro h
    show Nat.gcd _ _ = Nat.gcd _ _
    rw [ih (fun i hi => h i (by omega)), h n (by omega)]
theorem sf_go_congr {f f' : Nat → Nat → Nat} {B : Nat} : ∀ A, (∀ a, a < A → ∀ b, b < B → f a b = f' a b) → sf_go f B A = sf_go f' B A := by
  intro A
  induction A with
  | zero => exact fun _ => rfl
  | succ A ih =>
    intro h
    show sf_gc _ _ _ = sf_gc _ _ _
    rw [ih (fun a ha => h a (by omega)), sf_gc_congr B (h A (by omega))]
theorem sf_gc_0 {d : Nat} : ∀ n, sf_gc (fun _ => 0) d n = d := by
  intro n
  induction n with
  | zero => rfl
  | succ n ih =>
    show Nat.gcd (sf_gc (fun _ => 0) d n) 0 = d
    rw [ih, Nat.gcd_zero_right]
