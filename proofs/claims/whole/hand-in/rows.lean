section
/-! rows pasted from kit/rows -/
theorem pk_us {f : Nat → Int32} {k : Nat} {x : Int32} : upd f k x k = x := if_pos rfl
theorem pk_un {f : Nat → Int32} {k j : Nat} {x : Int32} (h : j ≠ k) : upd f k x j = f j := if_neg h
theorem pk_uLs {f : Nat → Int64} {k : Nat} {x : Int64} : vp_updL f k x k = x := if_pos rfl
theorem pk_uLn {f : Nat → Int64} {k j : Nat} {x : Int64} (h : j ≠ k) : vp_updL f k x j = f j := if_neg h
theorem pk_sub {a b : Nat} (h : b ≤ a) : nI a - nI b = nI (a - b) := by
  obtain ⟨c, rfl⟩ : ∃ c, a = c + b := ⟨a - b, by omega⟩
  rw [← nI_add, Int32.add_sub_cancel, Nat.add_sub_cancel]
theorem pk_m1 (n : Nat) : nI (n + 1) + (-1) = nI n := by
  rw [← nI_1, Int32.add_assoc, show (1 : Int32) + (-1) = 0 from rfl, Int32.add_zero]
theorem pk_mul (a b : Nat) : nI a * nI b = nI (a * b) := (Int32.ofNat_mul a b).symm
theorem pk_div {a d : Nat} (ha : a < 2 ^ 31) (h0 : 0 < d) (hd : d < 2 ^ 31) : nI a / nI d = nI (a / d) := by
  apply Int32.toInt_inj.mp
  rw [lg_idiv_nonneg (by rw [nI_toInt ha]; omega) (by rw [nI_toInt hd]; omega), nI_toInt ha, nI_toInt hd, nI_toInt (Nat.lt_of_le_of_lt (Nat.div_le_self a d) ha)]
  first | rfl | exact (Int.natCast_ediv _ _).symm
theorem pk_rem {a d : Nat} (ha : a < 2 ^ 31) (h0 : 0 < d) (hd : d < 2 ^ 31) : nI a - nI a / nI d * nI d = nI (a % d) := by
  rw [pk_div ha h0 hd, pk_mul, pk_sub (Nat.div_mul_le_self a d)]
  exact congrArg nI (by have := Nat.div_add_mod' a d; omega)
theorem pk_sub_toInt {a b : Nat} (ha : a < 2 ^ 30) (hb : b < 2 ^ 30) : (nI a - nI b).toInt = (a : Int) - b := by
  rw [Int32.toInt_sub, nI_toInt (by omega), nI_toInt (by omega)]
  exact Int.bmod_eq_of_le (by omega) (by omega)
theorem pk_ix (x : Int32) {n : Nat} (hn : n < 2 ^ 31) : x < 0 ∨ nI n ≤ x ∨ ∃ j : Nat, j < n ∧ x = nI j := by
  by_cases h : x < 0
  · exact Or.inl h
  · obtain ⟨j, hj, rfl⟩ := nI_of h
    by_cases h2 : j < n
    · exact Or.inr (Or.inr ⟨j, h2, rfl⟩)
    · exact Or.inr (Or.inl (nI_le (by omega) hj))
theorem pk_le {x y : Int32} {A B : Prop} (a b : Nat) (f : a ≤ b → A) (g : b < a → B) (hx : x = nI a := by rfl) (hy : y = nI b := by rfl) (ha : a < 2 ^ 31 := by omega) (hb : b < 2 ^ 31 := by omega) : (x ≤ y → A) ∧ (¬ x ≤ y → B) := by
  subst hx hy
  rw [nI_leI ha hb]
  exact ⟨f, fun z => g (by omega)⟩
theorem pk_lt {x y : Int32} {A B : Prop} (a b : Nat) (f : a < b → A) (g : b ≤ a → B) (hx : x = nI a := by rfl) (hy : y = nI b := by rfl) (ha : a < 2 ^ 31 := by omega) (hb : b < 2 ^ 31 := by omega) : (x < y → A) ∧ (¬ x < y → B) := by
  subst hx hy
  rw [nI_ltI ha hb]
  exact ⟨f, fun z => g (by omega)⟩
theorem pk_eq {x y : Int32} {A B : Prop} (a b : Nat) (f : a = b → A) (g : a ≠ b → B) (hx : x = nI a := by rfl) (hy : y = nI b := by rfl) (ha : a < 2 ^ 31 := by omega) (hb : b < 2 ^ 31 := by omega) : (x = y → A) ∧ (¬ x = y → B) := by
  subst hx hy
  rw [nI_eq ha hb]
  exact ⟨f, g⟩
theorem pk_in {x : Int32} (n N : Nat) (h : n < N) (hx : x = nI n := by rfl) (hN : N < 2 ^ 31 := by omega) : vp_in x N := by
  subst hx
  exact vp_in_nI h hN
theorem pk_cl {x : Int32} (n : Nat) (hx : x = nI n := by rfl) (h : n < 2 ^ 31 := by omega) : x.toNatClampNeg = n := by
  subst hx
  exact nI_clamp h
theorem pk_tn {n : Nat} (h : n < 2 ^ 32) : (nI n).toBitVec.toNat = n := Nat.mod_eq_of_lt h
theorem pk_and (x : Int32) {m : Int32} (k : Nat) (hm : m.toBitVec.toNat = 2 ^ k - 1) : x &&& m = nI (x.toBitVec.toNat % 2 ^ k) := by
  apply Int32.toBitVec_inj.mp
  apply BitVec.eq_of_toNat_eq
  rw [Int32.toBitVec_and, BitVec.toNat_and, hm, Nat.and_two_pow_sub_one_eq_mod]
  show _ = (BitVec.ofNat 32 _).toNat
  rw [BitVec.toNat_ofNat]
  exact (Nat.mod_eq_of_lt (Nat.lt_of_le_of_lt (Nat.mod_le _ _) x.toBitVec.isLt)).symm
theorem pk_andN {n : Nat} (h : n < 2 ^ 32) {m : Int32} (k : Nat) (hm : m.toBitVec.toNat = 2 ^ k - 1) : nI n &&& m = nI (n % 2 ^ k) := by
  rw [pk_and _ k hm, pk_tn h]
theorem pk_shl (a s : Int32) (k : Nat) (hs : (s.toBitVec.smod 32).toNat = k) : (a <<< s).toBitVec.toNat = a.toBitVec.toNat * 2 ^ k % 2 ^ 32 := by
  show (a.toBitVec <<< (s.toBitVec.smod 32).toNat).toNat = _
  rw [hs, BitVec.toNat_shiftLeft, Nat.shiftLeft_eq]
theorem pk_shlN {n : Nat} (s : Int32) (k : Nat) (hs : (s.toBitVec.smod 32).toNat = k) (h : n * 2 ^ k < 2 ^ 32) : nI n <<< s = nI (n * 2 ^ k) := by
  apply Int32.toBitVec_inj.mp
  apply BitVec.eq_of_toNat_eq
  have hn : n < 2 ^ 32 := Nat.lt_of_le_of_lt (Nat.le_mul_of_pos_right n (Nat.two_pow_pos k)) h
  rw [pk_shl _ _ k hs, pk_tn hn, pk_tn h, Nat.mod_eq_of_lt h]
theorem pk_shr (a s : Int32) (k : Nat) (hs : (s.toBitVec.smod 32).toNat = k) : (a >>> s).toInt = a.toInt >>> k := by
  show (a.toBitVec.sshiftRight (s.toBitVec.smod 32).toNat).toInt = _
  rw [hs, BitVec.toInt_sshiftRight]
  rfl
theorem pk_shrN {n : Nat} (h : n < 2 ^ 31) (s : Int32) (k : Nat) (hs : (s.toBitVec.smod 32).toNat = k) : nI n >>> s = nI (n / 2 ^ k) := by
  apply Int32.toInt_inj.mp
  have h2 : n / 2 ^ k ≤ n := Nat.div_le_self _ _
  rw [pk_shr _ _ k hs, nI_toInt h, nI_toInt (by omega), Int.shiftRight_eq_div_pow]
  rfl
theorem pk_lT {n : Nat} (h : n < 2 ^ 63) : (lN n).toInt = (n : Int) := lg_ofNat_toInt h
theorem pk_lLT {a b : Nat} (ha : a < 2 ^ 63) (hb : b < 2 ^ 63) : lN a < lN b ↔ a < b := by
  rw [Int64.lt_iff_toInt_lt, pk_lT ha, pk_lT hb]; omega
theorem pk_lLE {a b : Nat} (ha : a < 2 ^ 63) (hb : b < 2 ^ 63) : lN a ≤ lN b ↔ a ≤ b := by
  rw [Int64.le_iff_toInt_le, pk_lT ha, pk_lT hb]; omega
theorem pk_lEQ {a b : Nat} (ha : a < 2 ^ 63) (hb : b < 2 ^ 63) : lN a = lN b ↔ a = b := by
  rw [← Int64.toInt_inj, pk_lT ha, pk_lT hb]; omega
theorem pk_lOf {x : Int64} (h : ¬ x < 0) : ∃ k : Nat, k < 2 ^ 63 ∧ x = lN k := by
  rw [Int64.lt_iff_toInt_lt] at h
  have h0 : (0 : Int64).toInt = 0 := by decide
  have hx := Int64.toInt_lt x
  refine ⟨x.toInt.toNat, by omega, Int64.toInt_inj.mp ?_⟩
  rw [pk_lT (by omega)]
  omega
theorem pk_lDiv {a b : Nat} (ha : a < 2 ^ 63) (h0 : 0 < b) (hb : b < 2 ^ 63) : lN a / lN b = lN (a / b) := by
  apply Int64.toInt_inj.mp
  rw [lg_ldiv_nonneg (by rw [pk_lT ha]; omega) (by rw [pk_lT hb]; omega), pk_lT ha, pk_lT hb, pk_lT (Nat.lt_of_le_of_lt (Nat.div_le_self a b) ha)]
  rfl
theorem pk_lRem {a b : Nat} (ha : a < 2 ^ 63) (h0 : 0 < b) (hb : b < 2 ^ 63) : lN a - lN a / lN b * lN b = lN (a % b) := by
  rw [pk_lDiv ha h0 hb, lN_mul, lN_sub (Nat.div_mul_le_self a b)]
  exact congrArg lN (by have := Nat.div_add_mod' a b; omega)
theorem pk_loop {σ : Type} (W : Nat → Nat → σ → Prop) (I : Nat → σ → Prop) (e i0 : Nat) (s : σ) (hi : i0 ≤ e) (h0 : I i0 s) (hx : ∀ n s, I e s → W (n + 1) e s)
    (hs : ∀ n i s, i < e → I i s → (∀ s', I (i + 1) s' → W n (i + 1) s') → W (n + 1) i s) : ∃ n, W n i0 s :=
  ⟨e + 1, loop_i W I e hx hs (e + 1) i0 s hi (by omega) h0⟩
theorem s_l : ∀ n, n < 32 → ((nI n &&& 31).toBitVec.smod 32).toNat = n := by decide +kernel
theorem nx_and (a b : Nat) : nI a &&& nI b = nI (a &&& b) := by
  apply Int32.toBitVec_inj.1
  show BitVec.ofNat 32 a &&& BitVec.ofNat 32 b = BitVec.ofNat 32 (a &&& b)
  apply BitVec.eq_of_getLsbD_eq
  intro i hi
  simp [hi]
theorem nx_xor (a b : Nat) : nI a ^^^ nI b = nI (a ^^^ b) := by
  apply Int32.toBitVec_inj.1
  show BitVec.ofNat 32 a ^^^ BitVec.ofNat 32 b = BitVec.ofNat 32 (a ^^^ b)
  apply BitVec.eq_of_getLsbD_eq
  intro i hi
  simp [hi]
end
section
/-! absolute values of longs, Euclid's steps, folds of greatest common divisors -/
def sf_ab (x : Int64) : Nat := x.toInt.natAbs
theorem sf_abN {k : Nat} (hk : k < 2 ^ 63) : sf_ab (lN k) = k := by
  unfold sf_ab; rw [pk_lT hk]; exact Int.natAbs_natCast k
theorem sf_z64 : (0 : Int64).toInt = 0 := by decide
theorem sf_ab0 : sf_ab 0 = 0 := by decide
theorem sf_ab1 : sf_ab 1 = 1 := by decide
theorem sf_pos {x : Int64} (h : ¬ x < 0) : x = lN (sf_ab x) ∧ sf_ab x < 2 ^ 63 := by
  obtain ⟨k, hk, rfl⟩ := pk_lOf h
  rw [sf_abN hk]; exact ⟨rfl, hk⟩
theorem sf_neg {x : Int64} (h : x < 0) (hb : sf_ab x < 2 ^ 63) : -x = lN (sf_ab x) := by
  have h1 : x.toInt < 0 := by
    have := Int64.lt_iff_toInt_lt.mp h
    rwa [sf_z64] at this
  have h2 : ((sf_ab x : Nat) : Int) = - x.toInt := by unfold sf_ab; omega
  apply Int64.toInt_inj.mp
  rw [Int64.toInt_neg, pk_lT hb, h2]
  unfold sf_ab at hb
  exact Int.bmod_eq_of_le (by omega) (by omega)
theorem sf_mul {x y : Int64} (h : sf_ab x * sf_ab y < 2 ^ 63) : sf_ab (x * y) = sf_ab x * sf_ab y := by
  unfold sf_ab at *
  rw [Int64.toInt_mul]
  rw [← Int.natAbs_mul] at h ⊢
  generalize x.toInt * y.toInt = z at *
  rw [Int.bmod_eq_of_le (by omega) (by omega)]
theorem sf_add {x y : Int64} (h : sf_ab x + sf_ab y < 2 ^ 63) : sf_ab (x + y) ≤ sf_ab x + sf_ab y := by
  unfold sf_ab at *
  rw [Int64.toInt_add, Int.bmod_eq_of_le (by omega) (by omega)]
  omega
theorem sf_abneg {x : Int64} (h : sf_ab x < 2 ^ 63) : sf_ab (-x) = sf_ab x := by
  unfold sf_ab at *
  rw [Int64.toInt_neg, Int.bmod_eq_of_le (by omega) (by omega)]; omega
theorem sf_ab_eq0 {x : Int64} : sf_ab x = 0 ↔ x = 0 := by
  constructor
  · intro h
    apply Int64.toInt_inj.mp
    rw [sf_z64]; unfold sf_ab at h; omega
  · intro h; rw [h]; exact sf_ab0
theorem sf_ab64 (x : Int32) : sf_ab x.toInt64 = x.toInt.natAbs := by
  unfold sf_ab; rw [Int32.toInt_toInt64]
/-! Euclid: d steps are enough -/
def sf_ok : Nat → Nat → Nat → Prop
  | 0, _, s => s = 0
  | d + 1, g, s => s = 0 ∨ sf_ok d s (g % s)
theorem sf_half {s r : Nat} (h0 : 0 < r) (h : r < s) : 2 * (s % r) < s := by
  have h1 := Nat.mod_lt s h0
  have h2 := Nat.div_add_mod s r
  have h3 : 0 < s / r := Nat.div_pos (Nat.le_of_lt h) h0
  have h4 : r * 1 ≤ r * (s / r) := Nat.mul_le_mul_left r h3
  generalize s % r = a at *
  generalize r * (s / r) = b at *
  omega
theorem sf_ok_of : ∀ (p g s : Nat), s < 2 ^ p → sf_ok (2 * p) g s := by
  intro p
  induction p with
  | zero =>
    intro g s h
    show s = 0
    have : s < 1 := h
    omega
  | succ p ih =>
    intro g s h
    rw [show 2 * (p + 1) = 2 * p + 1 + 1 from by omega]
    show s = 0 ∨ (g % s = 0 ∨ sf_ok (2 * p) (g % s) (s % (g % s)))
    rcases Nat.eq_zero_or_pos s with h0 | h0
    · exact Or.inl h0
    · refine Or.inr ?_
      rcases Nat.eq_zero_or_pos (g % s) with h1 | h1
      · exact Or.inl h1
      · refine Or.inr (ih _ _ ?_)
        have h3 := sf_half h1 (Nat.mod_lt g h0)
        have h2 : 2 ^ (p + 1) = 2 ^ p * 2 := Nat.pow_succ 2 p
        generalize s % (g % s) = a at *
        generalize 2 ^ p = b at *
        omega
theorem sf_gcd_step (g s : Nat) : Nat.gcd g s = Nat.gcd s (g % s) := by
  rw [Nat.gcd_comm g s, Nat.gcd_rec s g, Nat.gcd_comm]
theorem sf_gcd_lt {a b B : Nat} (ha : a < B) (hb : b < B) : Nat.gcd a b < B := by
  rcases Nat.eq_zero_or_pos a with h | h
  · subst h; rw [Nat.gcd_zero_left]; exact hb
  · exact Nat.lt_of_le_of_lt (Nat.gcd_le_left b h) ha
/-! folds -/
def sf_gc (f : Nat → Nat) (d : Nat) : Nat → Nat
  | 0 => d
  | n + 1 => Nat.gcd (sf_gc f d n) (f n)
def sf_go (f : Nat → Nat → Nat) (B : Nat) : Nat → Nat
  | 0 => 0
  | a + 1 => sf_gc (f a) (sf_go f B a) B
theorem sf_gc_dvd {f : Nat → Nat} {d x : Nat} : ∀ n, x ∣ sf_gc f d n ↔ x ∣ d ∧ ∀ i, i < n → x ∣ f i := by
  intro n
  induction n with
  | zero => exact ⟨fun h => ⟨h, fun i hi => absurd hi (Nat.not_lt_zero i)⟩, fun h => h.1⟩
  | succ n ih =>
    show x ∣ Nat.gcd (sf_gc f d n) (f n) ↔ _
    rw [Nat.dvd_gcd_iff, ih]
    constructor
    · intro h
      refine ⟨h.1.1, fun i hi => ?_⟩
      rcases Nat.lt_or_ge i n with h1 | h1
      · exact h.1.2 i h1
      · rw [show i = n from by omega]; exact h.2
    · intro h
      exact ⟨⟨h.1, fun i hi => h.2 i (by omega)⟩, h.2 n (by omega)⟩
theorem sf_go_dvd {f : Nat → Nat → Nat} {B x : Nat} : ∀ A, x ∣ sf_go f B A ↔ ∀ a, a < A → ∀ b, b < B → x ∣ f a b := by
  intro A
  induction A with
  | zero => exact ⟨fun _ a ha => absurd ha (Nat.not_lt_zero a), fun _ => Nat.dvd_zero x⟩
  | succ A ih =>
    show x ∣ sf_gc (f A) (sf_go f B A) B ↔ _
    rw [sf_gc_dvd, ih]
    constructor
    · intro h a ha
      rcases Nat.lt_or_ge a A with h1 | h1
      · exact h.1 a h1
      · rw [show a = A from by omega]; exact h.2
    · intro h
      exact ⟨fun a ha => h a (by omega), h A (by omega)⟩
theorem sf_gc_lt {f : Nat → Nat} {d Q : Nat} (hd : d < Q) : ∀ n, (∀ i, i < n → f i < Q) → sf_gc f d n < Q := by
  intro n
  induction n with
  | zero => exact fun _ => hd
  | succ n ih => exact fun h => sf_gcd_lt (ih fun i hi => h i (by omega)) (h n (by omega))
theorem sf_go_lt {f : Nat → Nat → Nat} {B Q : Nat} (hQ : 0 < Q) : ∀ A, (∀ a, a < A → ∀ b, b < B → f a b < Q) → sf_go f B A < Q := by
  intro A
  induction A with
  | zero => exact fun _ => hQ
  | succ A ih => exact fun h => sf_gc_lt (ih fun a ha => h a (by omega)) B (h A (by omega))
theorem sf_gc_mul {f : Nat → Nat} {d q : Nat} : ∀ n, sf_gc (fun i => q * f i) (q * d) n = q * sf_gc f d n := by
  intro n
  induction n with
  | zero => rfl
  | succ n ih =>
    show Nat.gcd (sf_gc (fun i => q * f i) (q * d) n) (q * f n) = q * Nat.gcd (sf_gc f d n) (f n)
    rw [ih, Nat.gcd_mul_left]
theorem sf_go_mul {f : Nat → Nat → Nat} {B q : Nat} : ∀ A, sf_go (fun a b => q * f a b) B A = q * sf_go f B A := by
  intro A
  induction A with
  | zero => rfl
  | succ A ih =>
    show sf_gc (fun b => q * f A b) (sf_go (fun a b => q * f a b) B A) B = q * sf_gc (f A) (sf_go f B A) B
    rw [ih, sf_gc_mul]
theorem sf_go_zero {f : Nat → Nat → Nat} {B A : Nat} : sf_go f B A = 0 ↔ ∀ a, a < A → ∀ b, b < B → f a b = 0 := by
  have h := sf_go_dvd (f := f) (B := B) (x := 0) A
  simp only [Nat.zero_dvd] at h
  exact h
theorem sf_dvd_eq {x y : Nat} (h : ∀ d, d ∣ x ↔ d ∣ y) : x = y :=
  Nat.dvd_antisymm ((h x).mp (Nat.dvd_refl x)) ((h y).mpr (Nat.dvd_refl y))
theorem sf_gc_congr {f f' : Nat → Nat} {d : Nat} : ∀ n, (∀ i, i < n → f i = f' i) → sf_gc f d n = sf_gc f' d n := by
  intro n
  induction n with
  | zero => exact fun _ => rfl
  | succ n ih =>
    intro h
    show Nat.gcd _ _ = Nat.gcd _ _
    rw [ih (fun i hi => h i (by omega)), h n (by omega)]
theorem sf_go_congr {f f' : Nat → Nat → Nat} {B : Nat} : ∀ A, (∀ a, a < A → ∀ b, b < B → f a b = f' a b) → sf_go f B A = sf_go f' B A := by
  intro A
  induction A with
  | zero => exact fun _ => rfl
  | succ A ih =>
    intro h
    show sf_gc _ _ _ = sf_gc _ _ _
    rw [ih (fun a ha => h a (by omega)), sf_gc_congr B (h A (by omega))]
theorem sf_gc_0 {d : Nat} : ∀ n, sf_gc (fun _ => 0) d n = d := by
  intro n
  induction n with
  | zero => rfl
  | succ n ih =>
    show Nat.gcd (sf_gc (fun _ => 0) d n) 0 = d
    rw [ih, Nat.gcd_zero_right]
end
section
/-! sets of rows and columns as numbers; minors by expansion along the least row -/
def sf_sz (c : Nat) : Nat := c % 2 + c / 2 % 2 + c / 4 % 2 + c / 8 % 2 + c / 16 % 2
def sf_lo (r : Nat) : Nat := if r % 2 = 1 then 0 else if r / 2 % 2 = 1 then 1 else if r / 4 % 2 = 1 then 2 else if r / 8 % 2 = 1 then 3 else 0
theorem sf_lo4 (r : Nat) : sf_lo r < 4 := by
  unfold sf_lo
  split
  · decide
  · split
    · decide
    · split
      · decide
      · split
        · decide
        · decide
def sf_xs (f M : Nat → Int64) (c : Nat) : Nat → Int64 × Int64
  | 0 => (0, 1)
  | j + 1 => if c / 2 ^ j % 2 = 1 then ((sf_xs f M c j).1 + (sf_xs f M c j).2 * f j * M (c ^^^ 2 ^ j), -(sf_xs f M c j).2) else sf_xs f M c j
def sf_pm (F : Nat → Nat → Int64) : Nat → Nat → Nat → Int64
  | 0, _, _ => 1
  | k + 1, r, c => (sf_xs (F (sf_lo r)) (fun c' => sf_pm F k (r ^^^ 2 ^ sf_lo r) c') c 5).1
theorem sf_xs_t {f M : Nat → Int64} {c j : Nat} (h : c / 2 ^ j % 2 = 1) : sf_xs f M c (j + 1) = ((sf_xs f M c j).1 + (sf_xs f M c j).2 * f j * M (c ^^^ 2 ^ j), -(sf_xs f M c j).2) := by
  show (if c / 2 ^ j % 2 = 1 then _ else _) = _
  rw [if_pos h]
theorem sf_xs_f {f M : Nat → Int64} {c j : Nat} (h : ¬ c / 2 ^ j % 2 = 1) : sf_xs f M c (j + 1) = sf_xs f M c j := by
  show (if c / 2 ^ j % 2 = 1 then _ else _) = _
  rw [if_neg h]
/-! closed facts on the sets -/
theorem sf_T1 : ∀ r, r < 16 → 0 < r → r ^^^ 2 ^ sf_lo r < r ∧ sf_sz (r ^^^ 2 ^ sf_lo r) + 1 = sf_sz r ∧ r / 2 ^ sf_lo r % 2 = 1 := by decide +kernel
theorem sf_T1b : ∀ r, r < 16 → 0 < r → ∀ i, i < 4 → i ≠ sf_lo r → (r ^^^ 2 ^ sf_lo r) / 2 ^ i % 2 = r / 2 ^ i % 2 := by decide +kernel
theorem sf_T2 : ∀ c, c < 32 → ∀ j, j < 5 → c / 2 ^ j % 2 = 1 → c ^^^ 2 ^ j < 32 ∧ sf_sz (c ^^^ 2 ^ j) + 1 = sf_sz c := by decide +kernel
theorem sf_T2b' : ∀ c, c < 32 → ∀ j, j < 5 → ∀ b, b < 5 → (c / 2 ^ j % 2 = 1 ∧ ¬ b = j) → (c ^^^ 2 ^ j) / 2 ^ b % 2 = c / 2 ^ b % 2 := by decide +kernel
theorem sf_T2b (c : Nat) (hc : c < 32) (j : Nat) (hj : j < 5) (h : c / 2 ^ j % 2 = 1) (b : Nat) (hb : b < 5) (hn : b ≠ j) : (c ^^^ 2 ^ j) / 2 ^ b % 2 = c / 2 ^ b % 2 := sf_T2b' c hc j hj b hb ⟨h, hn⟩
theorem sf_T2c : ∀ c, c < 32 → ∀ j, j < 5 → c / 2 ^ j % 2 = 1 → (c ^^^ 2 ^ j) / 2 ^ j % 2 = 0 := by decide +kernel
theorem sf_sz0 : ∀ c, c < 32 → sf_sz c = 0 → c = 0 := by decide +kernel
theorem sf_sz4 : ∀ r, r < 16 → sf_sz r ≤ 4 := by decide +kernel
/-! what the expansion keeps -/
theorem sf_xs_congr {f f' M M' : Nat → Int64} {c : Nat} : ∀ j, (∀ i, i < j → c / 2 ^ i % 2 = 1 → f i = f' i ∧ M (c ^^^ 2 ^ i) = M' (c ^^^ 2 ^ i)) → sf_xs f M c j = sf_xs f' M' c j := by
  intro j
  induction j with
  | zero => exact fun _ => rfl
  | succ j ih =>
    intro h
    have e := ih (fun i hi hb => h i (by omega) hb)
    by_cases hb : c / 2 ^ j % 2 = 1
    · rw [sf_xs_t hb, sf_xs_t hb, e, (h j (by omega) hb).1, (h j (by omega) hb).2]
    · rw [sf_xs_f hb, sf_xs_f hb, e]
theorem sf_m0 (a : Int64) : a * 0 = 0 := by grind
theorem sf_0m (a b : Int64) : a * 0 * b = 0 := by grind
theorem sf_xs_zero {f M : Nat → Int64} {c : Nat} : ∀ j, (∀ i, i < j → c / 2 ^ i % 2 = 1 → f i = 0 ∨ M (c ^^^ 2 ^ i) = 0) → (sf_xs f M c j).1 = 0 := by
  intro j
  induction j with
  | zero => exact fun _ => rfl
  | succ j ih =>
    intro h
    have e := ih (fun i hi hb => h i (by omega) hb)
    by_cases hb : c / 2 ^ j % 2 = 1
    · rw [sf_xs_t hb]
      show (sf_xs f M c j).1 + (sf_xs f M c j).2 * f j * M (c ^^^ 2 ^ j) = 0
      rw [e]
      rcases h j (by omega) hb with z | z
      · rw [z, sf_0m, Int64.zero_add]
      · rw [z, sf_m0, Int64.zero_add]
    · rw [sf_xs_f hb, e]
theorem sf_xs_bound {f M : Nat → Int64} {c B : Nat} (hB : B * 1000 < 2 ^ 62) : ∀ j, j ≤ 5 → (∀ i, i < j → c / 2 ^ i % 2 = 1 → sf_ab (f i) ≤ 200 ∧ sf_ab (M (c ^^^ 2 ^ i)) ≤ B) → sf_ab (sf_xs f M c j).1 ≤ j * (200 * B) ∧ sf_ab (sf_xs f M c j).2 = 1 := by
  intro j
  induction j with
  | zero => intro _ _; exact ⟨by rw [show (sf_xs f M c 0).1 = 0 from rfl, sf_ab0]; omega, by rw [show (sf_xs f M c 0).2 = 1 from rfl, sf_ab1]⟩
  | succ j ih =>
    intro hj h
    obtain ⟨e1, e2⟩ := ih (by omega) (fun i hi hb => h i (by omega) hb)
    have hj4 : j = 0 ∨ j = 1 ∨ j = 2 ∨ j = 3 ∨ j = 4 := by omega
    by_cases hb : c / 2 ^ j % 2 = 1
    · obtain ⟨h1, h2⟩ := h j (by omega) hb
      rw [sf_xs_t hb]
      generalize sf_xs f M c j = s at *
      show sf_ab (s.1 + s.2 * f j * M (c ^^^ 2 ^ j)) ≤ _ ∧ sf_ab (-s.2) = 1
      generalize M (c ^^^ 2 ^ j) = y at *
      generalize f j = x at *
      have e3 : sf_ab (s.2 * x) = sf_ab x := by
        rw [sf_mul (by rw [e2]; omega), e2, Nat.one_mul]
      have h3 : sf_ab x * sf_ab y ≤ 200 * B := Nat.mul_le_mul h1 h2
      have e4 : sf_ab (s.2 * x * y) = sf_ab x * sf_ab y := by
        rw [sf_mul (by rw [e3]; omega), e3]
      have e5 : sf_ab (s.1 + s.2 * x * y) ≤ sf_ab s.1 + sf_ab (s.2 * x * y) := sf_add (by rw [e4]; rcases hj4 with rfl | rfl | rfl | rfl | rfl <;> omega)
      refine ⟨?_, by rw [sf_abneg (by rw [e2]; decide), e2]⟩
      rw [e4] at e5
      rcases hj4 with rfl | rfl | rfl | rfl | rfl <;> omega
    · rw [sf_xs_f hb]
      refine ⟨?_, e2⟩
      rcases hj4 with rfl | rfl | rfl | rfl | rfl <;> omega
theorem sf_pm_congr {F F' : Nat → Nat → Int64} (h : ∀ i, i < 4 → ∀ j, j < 5 → F i j = F' i j) : ∀ k r c, sf_pm F k r c = sf_pm F' k r c := by
  intro k
  induction k with
  | zero => exact fun _ _ => rfl
  | succ k ih =>
    intro r c
    show (sf_xs (F (sf_lo r)) (fun c' => sf_pm F k (r ^^^ 2 ^ sf_lo r) c') c 5).1 = (sf_xs (F' (sf_lo r)) (fun c' => sf_pm F' k (r ^^^ 2 ^ sf_lo r) c') c 5).1
    rw [sf_xs_congr 5 (fun i hi _ => ⟨h (sf_lo r) (sf_lo4 r) i hi, ih _ _⟩)]
theorem sf_pm_bound {F : Nat → Nat → Int64} (h : ∀ i, i < 4 → ∀ j, j < 5 → sf_ab (F i j) ≤ 200) : ∀ k, k ≤ 5 → ∀ r c, sf_ab (sf_pm F k r c) ≤ 1000 ^ k := by
  intro k
  induction k with
  | zero => intro _ r c; show sf_ab 1 ≤ 1; decide
  | succ k ih =>
    intro hk r c
    show sf_ab (sf_xs (F (sf_lo r)) (fun c' => sf_pm F k (r ^^^ 2 ^ sf_lo r) c') c 5).1 ≤ 1000 ^ (k + 1)
    have hp : 1000 ^ k * 1000 < 2 ^ 62 := by
      have : k = 0 ∨ k = 1 ∨ k = 2 ∨ k = 3 ∨ k = 4 := by omega
      rcases this with rfl | rfl | rfl | rfl | rfl <;> decide
    have b := (sf_xs_bound hp 5 (by omega) (fun i hi _ => ⟨h (sf_lo r) (sf_lo4 r) i hi, ih (by omega) (r ^^^ 2 ^ sf_lo r) (c ^^^ 2 ^ i)⟩)).1
    rw [Nat.pow_succ]
    refine Nat.le_trans b ?_
    omega
theorem sf_pm_row {F : Nat → Nat → Int64} {i0 : Nat} (hi : i0 < 4) (h : ∀ j, j < 5 → F i0 j = 0) : ∀ k r c, r < 16 → sf_sz r = k → r / 2 ^ i0 % 2 = 1 → sf_pm F k r c = 0 := by
  intro k
  induction k with
  | zero =>
    intro r c hr hs hb
    have := sf_sz0 r (by omega) hs
    subst this
    rw [Nat.zero_div] at hb
    exact absurd hb (by decide)
  | succ k ih =>
    intro r c hr hs hb
    show (sf_xs (F (sf_lo r)) (fun c' => sf_pm F k (r ^^^ 2 ^ sf_lo r) c') c 5).1 = 0
    have h0 : 0 < r := by
      rcases Nat.eq_zero_or_pos r with z | z
      · subst z; exact absurd hs (by show ¬ sf_sz 0 = k + 1; rw [show sf_sz 0 = 0 from rfl]; omega)
      · exact z
    obtain ⟨t1, t2, _⟩ := sf_T1 r hr h0
    refine sf_xs_zero 5 (fun i hi5 _ => ?_)
    by_cases e : i0 = sf_lo r
    · exact Or.inl (by rw [← e]; exact h i hi5)
    · exact Or.inr (ih _ _ (by omega) (by omega) (by rw [sf_T1b r hr h0 i0 hi e]; exact hb))
theorem sf_pm_col {F : Nat → Nat → Int64} {j0 : Nat} (hj : j0 < 5) (h : ∀ i, i < 4 → F i j0 = 0) : ∀ k r c, c < 32 → sf_sz c = k → c / 2 ^ j0 % 2 = 1 → sf_pm F k r c = 0 := by
  intro k
  induction k with
  | zero =>
    intro r c hr hs hb
    have := sf_sz0 c hr hs
    subst this
    rw [Nat.zero_div] at hb
    exact absurd hb (by decide)
  | succ k ih =>
    intro r c hc hs hb
    show (sf_xs (F (sf_lo r)) (fun c' => sf_pm F k (r ^^^ 2 ^ sf_lo r) c') c 5).1 = 0
    refine sf_xs_zero 5 (fun i hi5 hbi => ?_)
    by_cases e : j0 = i
    · exact Or.inl (by rw [← e]; exact h _ (sf_lo4 r))
    · obtain ⟨t1, t2⟩ := sf_T2 c hc i hi5 hbi
      exact Or.inr (ih _ _ t1 (by omega) (by rw [sf_T2b c hc i hi5 hbi j0 hj e]; exact hb))
theorem sf_pm_up {F : Nat → Nat → Int64} {k : Nat} (h : ∀ r, r < 16 → ∀ c, c < 32 → sf_sz r = k → sf_sz c = k → sf_pm F k r c = 0) : ∀ r, r < 16 → ∀ c, c < 32 → sf_sz r = k + 1 → sf_sz c = k + 1 → sf_pm F (k + 1) r c = 0 := by
  intro r hr c hc hs hs'
  show (sf_xs (F (sf_lo r)) (fun c' => sf_pm F k (r ^^^ 2 ^ sf_lo r) c') c 5).1 = 0
  have h0 : 0 < r := by
    rcases Nat.eq_zero_or_pos r with z | z
    · subst z; exact absurd hs (by rw [show sf_sz 0 = 0 from rfl]; omega)
    · exact z
  obtain ⟨t1, t2, _⟩ := sf_T1 r hr h0
  refine sf_xs_zero 5 (fun i hi5 hbi => ?_)
  obtain ⟨t3, t4⟩ := sf_T2 c hc i hi5 hbi
  exact Or.inr (h _ (by omega) _ t3 (by omega) (by omega))
/-! the goal's column (4) times q -/
theorem sf_T2d : ∀ c, c < 32 → c / 2 ^ 4 % 2 = 1 → sf_sz c = sf_sz (c - 16) + 1 := by decide +kernel
theorem sf_ringq (q s g f m : Int64) : q * s + g * f * (q * m) = q * (s + g * f * m) := by grind
theorem sf_ringq2 (q s g f m : Int64) : q * s + g * (f * q) * m = q * (s + g * f * m) := by grind
theorem sf_xs_q {f f' M M' : Nat → Int64} {c : Nat} {q : Int64} : ∀ j, (∀ i, i < j → c / 2 ^ i % 2 = 1 → f' i = f i ∧ M' (c ^^^ 2 ^ i) = q * M (c ^^^ 2 ^ i)) → (sf_xs f' M' c j).1 = q * (sf_xs f M c j).1 ∧ (sf_xs f' M' c j).2 = (sf_xs f M c j).2 := by
  intro j
  induction j with
  | zero => intro _; exact ⟨(sf_m0 q).symm, rfl⟩
  | succ j ih =>
    intro h
    obtain ⟨e1, e2⟩ := ih (fun i hi hb => h i (by omega) hb)
    by_cases hb : c / 2 ^ j % 2 = 1
    · rw [sf_xs_t hb, sf_xs_t hb]
      show (sf_xs f' M' c j).1 + (sf_xs f' M' c j).2 * f' j * M' (c ^^^ 2 ^ j) = q * ((sf_xs f M c j).1 + (sf_xs f M c j).2 * f j * M (c ^^^ 2 ^ j)) ∧ -(sf_xs f' M' c j).2 = -(sf_xs f M c j).2
      rw [e1, e2, (h j (by omega) hb).1, (h j (by omega) hb).2]
      exact ⟨sf_ringq _ _ _ _ _, rfl⟩
    · rw [sf_xs_f hb, sf_xs_f hb]; exact ⟨e1, e2⟩
theorem sf_pm_no {F F' : Nat → Nat → Int64} (h : ∀ i, i < 4 → ∀ j, j < 4 → F' i j = F i j) : ∀ k r c, c < 32 → c / 2 ^ 4 % 2 = 0 → sf_pm F' k r c = sf_pm F k r c := by
  intro k
  induction k with
  | zero => exact fun _ _ _ _ => rfl
  | succ k ih =>
    intro r c hc hb
    show (sf_xs (F' (sf_lo r)) (fun c' => sf_pm F' k (r ^^^ 2 ^ sf_lo r) c') c 5).1 = (sf_xs (F (sf_lo r)) (fun c' => sf_pm F k (r ^^^ 2 ^ sf_lo r) c') c 5).1
    rw [sf_xs_congr 5 (fun i hi hbi => ?_)]
    have hi4 : i ≠ 4 := by
      intro z; subst z; omega
    exact ⟨h (sf_lo r) (sf_lo4 r) i (by omega), ih _ _ (sf_T2 c hc i hi hbi).1 (by rw [sf_T2b c hc i hi hbi 4 (by omega) (by omega)]; exact hb)⟩
theorem sf_pm_q {F F' : Nat → Nat → Int64} {q : Int64} (h : ∀ i, i < 4 → ∀ j, j < 4 → F' i j = F i j) (hq : ∀ i, i < 4 → F' i 4 = F i 4 * q) : ∀ k r c, c < 32 → sf_sz c = k → c / 2 ^ 4 % 2 = 1 → sf_pm F' k r c = q * sf_pm F k r c := by
  intro k
  induction k with
  | zero =>
    intro r c hc hs hb
    have := sf_sz0 c hc hs
    subst this
    rw [Nat.zero_div] at hb
    exact absurd hb (by decide)
  | succ k ih =>
    intro r c hc hs hb
    show (sf_xs (F' (sf_lo r)) (fun c' => sf_pm F' k (r ^^^ 2 ^ sf_lo r) c') c (4 + 1)).1 = q * (sf_xs (F (sf_lo r)) (fun c' => sf_pm F k (r ^^^ 2 ^ sf_lo r) c') c (4 + 1)).1
    rw [sf_xs_t hb, sf_xs_t hb]
    obtain ⟨e1, e2⟩ := sf_xs_q (f := F (sf_lo r)) (f' := F' (sf_lo r)) (M := fun c' => sf_pm F k (r ^^^ 2 ^ sf_lo r) c') (M' := fun c' => sf_pm F' k (r ^^^ 2 ^ sf_lo r) c') (c := c) (q := q) 4 (fun i hi hbi => ⟨h _ (sf_lo4 r) i hi, by
      have t := sf_T2 c hc i (by omega) hbi
      exact ih _ _ t.1 (by omega) (by rw [sf_T2b c hc i (by omega) hbi 4 (by omega) (by omega)]; exact hb)⟩)
    show (sf_xs (F' (sf_lo r)) (fun c' => sf_pm F' k (r ^^^ 2 ^ sf_lo r) c') c 4).1 + (sf_xs (F' (sf_lo r)) (fun c' => sf_pm F' k (r ^^^ 2 ^ sf_lo r) c') c 4).2 * F' (sf_lo r) 4 * sf_pm F' k (r ^^^ 2 ^ sf_lo r) (c ^^^ 2 ^ 4) = q * ((sf_xs (F (sf_lo r)) (fun c' => sf_pm F k (r ^^^ 2 ^ sf_lo r) c') c 4).1 + (sf_xs (F (sf_lo r)) (fun c' => sf_pm F k (r ^^^ 2 ^ sf_lo r) c') c 4).2 * F (sf_lo r) 4 * sf_pm F k (r ^^^ 2 ^ sf_lo r) (c ^^^ 2 ^ 4))
    rw [e1, e2, hq _ (sf_lo4 r), sf_pm_no h k _ _ (sf_T2 c hc 4 (by omega) hb).1 (sf_T2c c hc 4 (by omega) hb)]
    exact sf_ringq2 _ _ _ _ _
end
section
/-! the i-th member of a set; minors over sets as minors over the first k rows and columns -/
def sf_rkg (s : Nat) : Nat → Nat → Nat → Nat
  | 0, _, _ => 0
  | d + 1, j, i => if s / 2 ^ j % 2 = 1 then (if i = 0 then j else sf_rkg s d (j + 1) (i - 1)) else sf_rkg s d (j + 1) i
def sf_rk (s i : Nat) : Nat := sf_rkg s 5 0 i
theorem sf_lr (F : Nat → Nat → Int64) (c : Nat) : ∀ r, r < 16 → 0 < r → sf_pm F (sf_sz r) r c = sf_pm (fun i j => F (sf_rk r i) j) (sf_sz r) (2 ^ sf_sz r - 1) c := by
  intro r hr h0
  have h : r = 1 ∨ r = 2 ∨ r = 3 ∨ r = 4 ∨ r = 5 ∨ r = 6 ∨ r = 7 ∨ r = 8 ∨ r = 9 ∨ r = 10 ∨ r = 11 ∨ r = 12 ∨ r = 13 ∨ r = 14 ∨ r = 15 := by omega
  rcases h with rfl | rfl | rfl | rfl | rfl | rfl | rfl | rfl | rfl | rfl | rfl | rfl | rfl | rfl | rfl <;> rfl
def sf_cn (s : Nat) : Nat → Nat
  | 0 => 0
  | i + 1 => if s / 2 ^ i % 2 = 1 then sf_cn s i + 1 else sf_cn s i
theorem sf_cn_rk : ∀ s, s < 32 → ∀ i, i < 5 → s / 2 ^ i % 2 = 1 → sf_rk s (sf_cn s i) = i := by decide +kernel
theorem sf_cn_sz : ∀ s, s < 32 → sf_cn s 5 = sf_sz s ∧ (s < 16 → sf_cn s 4 = sf_sz s) := by decide +kernel
def sf_xj (f M : Nat → Int64) (c : Nat) : Nat → Int64 × Int64
  | 0 => (0, 1)
  | j + 1 => ((sf_xj f M c j).1 + (sf_xj f M c j).2 * f (sf_rk c j) * M (c ^^^ 2 ^ sf_rk c j), -(sf_xj f M c j).2)
theorem sf_xj_s (f M : Nat → Int64) (c j : Nat) : sf_xj f M c (j + 1) = ((sf_xj f M c j).1 + (sf_xj f M c j).2 * f (sf_rk c j) * M (c ^^^ 2 ^ sf_rk c j), -(sf_xj f M c j).2) := rfl
theorem sf_xs_xj {f M : Nat → Int64} {c : Nat} (hc : c < 32) : ∀ i, i ≤ 5 → sf_xs f M c i = sf_xj f M c (sf_cn c i) := by
  intro i
  induction i with
  | zero => exact fun _ => rfl
  | succ i ih =>
    intro hi
    by_cases hb : c / 2 ^ i % 2 = 1
    · have e : sf_cn c (i + 1) = sf_cn c i + 1 := if_pos hb
      rw [sf_xs_t hb, e, sf_xj_s, sf_cn_rk c hc i (by omega) hb, ← ih (by omega)]
    · have e : sf_cn c (i + 1) = sf_cn c i := if_neg hb
      rw [sf_xs_f hb, e, ih (by omega)]
theorem sf_xj_congr {f f' M M' : Nat → Int64} {c c' : Nat} : ∀ n, (∀ j, j < n → f (sf_rk c j) = f' (sf_rk c' j) ∧ M (c ^^^ 2 ^ sf_rk c j) = M' (c' ^^^ 2 ^ sf_rk c' j)) → sf_xj f M c n = sf_xj f' M' c' n := by
  intro n
  induction n with
  | zero => exact fun _ => rfl
  | succ n ih =>
    intro h
    rw [sf_xj_s, sf_xj_s, ih (fun j hj => h j (by omega)), (h n (by omega)).1, (h n (by omega)).2]
def sf_K1 (c j i : Nat) : Bool := decide (sf_rk (c ^^^ 2 ^ sf_rk c j) i = sf_rk c (if i < j then i else i + 1))
theorem sf_K1t : ∀ c, c < 32 → ∀ j, j < sf_sz c → ∀ i, i < sf_sz c - 1 → sf_K1 c j i = true := by decide +kernel
theorem sf_K2 : ∀ c, c < 32 → ∀ j, j < sf_sz c → c ^^^ 2 ^ sf_rk c j < 32 ∧ sf_sz (c ^^^ 2 ^ sf_rk c j) + 1 = sf_sz c := by decide +kernel
theorem sf_K3 : ∀ k, k < 5 → ∀ j, j < k → sf_rk (2 ^ k - 1) j = j := by decide +kernel
theorem sf_K4 : ∀ k, k < 5 → 2 ^ k - 1 < 32 ∧ sf_sz (2 ^ k - 1) = k := by decide +kernel
theorem sf_lcg : ∀ k c c', c < 32 → c' < 32 → sf_sz c = k → sf_sz c' = k → ∀ F G : Nat → Nat → Int64, (∀ i j, j < k → F i (sf_rk c j) = G i (sf_rk c' j)) → ∀ r, sf_pm F k r c = sf_pm G k r c' := by
  intro k
  induction k with
  | zero => intro c c' _ _ _ _ F G _ r; rfl
  | succ k ih =>
    intro c c' hc hc' hs hs' F G h r
    show (sf_xs (F (sf_lo r)) (fun d => sf_pm F k (r ^^^ 2 ^ sf_lo r) d) c 5).1 = (sf_xs (G (sf_lo r)) (fun d => sf_pm G k (r ^^^ 2 ^ sf_lo r) d) c' 5).1
    rw [sf_xs_xj hc 5 (Nat.le_refl 5), sf_xs_xj hc' 5 (Nat.le_refl 5), (sf_cn_sz c hc).1, (sf_cn_sz c' hc').1, hs, hs']
    rw [sf_xj_congr (k + 1) (fun j hj => ⟨h _ j hj, ?_⟩)]
    obtain ⟨a1, a2⟩ := sf_K2 c hc j (by omega)
    obtain ⟨b1, b2⟩ := sf_K2 c' hc' j (by omega)
    refine ih _ _ a1 b1 (by omega) (by omega) F G (fun i i' hi' => ?_) _
    have e1 := of_decide_eq_true (sf_K1t c hc j (by omega) i' (by omega))
    have e2 := of_decide_eq_true (sf_K1t c' hc' j (by omega) i' (by omega))
    rw [e1, e2]
    by_cases z : i' < j
    · rw [if_pos z]; exact h _ _ (by omega)
    · rw [if_neg z]; exact h _ _ (by omega)
theorem sf_link (F : Nat → Nat → Int64) {k r c : Nat} (hr : r < 16) (hc : c < 32) (h0 : 0 < k) (hk : k ≤ 4) (er : sf_sz r = k) (ec : sf_sz c = k) : sf_pm F k r c = sf_pm (fun i j => F (sf_rk r i) (sf_rk c j)) k (2 ^ k - 1) (2 ^ k - 1) := by
  have r0 : 0 < r := by
    rcases Nat.eq_zero_or_pos r with z | z
    · subst z; exact absurd er (by rw [show sf_sz 0 = 0 from rfl]; omega)
    · exact z
  have e1 := sf_lr F c r hr r0
  rw [er] at e1
  rw [e1]
  refine sf_lcg k c (2 ^ k - 1) hc (sf_K4 k (by omega)).1 ec (sf_K4 k (by omega)).2 _ _ (fun i j hj => ?_) _
  rw [sf_K3 k (by omega) j hj]
/-! Leibniz: the sum over the codes -/
def sf_pv (code i : Nat) : Nat := code / 4 ^ i % 4
def sf_us (code : Nat) : Nat → Nat
  | 0 => 0
  | i + 1 => sf_us code i ||| 2 ^ sf_pv code i
def sf_iv (code i : Nat) (o : Bool) : Nat → Bool
  | 0 => o
  | j + 1 => if sf_pv code i < sf_pv code j then !(sf_iv code i o j) else sf_iv code i o j
def sf_od (code : Nat) : Nat → Bool
  | 0 => false
  | i + 1 => sf_iv code i (sf_od code i) i
def sf_gd (k code i : Nat) : Bool := decide (sf_pv code i < k) && decide (sf_us code i / 2 ^ sf_pv code i % 2 = 0)
def sf_vd (k code : Nat) : Nat → Bool
  | 0 => true
  | i + 1 => sf_vd k code i && sf_gd k code i
def sf_pp (G : Nat → Nat → Int64) (code : Nat) (p : Int64) : Nat → Int64
  | 0 => p
  | i + 1 => sf_pp G code p i * G i (sf_pv code i)
def sf_pr (G : Nat → Nat → Int64) (k code : Nat) : Int64 := if sf_vd k code k = true then sf_pp G code (if sf_od code k = true then -1 else 1) k else 0
def sf_sm (f : Nat → Int64) : Nat → Int64
  | 0 => 0
  | n + 1 => sf_sm f n + f n
def sf_mn (G : Nat → Nat → Int64) (k : Nat) : Int64 := sf_sm (sf_pr G k) (4 ^ k)
theorem sf_sm_f (f : Nat → Int64) (v : Nat → Bool) (hf : ∀ c, v c = false → f c = 0) : ∀ n, sf_sm f n = ((List.range n).filter v).foldl (fun s c => s + f c) 0 := by
  intro n
  induction n with
  | zero => rfl
  | succ n ih =>
    rw [List.range_succ, List.filter_append, List.foldl_append, ← ih]
    show sf_sm f n + f n = _
    cases h : v n with
    | true => simp [List.filter, h]
    | false => simp [List.filter, h, hf n h]
theorem sf_prf (G : Nat → Nat → Int64) (k c : Nat) (h : sf_vd k c k = false) : sf_pr G k c = 0 := by
  unfold sf_pr; rw [h]; rfl
theorem sf_L1 : (List.range 4).filter (fun c => sf_vd 1 c 1) = [0] := by decide +kernel
theorem sf_e1_0 (G : Nat → Nat → Int64) : sf_pr G 1 0 = 1 * G 0 0 := by rfl
theorem sf_x1 (G : Nat → Nat → Int64) : sf_pm G 1 1 1 = (0 + 1 * G 0 0 * 1) := by simp only [sf_pm, sf_xs, sf_lo, Nat.reducePow, Nat.reduceDiv, Nat.reduceMod, Nat.reduceXor, Nat.reduceEqDiff, reduceIte]
theorem sf_mn1 (G : Nat → Nat → Int64) : sf_mn G 1 = sf_pm G 1 1 1 := by
  unfold sf_mn
  rw [show 4 ^ 1 = 4 from rfl, sf_sm_f _ (fun c => sf_vd 1 c 1) (fun c h => sf_prf G 1 c h) 4, sf_L1, sf_x1]
  simp only [List.foldl, sf_e1_0]
  grind
theorem sf_L2 : (List.range 16).filter (fun c => sf_vd 2 c 2) = [1, 4] := by decide +kernel
theorem sf_e2_1 (G : Nat → Nat → Int64) : sf_pr G 2 1 = (-1) * G 0 1 * G 1 0 := by rfl
theorem sf_e2_4 (G : Nat → Nat → Int64) : sf_pr G 2 4 = 1 * G 0 0 * G 1 1 := by rfl
theorem sf_x2 (G : Nat → Nat → Int64) : sf_pm G 2 3 3 = ((0 + 1 * G 0 0 * (0 + 1 * G 1 1 * 1)) + (-1) * G 0 1 * (0 + 1 * G 1 0 * 1)) := by simp only [sf_pm, sf_xs, sf_lo, Nat.reducePow, Nat.reduceDiv, Nat.reduceMod, Nat.reduceXor, Nat.reduceEqDiff, reduceIte]
theorem sf_mn2 (G : Nat → Nat → Int64) : sf_mn G 2 = sf_pm G 2 3 3 := by
  unfold sf_mn
  rw [show 4 ^ 2 = 16 from rfl, sf_sm_f _ (fun c => sf_vd 2 c 2) (fun c h => sf_prf G 2 c h) 16, sf_L2, sf_x2]
  simp only [List.foldl, sf_e2_1, sf_e2_4]
  grind
theorem sf_L3 : (List.range 64).filter (fun c => sf_vd 3 c 3) = [6, 9, 18, 24, 33, 36] := by decide +kernel
theorem sf_e3_6 (G : Nat → Nat → Int64) : sf_pr G 3 6 = (-1) * G 0 2 * G 1 1 * G 2 0 := by rfl
theorem sf_e3_9 (G : Nat → Nat → Int64) : sf_pr G 3 9 = 1 * G 0 1 * G 1 2 * G 2 0 := by rfl
theorem sf_e3_18 (G : Nat → Nat → Int64) : sf_pr G 3 18 = 1 * G 0 2 * G 1 0 * G 2 1 := by rfl
theorem sf_e3_24 (G : Nat → Nat → Int64) : sf_pr G 3 24 = (-1) * G 0 0 * G 1 2 * G 2 1 := by rfl
theorem sf_e3_33 (G : Nat → Nat → Int64) : sf_pr G 3 33 = (-1) * G 0 1 * G 1 0 * G 2 2 := by rfl
theorem sf_e3_36 (G : Nat → Nat → Int64) : sf_pr G 3 36 = 1 * G 0 0 * G 1 1 * G 2 2 := by rfl
theorem sf_x3 (G : Nat → Nat → Int64) : sf_pm G 3 7 7 = (((0 + 1 * G 0 0 * ((0 + 1 * G 1 1 * (0 + 1 * G 2 2 * 1)) + (-1) * G 1 2 * (0 + 1 * G 2 1 * 1))) + (-1) * G 0 1 * ((0 + 1 * G 1 0 * (0 + 1 * G 2 2 * 1)) + (-1) * G 1 2 * (0 + 1 * G 2 0 * 1))) + (-(-1)) * G 0 2 * ((0 + 1 * G 1 0 * (0 + 1 * G 2 1 * 1)) + (-1) * G 1 1 * (0 + 1 * G 2 0 * 1))) := by simp only [sf_pm, sf_xs, sf_lo, Nat.reducePow, Nat.reduceDiv, Nat.reduceMod, Nat.reduceXor, Nat.reduceEqDiff, reduceIte]
theorem sf_mn3 (G : Nat → Nat → Int64) : sf_mn G 3 = sf_pm G 3 7 7 := by
  unfold sf_mn
  rw [show 4 ^ 3 = 64 from rfl, sf_sm_f _ (fun c => sf_vd 3 c 3) (fun c h => sf_prf G 3 c h) 64, sf_L3, sf_x3]
  simp only [List.foldl, sf_e3_6, sf_e3_9, sf_e3_18, sf_e3_24, sf_e3_33, sf_e3_36]
  grind
theorem sf_L4 : (List.range 256).filter (fun c => sf_vd 4 c 4) = [27, 30, 39, 45, 54, 57, 75, 78, 99, 108, 114, 120, 135, 141, 147, 156, 177, 180, 198, 201, 210, 216, 225, 228] := by decide +kernel
theorem sf_e4_27 (G : Nat → Nat → Int64) : sf_pr G 4 27 = 1 * G 0 3 * G 1 2 * G 2 1 * G 3 0 := by rfl
theorem sf_e4_30 (G : Nat → Nat → Int64) : sf_pr G 4 30 = (-1) * G 0 2 * G 1 3 * G 2 1 * G 3 0 := by rfl
theorem sf_e4_39 (G : Nat → Nat → Int64) : sf_pr G 4 39 = (-1) * G 0 3 * G 1 1 * G 2 2 * G 3 0 := by rfl
theorem sf_e4_45 (G : Nat → Nat → Int64) : sf_pr G 4 45 = 1 * G 0 1 * G 1 3 * G 2 2 * G 3 0 := by rfl
theorem sf_e4_54 (G : Nat → Nat → Int64) : sf_pr G 4 54 = 1 * G 0 2 * G 1 1 * G 2 3 * G 3 0 := by rfl
theorem sf_e4_57 (G : Nat → Nat → Int64) : sf_pr G 4 57 = (-1) * G 0 1 * G 1 2 * G 2 3 * G 3 0 := by rfl
theorem sf_e4_75 (G : Nat → Nat → Int64) : sf_pr G 4 75 = (-1) * G 0 3 * G 1 2 * G 2 0 * G 3 1 := by rfl
theorem sf_e4_78 (G : Nat → Nat → Int64) : sf_pr G 4 78 = 1 * G 0 2 * G 1 3 * G 2 0 * G 3 1 := by rfl
theorem sf_e4_99 (G : Nat → Nat → Int64) : sf_pr G 4 99 = 1 * G 0 3 * G 1 0 * G 2 2 * G 3 1 := by rfl
theorem sf_e4_108 (G : Nat → Nat → Int64) : sf_pr G 4 108 = (-1) * G 0 0 * G 1 3 * G 2 2 * G 3 1 := by rfl
theorem sf_e4_114 (G : Nat → Nat → Int64) : sf_pr G 4 114 = (-1) * G 0 2 * G 1 0 * G 2 3 * G 3 1 := by rfl
theorem sf_e4_120 (G : Nat → Nat → Int64) : sf_pr G 4 120 = 1 * G 0 0 * G 1 2 * G 2 3 * G 3 1 := by rfl
theorem sf_e4_135 (G : Nat → Nat → Int64) : sf_pr G 4 135 = 1 * G 0 3 * G 1 1 * G 2 0 * G 3 2 := by rfl
theorem sf_e4_141 (G : Nat → Nat → Int64) : sf_pr G 4 141 = (-1) * G 0 1 * G 1 3 * G 2 0 * G 3 2 := by rfl
theorem sf_e4_147 (G : Nat → Nat → Int64) : sf_pr G 4 147 = (-1) * G 0 3 * G 1 0 * G 2 1 * G 3 2 := by rfl
theorem sf_e4_156 (G : Nat → Nat → Int64) : sf_pr G 4 156 = 1 * G 0 0 * G 1 3 * G 2 1 * G 3 2 := by rfl
theorem sf_e4_177 (G : Nat → Nat → Int64) : sf_pr G 4 177 = 1 * G 0 1 * G 1 0 * G 2 3 * G 3 2 := by rfl
theorem sf_e4_180 (G : Nat → Nat → Int64) : sf_pr G 4 180 = (-1) * G 0 0 * G 1 1 * G 2 3 * G 3 2 := by rfl
theorem sf_e4_198 (G : Nat → Nat → Int64) : sf_pr G 4 198 = (-1) * G 0 2 * G 1 1 * G 2 0 * G 3 3 := by rfl
theorem sf_e4_201 (G : Nat → Nat → Int64) : sf_pr G 4 201 = 1 * G 0 1 * G 1 2 * G 2 0 * G 3 3 := by rfl
theorem sf_e4_210 (G : Nat → Nat → Int64) : sf_pr G 4 210 = 1 * G 0 2 * G 1 0 * G 2 1 * G 3 3 := by rfl
theorem sf_e4_216 (G : Nat → Nat → Int64) : sf_pr G 4 216 = (-1) * G 0 0 * G 1 2 * G 2 1 * G 3 3 := by rfl
theorem sf_e4_225 (G : Nat → Nat → Int64) : sf_pr G 4 225 = (-1) * G 0 1 * G 1 0 * G 2 2 * G 3 3 := by rfl
theorem sf_e4_228 (G : Nat → Nat → Int64) : sf_pr G 4 228 = 1 * G 0 0 * G 1 1 * G 2 2 * G 3 3 := by rfl
theorem sf_x4 (G : Nat → Nat → Int64) : sf_pm G 4 15 15 = ((((0 + 1 * G 0 0 * (((0 + 1 * G 1 1 * ((0 + 1 * G 2 2 * (0 + 1 * G 3 3 * 1)) + (-1) * G 2 3 * (0 + 1 * G 3 2 * 1))) + (-1) * G 1 2 * ((0 + 1 * G 2 1 * (0 + 1 * G 3 3 * 1)) + (-1) * G 2 3 * (0 + 1 * G 3 1 * 1))) + (-(-1)) * G 1 3 * ((0 + 1 * G 2 1 * (0 + 1 * G 3 2 * 1)) + (-1) * G 2 2 * (0 + 1 * G 3 1 * 1)))) + (-1) * G 0 1 * (((0 + 1 * G 1 0 * ((0 + 1 * G 2 2 * (0 + 1 * G 3 3 * 1)) + (-1) * G 2 3 * (0 + 1 * G 3 2 * 1))) + (-1) * G 1 2 * ((0 + 1 * G 2 0 * (0 + 1 * G 3 3 * 1)) + (-1) * G 2 3 * (0 + 1 * G 3 0 * 1))) + (-(-1)) * G 1 3 * ((0 + 1 * G 2 0 * (0 + 1 * G 3 2 * 1)) + (-1) * G 2 2 * (0 + 1 * G 3 0 * 1)))) + (-(-1)) * G 0 2 * (((0 + 1 * G 1 0 * ((0 + 1 * G 2 1 * (0 + 1 * G 3 3 * 1)) + (-1) * G 2 3 * (0 + 1 * G 3 1 * 1))) + (-1) * G 1 1 * ((0 + 1 * G 2 0 * (0 + 1 * G 3 3 * 1)) + (-1) * G 2 3 * (0 + 1 * G 3 0 * 1))) + (-(-1)) * G 1 3 * ((0 + 1 * G 2 0 * (0 + 1 * G 3 1 * 1)) + (-1) * G 2 1 * (0 + 1 * G 3 0 * 1)))) + (-(-(-1))) * G 0 3 * (((0 + 1 * G 1 0 * ((0 + 1 * G 2 1 * (0 + 1 * G 3 2 * 1)) + (-1) * G 2 2 * (0 + 1 * G 3 1 * 1))) + (-1) * G 1 1 * ((0 + 1 * G 2 0 * (0 + 1 * G 3 2 * 1)) + (-1) * G 2 2 * (0 + 1 * G 3 0 * 1))) + (-(-1)) * G 1 2 * ((0 + 1 * G 2 0 * (0 + 1 * G 3 1 * 1)) + (-1) * G 2 1 * (0 + 1 * G 3 0 * 1)))) := by simp only [sf_pm, sf_xs, sf_lo, Nat.reducePow, Nat.reduceDiv, Nat.reduceMod, Nat.reduceXor, Nat.reduceEqDiff, reduceIte]
theorem sf_mn4 (G : Nat → Nat → Int64) : sf_mn G 4 = sf_pm G 4 15 15 := by
  unfold sf_mn
  rw [show 4 ^ 4 = 256 from rfl, sf_sm_f _ (fun c => sf_vd 4 c 4) (fun c h => sf_prf G 4 c h) 256, sf_L4, sf_x4]
  simp only [List.foldl, sf_e4_27, sf_e4_30, sf_e4_39, sf_e4_45, sf_e4_54, sf_e4_57, sf_e4_75, sf_e4_78, sf_e4_99, sf_e4_108, sf_e4_114, sf_e4_120, sf_e4_135, sf_e4_141, sf_e4_147, sf_e4_156, sf_e4_177, sf_e4_180, sf_e4_198, sf_e4_201, sf_e4_210, sf_e4_216, sf_e4_225, sf_e4_228]
  generalize G 0 0 = g00
  generalize G 0 1 = g01
  generalize G 0 2 = g02
  generalize G 0 3 = g03
  generalize G 1 0 = g10
  generalize G 1 1 = g11
  generalize G 1 2 = g12
  generalize G 1 3 = g13
  generalize G 2 0 = g20
  generalize G 2 1 = g21
  generalize G 2 2 = g22
  generalize G 2 3 = g23
  generalize G 3 0 = g30
  generalize G 3 1 = g31
  generalize G 3 2 = g32
  generalize G 3 3 = g33
  grind
theorem sf_mnE (G : Nat → Nat → Int64) {k : Nat} (h0 : 0 < k) (hk : k ≤ 4) : sf_mn G k = sf_pm G k (2 ^ k - 1) (2 ^ k - 1) := by
  have h : k = 1 ∨ k = 2 ∨ k = 3 ∨ k = 4 := by omega
  rcases h with rfl | rfl | rfl | rfl
  · exact sf_mn1 G
  · exact sf_mn2 G
  · exact sf_mn3 G
  · exact sf_mn4 G
end
section
/-! divisors of the table without and with the goal, the reference's divisors, ranks -/
def sf_D (F : Nat → Nat → Int64) (k : Nat) : Nat := sf_go (fun r c => if sf_sz r = k ∧ sf_sz c = k then sf_ab (sf_pm F k r c) else 0) 16 16
def sf_E (F : Nat → Nat → Int64) (k : Nat) : Nat := sf_go (fun r c => if sf_sz r = k ∧ sf_sz (16 + c) = k then sf_ab (sf_pm F k r (16 + c)) else 0) 16 16
def sf_Y (W : Nat → Int64) (m w k : Nat) : Nat := sf_go (fun a b => if sf_sz a = k ∧ sf_sz b = k then sf_ab (sf_mn (fun i j => W (5 * sf_rk a i + sf_rk b j)) k) else 0) (2 ^ w) (2 ^ m)
theorem sf_S2 : ∀ a, a < 32 → a < 16 → ∀ i, i < 5 → sf_rk a i < 4 := by decide +kernel
theorem sf_S3 : ∀ m, m < 5 → 0 < m → ∀ r, r < 16 → r < 2 ^ m ∨ ∃ i, i < 4 ∧ m ≤ i ∧ r / 2 ^ i % 2 = 1 := by decide +kernel
theorem sf_S4 : ∀ c, c < 16 → ∀ j, j < 4 → (16 + c) / 2 ^ j % 2 = c / 2 ^ j % 2 := by decide +kernel
theorem sf_S4b : ∀ c, c < 16 → (16 + c) / 2 ^ 4 % 2 = 1 ∧ c / 2 ^ 4 % 2 = 0 := by decide +kernel
theorem sf_S5 : ∀ n, n < 5 → 0 < n → ∀ b, b < 2 ^ n → ∀ j, j < 5 → sf_rk b j < n := by decide +kernel
theorem sf_S6a : ∀ n, n < 5 → ∀ c, c < 2 ^ n → 0 < n → sf_sz (c + 2 ^ n) = sf_sz (16 + c) := by decide +kernel
def sf_S6p (n c j : Nat) : Bool := (decide (sf_rk (c + 2 ^ n) j = n) && decide (sf_rk (16 + c) j = 4)) || (decide (sf_rk (c + 2 ^ n) j < n) && decide (sf_rk (16 + c) j = sf_rk (c + 2 ^ n) j))
theorem sf_S6q : ∀ n, n < 5 → ∀ c, c < 2 ^ n → ∀ j, j < 5 → 0 < n → sf_S6p n c j = true := by decide +kernel
theorem sf_S6b (n : Nat) (h : n < 5) (c : Nat) (hc : c < 2 ^ n) (j : Nat) (hj : j < 5) (h0 : 0 < n) : (sf_rk (c + 2 ^ n) j = n ∧ sf_rk (16 + c) j = 4) ∨ (sf_rk (c + 2 ^ n) j < n ∧ sf_rk (16 + c) j = sf_rk (c + 2 ^ n) j) := by
  have e := sf_S6q n h c hc j hj h0
  unfold sf_S6p at e
  rw [Bool.or_eq_true, Bool.and_eq_true, Bool.and_eq_true, decide_eq_true_eq, decide_eq_true_eq, decide_eq_true_eq, decide_eq_true_eq] at e
  exact e
theorem sf_S6 (n : Nat) (h : n < 5) (h0 : 0 < n) (c : Nat) (hc : c < 2 ^ n) : sf_sz (c + 2 ^ n) = sf_sz (16 + c) ∧ ∀ j, j < 5 → (sf_rk (c + 2 ^ n) j = n ∧ sf_rk (16 + c) j = 4) ∨ (sf_rk (c + 2 ^ n) j < n ∧ sf_rk (16 + c) j = sf_rk (c + 2 ^ n) j) := ⟨sf_S6a n h c hc h0, fun j hj => sf_S6b n h c hc j hj h0⟩
theorem sf_S7 : ∀ n, n < 5 → 2 ^ n ≤ 16 ∧ 2 ^ (n + 1) = 2 ^ n + 2 ^ n := by decide +kernel
theorem sf_S8 : ∀ c, c < 16 → ¬ sf_sz (16 + c) = 0 := by decide +kernel
section
variable {F : Nat → Nat → Int64} {W : Nat → Int64} {m n : Nat} {q : Int64}
theorem sf_val1 (n5 : n < 5) (n0 : 0 < n) (hW : ∀ i, i < 4 → ∀ j, j < n → W (5 * i + j) = F i j) {k a b : Nat} (ha : a < 16) (hb : b < 2 ^ n) (h0 : 0 < k) (hk : k ≤ 4) (ea : sf_sz a = k) (eb : sf_sz b = k) :
    sf_mn (fun i j => W (5 * sf_rk a i + sf_rk b j)) k = sf_pm F k a b := by
  have hb16 : b < 16 := Nat.lt_of_lt_of_le hb (sf_S7 n n5).1
  rw [sf_mnE _ h0 hk, sf_link F ha (by omega) h0 hk ea eb]
  refine sf_pm_congr (fun i hi j hj => ?_) k _ _
  exact hW _ (sf_S2 a (by omega) ha i (by omega)) _ (sf_S5 n n5 n0 b hb j hj)
theorem sf_val2 (n5 : n < 5) (n0 : 0 < n) (hW : ∀ i, i < 4 → ∀ j, j < n → W (5 * i + j) = F i j) (hG : ∀ i, i < 4 → W (5 * i + n) = F i 4 * q) {k a c : Nat} (ha : a < 16) (hc : c < 2 ^ n) (h0 : 0 < k) (hk : k ≤ 4) (ea : sf_sz a = k) (ec : sf_sz (16 + c) = k) :
    sf_mn (fun i j => W (5 * sf_rk a i + sf_rk (c + 2 ^ n) j)) k = q * sf_pm F k a (16 + c) := by
  have hc16 : c < 16 := Nat.lt_of_lt_of_le hc (sf_S7 n n5).1
  have e := sf_pm_q (F := F) (F' := fun i j => if j = 4 then F i 4 * q else F i j) (q := q) (fun i _ j hj => if_neg (by omega)) (fun i _ => if_pos rfl) k a (16 + c) (by omega) ec (sf_S4b c hc16).1
  rw [← e, sf_mnE _ h0 hk, sf_link _ ha (by omega) h0 hk ea ec]
  refine sf_pm_congr (fun i hi j hj => ?_) k _ _
  have hi4 := sf_S2 a (by omega) ha i (by omega)
  rcases (sf_S6 n n5 n0 c hc).2 j hj with ⟨z1, z2⟩ | ⟨z1, z2⟩
  · show W (5 * sf_rk a i + sf_rk (c + 2 ^ n) j) = if sf_rk (16 + c) j = 4 then F (sf_rk a i) 4 * q else F (sf_rk a i) (sf_rk (16 + c) j)
    rw [z1, if_pos z2]; exact hG _ hi4
  · show W (5 * sf_rk a i + sf_rk (c + 2 ^ n) j) = if sf_rk (16 + c) j = 4 then F (sf_rk a i) 4 * q else F (sf_rk a i) (sf_rk (16 + c) j)
    rw [z2, if_neg (by omega)]; exact hW _ hi4 _ z1
theorem sf_zr (hr : ∀ i, i < 4 → m ≤ i → ∀ j, j < 5 → F i j = 0) {k a c i : Nat} (ha : a < 16) (ea : sf_sz a = k) (hi : i < 4) (hm : m ≤ i) (hb : a / 2 ^ i % 2 = 1) : sf_ab (sf_pm F k a c) = 0 := by
  rw [sf_pm_row hi (hr i hi hm) k a c ha ea hb, sf_ab0]
theorem sf_zc (hc : ∀ j, j < 4 → n ≤ j → ∀ i, i < 4 → F i j = 0) {k a c j : Nat} (hc32 : c < 32) (ec : sf_sz c = k) (hj : j < 4) (hn : n ≤ j) (hb : c / 2 ^ j % 2 = 1) : sf_ab (sf_pm F k a c) = 0 := by
  rw [sf_pm_col (by omega) (hc j hj hn) k a c hc32 ec hb, sf_ab0]
theorem sf_Y1 (m5 : m < 5) (m0 : 0 < m) (n5 : n < 5) (n0 : 0 < n) (hW : ∀ i, i < 4 → ∀ j, j < n → W (5 * i + j) = F i j) (hr : ∀ i, i < 4 → m ≤ i → ∀ j, j < 5 → F i j = 0) (hc : ∀ j, j < 4 → n ≤ j → ∀ i, i < 4 → F i j = 0) {k : Nat} (h0 : 0 < k) (hk : k ≤ 4) : sf_Y W m n k = sf_D F k := by
  refine sf_dvd_eq (fun x => ?_)
  unfold sf_Y sf_D
  rw [sf_go_dvd, sf_go_dvd]
  have hm := (sf_S7 m m5).1
  have hn := (sf_S7 n n5).1
  constructor
  · intro h a ha b hb
    by_cases hs : sf_sz a = k ∧ sf_sz b = k
    · rw [if_pos hs]
      rcases sf_S3 m m5 m0 a ha with za | ⟨i, hi, hmi, hbi⟩
      · rcases sf_S3 n n5 n0 b hb with zb | ⟨j, hj, hnj, hbj⟩
        · have := h a za b zb
          rw [if_pos hs, sf_val1 n5 n0 hW ha zb h0 hk hs.1 hs.2] at this
          exact this
        · rw [sf_zc hc (by omega) hs.2 hj hnj hbj]; exact Nat.dvd_zero x
      · rw [sf_zr hr ha hs.1 hi hmi hbi]; exact Nat.dvd_zero x
    · rw [if_neg hs]; exact Nat.dvd_zero x
  · intro h a ha b hb
    by_cases hs : sf_sz a = k ∧ sf_sz b = k
    · have := h a (by omega) b (by omega)
      rw [if_pos hs] at this
      rw [if_pos hs, sf_val1 n5 n0 hW (by omega) hb h0 hk hs.1 hs.2]
      exact this
    · rw [if_neg hs]; exact Nat.dvd_zero x
theorem sf_Y2 (m5 : m < 5) (m0 : 0 < m) (n5 : n < 5) (n0 : 0 < n) (hW : ∀ i, i < 4 → ∀ j, j < n → W (5 * i + j) = F i j) (hG : ∀ i, i < 4 → W (5 * i + n) = F i 4 * q) (hr : ∀ i, i < 4 → m ≤ i → ∀ j, j < 5 → F i j = 0) (hc : ∀ j, j < 4 → n ≤ j → ∀ i, i < 4 → F i j = 0) (hb : ∀ i, i < 4 → ∀ j, j < 5 → sf_ab (F i j) ≤ 200) (hq : sf_ab q ≤ 100) {k : Nat} (h0 : 0 < k) (hk : k ≤ 4) : sf_Y W m (n + 1) k = Nat.gcd (sf_D F k) (sf_ab q * sf_E F k) := by
  have hm := (sf_S7 m m5).1
  have hn := (sf_S7 n n5).1
  have hn2 := (sf_S7 n n5).2
  have hbd : ∀ r c, sf_ab (q * sf_pm F k r c) = sf_ab q * sf_ab (sf_pm F k r c) := by
    intro r c
    refine sf_mul ?_
    have h1 := sf_pm_bound hb k (by omega) r c
    have h2 : 1000 ^ k ≤ 1000 ^ 4 := Nat.pow_le_pow_right (by decide) hk
    have h3 : sf_ab q * sf_ab (sf_pm F k r c) ≤ 100 * 1000 ^ 4 := Nat.mul_le_mul hq (Nat.le_trans h1 h2)
    exact Nat.lt_of_le_of_lt h3 (by decide)
  refine sf_dvd_eq (fun x => ?_)
  rw [Nat.dvd_gcd_iff]
  unfold sf_Y sf_D sf_E
  rw [← sf_go_mul, sf_go_dvd, sf_go_dvd, sf_go_dvd]
  constructor
  · intro h
    constructor
    · intro a ha b hb'
      by_cases hs : sf_sz a = k ∧ sf_sz b = k
      · rw [if_pos hs]
        rcases sf_S3 m m5 m0 a ha with za | ⟨i, hi, hmi, hbi⟩
        · rcases sf_S3 n n5 n0 b hb' with zb | ⟨j, hj, hnj, hbj⟩
          · have := h a za b (by omega)
            rw [if_pos hs, sf_val1 n5 n0 hW ha zb h0 hk hs.1 hs.2] at this
            exact this
          · rw [sf_zc hc (by omega) hs.2 hj hnj hbj]; exact Nat.dvd_zero x
        · rw [sf_zr hr ha hs.1 hi hmi hbi]; exact Nat.dvd_zero x
      · rw [if_neg hs]; exact Nat.dvd_zero x
    · intro a ha c hc'
      show x ∣ sf_ab q * (if sf_sz a = k ∧ sf_sz (16 + c) = k then sf_ab (sf_pm F k a (16 + c)) else 0)
      by_cases hs : sf_sz a = k ∧ sf_sz (16 + c) = k
      · rw [if_pos hs]
        rcases sf_S3 m m5 m0 a ha with za | ⟨i, hi, hmi, hbi⟩
        · rcases sf_S3 n n5 n0 c hc' with zb | ⟨j, hj, hnj, hbj⟩
          · have := h a za (c + 2 ^ n) (by omega)
            rw [if_pos ⟨hs.1, (sf_S6 n n5 n0 c zb).1.trans hs.2⟩, sf_val2 n5 n0 hW hG ha zb h0 hk hs.1 hs.2, hbd] at this
            exact this
          · rw [sf_zc hc (by omega) hs.2 hj hnj (by rw [sf_S4 c hc' j hj]; exact hbj), Nat.mul_zero]; exact Nat.dvd_zero x
        · rw [sf_zr hr ha hs.1 hi hmi hbi, Nat.mul_zero]; exact Nat.dvd_zero x
      · rw [if_neg hs, Nat.mul_zero]; exact Nat.dvd_zero x
  · intro h a ha b hb'
    by_cases hs : sf_sz a = k ∧ sf_sz b = k
    · rw [if_pos hs]
      rcases Nat.lt_or_ge b (2 ^ n) with zb | zb
      · have := h.1 a (by omega) b (by omega)
        rw [if_pos hs] at this
        rw [sf_val1 n5 n0 hW (by omega) zb h0 hk hs.1 hs.2]
        exact this
      · obtain ⟨c, rfl⟩ : ∃ c, b = c + 2 ^ n := ⟨b - 2 ^ n, by omega⟩
        have zc : c < 2 ^ n := by omega
        have es : sf_sz (16 + c) = k := (sf_S6 n n5 n0 c zc).1.symm.trans hs.2
        have := h.2 a (by omega) c (by omega)
        have this : x ∣ sf_ab q * (if sf_sz a = k ∧ sf_sz (16 + c) = k then sf_ab (sf_pm F k a (16 + c)) else 0) := this
        rw [if_pos ⟨hs.1, es⟩] at this
        rw [sf_val2 n5 n0 hW hG (by omega) zc h0 hk hs.1 es, hbd]
        exact this
    · rw [if_neg hs]; exact Nat.dvd_zero x
theorem sf_D0 (F : Nat → Nat → Int64) : sf_D F 0 = 1 := by
  refine sf_dvd_eq (fun x => ?_)
  unfold sf_D
  rw [sf_go_dvd]
  constructor
  · intro h
    exact h 0 (by decide) 0 (by decide)
  · intro h a ha b hb
    by_cases hs : sf_sz a = 0 ∧ sf_sz b = 0
    · rw [if_pos hs]; exact h
    · rw [if_neg hs]; exact Nat.dvd_zero x
theorem sf_E0 (F : Nat → Nat → Int64) : sf_E F 0 = 0 := by
  unfold sf_E
  rw [sf_go_zero]
  intro a ha c hc
  exact if_neg (fun z => sf_S8 c hc z.2)
theorem sf_E5 (F : Nat → Nat → Int64) : sf_E F 5 = 0 := by
  unfold sf_E
  rw [sf_go_zero]
  intro a ha c hc
  exact if_neg (fun z => absurd z.1 (by have := sf_sz4 a ha; omega))
theorem sf_Es (F : Nat → Nat → Int64) (k : Nat) (hD : sf_D F k = 0) (hE : sf_E F k = 0) : sf_E F (k + 1) = 0 := by
  unfold sf_D at hD
  unfold sf_E at hE ⊢
  rw [sf_go_zero] at hD hE ⊢
  have hall : ∀ r, r < 16 → ∀ c, c < 32 → sf_sz r = k → sf_sz c = k → sf_pm F k r c = 0 := by
    intro r hr c hc er ec
    rcases Nat.lt_or_ge c 16 with z | z
    · have := hD r hr c z
      rw [if_pos ⟨er, ec⟩] at this
      exact sf_ab_eq0.mp this
    · obtain ⟨d, rfl⟩ : ∃ d, c = 16 + d := ⟨c - 16, by omega⟩
      have := hE r hr d (by omega)
      rw [if_pos ⟨er, ec⟩] at this
      exact sf_ab_eq0.mp this
  intro a ha c hc
  by_cases hs : sf_sz a = k + 1 ∧ sf_sz (16 + c) = k + 1
  · rw [if_pos hs, sf_pm_up hall a ha (16 + c) (by omega) hs.1 hs.2, sf_ab0]
  · rw [if_neg hs]
theorem sf_pw {k : Nat} (hk : k ≤ 5) : 1000 ^ k < 2 ^ 50 := Nat.lt_of_le_of_lt (Nat.pow_le_pow_right (by decide) hk) (by decide : 1000 ^ 5 < 2 ^ 50)
theorem sf_Dlt (hb : ∀ i, i < 4 → ∀ j, j < 5 → sf_ab (F i j) ≤ 200) {k : Nat} (hk : k ≤ 5) : sf_D F k < 2 ^ 50 := by
  refine sf_go_lt (by decide) 16 (fun a ha b hb' => ?_)
  by_cases hs : sf_sz a = k ∧ sf_sz b = k
  · rw [if_pos hs]; exact Nat.lt_of_le_of_lt (sf_pm_bound hb k hk a b) (sf_pw hk)
  · rw [if_neg hs]; decide
theorem sf_Elt (hb : ∀ i, i < 4 → ∀ j, j < 5 → sf_ab (F i j) ≤ 200) {k : Nat} (hk : k ≤ 5) : sf_E F k < 2 ^ 50 := by
  refine sf_go_lt (by decide) 16 (fun a ha b hb' => ?_)
  by_cases hs : sf_sz a = k ∧ sf_sz (16 + b) = k
  · rw [if_pos hs]; exact Nat.lt_of_le_of_lt (sf_pm_bound hb k hk a (16 + b)) (sf_pw hk)
  · rw [if_neg hs]; decide
end
/-! ranks -/
def sf_rD (D : Nat → Nat) : Nat → Nat
  | 0 => 0
  | k + 1 => if D (k + 1) = 0 then sf_rD D k else k + 1
theorem sf_rD_t {D : Nat → Nat} {k : Nat} (h : D (k + 1) = 0) : sf_rD D (k + 1) = sf_rD D k := if_pos h
theorem sf_rD_f {D : Nat → Nat} {k : Nat} (h : ¬ D (k + 1) = 0) : sf_rD D (k + 1) = k + 1 := if_neg h
theorem sf_rD_le (D : Nat → Nat) : ∀ k, sf_rD D k ≤ k := by
  intro k
  induction k with
  | zero => exact Nat.le_refl 0
  | succ k ih =>
    by_cases h : D (k + 1) = 0
    · rw [sf_rD_t h]; omega
    · rw [sf_rD_f h]; omega
theorem sf_rD_ne (D : Nat → Nat) : ∀ k, sf_rD D k = 0 ∨ D (sf_rD D k) ≠ 0 := by
  intro k
  induction k with
  | zero => exact Or.inl rfl
  | succ k ih =>
    by_cases h : D (k + 1) = 0
    · rw [sf_rD_t h]; exact ih
    · rw [sf_rD_f h]; exact Or.inr h
theorem sf_rD_z (D : Nat → Nat) : ∀ k j, sf_rD D k < j → j ≤ k → D j = 0 := by
  intro k
  induction k with
  | zero => intro j h1 h2; omega
  | succ k ih =>
    intro j h1 h2
    by_cases h : D (k + 1) = 0
    · rw [sf_rD_t h] at h1
      rcases Nat.lt_or_ge k j with z | z
      · rw [show j = k + 1 from by omega]; exact h
      · exact ih j h1 z
    · rw [sf_rD_f h] at h1; omega
theorem sf_rD_u (D : Nat → Nat) {r : Nat} : ∀ k, r ≤ k → (r = 0 ∨ D r ≠ 0) → (∀ j, r < j → j ≤ k → D j = 0) → sf_rD D k = r := by
  intro k
  induction k with
  | zero => intro h1 _ _; show 0 = r; omega
  | succ k ih =>
    intro h1 h2 h3
    rcases Nat.lt_or_ge r (k + 1) with z | z
    · rw [sf_rD_t (h3 (k + 1) z (Nat.le_refl _))]
      exact ih (by omega) h2 (fun j a b => h3 j a (by omega))
    · have e : r = k + 1 := by omega
      subst e
      rcases h2 with y | y
      · omega
      · exact sf_rD_f y
theorem sf_rD_congr {D D' : Nat → Nat} : ∀ k, (∀ j, 0 < j → j ≤ k → D j = D' j) → sf_rD D k = sf_rD D' k := by
  intro k
  induction k with
  | zero => exact fun _ => rfl
  | succ k ih =>
    intro h
    have e := h (k + 1) (by omega) (Nat.le_refl _)
    by_cases z : D (k + 1) = 0
    · rw [sf_rD_t z, sf_rD_t (e ▸ z), ih (fun j a b => h j a (by omega))]
    · rw [sf_rD_f z, sf_rD_f (e ▸ z)]
def sf_Ls (D E : Nat → Nat) : Nat := if E (sf_rD D 4 + 1) = 0 then D (sf_rD D 4) / Nat.gcd (D (sf_rD D 4)) (E (sf_rD D 4)) else 0
theorem sf_lst {d e q : Nat} (hd : 0 < d) : d ∣ q * e ↔ d / Nat.gcd d e ≠ 0 ∧ d / Nat.gcd d e ∣ q := by
  have hg : 0 < Nat.gcd d e := Nat.gcd_pos_of_pos_left e hd
  obtain ⟨a, ha⟩ := Nat.gcd_dvd_left d e
  obtain ⟨b, hb⟩ := Nat.gcd_dvd_right d e
  have hco := Nat.coprime_div_gcd_div_gcd (m := d) (n := e) hg
  generalize Nat.gcd d e = g at *
  have ea : d / g = a := by rw [ha]; exact Nat.mul_div_cancel_left a hg
  have eb : e / g = b := by rw [hb]; exact Nat.mul_div_cancel_left b hg
  rw [ea, eb] at hco
  rw [ea]
  have a0 : a ≠ 0 := by
    intro z; subst z; rw [Nat.mul_zero] at ha; omega
  constructor
  · intro h
    refine ⟨a0, hco.dvd_of_dvd_mul_right (n := b) ?_⟩
    rw [ha, hb, ← Nat.mul_assoc, Nat.mul_comm q g, Nat.mul_assoc] at h
    exact Nat.dvd_of_mul_dvd_mul_left hg h
  · rintro ⟨_, t, ht⟩
    refine ⟨t * b, ?_⟩
    rw [ht, hb, ha]; ac_rfl
theorem sf_met {D E D' : Nat → Nat} {q : Nat} (hq : 0 < q) (h0 : D 0 = 1) (hE5 : E 5 = 0) (hD0 : D' 0 = 1) (hD' : ∀ k, 0 < k → k ≤ 4 → D' k = Nat.gcd (D k) (q * E k)) (hs : ∀ k, D k = 0 → E k = 0 → E (k + 1) = 0) :
    (sf_rD D' 4 = sf_rD D 4 ∧ D' (sf_rD D 4) = D (sf_rD D 4)) ↔ sf_Ls D E ≠ 0 ∧ sf_Ls D E ∣ q := by
  have r4 := sf_rD_le D 4
  have rn := sf_rD_ne D 4
  have rz := sf_rD_z D 4
  unfold sf_Ls
  generalize sf_rD D 4 = r at *
  have dp : 0 < D r := by
    rcases rn with z | z
    · rw [z, h0]; decide
    · omega
  have hdv : D' r = D r ↔ D r ∣ q * E r := by
    rcases Nat.eq_zero_or_pos r with z | z
    · rw [z, h0, hD0]; exact ⟨fun _ => Nat.one_dvd _, fun _ => rfl⟩
    · rw [hD' r z r4]; exact Nat.gcd_eq_left_iff_dvd
  constructor
  · rintro ⟨h1, h2⟩
    have e1 : E (r + 1) = 0 := by
      rcases Nat.lt_or_ge r 4 with z | z
      · have := sf_rD_z D' 4 (r + 1) (by omega) (by omega)
        rw [hD' (r + 1) (by omega) (by omega), Nat.gcd_eq_zero_iff] at this
        rcases Nat.mul_eq_zero.mp this.2 with y | y
        · omega
        · exact y
      · rw [show r = 4 from by omega]; exact hE5
    rw [if_pos e1]
    exact (sf_lst dp).mp (hdv.mp h2)
  · intro h
    by_cases e1 : E (r + 1) = 0
    · rw [if_pos e1] at h
      have h3 := (sf_lst (e := E r) dp).mpr h
      have hE : ∀ j, r < j → j ≤ 4 → E j = 0 := by
        intro j
        induction j with
        | zero => intro a; omega
        | succ j ih =>
          intro a b
          rcases Nat.lt_or_ge r j with z | z
          · exact hs j (rz j z (by omega)) (ih z (by omega))
          · rw [show j = r from by omega]; exact e1
      refine ⟨sf_rD_u D' 4 r4 ?_ ?_, hdv.mpr h3⟩
      · rcases Nat.eq_zero_or_pos r with z | z
        · exact Or.inl z
        · refine Or.inr ?_
          rw [hdv.mpr h3]; omega
      · intro j a b
        rw [hD' j (by omega) b, rz j a b, hE j a b, Nat.mul_zero]
        rfl
    · rw [if_neg e1] at h
      exact absurd rfl h.1
theorem sf_Ls_lt {D E : Nat → Nat} {B : Nat} (hB : 0 < B) (h : ∀ k, k ≤ 4 → D k < B) : sf_Ls D E < B := by
  unfold sf_Ls
  by_cases e : E (sf_rD D 4 + 1) = 0
  · rw [if_pos e]; exact Nat.lt_of_le_of_lt (Nat.div_le_self _ _) (h _ (sf_rD_le D 4))
  · rw [if_neg e]; exact hB
end
section
/-! small numbers under shifts and masks -/
theorem sf_shr {n j : Nat} (hn : n < 2 ^ 31) (hj : j < 32) : nI n >>> (nI j &&& 31) = nI (n / 2 ^ j) := pk_shrN hn _ j (s_l j hj)
theorem sf_and1 {n : Nat} (h : n < 2 ^ 32) : nI n &&& 1 = nI (n % 2) := pk_andN h 1 (by decide)
theorem sf_bitn {n j : Nat} (hn : n < 2 ^ 31) (hj : j < 32) : (nI n >>> (nI j &&& 31)) &&& 1 = nI (n / 2 ^ j % 2) := by
  rw [sf_shr hn hj, sf_and1 (Nat.lt_of_le_of_lt (Nat.div_le_self _ _) (by omega))]
theorem sf_1shl : ∀ j, j < 31 → (1 : Int32) <<< (nI j &&& 31) = nI (2 ^ j) := by decide +kernel
theorem sf_or : ∀ u, u < 16 → ∀ p, p < 4 → nI u ||| nI (2 ^ p) = nI (u ||| 2 ^ p) := by decide +kernel
theorem sf_andb : ∀ c, c < 32 → ∀ j, j < 5 → (nI c &&& nI (2 ^ j) = 0 ↔ ¬ c / 2 ^ j % 2 = 1) := by decide +kernel
theorem sf_us16 : ∀ code, code < 256 → ∀ i, i < 5 → sf_us code i < 16 := by decide +kernel
theorem sf_code : ∀ code, code < 256 → ∀ i, i < 4 → (nI code >>> (nI (2 * i) &&& 31)) &&& 3 = nI (sf_pv code i) := by decide +kernel
theorem sf_pv4 (code i : Nat) : sf_pv code i < 4 := Nat.mod_lt _ (by decide)
theorem sf_cell (t r c : Nat) : nI t * 16 + nI r * 4 + nI c = nI (16 * t + 4 * r + c) := by
  show nI t * nI 16 + nI r * nI 4 + nI c = _
  rw [pk_mul, pk_mul, nI_add, nI_add]
  exact congrArg nI (by omega)
theorem sf_cellY (t r c : Nat) : 16 * nI t + 4 * nI r + nI c = nI (16 * t + 4 * r + c) := by
  show nI 16 * nI t + nI 4 * nI r + nI c = _
  rw [pk_mul, pk_mul, nI_add, nI_add]
/-! how many members lie below i -/
theorem sf_cn_le : ∀ s, s < 32 → ∀ i, i < 6 → sf_cn s i ≤ i := by decide +kernel
theorem sf_cn_lt : ∀ s, s < 32 → ∀ i, i < 5 → s / 2 ^ i % 2 = 1 → sf_cn s i < sf_sz s := by decide +kernel
theorem sf_rk5 : ∀ s, s < 32 → ∀ i, i < 5 → sf_rk s i < 5 := by decide +kernel
/-! the least multiple, found by trying -/
theorem sf_least {L k : Nat} (hb : ∀ q, 0 < q → q < k → ¬ (L ≠ 0 ∧ L ∣ q)) (h : L ≠ 0 ∧ L ∣ k) (hk : 0 < k) : L = k := by
  have h1 := Nat.le_of_dvd hk h.2
  rcases Nat.lt_or_ge L k with z | z
  · exact absurd ⟨h.1, Nat.dvd_refl L⟩ (hb L (by omega) z)
  · omega
end
section
/-! the class's private methods -/
theorem sf_cn_s (s i : Nat) : sf_cn s (i + 1) = sf_cn s i + s / 2 ^ i % 2 := by
  show (if s / 2 ^ i % 2 = 1 then sf_cn s i + 1 else sf_cn s i) = _
  by_cases h : s / 2 ^ i % 2 = 1
  · rw [if_pos h, h]
  · rw [if_neg h]; have := Nat.mod_lt (s / 2 ^ i) (show 0 < 2 by decide); omega
theorem sx_size {post : Int32 → Prop} {s : Nat} (hs : s < 32) (h : post (nI (sf_sz s))) : wpX_sizeOf post (nI s) := by
  refine pk_loop (σ := Int32) (fun n i x => wX_sizeOf_4 post (nI s) n x (nI i)) (fun i x => x = nI (sf_cn s i)) 5 0 0 (by omega) rfl ?_ ?_
  · intro n x hx
    subst hx
    exact br_t (by decide) (by rw [(sf_cn_sz s hs).1]; exact h)
  · intro n i x hi hx hk
    subst hx
    refine br_f (nI_nlt (a := 4) (b := i) (by omega) (by decide)) (nm_r (e' := nI (sf_cn s (i + 1))) ?_ (nm_r (nI_1 i) (hk _ rfl)))
    rw [sf_bitn (by omega) (by omega), nI_add, sf_cn_s]
theorem sf_lo_i : ∀ s, s < 16 → ∀ i, i < 4 → (∀ j, j < i → ¬ s / 2 ^ j % 2 = 1) → s / 2 ^ i % 2 = 1 → sf_lo s = i := by decide +kernel
theorem sf_lo_n : ∀ s, s < 16 → (∀ j, j < 4 → ¬ s / 2 ^ j % 2 = 1) → sf_lo s = 0 := by decide +kernel
theorem sx_least {post : Int32 → Prop} {s : Nat} (hs : s < 16) (h : post (nI (sf_lo s))) : wpX_leastOf post (nI s) := by
  refine pk_loop (σ := Unit) (fun n i _ => wX_leastOf_2 post (nI s) n (nI i)) (fun i _ => ∀ j, j < i → ¬ s / 2 ^ j % 2 = 1) 4 0 () (by omega) (fun j hj => absurd hj (Nat.not_lt_zero j)) ?_ ?_
  · intro n x hx
    rw [sf_lo_n s hs hx] at h
    exact br_t (by decide) h
  · intro n i x hi hx hk
    have e : (nI s >>> (nI i &&& 31)) &&& 1 = nI (s / 2 ^ i % 2) := sf_bitn (by omega) (by omega)
    refine br_f (nI_ge (b := 4) hi (by decide)) ?_
    by_cases hb : s / 2 ^ i % 2 = 1
    · refine br_t (by rw [e, hb]; rfl) ?_
      rw [sf_lo_i s hs i hi hx hb] at h
      exact h
    · have h0 : s / 2 ^ i % 2 = 0 := by have := Nat.mod_lt (s / 2 ^ i) (show 0 < 2 by decide); omega
      refine br_f (by rw [e, h0]; decide) (nm_r (nI_1 i) (hk () ?_))
      intro j hj
      rcases Nat.lt_or_ge j i with z | z
      · exact hx j z
      · rw [show j = i from by omega]; exact hb
def sx_F (ce go : Nat → Int32) (t : Nat) (r c : Nat) : Int64 := if c = 4 then (go r).toInt64 else (ce (16 * t + 4 * r + c)).toInt64
section
variable {rc cc : Int32} {ce tg go : Nat → Int32} {mi : Nat → Int64}
theorem sx_71 {post : Int64 → Prop} {J : Int64 → Int64 → Int32 → Prop} {x1 x4 z : Int32} {c r i : Nat} {s1 s2 : Int64} (hr : r < 16) (hx : c ^^^ 2 ^ i < 32) (hJ : J (s1 + s2 * z.toInt64 * mi (32 * r + (c ^^^ 2 ^ i))) (-s2) (nI (i + 1))) : wX_expandedMinor_71 post J x1 (nI c) x4 (nI r) s1 s2 (nI i) (nI (2 ^ i)) z rc cc ce tg go mi := by
  have e : nI r * 32 + (nI c ^^^ nI (2 ^ i)) = nI (32 * r + (c ^^^ 2 ^ i)) := by
    rw [nx_xor]
    show nI r * nI 32 + _ = _
    rw [pk_mul, nI_add]
    exact congrArg nI (by omega)
  unfold wX_expandedMinor_71
  rw [e]
  refine ⟨vp_in_nI (by omega) (by omega), nm_e (nm_e (nm_r (nI_1 i) ?_))⟩
  rw [nI_clamp (by omega)]
  exact hJ
theorem sx_exp {post : Int64 → Prop} {t r c : Nat} (ht : t < 2) (hr : r < 16) (h0 : 0 < r) (hc : c < 32) (h : post (sf_xs (sx_F ce go t (sf_lo r)) (fun c' => mi (32 * (r ^^^ 2 ^ sf_lo r) + c')) c 5).1) : wpX_expandedMinor post (rc, cc, ce, tg, go, mi) (nI t) (nI r) (nI c) := by
  unfold wpX_expandedMinor
  dsimp only
  refine sx_least hr ?_
  have hl := sf_lo4 r
  have hr' : r ^^^ 2 ^ sf_lo r < r := (sf_T1 r hr h0).1
  generalize sf_lo r = l at *
  refine nm_r (e' := nI (r ^^^ 2 ^ l)) (by rw [sf_1shl l (by omega), nx_xor]) ?_
  generalize r ^^^ 2 ^ l = r' at *
  refine pk_loop (σ := Int64 × Int64) (fun n i s => wX_expandedMinor_23 post (nI t) (nI c) (nI l) (nI r') rc cc ce tg go mi n s.1 s.2 (nI i)) (fun i s => s = sf_xs (sx_F ce go t l) (fun c' => mi (32 * r' + c')) c i) 5 0 (0, 1) (by omega) rfl ?_ ?_
  · intro n s hs
    subst hs
    exact br_t (by decide) h
  · intro n i s hi hs hk
    refine br_f (nI_nlt (a := 4) (b := i) (by omega) (by decide)) (nm_r (sf_1shl i (by omega)) ?_)
    by_cases hb : c / 2 ^ i % 2 = 1
    · refine br_f (fun z => (sf_andb c hc i hi).mp z hb) ?_
      have hx := (sf_T2 c hc i hi hb).1
      by_cases h4 : i = 4
      · subst h4
        refine br_t (by decide) ⟨vp_in_nI hl (by omega), sx_71 (by omega) hx ?_⟩
        refine hk (s.1 + s.2 * _ * _, -s.2) ?_
        rw [sf_xs_t hb, ← hs, nI_clamp (by omega)]
        rfl
      · refine br_f (fun z => h4 ((nI_eq (by omega) (by decide)).mp z)) ?_
        show vp_in (nI t * 16 + nI l * 4 + nI i) 32 ∧ _
        rw [sf_cell]
        refine ⟨vp_in_nI (by omega) (by omega), sx_71 (by omega) hx ?_⟩
        refine hk (s.1 + s.2 * _ * _, -s.2) ?_
        rw [sf_xs_t hb, ← hs, nI_clamp (by omega)]
        show _ = (s.1 + s.2 * sx_F ce go t l i * mi (32 * r' + (c ^^^ 2 ^ i)), -s.2)
        unfold sx_F
        rw [if_neg h4]
    · refine br_t ((sf_andb c hc i hi).mpr hb) (nm_r (nI_1 i) (hk s ?_))
      rw [sf_xs_f hb]; exact hs
def sx_Z (M : Nat → Int64) : Prop := ∀ r, r < 16 → ∀ c, c < 32 → ¬ sf_sz r = sf_sz c → M (32 * r + c) = 0
def sx_R (F : Nat → Nat → Int64) (M : Nat → Int64) (r C : Nat) : Prop := ∀ c, c < C → sf_sz r = sf_sz c → M (32 * r + c) = sf_pm F (sf_sz r) r c
theorem sx_find {post : SX → Prop} {t : Nat} (ht : t < 2) (hZ : sx_Z mi) (h : ∀ M, sx_Z M → (∀ r, r < 16 → sx_R (sx_F ce go t) M r 32) → post (rc, cc, ce, tg, go, M)) : wpX_findMinors post (rc, cc, ce, tg, go, mi) (nI t) := by
  unfold wpX_findMinors
  dsimp only
  refine nm_e ?_
  refine pk_loop (σ := Nat → Int64) (fun n i M => wX_findMinors_9 post (nI t) rc cc n (nI i) ce tg go M) (fun i M => sx_Z M ∧ (∀ r, r < i → sx_R (sx_F ce go t) M r 32) ∧ 0 < i) 16 1 _ (by omega) ⟨?_, ?_, by decide⟩ ?_ ?_
  · intro r hr c hc hs
    rw [pk_uLn ?_]
    · exact hZ r hr c hc hs
    · intro z
      have z1 : r = 0 := by omega
      have z2 : c = 0 := by omega
      subst z1 z2
      exact hs rfl
  · intro r hr c hc hs
    have z1 : r = 0 := by omega
    subst z1
    have z2 : c = 0 := sf_sz0 c hc hs.symm
    subst z2
    exact pk_uLs
  · intro n M hM
    exact br_t (by decide) (h M hM.1 hM.2.1)
  · intro n i M hi hM hk
    have hi0 := hM.2.2
    · refine br_f (nI_ge (b := 16) hi (by decide)) ?_
      refine pk_loop (σ := Nat → Int64) (fun n' j M => wX_findMinors_17 post (wX_findMinors_9 post (nI t) rc cc n) (nI t) (nI i) rc cc n' (nI j) ce tg go M) (fun j M => sx_Z M ∧ (∀ r, r < i → sx_R (sx_F ce go t) M r 32) ∧ sx_R (sx_F ce go t) M i j) 32 1 M (by omega) ⟨hM.1, hM.2.1, ?_⟩ ?_ ?_
      · intro c hc hs
        have z : c = 0 := by omega
        subst z
        have : i = 0 := sf_sz0 i (by omega) hs
        omega
      · intro n' M' hM'
        refine br_t (by decide) (nm_r (nI_1 i) (hk M' ⟨hM'.1, ?_, by omega⟩))
        intro r hr
        rcases Nat.lt_or_ge r i with z | z
        · exact hM'.2.1 r z
        · rw [show r = i from by omega]; exact hM'.2.2
      · intro n' j M' hj hM' hk'
        refine br_f (nI_ge (b := 32) hj (by decide)) (sx_size (by omega) (sx_size hj ?_))
        by_cases hs : sf_sz i = sf_sz j
        · refine br_t (by rw [hs]) (sx_exp ht (by omega) (by omega) hj ?_)
          have e : nI i * 32 + nI j = nI (32 * i + j) := by
            show nI i * nI 32 + _ = _
            rw [pk_mul, nI_add]; exact congrArg nI (by omega)
          rw [e]
          refine ⟨vp_in_nI (by omega) (by omega), nm_e (nm_r (nI_1 j) (hk' _ ?_))⟩
          rw [nI_clamp (by omega)]
          obtain ⟨t1, t2, _⟩ := sf_T1 i (by omega) (by omega)
          have hv : (sf_xs (sx_F ce go t (sf_lo i)) (fun c' => M' (32 * (i ^^^ 2 ^ sf_lo i) + c')) j 5).1 = sf_pm (sx_F ce go t) (sf_sz i) i j := by
            obtain ⟨k, hk2⟩ : ∃ k, sf_sz i = k + 1 := ⟨sf_sz i - 1, by omega⟩
            rw [hk2]
            show _ = (sf_xs (sx_F ce go t (sf_lo i)) (fun c' => sf_pm (sx_F ce go t) k (i ^^^ 2 ^ sf_lo i) c') j 5).1
            rw [sf_xs_congr 5 (fun b hb hbit => ⟨rfl, ?_⟩)]
            obtain ⟨t3, t4⟩ := sf_T2 j hj b hb hbit
            have e2 := hM'.2.1 _ t1 _ t3 (by omega)
            rw [show sf_sz (i ^^^ 2 ^ sf_lo i) = k from by omega] at e2
            exact e2
          rw [hv]
          refine ⟨?_, ?_, ?_⟩
          · intro r hr c hc hn
            rw [pk_uLn ?_]
            · exact hM'.1 r hr c hc hn
            · intro z
              have z1 : r = i := by omega
              have z2 : c = j := by omega
              subst z1 z2
              exact hn hs
          · intro r hr c hc he
            rw [pk_uLn (by omega)]
            exact hM'.2.1 r hr c hc he
          · intro c hc he
            rcases Nat.lt_or_ge c j with z | z
            · rw [pk_uLn (by omega)]; exact hM'.2.2 c z he
            · rw [show c = j from by omega]; exact pk_uLs
        · refine br_f ?_ (nm_r (nI_1 j) (hk' M' ⟨hM'.1, hM'.2.1, ?_⟩))
          · intro z
            have a1 := sf_sz4 i (by omega)
            have a2 : sf_sz j ≤ 5 := (by decide +kernel : ∀ c, c < 32 → sf_sz c ≤ 5) j hj
            exact hs ((nI_eq (by omega) (by omega)).mp z)
          · intro c hc he
            rcases Nat.lt_or_ge c j with z | z
            · exact hM'.2.2 c z he
            · rw [show c = j from by omega] at he; exact absurd he hs
end
end
section
/-! the class's divisors -/
theorem sx_eu {post : Int64 → Prop} : ∀ d i g s : Nat, i + d ≤ 1000 → g < 2 ^ 63 → s < 2 ^ 63 → sf_ok d g s → post (lN (Nat.gcd g s)) → ∀ n, d < n → wX_commonDivisor_31 post n (lN g) (lN s) (nI i) := by
  intro d
  induction d with
  | zero =>
    intro i g s hi hg hs ho hp n hn
    obtain ⟨n, rfl⟩ : ∃ n', n = n' + 1 := ⟨n - 1, by omega⟩
    have z : s = 0 := ho
    subst z
    rw [Nat.gcd_zero_right] at hp
    exact br_c (fun _ => hp) (fun _ => br_t rfl hp)
  | succ d ih =>
    intro i g s hi hg hs ho hp n hn
    obtain ⟨n, rfl⟩ : ∃ n', n = n' + 1 := ⟨n - 1, by omega⟩
    refine br_f (nI_ge (b := 1000) (by omega) (by decide)) ?_
    rcases Nat.eq_zero_or_pos s with z | z
    · subst z
      rw [Nat.gcd_zero_right] at hp
      exact br_t rfl hp
    · have hz : ¬ lN s = 0 := fun y => by
        have := (pk_lEQ hs (by decide : 0 < 2 ^ 63)).mp y
        omega
      refine br_f hz ⟨hz, nm_r (pk_lRem hg z hs) (nm_r (nI_1 i) ?_)⟩
      have ho' : sf_ok d s (g % s) := by
        rcases ho with y | y
        · omega
        · exact y
      rw [sf_gcd_step] at hp
      exact ih (i + 1) s (g % s) (by omega) hs (Nat.lt_trans (Nat.mod_lt g z) hs) ho' hp n (by omega)
theorem sx_eu12 {post : Int64 → Prop} {g : Nat} {b : Int64} (hg : g < 2 ^ 63) (hb : sf_ab b < 2 ^ 50) (h : post (lN (Nat.gcd g (sf_ab b)))) : wX_commonDivisor_12 post b (lN g) := by
  have key : wX_commonDivisor_31 post 101 (lN g) (lN (sf_ab b)) 0 := sx_eu 100 0 g (sf_ab b) (by omega) hg (by omega) (sf_ok_of 50 g _ hb) h 101 (by omega)
  refine br_c (fun h0 => ⟨101, ?_⟩) (fun h0 => nm_r (sf_neg (Int64.not_le.mp h0) (by omega)) ⟨101, key⟩)
  have e := (sf_pos (Int64.not_lt.mpr h0)).1
  rw [← e] at key
  exact key
theorem sx_common {post : Int64 → Prop} {a b : Int64} (ha : sf_ab a < 2 ^ 50) (hb : sf_ab b < 2 ^ 50) (h : post (lN (Nat.gcd (sf_ab a) (sf_ab b)))) : wpX_commonDivisor post a b := by
  have key : wX_commonDivisor_12 post b (lN (sf_ab a)) := sx_eu12 (by omega) hb h
  refine br_c (fun h0 => ?_) (fun h0 => ?_)
  · have e := (sf_pos (Int64.not_lt.mpr h0)).1
    rw [← e] at key
    exact key
  · rw [sf_neg (Int64.not_le.mp h0) (by omega)]
    exact key
section
variable {rc cc : Int32} {ce tg go : Nat → Int32} {mi : Nat → Int64}
theorem sx_fd {post : Int64 → Prop} {k w : Nat} (hk : k < 100) (hw : w ≤ 16) (hM : ∀ i, i < 512 → sf_ab (mi i) < 2 ^ 50) (h : post (lN (sf_go (fun r c => if sf_sz r = k then sf_ab (mi (32 * r + w + c)) else 0) 16 16))) : wpX_foundDivisor post (rc, cc, ce, tg, go, mi) (nI k) (nI w) := by
  unfold wpX_foundDivisor
  dsimp only
  have hf : ∀ r, r < 16 → ∀ c, c < 16 → (if sf_sz r = k then sf_ab (mi (32 * r + w + c)) else 0) < 2 ^ 50 := by
    intro r hr c hc
    by_cases e : sf_sz r = k
    · rw [if_pos e]; exact hM _ (by omega)
    · rw [if_neg e]; decide
  refine pk_loop (σ := Int64) (fun n i x => wX_foundDivisor_5 post (nI k) (nI w) rc cc ce tg go mi n x (nI i)) (fun i x => x = lN (sf_go (fun r c => if sf_sz r = k then sf_ab (mi (32 * r + w + c)) else 0) 16 i)) 16 0 0 (by omega) rfl ?_ ?_
  · intro n x hx
    subst hx
    exact br_t (by decide) h
  · intro n i x hi hx hk'
    subst hx
    refine br_f (nI_ge (b := 16) hi (by decide)) (sx_size (by omega) ?_)
    have hgo : sf_go (fun r c => if sf_sz r = k then sf_ab (mi (32 * r + w + c)) else 0) 16 i < 2 ^ 50 := sf_go_lt (by decide) i (fun a ha => hf a (by omega))
    by_cases e : sf_sz i = k
    · refine br_t (by rw [e]) ?_
      refine pk_loop (σ := Int64) (fun n' j x => wX_foundDivisor_24 post (wX_foundDivisor_5 post (nI k) (nI w) rc cc ce tg go mi n) (nI k) (nI w) (nI i) rc cc ce tg go mi n' x (nI j)) (fun j x => x = lN (sf_gc (fun c => if sf_sz i = k then sf_ab (mi (32 * i + w + c)) else 0) (sf_go (fun r c => if sf_sz r = k then sf_ab (mi (32 * r + w + c)) else 0) 16 i) j)) 16 0 _ (by omega) rfl ?_ ?_
      · intro n' y hy
        exact br_t (by decide) (nm_r (nI_1 i) (hk' y hy))
      · intro n' j y hj hy hkj
        subst hy
        have e2 : nI i * 32 + nI w + nI j = nI (32 * i + w + j) := by
          show nI i * nI 32 + nI w + nI j = _
          rw [pk_mul, nI_add, nI_add]; exact congrArg nI (by omega)
        refine br_f (nI_ge (b := 16) hj (by decide)) ?_
        rw [e2]
        refine ⟨vp_in_nI (by omega) (by omega), ?_⟩
        rw [nI_clamp (by omega)]
        have hgc := sf_gc_lt hgo j (fun c hc => hf i hi c (by omega))
        refine sx_common (by rw [sf_abN (by omega)]; exact hgc) (hM _ (by omega)) (nm_r (nI_1 j) (hkj _ ?_))
        rw [sf_abN (by omega)]
        show _ = lN (Nat.gcd _ (if sf_sz i = k then sf_ab (mi (32 * i + w + j)) else 0))
        rw [if_pos e]
    · refine br_f (fun z => e ((nI_eq (by have := sf_sz4 i hi; omega) (by omega)).mp z)) (nm_r (nI_1 i) (hk' _ ?_))
      show _ = lN (sf_gc (fun c => if sf_sz i = k then sf_ab (mi (32 * i + w + c)) else 0) _ 16)
      rw [sf_gc_congr 16 (fun c _ => if_neg e), sf_gc_0]
def sx_OK (F : Nat → Nat → Int64) (M : Nat → Int64) : Prop := sx_Z M ∧ (∀ r, r < 16 → sx_R F M r 32) ∧ ∀ i, i < 4 → ∀ j, j < 5 → sf_ab (F i j) ≤ 200
theorem sx_val {F : Nat → Nat → Int64} {M : Nat → Int64} (h : sx_OK F M) {r c : Nat} (hr : r < 16) (hc : c < 32) : sf_ab (M (32 * r + c)) = if sf_sz r = sf_sz c then sf_ab (sf_pm F (sf_sz r) r c) else 0 := by
  by_cases e : sf_sz r = sf_sz c
  · rw [if_pos e, h.2.1 r hr c hc e]
  · rw [if_neg e, h.1 r hr c hc e, sf_ab0]
theorem sx_bd {F : Nat → Nat → Int64} {M : Nat → Int64} (h : sx_OK F M) : ∀ i, i < 512 → sf_ab (M i) < 2 ^ 50 := by
  intro i hi
  have e : i = 32 * (i / 32) + i % 32 := by omega
  rw [e, sx_val h (by omega) (by omega)]
  by_cases e : sf_sz (i / 32) = sf_sz (i % 32)
  · rw [if_pos e]
    have h4 := sf_sz4 (i / 32) (by omega)
    exact Nat.lt_of_le_of_lt (sf_pm_bound h.2.2 _ (by omega) _ _) (sf_pw (by omega))
  · rw [if_neg e]; decide
theorem sx_fD {post : Int64 → Prop} {F : Nat → Nat → Int64} {k : Nat} (hk : k < 100) (hO : sx_OK F mi) (h : post (lN (sf_D F k))) : wpX_foundDivisor post (rc, cc, ce, tg, go, mi) (nI k) 0 := by
  refine sx_fd (w := 0) hk (by omega) (sx_bd hO) ?_
  have e : sf_go (fun r c => if sf_sz r = k then sf_ab (mi (32 * r + 0 + c)) else 0) 16 16 = sf_D F k := by
    refine sf_go_congr 16 (fun a ha b hb => ?_)
    show (if sf_sz a = k then sf_ab (mi (32 * a + b)) else 0) = if sf_sz a = k ∧ sf_sz b = k then sf_ab (sf_pm F k a b) else 0
    rw [sx_val hO ha (by omega)]
    by_cases ea : sf_sz a = k
    · rw [if_pos ea]
      by_cases eb : sf_sz b = k
      · rw [if_pos (ea.trans eb.symm), if_pos ⟨ea, eb⟩, ea]
      · rw [if_neg (fun z => eb (z.symm.trans ea)), if_neg (fun z => eb z.2)]
    · rw [if_neg ea, if_neg (fun z => ea z.1)]
  rw [e]; exact h
theorem sx_fE {post : Int64 → Prop} {F : Nat → Nat → Int64} {k : Nat} (hk : k < 100) (hO : sx_OK F mi) (h : post (lN (sf_E F k))) : wpX_foundDivisor post (rc, cc, ce, tg, go, mi) (nI k) 16 := by
  refine sx_fd (w := 16) hk (by omega) (sx_bd hO) ?_
  have e : sf_go (fun r c => if sf_sz r = k then sf_ab (mi (32 * r + 16 + c)) else 0) 16 16 = sf_E F k := by
    refine sf_go_congr 16 (fun a ha b hb => ?_)
    show (if sf_sz a = k then sf_ab (mi (32 * a + 16 + b)) else 0) = if sf_sz a = k ∧ sf_sz (16 + b) = k then sf_ab (sf_pm F k a (16 + b)) else 0
    rw [show 32 * a + 16 + b = 32 * a + (16 + b) from by omega, sx_val hO ha (by omega)]
    by_cases ea : sf_sz a = k
    · rw [if_pos ea]
      by_cases eb : sf_sz (16 + b) = k
      · rw [if_pos (ea.trans eb.symm), if_pos ⟨ea, eb⟩, ea]
      · rw [if_neg (fun z => eb (z.symm.trans ea)), if_neg (fun z => eb z.2)]
    · rw [if_neg ea, if_neg (fun z => ea z.1)]
  rw [e]; exact h
theorem sx_lN0 {a : Nat} (h : a < 2 ^ 50) : lN a = 0 ↔ a = 0 := pk_lEQ (by omega) (by decide : 0 < 2 ^ 63)
theorem sx_rank {post : Int32 → Prop} {F : Nat → Nat → Int64} (hO : sx_OK F mi) (h : post (nI (sf_rD (sf_D F) 4))) : wpX_foundRank post (rc, cc, ce, tg, go, mi) := by
  unfold wpX_foundRank
  dsimp only
  refine pk_loop (σ := Int32) (fun n i x => wX_foundRank_4 post rc cc ce tg go mi n x (nI i)) (fun i x => x = nI (sf_rD (sf_D F) (i - 1)) ∧ 0 < i) 5 1 0 (by omega) ⟨rfl, by decide⟩ ?_ ?_
  · intro n x hx
    rw [hx.1]
    exact br_t (by decide) h
  · intro n i x hi hx hk
    obtain ⟨j, rfl⟩ : ∃ j, i = j + 1 := ⟨i - 1, by omega⟩
    rw [hx.1]
    refine br_f (nI_nlt (a := 4) (b := j + 1) (by omega) (by decide)) (sx_fD (by omega) hO ?_)
    have hd := sf_Dlt hO.2.2 (k := j + 1) (by omega)
    by_cases e : sf_D F (j + 1) = 0
    · refine br_t ((sx_lN0 hd).mpr e) (nm_r (nI_1 _) (hk _ ⟨?_, by omega⟩))
      show nI (sf_rD (sf_D F) j) = nI (sf_rD (sf_D F) (j + 1))
      rw [sf_rD_t e]
    · refine br_f (fun z => e ((sx_lN0 hd).mp z)) (nm_r (nI_1 _) (hk _ ⟨?_, by omega⟩))
      show nI (j + 1) = nI (sf_rD (sf_D F) (j + 1))
      rw [sf_rD_f e]
theorem sx_lmg {post : Int64 → SX → Prop} {t : Nat} (ht : t < 2) (hZ : sx_Z mi) (hb : ∀ i, i < 4 → ∀ j, j < 5 → sf_ab (sx_F ce go t i j) ≤ 200) (h : ∀ M, sx_Z M → post (lN (sf_Ls (sf_D (sx_F ce go t)) (sf_E (sx_F ce go t)))) (rc, cc, ce, tg, go, M)) : wpX_leastMultipleOfGoal post (rc, cc, ce, tg, go, mi) (nI t) := by
  unfold wpX_leastMultipleOfGoal
  dsimp only
  refine sx_find ht hZ (fun M hM hR => ?_)
  have hO : sx_OK (sx_F ce go t) M := ⟨hM, hR, hb⟩
  have h1 := h M hM
  generalize sx_F ce go t = F at *
  refine sx_rank hO ?_
  have hr := sf_rD_le (sf_D F) 4
  unfold sf_Ls at h1
  generalize sf_rD (sf_D F) 4 = r at *
  rw [nI_1]
  refine sx_fE (by omega) hO ?_
  have he := sf_Elt hb (k := r + 1) (by omega)
  by_cases e : sf_E F (r + 1) = 0
  · rw [if_pos e] at h1
    refine br_t ((sx_lN0 he).mpr e) (sx_fD (by omega) hO (sx_fE (by omega) hO ?_))
    have hd := sf_Dlt hb (k := r) (by omega)
    have he2 := sf_Elt hb (k := r) (by omega)
    refine sx_common (by rw [sf_abN (by omega)]; exact hd) (by rw [sf_abN (by omega)]; exact he2) ?_
    rw [sf_abN (by omega), sf_abN (by omega)]
    have hg := sf_gcd_lt hd he2
    by_cases z : Nat.gcd (sf_D F r) (sf_E F r) = 0
    · rw [z, Nat.div_zero] at h1
      exact br_t ((sx_lN0 hg).mpr z) h1
    · have nz : ¬ lN (Nat.gcd (sf_D F r) (sf_E F r)) = 0 := fun y => z ((sx_lN0 hg).mp y)
      refine br_f nz ⟨nz, ?_⟩
      rw [pk_lDiv (by omega) (by omega) (by omega)]
      exact h1
  · rw [if_neg e] at h1
    exact br_f (fun y => e ((sx_lN0 he).mp y)) h1
end
end
section
/-! the reference's private methods -/
section
variable {m n w : Int32} {ce tg : Nat → Int32} {wk : Nat → Int64} {ra ca pe : Nat → Int32}
theorem sy_eu0 {post : Int64 → Prop} {g : Nat} (hp : post (lN g)) : ∀ d i : Nat, i + d = 120 → ∀ k, d < k → wY_common_31 post m n w ce tg wk ra ca pe k (lN g) 0 (nI i) := by
  intro d
  induction d with
  | zero =>
    intro i hi k hk
    obtain ⟨k, rfl⟩ : ∃ k', k = k' + 1 := ⟨k - 1, by omega⟩
    rw [show i = 120 from by omega]
    exact br_t (by decide) hp
  | succ d ih =>
    intro i hi k hk
    obtain ⟨k, rfl⟩ : ∃ k', k = k' + 1 := ⟨k - 1, by omega⟩
    exact br_f (nI_ge (b := 120) (by omega) (by decide)) (br_t (by decide) (nm_r (nI_1 i) (ih (i + 1) (by omega) k (by omega))))
theorem sy_eu {post : Int64 → Prop} : ∀ d i g s : Nat, i + d ≤ 120 → g < 2 ^ 63 → s < 2 ^ 63 → sf_ok d g s → post (lN (Nat.gcd g s)) → ∀ k, 120 < k + i → wY_common_31 post m n w ce tg wk ra ca pe k (lN g) (lN s) (nI i) := by
  intro d
  induction d with
  | zero =>
    intro i g s hi hg hs ho hp k hk
    have z : s = 0 := ho
    subst z
    rw [Nat.gcd_zero_right] at hp
    exact sy_eu0 hp (120 - i) i (by omega) k (by omega)
  | succ d ih =>
    intro i g s hi hg hs ho hp k hk
    rcases Nat.eq_zero_or_pos s with z | z
    · subst z
      rw [Nat.gcd_zero_right] at hp
      exact sy_eu0 hp (120 - i) i (by omega) k (by omega)
    · obtain ⟨k, rfl⟩ : ∃ k', k = k' + 1 := ⟨k - 1, by omega⟩
      have hz : ¬ lN s = 0 := fun y => by
        have := (pk_lEQ hs (by decide : 0 < 2 ^ 63)).mp y
        omega
      have hz' : ¬ lN s ≤ 0 := fun y => by
        have := (pk_lLE hs (by decide : 0 < 2 ^ 63)).mp y
        omega
      refine br_f (nI_ge (b := 120) (by omega) (by decide)) (br_f hz' ⟨hz, nm_r (pk_lRem hg z hs) (nm_r (nI_1 i) ?_)⟩)
      have ho' : sf_ok d s (g % s) := by
        rcases ho with y | y
        · omega
        · exact y
      rw [sf_gcd_step] at hp
      exact ih (i + 1) s (g % s) (by omega) hs (Nat.lt_trans (Nat.mod_lt g z) hs) ho' hp k (by omega)
theorem sy_eu12 {post : Int64 → Prop} {g : Nat} {b : Int64} (hg : g < 2 ^ 63) (hb : sf_ab b < 2 ^ 50) (h : post (lN (Nat.gcd g (sf_ab b)))) : wY_common_12 post b (lN g) m n w ce tg wk ra ca pe := by
  have key : wY_common_31 post m n w ce tg wk ra ca pe 121 (lN g) (lN (sf_ab b)) 0 := sy_eu 100 0 g (sf_ab b) (by omega) hg (by omega) (sf_ok_of 50 g _ hb) h 121 (by omega)
  refine br_c (fun h0 => ⟨121, ?_⟩) (fun h0 => nm_r (sf_neg (Int64.not_le.mp h0) (by omega)) ⟨121, key⟩)
  have e := (sf_pos (Int64.not_lt.mpr h0)).1
  rw [← e] at key
  exact key
theorem sy_common {post : Int64 → Prop} {a b : Int64} (ha : sf_ab a < 2 ^ 50) (hb : sf_ab b < 2 ^ 50) (h : post (lN (Nat.gcd (sf_ab a) (sf_ab b)))) : wpY_common post (m, n, w, ce, tg, wk, ra, ca, pe) a b := by
  have key : wY_common_12 post b (lN (sf_ab a)) m n w ce tg wk ra ca pe := sy_eu12 (by omega) hb h
  refine br_c (fun h0 => ?_) (fun h0 => ?_)
  · have e := (sf_pos (Int64.not_lt.mpr h0)).1
    rw [← e] at key
    exact key
  · rw [sf_neg (Int64.not_le.mp h0) (by omega)]
    exact key
theorem sy_sz : ∀ s, s < 32 → ((((nI s &&& 1) + ((nI s >>> ((1 : Int32) &&& 31)) &&& 1)) + ((nI s >>> ((2 : Int32) &&& 31)) &&& 1)) + ((nI s >>> ((3 : Int32) &&& 31)) &&& 1)) + ((nI s >>> ((4 : Int32) &&& 31)) &&& 1) = nI (sf_sz s) := by decide +kernel
theorem sy_size {post : Int32 → Prop} {s : Nat} (hs : s < 32) (h : post (nI (sf_sz s))) : wpY_size post (m, n, w, ce, tg, wk, ra, ca, pe) (nI s) := by
  unfold wpY_size
  dsimp only
  rw [sy_sz s hs]
  exact h
theorem sy_rows {post : SY → Prop} {a : Nat} (ha : a < 16) (h : ∀ ra', (∀ q, q < sf_sz a → ra' q = nI (sf_rk a q)) → post (m, n, w, ce, tg, wk, ra', ca, pe)) : wpY_pickRows post (m, n, w, ce, tg, wk, ra, ca, pe) (nI a) := by
  unfold wpY_pickRows
  dsimp only
  refine pk_loop (σ := Int32 × (Nat → Int32)) (fun k i s => wY_pickRows_4 post (nI a) m n w k s.1 (nI i) ce tg wk s.2 ca pe) (fun i s => s.1 = nI (sf_cn a i) ∧ ∀ q, q < sf_cn a i → s.2 q = nI (sf_rk a q)) 4 0 (0, ra) (by omega) ⟨rfl, fun q hq => absurd hq (Nat.not_lt_zero q)⟩ ?_ ?_
  · intro k s hs
    refine br_t (by decide) (h s.2 ?_)
    rw [← (sf_cn_sz a (by omega)).2 ha]
    exact hs.2
  · intro k i s hi hs hk
    obtain ⟨h1, h2⟩ := hs
    have e : (nI a >>> (nI i &&& 31)) &&& 1 = nI (a / 2 ^ i % 2) := sf_bitn (by omega) (by omega)
    have hc := sf_cn_le a (by omega) i (by omega)
    refine br_f (nI_ge (b := 4) hi (by decide)) ?_
    by_cases hb : a / 2 ^ i % 2 = 1
    · have ec : sf_cn a (i + 1) = sf_cn a i + 1 := if_pos hb
      refine br_t (by rw [e, hb]; rfl) ?_
      rw [h1]
      refine ⟨vp_in_nI (by omega) (by omega), nm_e (nm_r (nI_1 _) (nm_r (nI_1 i) (hk (nI (sf_cn a i + 1), upd s.2 (nI (sf_cn a i)).toNatClampNeg (nI i)) ⟨by show nI _ = nI _; rw [ec], ?_⟩)))⟩
      intro q hq
      show upd s.2 (nI (sf_cn a i)).toNatClampNeg (nI i) q = _
      rw [nI_clamp (by omega)]
      rw [ec] at hq
      rcases Nat.lt_or_ge q (sf_cn a i) with z | z
      · rw [pk_un (by omega)]; exact h2 q z
      · rw [show q = sf_cn a i from by omega, pk_us, sf_cn_rk a (by omega) i (by omega) hb]
    · have h0 : a / 2 ^ i % 2 = 0 := by have := Nat.mod_lt (a / 2 ^ i) (show 0 < 2 by decide); omega
      have ec : sf_cn a (i + 1) = sf_cn a i := if_neg hb
      refine br_f (by rw [e, h0]; decide) (nm_r (nI_1 i) (hk s ?_))
      rw [ec]; exact ⟨h1, h2⟩
theorem sy_cols {post : SY → Prop} {a : Nat} (ha : a < 32) (h4 : sf_sz a ≤ 4) (h : ∀ ca', (∀ q, q < sf_sz a → ca' q = nI (sf_rk a q)) → post (m, n, w, ce, tg, wk, ra, ca', pe)) : wpY_pickColumns post (m, n, w, ce, tg, wk, ra, ca, pe) (nI a) := by
  unfold wpY_pickColumns
  dsimp only
  refine pk_loop (σ := Int32 × (Nat → Int32)) (fun k i s => wY_pickColumns_4 post (nI a) m n w k s.1 (nI i) ce tg wk ra s.2 pe) (fun i s => s.1 = nI (sf_cn a i) ∧ ∀ q, q < sf_cn a i → s.2 q = nI (sf_rk a q)) 5 0 (0, ca) (by omega) ⟨rfl, fun q hq => absurd hq (Nat.not_lt_zero q)⟩ ?_ ?_
  · intro k s hs
    refine br_t (by decide) (h s.2 ?_)
    rw [← (sf_cn_sz a ha).1]
    exact hs.2
  · intro k i s hi hs hk
    obtain ⟨h1, h2⟩ := hs
    have e : (nI a >>> (nI i &&& 31)) &&& 1 = nI (a / 2 ^ i % 2) := sf_bitn (by omega) (by omega)
    have hc := sf_cn_le a (by omega) i (by omega)
    refine br_f (nI_ge (b := 5) hi (by decide)) ?_
    by_cases hb : a / 2 ^ i % 2 = 1
    · have ec : sf_cn a (i + 1) = sf_cn a i + 1 := if_pos hb
      have hl := sf_cn_lt a ha i hi hb
      refine br_t (by rw [e, hb]; rfl) ?_
      rw [h1]
      refine br_f (nI_ge (b := 4) (by omega) (by decide)) ⟨vp_in_nI (by omega) (by omega), nm_e (nm_r (nI_1 _) (nm_r (nI_1 i) (hk (nI (sf_cn a i + 1), upd s.2 (nI (sf_cn a i)).toNatClampNeg (nI i)) ⟨by show nI _ = nI _; rw [ec], ?_⟩)))⟩
      intro q hq
      show upd s.2 (nI (sf_cn a i)).toNatClampNeg (nI i) q = _
      rw [nI_clamp (by omega)]
      rw [ec] at hq
      rcases Nat.lt_or_ge q (sf_cn a i) with z | z
      · rw [pk_un (by omega)]; exact h2 q z
      · rw [show q = sf_cn a i from by omega, pk_us, sf_cn_rk a (by omega) i (by omega) hb]
    · have h0 : a / 2 ^ i % 2 = 0 := by have := Nat.mod_lt (a / 2 ^ i) (show 0 < 2 by decide); omega
      have ec : sf_cn a (i + 1) = sf_cn a i := if_neg hb
      refine br_f (by rw [e, h0]; decide) (nm_r (nI_1 i) (hk s ?_))
      rw [ec]; exact ⟨h1, h2⟩
/-! one product of the sum -/
def sy_b (o : Bool) : Int32 := if o = true then 1 else 0
theorem sy_143 {post : Int64 → SY → Prop} {G : Nat → Nat → Int64} {R C : Nat → Nat} {code k : Nat} {p : Int64} (hk : k ≤ 4) (hR : ∀ i, i < k → ra i = nI (R i) ∧ R i < 4) (hC : ∀ j, j < k → ca j = nI (C j) ∧ C j < 5) (hG : ∀ i, i < k → ∀ j, j < k → wk (5 * R i + C j) = G i j) (hP : ∀ i, i < k → pe i = nI (sf_pv code i) ∧ sf_pv code i < k) (h : post (sf_pp G code p k) (m, n, w, ce, tg, wk, ra, ca, pe)) : ∃ f, wY_product_143 post (nI k) m n w ce tg wk ra ca pe f p 0 := by
  refine pk_loop (σ := Int64) (fun f i x => wY_product_143 post (nI k) m n w ce tg wk ra ca pe f x (nI i)) (fun i x => x = sf_pp G code p i) k 0 p (by omega) rfl ?_ ?_
  · intro f x hx
    subst hx
    exact br_t (nI_le (Nat.le_refl k) (by omega)) h
  · intro f i x hi hx hk'
    subst hx
    obtain ⟨p1, p2⟩ := hP i hi
    obtain ⟨r1, r2⟩ := hR i hi
    obtain ⟨c1, c2⟩ := hC _ p2
    have e1 : (nI i).toNatClampNeg = i := nI_clamp (by omega)
    have e2 : (nI (sf_pv code i)).toNatClampNeg = sf_pv code i := nI_clamp (by omega)
    have e3 : 5 * nI (R i) + nI (C (sf_pv code i)) = nI (5 * R i + C (sf_pv code i)) := by
      show nI 5 * _ + _ = _
      rw [pk_mul, nI_add]
    have e4 : (nI (5 * R i + C (sf_pv code i))).toNatClampNeg = 5 * R i + C (sf_pv code i) := nI_clamp (by omega)
    refine br_f (nI_ge hi (by omega)) (br_f (nI_ge (b := 4) (by omega) (by decide)) ?_)
    rw [e1, p1, e2, r1, c1, e3, e4, hG i hi _ p2]
    refine ⟨vp_in_nI (by omega) (by omega), vp_in_nI (by omega) (by omega), vp_in_nI (by omega) (by omega), vp_in_nI (by omega) (by omega), nm_e (nm_r (nI_1 i) (hk' _ rfl))⟩
theorem sy_78 {post : Int64 → SY → Prop} {J : Int32 → Int32 → Int32 → (Nat → Int32) → (Nat → Int32) → (Nat → Int64) → (Nat → Int32) → (Nat → Int32) → (Nat → Int32) → Prop} {x1 x2 x3 : Int32} {code i : Nat} {o : Bool} (hi : i < 4) (hP : ∀ j, j ≤ i → pe j = nI (sf_pv code j)) (h : J x3 (sy_b (sf_iv code i o i)) (nI (i + 1)) ce tg wk ra ca pe) : ∃ f, wY_product_78 post J x1 x2 x3 (nI i) m n w ce tg wk ra ca pe f (sy_b o) 0 := by
  refine pk_loop (σ := Int32) (fun f j x => wY_product_78 post J x1 x2 x3 (nI i) m n w ce tg wk ra ca pe f x (nI j)) (fun j x => x = sy_b (sf_iv code i o j)) i 0 _ (by omega) rfl ?_ ?_
  · intro f x hx
    subst hx
    exact br_t (nI_le (Nat.le_refl i) (by omega)) (nm_r (nI_1 i) h)
  · intro f j x hj hx hk
    subst hx
    have q1 := sf_pv4 code i
    have q2 := sf_pv4 code j
    refine br_f (nI_ge hj (by omega)) ?_
    rw [nI_clamp (by omega), nI_clamp (by omega), hP j (by omega), hP i (Nat.le_refl i)]
    refine ⟨vp_in_nI (by omega) (by omega), vp_in_nI (by omega) (by omega), ?_⟩
    by_cases z : sf_pv code i < sf_pv code j
    · have e : sf_iv code i o (j + 1) = !(sf_iv code i o j) := if_pos z
      refine br_f (nI_ge z (by omega)) ?_
      cases y : sf_iv code i o j with
      | true =>
        refine br_f (by decide) (nm_r (nI_1 j) (hk _ ?_))
        rw [e, y]; rfl
      | false =>
        refine br_t (by decide) (nm_r (nI_1 j) (hk _ ?_))
        rw [e, y]; rfl
    · have e : sf_iv code i o (j + 1) = sf_iv code i o j := if_neg z
      exact br_t (nI_le (by omega) (by omega)) (nm_r (nI_1 j) (hk _ (by rw [e])))
theorem sy_prod {post : Int64 → SY → Prop} {G : Nat → Nat → Int64} {R C : Nat → Nat} {code k : Nat} (hcode : code < 256) (hk : k ≤ 4) (hR : ∀ i, i < k → ra i = nI (R i) ∧ R i < 4) (hC : ∀ j, j < k → ca j = nI (C j) ∧ C j < 5) (hG : ∀ i, i < k → ∀ j, j < k → wk (5 * R i + C j) = G i j) (h : ∀ pe', post (sf_pr G k code) (m, n, w, ce, tg, wk, ra, ca, pe')) : wpY_product post (m, n, w, ce, tg, wk, ra, ca, pe) (nI code) (nI k) := by
  unfold wpY_product
  dsimp only
  have hstop : ∀ i, i < k → sf_gd k code i = false → sf_pr G k code = 0 := by
    intro i hi hg
    refine sf_prf G k code ?_
    have : ∀ j, i < j → sf_vd k code j = false := by
      intro j
      induction j with
      | zero => intro z; omega
      | succ j ih =>
        intro z
        show (sf_vd k code j && sf_gd k code j) = false
        rcases Nat.lt_or_ge i j with y | y
        · rw [ih y]; rfl
        · rw [show j = i from by omega, hg, Bool.and_false]
    exact this k hi
  refine pk_loop (σ := Int32 × Int32 × (Nat → Int32)) (fun f i s => wY_product_8 post (nI code) (nI k) m n w f s.1 s.2.1 (nI i) ce tg wk ra ca s.2.2) (fun i s => s.1 = nI (sf_us code i) ∧ s.2.1 = sy_b (sf_od code i) ∧ (∀ j, j < i → s.2.2 j = nI (sf_pv code j) ∧ sf_pv code j < k) ∧ sf_vd k code i = true) k 0 (0, 0, pe) (by omega) ⟨rfl, rfl, fun j hj => absurd hj (Nat.not_lt_zero j), rfl⟩ ?_ ?_
  · intro f s hs
    obtain ⟨_, h2, h3, h4⟩ := hs
    have h5 := h s.2.2
    unfold sf_pr at h5
    rw [if_pos h4] at h5
    refine br_t (nI_le (Nat.le_refl k) (by omega)) ?_
    rw [h2]
    unfold wY_product_126
    cases y : sf_od code k with
    | true =>
      rw [y, if_pos rfl] at h5
      exact br_f (by decide) (sy_143 hk hR hC hG h3 h5)
    | false =>
      rw [y, if_neg (by decide)] at h5
      exact br_t (by decide) (sy_143 hk hR hC hG h3 h5)
  · intro f i s hi hs hk'
    obtain ⟨h1, h2, h3, h4⟩ := hs
    have q := sf_pv4 code i
    have u16 := sf_us16 code hcode i (by omega)
    have e0 : (nI i).toNatClampNeg = i := nI_clamp (by omega)
    have e1 : (nI code >>> ((2 * nI i) &&& 31)) &&& 3 = nI (sf_pv code i) := by
      rw [show 2 * nI i = nI (2 * i) from pk_mul 2 i]
      exact sf_code code hcode i (by omega)
    refine br_f (nI_ge hi (by omega)) (br_f (nI_ge (b := 4) (by omega) (by decide)) ⟨vp_in_nI (by omega) (by omega), ?_⟩)
    rw [e0, e1, h1, h2]
    refine nm_e ⟨vp_in_nI (by omega) (by omega), ?_⟩
    rw [pk_us]
    by_cases z : sf_pv code i < k
    · refine br_f (nI_ge z (by omega)) ⟨vp_in_nI (by omega) (by omega), ?_⟩
      rw [sf_bitn (by omega) (by omega)]
      by_cases y : sf_us code i / 2 ^ sf_pv code i % 2 = 0
      · rw [y]
        refine br_f (by decide) ⟨vp_in_nI (by omega) (by omega), nm_r (by rw [sf_1shl _ (by omega), sf_or _ u16 _ q]) ?_⟩
        refine sy_78 (by omega) (fun j hj => ?_) (hk' (_, _, _) ⟨rfl, rfl, fun j hj => ?_, ?_⟩)
        · rcases Nat.lt_or_ge j i with x | x
          · rw [pk_un (by omega)]; exact (h3 j x).1
          · rw [show j = i from by omega, pk_us]
        · rcases Nat.lt_or_ge j i with x | x
          · refine ⟨?_, (h3 j x).2⟩
            show upd s.2.2 i _ j = _
            rw [pk_un (by omega)]; exact (h3 j x).1
          · rw [show j = i from by omega]
            exact ⟨pk_us, z⟩
        · show (sf_vd k code i && sf_gd k code i) = true
          rw [h4]
          unfold sf_gd
          rw [decide_eq_true z, decide_eq_true y]
          rfl
      · have y1 : sf_us code i / 2 ^ sf_pv code i % 2 = 1 := by have := Nat.mod_lt (sf_us code i / 2 ^ sf_pv code i) (show 0 < 2 by decide); omega
        rw [y1]
        refine br_t rfl ?_
        have h5 := h (upd s.2.2 i (nI (sf_pv code i)))
        rw [hstop i hi (by unfold sf_gd; rw [decide_eq_false y, Bool.and_false])] at h5
        exact h5
    · refine br_t (nI_le (by omega) (by omega)) ?_
      have h5 := h (upd s.2.2 i (nI (sf_pv code i)))
      rw [hstop i hi (by unfold sf_gd; rw [decide_eq_false z, Bool.false_and])] at h5
      exact h5
theorem sy_minor {post : Int64 → SY → Prop} {G : Nat → Nat → Int64} {R C : Nat → Nat} {k : Nat} (hk : k ≤ 4) (hR : ∀ i, i < k → ra i = nI (R i) ∧ R i < 4) (hC : ∀ j, j < k → ca j = nI (C j) ∧ C j < 5) (hG : ∀ i, i < k → ∀ j, j < k → wk (5 * R i + C j) = G i j) (h : ∀ pe', post (sf_mn G k) (m, n, w, ce, tg, wk, ra, ca, pe')) : wpY_minor post (m, n, w, ce, tg, wk, ra, ca, pe) (nI k) := by
  unfold wpY_minor
  dsimp only
  have hp : 4 ^ k ≤ 256 := Nat.pow_le_pow_right (by decide : 0 < 4) hk
  refine pk_loop (σ := Int32) (fun f i x => wY_minor_4 post (nI k) m n w ce tg wk ra ca pe f x (nI i)) (fun i x => x = nI (4 ^ i)) k 0 1 (by omega) rfl ?_ ?_
  · intro f x hx
    subst hx
    refine br_t (nI_le (Nat.le_refl k) (by omega)) ?_
    refine pk_loop (σ := Int64 × (Nat → Int32)) (fun f c s => wY_minor_24 post (nI k) (nI (4 ^ k)) f s.1 (nI c) m n w ce tg wk ra ca s.2) (fun c s => s.1 = sf_sm (sf_pr G k) c) (4 ^ k) 0 (0, pe) (Nat.zero_le _) rfl ?_ ?_
    · intro f s hs
      refine br_t (nI_le (Nat.le_refl _) (by omega)) ?_
      rw [hs]
      exact h s.2
    · intro f c s hc hs hk'
      refine br_f (nI_ge hc (by omega)) (sy_prod (by omega) hk hR hC hG (fun pe' => ?_))
      refine nm_e (nm_r (nI_1 c) (hk' (_, pe') ?_))
      show s.1 + sf_pr G k c = sf_sm (sf_pr G k) c + sf_pr G k c
      rw [hs]
  · intro f i x hi hx hk'
    subst hx
    refine br_f (nI_ge hi (by omega)) (nm_r (e' := nI (4 ^ (i + 1))) ?_ (nm_r (nI_1 i) (hk' _ rfl)))
    show nI (4 ^ i) * nI 4 = _
    rw [pk_mul, Nat.pow_succ]
end
end
section
/-! the reference's divisors and ranks -/
def sy_B (wk : Nat → Int64) (mm ww : Nat) : Prop := ∀ k, 0 < k → k ≤ 4 → ∀ a, a < 2 ^ mm → ∀ b, b < 2 ^ ww → sf_sz a = k → sf_sz b = k → sf_ab (sf_mn (fun i j => wk (5 * sf_rk a i + sf_rk b j)) k) < 2 ^ 50
def sy_f (wk : Nat → Int64) (k a b : Nat) : Nat := if sf_sz a = k ∧ sf_sz b = k then sf_ab (sf_mn (fun i j => wk (5 * sf_rk a i + sf_rk b j)) k) else 0
def sy_V (wk : Nat → Int64) (mm ww k : Nat) : Nat := if k = 0 then 1 else sf_Y wk mm ww k
theorem sy_p5 : ∀ w, w < 6 → 2 ^ w ≤ 32 := by decide +kernel
theorem sy_fl {wk : Nat → Int64} {mm ww k : Nat} (h0 : 0 < k) (hk : k ≤ 4) (hB : sy_B wk mm ww) : ∀ a, a < 2 ^ mm → ∀ b, b < 2 ^ ww → sy_f wk k a b < 2 ^ 50 := by
  intro a ha b hb
  unfold sy_f
  by_cases e : sf_sz a = k ∧ sf_sz b = k
  · rw [if_pos e]; exact hB k h0 hk a ha b hb e.1 e.2
  · rw [if_neg e]; decide
theorem sy_Yl {wk : Nat → Int64} {mm ww k : Nat} (h0 : 0 < k) (hk : k ≤ 4) (hB : sy_B wk mm ww) : sf_Y wk mm ww k < 2 ^ 50 :=
  sf_go_lt (by decide) (2 ^ mm) (sy_fl h0 hk hB)
theorem sy_Vl {wk : Nat → Int64} {mm ww k : Nat} (hk : k ≤ 4) (hB : sy_B wk mm ww) : sy_V wk mm ww k < 2 ^ 50 := by
  unfold sy_V
  by_cases e : k = 0
  · rw [if_pos e]; decide
  · rw [if_neg e]; exact sy_Yl (by omega) hk hB
section
variable {n w : Int32} {ce tg : Nat → Int32} {wk : Nat → Int64} {ra ca pe : Nat → Int32}
theorem sy_divp {post : Int64 → SY → Prop} {mm ww k : Nat} (hm : mm ≤ 4) (hw : ww ≤ 5) (h0 : 0 < k) (hk : k ≤ 4) (hB : sy_B wk mm ww) (h : ∀ ra' ca' pe', post (lN (sf_Y wk mm ww k)) (nI mm, n, nI ww, ce, tg, wk, ra', ca', pe')) : wpY_divided post (nI mm, n, nI ww, ce, tg, wk, ra, ca, pe) (nI k) := by
  unfold wpY_divided
  dsimp only
  have hm16 := (sf_S7 mm (by omega)).1
  have hw32 := sy_p5 ww (by omega)
  have hf := sy_fl h0 hk hB
  refine br_f (nI_ne0 h0 (by omega)) ?_
  refine pk_loop (σ := Int64 × (Nat → Int32) × (Nat → Int32) × (Nat → Int32)) (fun f a s => wY_divided_11 post (nI k) f s.1 (nI a) (nI mm) n (nI ww) ce tg wk s.2.1 s.2.2.1 s.2.2.2) (fun a s => s.1 = lN (sf_go (sy_f wk k) (2 ^ ww) a)) (2 ^ mm) 0 (0, ra, ca, pe) (Nat.zero_le _) rfl ?_ ?_
  · intro f s hs
    refine br_t (by rw [sf_1shl mm (by omega)]; exact nI_le (Nat.le_refl _) (by omega)) ?_
    rw [hs]
    exact h _ _ _
  · intro f a s ha hs hk'
    have hgo : sf_go (sy_f wk k) (2 ^ ww) a < 2 ^ 50 := sf_go_lt (by decide) a (fun i hi => hf i (by omega))
    refine br_f (by rw [sf_1shl mm (by omega)]; exact nI_ge ha (by omega)) ?_
    refine pk_loop (σ := Int64 × (Nat → Int32) × (Nat → Int32) × (Nat → Int32)) (fun f' b s => wY_divided_25 post (wY_divided_11 post (nI k) f) (nI k) (nI a) f' s.1 (nI b) (nI mm) n (nI ww) ce tg wk s.2.1 s.2.2.1 s.2.2.2) (fun b s => s.1 = lN (sf_gc (sy_f wk k a) (sf_go (sy_f wk k) (2 ^ ww) a) b)) (2 ^ ww) 0 s (Nat.zero_le _) hs ?_ ?_
    · intro f' s' hs'
      exact br_t (by rw [sf_1shl ww (by omega)]; exact nI_le (Nat.le_refl _) (by omega)) (nm_r (nI_1 a) (hk' s' hs'))
    · intro f' b s' hb hs' hkb
      have hgc := sf_gc_lt hgo b (fun c hc => hf a ha c (by omega))
      refine br_f (by rw [sf_1shl ww (by omega)]; exact nI_ge hb (by omega)) (sy_size (by omega) ?_)
      have a4 := sf_sz4 a (by omega)
      have b5 : sf_sz b ≤ 5 := (by decide +kernel : ∀ c, c < 32 → sf_sz c ≤ 5) b (by omega)
      by_cases ea : sf_sz a = k
      · refine br_t (by rw [ea]) (sy_size (by omega) ?_)
        by_cases eb : sf_sz b = k
        · refine br_t (by rw [eb]) (sy_rows (by omega) (fun ra' hra => sy_cols (by omega) (by omega) (fun ca' hca => ?_)))
          refine sy_minor (G := fun i j => wk (5 * sf_rk a i + sf_rk b j)) (R := sf_rk a) (C := sf_rk b) hk (fun i hi => ⟨hra i (by omega), sf_S2 a (by omega) (by omega) i (by omega)⟩) (fun j hj => ⟨hca j (by omega), sf_rk5 b (by omega) j (by omega)⟩) (fun i _ j _ => rfl) (fun pe' => ?_)
          have hv := hB k h0 hk a ha b hb ea eb
          refine sy_common (by rw [hs', sf_abN (by omega)]; exact hgc) hv (nm_r (nI_1 b) (hkb (_, ra', ca', pe') ?_))
          show lN _ = lN (Nat.gcd (sf_gc (sy_f wk k a) (sf_go (sy_f wk k) (2 ^ ww) a) b) (sy_f wk k a b))
          rw [hs', sf_abN (by omega)]
          unfold sy_f
          rw [if_pos ⟨ea, eb⟩]
        · refine br_f (fun z => eb ((nI_eq (by omega) (by omega)).mp z)) (nm_r (nI_1 b) (hkb s' ?_))
          show _ = lN (Nat.gcd (sf_gc (sy_f wk k a) (sf_go (sy_f wk k) (2 ^ ww) a) b) (sy_f wk k a b))
          rw [show sy_f wk k a b = 0 from if_neg (fun z => eb z.2), Nat.gcd_zero_right]
          exact hs'
      · refine br_f (fun z => ea ((nI_eq (by omega) (by omega)).mp z)) (nm_r (nI_1 b) (hkb s' ?_))
        show _ = lN (Nat.gcd (sf_gc (sy_f wk k a) (sf_go (sy_f wk k) (2 ^ ww) a) b) (sy_f wk k a b))
        rw [show sy_f wk k a b = 0 from if_neg (fun z => ea z.1), Nat.gcd_zero_right]
        exact hs'
theorem sy_div {post : Int64 → SY → Prop} {mm ww k : Nat} (hm : mm ≤ 4) (hw : ww ≤ 5) (hk : k ≤ 4) (hB : sy_B wk mm ww) (h : ∀ ra' ca' pe', post (lN (sy_V wk mm ww k)) (nI mm, n, nI ww, ce, tg, wk, ra', ca', pe')) : wpY_divided post (nI mm, n, nI ww, ce, tg, wk, ra, ca, pe) (nI k) := by
  rcases Nat.eq_zero_or_pos k with z | z
  · subst z
    exact br_t rfl (h ra ca pe)
  · refine sy_divp hm hw z hk hB (fun ra' ca' pe' => ?_)
    have e := h ra' ca' pe'
    rw [show sy_V wk mm ww k = sf_Y wk mm ww k from if_neg (by omega)] at e
    exact e
theorem sy_ranked {post : Int32 → SY → Prop} {mm ww : Nat} (hm : mm ≤ 4) (hw : ww ≤ 5) (hB : sy_B wk mm ww) (h : ∀ ra' ca' pe', post (nI (sf_rD (sy_V wk mm ww) 4)) (nI mm, n, nI ww, ce, tg, wk, ra', ca', pe')) : wpY_ranked post (nI mm, n, nI ww, ce, tg, wk, ra, ca, pe) := by
  unfold wpY_ranked
  dsimp only
  refine pk_loop (σ := Int32 × (Nat → Int32) × (Nat → Int32) × (Nat → Int32)) (fun f i s => wY_ranked_4 post f s.1 (nI i) (nI mm) n (nI ww) ce tg wk s.2.1 s.2.2.1 s.2.2.2) (fun i s => s.1 = nI (sf_rD (sy_V wk mm ww) (i - 1)) ∧ 0 < i) 5 1 (0, ra, ca, pe) (by omega) ⟨rfl, by decide⟩ ?_ ?_
  · intro f s hs
    rw [hs.1]
    exact br_t (by decide) (h _ _ _)
  · intro f i s hi hs hk
    obtain ⟨j, rfl⟩ : ∃ j, i = j + 1 := ⟨i - 1, by omega⟩
    rw [hs.1]
    refine br_f (nI_ge (b := 5) hi (by decide)) (sy_div hm hw (by omega) hB (fun ra' ca' pe' => ?_))
    have hd := sy_Vl (k := j + 1) (by omega) hB
    by_cases e : sy_V wk mm ww (j + 1) = 0
    · refine br_t ((sx_lN0 hd).mpr e) (nm_r (nI_1 _) (hk (_, ra', ca', pe') ⟨?_, by omega⟩))
      show nI (sf_rD (sy_V wk mm ww) j) = nI (sf_rD (sy_V wk mm ww) (j + 1))
      rw [sf_rD_t e]
    · refine br_f (fun z => e ((sx_lN0 hd).mp z)) (nm_r (nI_1 _) (hk (_, ra', ca', pe') ⟨?_, by omega⟩))
      show nI (j + 1) = nI (sf_rD (sy_V wk mm ww) (j + 1))
      rw [sf_rD_f e]
theorem sy_take {post : SY → Prop} {m : Int32} {t : Nat} (ht : t < 2) (h : ∀ wk', (∀ i, i < 4 → ∀ j, j < 4 → wk' (5 * i + j) = (ce (16 * t + 4 * i + j)).toInt64) → post (m, n, n, ce, tg, wk', ra, ca, pe)) : wpY_take post (m, n, w, ce, tg, wk, ra, ca, pe) (nI t) := by
  unfold wpY_take
  dsimp only
  refine pk_loop (σ := Nat → Int64) (fun f i W => wY_take_10 post (nI t) m n n f (nI i) ce tg W ra ca pe) (fun i W => ∀ i', i' < i → ∀ j, j < 4 → W (5 * i' + j) = (ce (16 * t + 4 * i' + j)).toInt64) 4 0 wk (by omega) (fun i' hi' => absurd hi' (Nat.not_lt_zero i')) ?_ ?_
  · intro f W hW
    exact br_t (by decide) (h W hW)
  · intro f i W hi hW hk
    refine br_f (nI_ge (b := 4) hi (by decide)) ?_
    refine pk_loop (σ := Nat → Int64) (fun f' j W => wY_take_17 post (wY_take_10 post (nI t) m n n f) (nI t) (nI i) m n n f' (nI j) ce tg W ra ca pe) (fun j W => (∀ i', i' < i → ∀ j, j < 4 → W (5 * i' + j) = (ce (16 * t + 4 * i' + j)).toInt64) ∧ ∀ j', j' < j → W (5 * i + j') = (ce (16 * t + 4 * i + j')).toInt64) 4 0 W (by omega) ⟨hW, fun j' hj' => absurd hj' (Nat.not_lt_zero j')⟩ ?_ ?_
    · intro f' W' hW'
      refine br_t (by decide) (nm_r (nI_1 i) (hk W' ?_))
      intro i' hi' j hj
      rcases Nat.lt_or_ge i' i with z | z
      · exact hW'.1 i' z j hj
      · rw [show i' = i from by omega]; exact hW'.2 j hj
    · intro f' j W' hj hW' hkj
      have e2 : 5 * nI i + nI j = nI (5 * i + j) := by
        show nI 5 * _ + _ = _
        rw [pk_mul, nI_add]
      refine br_f (nI_ge (b := 4) hj (by decide)) ?_
      rw [sf_cellY, e2]
      refine ⟨vp_in_nI (by omega) (by omega), vp_in_nI (by omega) (by omega), nm_e (nm_r (nI_1 j) (hkj _ ?_))⟩
      rw [nI_clamp (by omega), nI_clamp (by omega)]
      constructor
      · intro i' hi' j' hj'
        rw [pk_uLn (by omega)]
        exact hW'.1 i' hi' j' hj'
      · intro j' hj'
        rcases Nat.lt_or_ge j' j with z | z
        · rw [pk_uLn (by omega)]; exact hW'.2 j' z
        · rw [show j' = j from by omega]; exact pk_uLs
end
/-! the reference's test of a goal -/
section
variable {w : Int32} {ce tg : Nat → Int32} {wk : Nat → Int64} {ra ca pe : Nat → Int32} {mm nn : Nat} {F : Nat → Nat → Int64} {q : Int64}
theorem sy_B1 (n5 : nn < 5) (n0 : 0 < nn) (m5 : mm < 5) (hW : ∀ i, i < 4 → ∀ j, j < nn → wk (5 * i + j) = F i j) (hb : ∀ i, i < 4 → ∀ j, j < 5 → sf_ab (F i j) ≤ 200) : sy_B wk mm nn := by
  intro k h0 hk a ha b hb' ea eb
  have h16 := (sf_S7 mm m5).1
  rw [sf_val1 n5 n0 hW (by omega) hb' h0 hk ea eb]
  exact Nat.lt_of_le_of_lt (sf_pm_bound hb k (by omega) a b) (sf_pw (by omega))
theorem sy_B2 (n5 : nn < 5) (n0 : 0 < nn) (m5 : mm < 5) (hW : ∀ i, i < 4 → ∀ j, j < nn → wk (5 * i + j) = F i j) (hG : ∀ i, i < 4 → wk (5 * i + nn) = F i 4 * q) (hb : ∀ i, i < 4 → ∀ j, j < 5 → sf_ab (F i j) ≤ 200) (hq : sf_ab q ≤ 100) : sy_B wk mm (nn + 1) := by
  intro k h0 hk a ha b hb' ea eb
  have h16 := (sf_S7 mm m5).1
  have hn2 := (sf_S7 nn n5).2
  rcases Nat.lt_or_ge b (2 ^ nn) with z | z
  · rw [sf_val1 n5 n0 hW (by omega) z h0 hk ea eb]
    exact Nat.lt_of_le_of_lt (sf_pm_bound hb k (by omega) a b) (sf_pw (by omega))
  · obtain ⟨c, rfl⟩ : ∃ c, b = c + 2 ^ nn := ⟨b - 2 ^ nn, by omega⟩
    have zc : c < 2 ^ nn := by omega
    rw [sf_val2 n5 n0 hW hG (by omega) zc h0 hk ea ((sf_S6 nn n5 n0 c zc).1.symm.trans eb)]
    have h1 := sf_pm_bound hb k (by omega) a (16 + c)
    have h2 : 1000 ^ k ≤ 1000 ^ 4 := Nat.pow_le_pow_right (by decide) hk
    have h3 : sf_ab q * sf_ab (sf_pm F k a (16 + c)) ≤ 100 * 1000 ^ 4 := Nat.mul_le_mul hq (Nat.le_trans h1 h2)
    rw [sf_mul (Nat.lt_of_le_of_lt h3 (by decide))]
    exact Nat.lt_of_le_of_lt h3 (by decide)
theorem sy_V1 (m5 : mm < 5) (m0 : 0 < mm) (n5 : nn < 5) (n0 : 0 < nn) (hW : ∀ i, i < 4 → ∀ j, j < nn → wk (5 * i + j) = F i j) (hr : ∀ i, i < 4 → mm ≤ i → ∀ j, j < 5 → F i j = 0) (hc : ∀ j, j < 4 → nn ≤ j → ∀ i, i < 4 → F i j = 0) {k : Nat} (hk : k ≤ 4) : sy_V wk mm nn k = sf_D F k := by
  unfold sy_V
  rcases Nat.eq_zero_or_pos k with z | z
  · subst z
    rw [if_pos rfl, sf_D0]
  · rw [if_neg (by omega), sf_Y1 m5 m0 n5 n0 hW hr hc z hk]
theorem sy_met {post : Int32 → SY → Prop} (m5 : mm < 5) (m0 : 0 < mm) (n5 : nn < 5) (n0 : 0 < nn) (hW : ∀ i, i < 4 → ∀ j, j < nn → wk (5 * i + j) = F i j) (hG : ∀ i, i < 4 → wk (5 * i + nn) = F i 4 * q) (hr : ∀ i, i < 4 → mm ≤ i → ∀ j, j < 5 → F i j = 0) (hc : ∀ j, j < 4 → nn ≤ j → ∀ i, i < 4 → F i j = 0) (hb : ∀ i, i < 4 → ∀ j, j < 5 → sf_ab (F i j) ≤ 200) (hq : sf_ab q ≤ 100) (q0 : 0 < sf_ab q)
    (h1 : (sf_Ls (sf_D F) (sf_E F) ≠ 0 ∧ sf_Ls (sf_D F) (sf_E F) ∣ sf_ab q) → ∀ w' ra' ca' pe', post 1 (nI mm, nI nn, w', ce, tg, wk, ra', ca', pe'))
    (h2 : ¬ (sf_Ls (sf_D F) (sf_E F) ≠ 0 ∧ sf_Ls (sf_D F) (sf_E F) ∣ sf_ab q) → ∀ w' ra' ca' pe', post 0 (nI mm, nI nn, w', ce, tg, wk, ra', ca', pe')) :
    wpY_met post (nI mm, nI nn, w, ce, tg, wk, ra, ca, pe) := by
  unfold wpY_met
  dsimp only
  have B1 : sy_B wk mm nn := sy_B1 n5 n0 m5 hW hb
  have B2 : sy_B wk mm (nn + 1) := sy_B2 n5 n0 m5 hW hG hb hq
  have V1 : ∀ k, k ≤ 4 → sy_V wk mm nn k = sf_D F k := fun k hk => sy_V1 m5 m0 n5 n0 hW hr hc hk
  have V2 : ∀ k, 0 < k → k ≤ 4 → sy_V wk mm (nn + 1) k = Nat.gcd (sf_D F k) (sf_ab q * sf_E F k) := fun k h0 hk => by
    rw [show sy_V wk mm (nn + 1) k = sf_Y wk mm (nn + 1) k from if_neg (by omega)]
    exact sf_Y2 m5 m0 n5 n0 hW hG hr hc hb hq h0 hk
  have key := sf_met (D := sf_D F) (E := sf_E F) (D' := sy_V wk mm (nn + 1)) q0 (sf_D0 F) (sf_E5 F) rfl V2 (sf_Es F)
  have eR : sf_rD (sy_V wk mm nn) 4 = sf_rD (sf_D F) 4 := sf_rD_congr 4 (fun j _ hj => V1 j hj)
  have r4 := sf_rD_le (sf_D F) 4
  have r4' := sf_rD_le (sy_V wk mm (nn + 1)) 4
  refine sy_ranked (by omega) (by omega) B1 (fun ra1 ca1 pe1 => ?_)
  rw [eR]
  refine sy_div (by omega) (by omega) r4 B1 (fun ra2 ca2 pe2 => ?_)
  rw [V1 _ r4]
  refine nm_r (nI_1 nn) (sy_ranked (by omega) (by omega) B2 (fun ra3 ca3 pe3 => ?_))
  by_cases e1 : sf_rD (sy_V wk mm (nn + 1)) 4 = sf_rD (sf_D F) 4
  · refine br_t (by rw [e1]) (sy_div (by omega) (by omega) r4 B2 (fun ra4 ca4 pe4 => ?_))
    have l1 := sf_Dlt hb (k := sf_rD (sf_D F) 4) (by omega)
    have l2 := sy_Vl (k := sf_rD (sf_D F) 4) r4 B2
    by_cases e2 : sy_V wk mm (nn + 1) (sf_rD (sf_D F) 4) = sf_D F (sf_rD (sf_D F) 4)
    · exact br_t (by rw [e2]) (h1 (key.mp ⟨e1, e2⟩) _ _ _ _)
    · exact br_f (fun z => e2 ((pk_lEQ (by omega) (by omega)).mp z)) (h2 (fun z => e2 (key.mpr z).2) _ _ _ _)
  · exact br_f (fun z => e1 ((nI_eq (by omega) (by omega)).mp z)) (h2 (fun z => e1 (key.mpr z).1) _ _ _ _)
end
end
section
/-! the relation, the refusals -/
def sr_I (mm nn : Nat) (ce tg : Nat → Int32) : Prop := (0 < mm ∧ mm < 5 ∧ 0 < nn ∧ nn < 5) ∧ (∀ p, -12 ≤ (ce p).toInt ∧ (ce p).toInt ≤ 12) ∧ (∀ p, p < 32 → (mm ≤ p / 4 % 4 ∨ nn ≤ p % 4) → ce p = 0) ∧ (∀ i, -200 ≤ (tg i).toInt ∧ (tg i).toInt ≤ 200) ∧ (∀ i, i < 4 → mm ≤ i → tg i = 0)
def sr_G (go : Nat → Int32) : Prop := ∀ i, -200 ≤ (go i).toInt ∧ (go i).toInt ≤ 200
def i_Rel (_ : Nat) (u : SX) (v : SY) : Prop := ∃ (mm nn : Nat) (ce tg go : Nat → Int32) (mi : Nat → Int64) (w : Int32) (wk : Nat → Int64) (ra ca pe : Nat → Int32), u = (nI mm, nI nn, ce, tg, go, mi) ∧ v = (nI mm, nI nn, w, ce, tg, wk, ra, ca, pe) ∧ sr_I mm nn ce tg ∧ sr_G go ∧ sx_Z mi
theorem i_up {k : Nat} {u : SX} {v : SY} (h : i_Rel k u v) : i_Rel (k + 5) u v := h
theorem sr_mk {k mm nn : Nat} {ce tg go : Nat → Int32} {mi : Nat → Int64} {w : Int32} {wk : Nat → Int64} {ra ca pe : Nat → Int32} (hI : sr_I mm nn ce tg) (hG : sr_G go) (hZ : sx_Z mi) : i_Rel k (nI mm, nI nn, ce, tg, go, mi) (nI mm, nI nn, w, ce, tg, wk, ra, ca, pe) := ⟨mm, nn, ce, tg, go, mi, w, wk, ra, ca, pe, rfl, rfl, hI, hG, hZ⟩
theorem sr_cl (x : Int32) : ∃ a : Nat, 0 < a ∧ a < 5 ∧ ∀ P : Int32 → Prop, P (nI a) → ((1 ≤ x → ((x ≤ 4 → P x) ∧ (¬ x ≤ 4 → P 4))) ∧ (¬ 1 ≤ x → P 1)) := by
  by_cases h1 : 1 ≤ x
  · by_cases h4 : x ≤ 4
    · obtain ⟨j, hj, rfl⟩ := nI_of (x := x) (Int32.not_lt.mpr (Int32.le_trans (by decide : (0 : Int32) ≤ 1) h1))
      have e1 : 1 ≤ j := (nI_leI (a := 1) (by decide) hj).mp h1
      have e4 : j ≤ 4 := (nI_leI (b := 4) hj (by decide)).mp h4
      exact ⟨j, by omega, by omega, fun P h => br_t h1 (br_t h4 h)⟩
    · exact ⟨4, by decide, by decide, fun P h => br_t h1 (br_f h4 h)⟩
  · exact ⟨1, by decide, by decide, fun P h => br_f h1 h⟩
theorem i_vc0 (k0 : Int32) (k1 : Int32) : wpX_init (fun u => wpY_init (fun v => i_Rel 2 u v) k0 k1) k0 k1 := by
  obtain ⟨a, a0, a5, hA⟩ := sr_cl k0
  obtain ⟨b, b0, b5, hB⟩ := sr_cl k1
  have xA : ∀ post : Int32 → Prop, post (nI a) → wpX_clampedSide post k0 := fun post h => hA post h
  have xB : ∀ post : Int32 → Prop, post (nI b) → wpX_clampedSide post k1 := fun post h => hB post h
  have yB : ∀ (post : SY → Prop) (z : Int32), post (z, nI b, 0, (fun _ => 0), (fun _ => 0), (fun _ => 0), (fun _ => 0), (fun _ => 0), (fun _ => 0)) → wY_init_68 post k1 z 0 0 0 (fun _ => 0) (fun _ => 0) (fun _ => 0) (fun _ => 0) (fun _ => 0) (fun _ => 0) := fun post z h => hB (fun y => post (z, y, 0, (fun _ => 0), (fun _ => 0), (fun _ => 0), (fun _ => 0), (fun _ => 0), (fun _ => 0))) h
  have yA : ∀ (post : SY → Prop), wY_init_68 post k1 (nI a) 0 0 0 (fun _ => 0) (fun _ => 0) (fun _ => 0) (fun _ => 0) (fun _ => 0) (fun _ => 0) → wpY_init post k0 k1 := fun post h => hA (fun z => wY_init_68 post k1 z 0 0 0 (fun _ => 0) (fun _ => 0) (fun _ => 0) (fun _ => 0) (fun _ => 0) (fun _ => 0)) h
  unfold wpX_init
  refine xA _ (xB _ (yA _ (yB _ _ (sr_mk ⟨⟨a0, a5, b0, b5⟩, ?_, fun _ _ _ => rfl, ?_, fun _ _ _ => rfl⟩ ?_ fun _ _ _ _ _ => rfl))))
  · intro p; show -12 ≤ (0 : Int32).toInt ∧ (0 : Int32).toInt ≤ 12; decide
  · intro p; show -200 ≤ (0 : Int32).toInt ∧ (0 : Int32).toInt ≤ 200; decide
  · intro p; show -200 ≤ (0 : Int32).toInt ∧ (0 : Int32).toInt ≤ 200; decide
theorem sr_tX {post : Int32 → Prop} {t : Nat} (ht : t < 2) (h : post 1) : wpX_isTable post (nI t) := by
  have : t = 0 ∨ t = 1 := by omega
  rcases this with rfl | rfl
  · exact br_t rfl h
  · exact br_f (by decide) (br_t rfl h)
theorem sr_tY {post : Int32 → Prop} {v : SY} {t : Nat} (ht : t < 2) (h : post 0) : wpY_bad post v (nI t) := by
  obtain ⟨a, b, c, d, e, f, g, i, j⟩ := v
  exact br_f (nI_pos (by omega)) (br_t (nI_le (b := 1) (by omega) (by decide)) h)
theorem sr_tab (x : Int32) : (∃ t, t < 2 ∧ x = nI t) ∨ ((∀ post : Int32 → Prop, post 0 → wpX_isTable post x) ∧ (∀ (post : Int32 → Prop) (v : SY), post 1 → wpY_bad post v x)) := by
  rcases pk_ix x (n := 2) (by decide) with h | h | h
  · refine Or.inr ⟨fun post hp => br_f (fun z => ?_) (br_f (fun z => ?_) hp), fun post v hp => ?_⟩
    · rw [z] at h; exact absurd h (by decide)
    · rw [z] at h; exact absurd h (by decide)
    · obtain ⟨a, b, c, d, e, f, g, i, j⟩ := v
      exact br_t h hp
  · refine Or.inr ⟨fun post hp => br_f (fun z => ?_) (br_f (fun z => ?_) hp), fun post v hp => ?_⟩
    · rw [z] at h; exact absurd h (by decide)
    · rw [z] at h; exact absurd h (by decide)
    · obtain ⟨a, b, c, d, e, f, g, i, j⟩ := v
      refine br_f (fun z => ?_) (br_f (fun z => ?_) hp)
      · exact absurd (Int32.lt_of_le_of_lt h z) (by decide)
      · exact absurd (Int32.le_trans h z) (by decide)
  · exact Or.inl h
theorem sr_m12 : (-12 : Int32).toInt = -12 ∧ (12 : Int32).toInt = 12 := by decide
theorem sr_eX {post : Int32 → Prop} {x : Int32} (h : -12 ≤ x.toInt ∧ x.toInt ≤ 12) (hp : post 1) : wpX_isEntry post x := by
  refine br_f (fun z => ?_) (br_f (fun z => ?_) hp)
  · rw [Int32.lt_iff_toInt_lt, sr_m12.1] at z; omega
  · rw [Int32.lt_iff_toInt_lt, sr_m12.2] at z; omega
theorem sr_eXn {post : Int32 → Prop} {x : Int32} (h : ¬ (-12 ≤ x.toInt ∧ x.toInt ≤ 12)) (hp : post 0) : wpX_isEntry post x := by
  refine br_c (fun _ => hp) (fun z => br_t ?_ hp)
  rw [Int32.lt_iff_toInt_lt, sr_m12.1] at z
  rw [Int32.lt_iff_toInt_lt, sr_m12.2]; omega
theorem sr_eY {post : Int32 → Prop} {v : SY} {x : Int32} (h : -12 ≤ x.toInt ∧ x.toInt ≤ 12) (hp : post 0) : wpY_far post v x := by
  obtain ⟨a, b, c, d, e, f, g, i, j⟩ := v
  refine br_f (fun z => ?_) (br_t ?_ hp)
  · rw [Int32.lt_iff_toInt_lt, sr_m12.1] at z; omega
  · rw [Int32.le_iff_toInt_le, sr_m12.2]; omega
theorem sr_eYn {post : Int32 → Prop} {v : SY} {x : Int32} (h : ¬ (-12 ≤ x.toInt ∧ x.toInt ≤ 12)) (hp : post 1) : wpY_far post v x := by
  obtain ⟨a, b, c, d, e, f, g, i, j⟩ := v
  refine br_c (fun _ => hp) (fun z => br_f (fun y => ?_) hp)
  rw [Int32.lt_iff_toInt_lt, sr_m12.1] at z
  rw [Int32.le_iff_toInt_le, sr_m12.2] at y; omega
section
variable {mm nn : Nat} {cc n w : Int32} {ce tg go : Nat → Int32} {mi wk : Nat → Int64} {ra ca pe : Nat → Int32}
theorem sr_rX {post : Int32 → Prop} {i : Nat} (hm : mm < 5) (h : i < mm) (hp : post 1) : wpX_isRow post (nI mm, cc, ce, tg, go, mi) (nI i) := br_f (nI_pos (by omega)) (br_f (nI_ge h (by omega)) hp)
theorem sr_rXn {post : Int32 → Prop} {i : Nat} (hi : i < 2 ^ 31) (h : mm ≤ i) (hp : post 0) : wpX_isRow post (nI mm, cc, ce, tg, go, mi) (nI i) := br_f (nI_pos hi) (br_t (nI_le h hi) hp)
theorem sr_cX {post : Int32 → Prop} {i : Nat} (hm : nn < 5) (h : i < nn) (hp : post 1) : wpX_isColumn post (cc, nI nn, ce, tg, go, mi) (nI i) := br_f (nI_pos (by omega)) (br_f (nI_ge h (by omega)) hp)
theorem sr_cXn {post : Int32 → Prop} {i : Nat} (hi : i < 2 ^ 31) (h : nn ≤ i) (hp : post 0) : wpX_isColumn post (cc, nI nn, ce, tg, go, mi) (nI i) := br_f (nI_pos hi) (br_t (nI_le h hi) hp)
theorem sr_rY {post : Int32 → Prop} {i : Nat} (hm : mm < 5) (h : i < mm) (hp : post 0) : wpY_badRow post (nI mm, n, w, ce, tg, wk, ra, ca, pe) (nI i) := br_f (nI_pos (by omega)) (br_t (nI_lt h (by omega)) hp)
theorem sr_rYn {post : Int32 → Prop} {i : Nat} (hi : i < 2 ^ 31) (h : mm ≤ i) (hp : post 1) : wpY_badRow post (nI mm, n, w, ce, tg, wk, ra, ca, pe) (nI i) := br_f (nI_pos hi) (br_f (nI_nlt h hi) hp)
theorem sr_row (hm : mm < 5) (x : Int32) : (∃ i, i < mm ∧ x = nI i) ∨ ((∀ post : Int32 → Prop, post 0 → wpX_isRow post (nI mm, cc, ce, tg, go, mi) x) ∧ (∀ post : Int32 → Prop, post 1 → wpY_badRow post (nI mm, n, w, ce, tg, wk, ra, ca, pe) x)) := by
  by_cases h : x < 0
  · exact Or.inr ⟨fun post hp => br_t h hp, fun post hp => br_t h hp⟩
  · obtain ⟨j, hj, rfl⟩ := nI_of h
    rcases Nat.lt_or_ge j mm with z | z
    · exact Or.inl ⟨j, z, rfl⟩
    · exact Or.inr ⟨fun post hp => sr_rXn hj z hp, fun post hp => sr_rYn hj z hp⟩
end
theorem i_vc_rows {k : Nat} {u : SX} {v : SY} (I : i_Rel k u v) (hk : k + 5 ≤ 2562) : wpX_rows (fun r => wpY_rows (fun r' => r' = r ∧ i_Rel (k + 5) u v) v) u := by
  obtain ⟨mm, nn, ce, tg, go, mi, w, wk, ra, ca, pe, rfl, rfl, hI, hG, hZ⟩ := I
  exact And.intro rfl (sr_mk hI hG hZ)
theorem i_vc_columns {k : Nat} {u : SX} {v : SY} (I : i_Rel k u v) (hk : k + 5 ≤ 2562) : wpX_columns (fun r => wpY_columns (fun r' => r' = r ∧ i_Rel (k + 5) u v) v) u := by
  obtain ⟨mm, nn, ce, tg, go, mi, w, wk, ra, ca, pe, rfl, rfl, hI, hG, hZ⟩ := I
  exact And.intro rfl (sr_mk hI hG hZ)
/-! set -/
theorem sr_up {mm nn : Nat} {ce tg : Nat → Int32} {p : Nat} {x : Int32} (hI : sr_I mm nn ce tg) (hx : -12 ≤ x.toInt ∧ x.toInt ≤ 12) (h1 : p / 4 % 4 < mm) (h2 : p % 4 < nn) : sr_I mm nn (upd ce p x) tg := by
  refine ⟨hI.1, fun q => ?_, fun q hq hz => ?_, hI.2.2.2⟩
  · by_cases e : q = p
    · rw [e, pk_us]; exact hx
    · rw [pk_un e]; exact hI.2.1 q
  · have e : q ≠ p := by
      intro z; subst z; omega
    rw [pk_un e]; exact hI.2.2.1 q hq hz
section
variable {mm nn : Nat} {w : Int32} {ce tg go : Nat → Int32} {mi wk : Nat → Int64} {ra ca pe : Nat → Int32}
theorem sr_set (hI : sr_I mm nn ce tg) (v1 v2 v3 : Int32) : ∃ (r : Int32) (ce' : Nat → Int32), sr_I mm nn ce' tg ∧ (∀ post : Int32 → SX → Prop, post r (nI mm, nI nn, ce', tg, go, mi) → wpX_set post (nI mm, nI nn, ce, tg, go, mi) v1 v2 v3) ∧ (∀ post : Int32 → SY → Prop, post r (nI mm, nI nn, w, ce', tg, wk, ra, ca, pe) → wpY_set post (nI mm, nI nn, w, ce, tg, wk, ra, ca, pe) v1 v2 v3) := by
  obtain ⟨m0, m5, n0, n5⟩ := hI.1
  unfold wpX_set wpY_set
  dsimp only
  rcases sr_tab v1 with ⟨t, ht, rfl⟩ | ⟨bX, bY⟩
  · by_cases h2 : v2 < 0
    · exact ⟨-2, ce, hI, fun post hp => sr_tX ht (br_f (by decide) (br_t h2 hp)), fun post hp => sr_tY ht (br_t rfl (br_t h2 hp))⟩
    · obtain ⟨a, ha, rfl⟩ := nI_of h2
      have e1 : nI a / 4 = nI (a / 4) := pk_div ha (by decide : 0 < 4) (by decide)
      have e2 : nI a - nI a / 4 * 4 = nI (a % 4) := pk_rem ha (by decide : 0 < 4) (by decide)
      have e3 : nI t * 16 + nI a = nI (16 * t + a) := by
        show nI t * nI 16 + _ = _
        rw [pk_mul, nI_add]; exact congrArg nI (by omega)
      have e4 : 16 * nI t + nI a = nI (16 * t + a) := by
        show nI 16 * nI t + _ = _
        rw [pk_mul, nI_add]
      rw [e2, e1, e3, e4]
      have n4 : ¬ (4 : Int32) = 0 := by decide
      have a4 : a / 4 < 2 ^ 31 := by omega
      rcases Nat.lt_or_ge (a / 4) mm with z1 | z1
      · rcases Nat.lt_or_ge (a % 4) nn with z2 | z2
        · by_cases z3 : -12 ≤ v3.toInt ∧ v3.toInt ≤ 12
          · refine ⟨0, upd ce (16 * t + a) v3, sr_up hI z3 (by omega) (by omega), fun post hp => ?_, fun post hp => ?_⟩
            · refine sr_tX ht (br_f (by decide) (br_f h2 ⟨n4, sr_rX m5 z1 (br_f (by decide) ⟨n4, sr_cX n5 z2 (br_f (by decide) (sr_eX z3 (br_f (by decide) ⟨vp_in_nI (by omega) (by omega), nm_e ?_⟩)))⟩)⟩))
              rw [nI_clamp (by omega)]; exact hp
            · refine sr_tY ht (br_t rfl (br_f h2 ⟨n4, br_f (nI_ge z1 (by omega)) ⟨n4, br_t (nI_lt z2 (by omega)) (sr_eY z3 (br_t rfl ⟨vp_in_nI (by omega) (by omega), nm_e ?_⟩))⟩⟩))
              rw [nI_clamp (by omega)]; exact hp
          · exact ⟨-3, ce, hI, fun post hp => sr_tX ht (br_f (by decide) (br_f h2 ⟨n4, sr_rX m5 z1 (br_f (by decide) ⟨n4, sr_cX n5 z2 (br_f (by decide) (sr_eXn z3 (br_t rfl hp)))⟩)⟩)), fun post hp => sr_tY ht (br_t rfl (br_f h2 ⟨n4, br_f (nI_ge z1 (by omega)) ⟨n4, br_t (nI_lt z2 (by omega)) (sr_eYn z3 (br_f (by decide) hp))⟩⟩))⟩
        · exact ⟨-2, ce, hI, fun post hp => sr_tX ht (br_f (by decide) (br_f h2 ⟨n4, sr_rX m5 z1 (br_f (by decide) ⟨n4, sr_cXn (by omega) z2 (br_t rfl hp)⟩)⟩)), fun post hp => sr_tY ht (br_t rfl (br_f h2 ⟨n4, br_f (nI_ge z1 (by omega)) ⟨n4, br_f (nI_nlt z2 (by omega)) hp⟩⟩))⟩
      · exact ⟨-2, ce, hI, fun post hp => sr_tX ht (br_f (by decide) (br_f h2 ⟨n4, sr_rXn a4 z1 (br_t rfl hp)⟩)), fun post hp => sr_tY ht (br_t rfl (br_f h2 ⟨n4, br_t (nI_le z1 a4) hp⟩))⟩
  · exact ⟨-1, ce, hI, fun post hp => bX _ (br_t rfl hp), fun post hp => bY _ _ (br_f (by decide) hp)⟩
theorem sr_aim (hI : sr_I mm nn ce tg) (v1 v2 : Int32) : ∃ (r : Int32) (tg' : Nat → Int32), sr_I mm nn ce tg' ∧ (∀ post : Int32 → SX → Prop, post r (nI mm, nI nn, ce, tg', go, mi) → wpX_aim post (nI mm, nI nn, ce, tg, go, mi) v1 v2) ∧ (∀ post : Int32 → SY → Prop, post r (nI mm, nI nn, w, ce, tg', wk, ra, ca, pe) → wpY_aim post (nI mm, nI nn, w, ce, tg, wk, ra, ca, pe) v1 v2) := by
  obtain ⟨m0, m5, n0, n5⟩ := hI.1
  unfold wpX_aim wpY_aim
  dsimp only
  rcases sr_row (mm := mm) (cc := nI nn) (n := nI nn) (w := w) (ce := ce) (tg := tg) (go := go) (mi := mi) (wk := wk) (ra := ra) (ca := ca) (pe := pe) m5 v1 with ⟨i, hi, rfl⟩ | ⟨bX, bY⟩
  · by_cases h1 : v2 < -200
    · exact ⟨-2, tg, hI, fun post hp => sr_rX m5 hi (br_f (by decide) (br_t h1 hp)), fun post hp => sr_rY m5 hi (br_t rfl (br_t h1 hp))⟩
    · by_cases h2 : v2 ≤ 200
      · refine ⟨0, upd tg i v2, ⟨hI.1, hI.2.1, hI.2.2.1, fun j => ?_, fun j hj hm => ?_⟩, fun post hp => ?_, fun post hp => ?_⟩
        · by_cases e : j = i
          · rw [e, pk_us]
            rw [Int32.lt_iff_toInt_lt, show (-200 : Int32).toInt = -200 from by decide] at h1
            rw [Int32.le_iff_toInt_le, show (200 : Int32).toInt = 200 from by decide] at h2
            omega
          · rw [pk_un e]; exact hI.2.2.2.1 j
        · rw [pk_un (by omega)]; exact hI.2.2.2.2 j hj hm
        · refine sr_rX m5 hi (br_f (by decide) (br_f h1 (br_t h2 ⟨vp_in_nI (by omega) (by omega), nm_e ?_⟩)))
          rw [nI_clamp (by omega)]; exact hp
        · refine sr_rY m5 hi (br_t rfl (br_f h1 (br_t h2 ⟨vp_in_nI (by omega) (by omega), nm_e ?_⟩)))
          rw [nI_clamp (by omega)]; exact hp
      · exact ⟨-2, tg, hI, fun post hp => sr_rX m5 hi (br_f (by decide) (br_f h1 (br_f h2 hp))), fun post hp => sr_rY m5 hi (br_t rfl (br_f h1 (br_f h2 hp)))⟩
  · exact ⟨-1, tg, hI, fun post hp => bX _ (br_t rfl hp), fun post hp => bY _ (br_f (by decide) hp)⟩
theorem sr_get (hI : sr_I mm nn ce tg) (v1 v2 v3 : Int32) : ∃ (r : Int32), (∀ post : Int32 → Prop, post r → wpX_get post (nI mm, nI nn, ce, tg, go, mi) v1 v2 v3) ∧ (∀ post : Int32 → Prop, post r → wpY_get post (nI mm, nI nn, w, ce, tg, wk, ra, ca, pe) v1 v2 v3) := by
  obtain ⟨m0, m5, n0, n5⟩ := hI.1
  unfold wpX_get wpY_get
  dsimp only
  rcases sr_tab v1 with ⟨t, ht, rfl⟩ | ⟨bX, bY⟩
  · rcases sr_row (mm := mm) (cc := nI nn) (n := nI nn) (w := w) (ce := ce) (tg := tg) (go := go) (mi := mi) (wk := wk) (ra := ra) (ca := ca) (pe := pe) m5 v2 with ⟨i, hi, rfl⟩ | ⟨cX, cY⟩
    · by_cases h3 : v3 < 0
      · exact ⟨0, fun post hp => sr_tX ht (br_f (by decide) (sr_rX m5 hi (br_f (by decide) (br_t h3 (br_t rfl hp))))), fun post hp => sr_tY ht (br_t rfl (sr_rY m5 hi (br_t rfl (br_t h3 hp))))⟩
      · obtain ⟨j, hj, rfl⟩ := nI_of h3
        rcases Nat.lt_or_ge j nn with z | z
        · refine ⟨ce (16 * t + 4 * i + j), fun post hp => sr_tX ht (br_f (by decide) (sr_rX m5 hi (br_f (by decide) (sr_cX n5 z (br_f (by decide) ?_))))), fun post hp => sr_tY ht (br_t rfl (sr_rY m5 hi (br_t rfl (br_f h3 (br_t (nI_lt z (by omega)) ?_)))))⟩
          · show vp_in (nI t * 16 + nI i * 4 + nI j) 32 ∧ post (ce (nI t * 16 + nI i * 4 + nI j).toNatClampNeg)
            rw [sf_cell, nI_clamp (by omega)]
            exact ⟨vp_in_nI (by omega) (by omega), hp⟩
          · rw [sf_cellY, nI_clamp (by omega)]
            exact ⟨vp_in_nI (by omega) (by omega), hp⟩
        · exact ⟨0, fun post hp => sr_tX ht (br_f (by decide) (sr_rX m5 hi (br_f (by decide) (sr_cXn hj z (br_t rfl hp))))), fun post hp => sr_tY ht (br_t rfl (sr_rY m5 hi (br_t rfl (br_f h3 (br_f (nI_nlt z hj) hp)))))⟩
    · exact ⟨0, fun post hp => sr_tX ht (br_f (by decide) (cX _ (br_t rfl hp))), fun post hp => sr_tY ht (br_t rfl (cY _ (br_f (by decide) hp)))⟩
  · exact ⟨0, fun post hp => bX _ (br_t rfl hp), fun post hp => bY _ _ (br_f (by decide) hp)⟩
end
theorem i_vc_set {k : Nat} {u : SX} {v : SY} (I : i_Rel k u v) (hk : k + 5 ≤ 2562) (v1 : Int32) (v2 : Int32) (v3 : Int32) : wpX_set (fun r u' => wpY_set (fun r' v' => r' = r ∧ i_Rel (k + 5) u' v') v v1 v2 v3) u v1 v2 v3 := by
  obtain ⟨mm, nn, ce, tg, go, mi, w, wk, ra, ca, pe, rfl, rfl, hI, hG, hZ⟩ := I
  obtain ⟨r, ce', hI', hX, hY⟩ := sr_set (w := w) (go := go) (mi := mi) (wk := wk) (ra := ra) (ca := ca) (pe := pe) hI v1 v2 v3
  exact hX _ (hY _ ⟨rfl, sr_mk hI' hG hZ⟩)
theorem i_vc_aim {k : Nat} {u : SX} {v : SY} (I : i_Rel k u v) (hk : k + 5 ≤ 2562) (v1 : Int32) (v2 : Int32) : wpX_aim (fun r u' => wpY_aim (fun r' v' => r' = r ∧ i_Rel (k + 5) u' v') v v1 v2) u v1 v2 := by
  obtain ⟨mm, nn, ce, tg, go, mi, w, wk, ra, ca, pe, rfl, rfl, hI, hG, hZ⟩ := I
  obtain ⟨r, tg', hI', hX, hY⟩ := sr_aim (w := w) (go := go) (mi := mi) (wk := wk) (ra := ra) (ca := ca) (pe := pe) hI v1 v2
  exact hX _ (hY _ ⟨rfl, sr_mk hI' hG hZ⟩)
theorem i_vc_get {k : Nat} {u : SX} {v : SY} (I : i_Rel k u v) (hk : k + 5 ≤ 2562) (v1 : Int32) (v2 : Int32) (v3 : Int32) : wpX_get (fun r => wpY_get (fun r' => r' = r ∧ i_Rel (k + 5) u v) v v1 v2 v3) u v1 v2 v3 := by
  obtain ⟨mm, nn, ce, tg, go, mi, w, wk, ra, ca, pe, rfl, rfl, hI, hG, hZ⟩ := I
  obtain ⟨r, hX, hY⟩ := sr_get (w := w) (go := go) (mi := mi) (wk := wk) (ra := ra) (ca := ca) (pe := pe) hI v1 v2 v3
  exact hX _ (hY _ ⟨rfl, sr_mk hI hG hZ⟩)
end
section
/-! fill and mirror -/
def sr_ev (x3 x5 x6 : Int32) (j : Nat) : Int32 := (x3 + (nI j * x5)) + ((nI j * nI j) * x6)
def sr_ok (x : Int32) : Prop := -12 ≤ x.toInt ∧ x.toInt ≤ 12
def sr_wr (ce : Nat → Int32) (b : Nat) (ev : Nat → Int32) : Nat → Nat → Int32
  | 0 => ce
  | j + 1 => upd (sr_wr ce b ev j) (b + j) (ev j)
theorem sr_wrI {mm nn : Nat} {ce tg : Nat → Int32} {t i : Nat} {ev : Nat → Int32} (hI : sr_I mm nn ce tg) (hi : i < mm) : ∀ j, j ≤ nn → (∀ q, q < j → sr_ok (ev q)) → sr_I mm nn (sr_wr ce (16 * t + 4 * i) ev j) tg := by
  obtain ⟨m0, m5, n0, n5⟩ := hI.1
  intro j
  induction j with
  | zero => intro _ _; exact hI
  | succ j ih =>
    intro hj h
    exact sr_up (ih (by omega) (fun q hq => h q (by omega))) (h j (by omega)) (by omega) (by omega)
section
variable {mm nn : Nat} {w : Int32} {ce tg go : Nat → Int32} {mi wk : Nat → Int64} {ra ca pe : Nat → Int32} {x3 x5 x6 : Int32} {t i : Nat}
theorem sx_f120 {post : Int32 → SX → Prop} (ht : t < 2) (hi : i < 4) (n5 : nn < 5) (h : post 0 (nI mm, nI nn, sr_wr ce (16 * t + 4 * i) (sr_ev x3 x5 x6) nn, tg, go, mi)) : ∃ f, wX_fill_120 post (nI t) (nI i) x3 x5 x6 (nI mm) (nI nn) f 0 ce tg go mi := by
  refine pk_loop (σ := Nat → Int32) (fun f j c => wX_fill_120 post (nI t) (nI i) x3 x5 x6 (nI mm) (nI nn) f (nI j) c tg go mi) (fun j c => c = sr_wr ce (16 * t + 4 * i) (sr_ev x3 x5 x6) j) nn 0 ce (by omega) rfl ?_ ?_
  · intro f c hc
    subst hc
    exact br_t (nI_le (Nat.le_refl nn) (by omega)) h
  · intro f j c hj hc hk
    subst hc
    refine br_f (nI_ge hj (by omega)) ?_
    unfold wpX_cellAt
    dsimp only
    rw [sf_cell, nI_clamp (by omega)]
    exact ⟨vp_in_nI (by omega) (by omega), nm_e (nm_r (nI_1 j) (hk _ rfl))⟩
theorem sx_f77 {post : Int32 → SX → Prop} (n5 : nn < 5) (hall : ∀ j, j < nn → sr_ok (sr_ev x3 x5 x6 j)) (h : ∃ f, wX_fill_120 post (nI t) (nI i) x3 x5 x6 (nI mm) (nI nn) f 0 ce tg go mi) : ∃ f, wX_fill_77 post (nI t) (nI i) x3 x5 x6 (nI mm) (nI nn) ce tg go mi f 0 := by
  refine pk_loop (σ := Unit) (fun f j _ => wX_fill_77 post (nI t) (nI i) x3 x5 x6 (nI mm) (nI nn) ce tg go mi f (nI j)) (fun _ _ => True) nn 0 () (by omega) trivial ?_ ?_
  · intro f c _
    exact br_t (nI_le (Nat.le_refl nn) (by omega)) h
  · intro f j c hj _ hk
    exact br_f (nI_ge hj (by omega)) (sr_eX (hall j hj) (br_f (by decide) (nm_r (nI_1 j) (hk () trivial))))
theorem sx_f77n {post : Int32 → SX → Prop} (n5 : nn < 5) (hall : ¬ ∀ j, j < nn → sr_ok (sr_ev x3 x5 x6 j)) (h : post (-3) (nI mm, nI nn, ce, tg, go, mi)) : ∃ f, wX_fill_77 post (nI t) (nI i) x3 x5 x6 (nI mm) (nI nn) ce tg go mi f 0 := by
  refine pk_loop (σ := Unit) (fun f j _ => wX_fill_77 post (nI t) (nI i) x3 x5 x6 (nI mm) (nI nn) ce tg go mi f (nI j)) (fun j _ => ∀ q, q < j → sr_ok (sr_ev x3 x5 x6 q)) nn 0 () (by omega) (fun q hq => absurd hq (Nat.not_lt_zero q)) ?_ ?_
  · intro f c hc
    exact absurd hc hall
  · intro f j c hj hc hk
    refine br_f (nI_ge hj (by omega)) ?_
    by_cases z : sr_ok (sr_ev x3 x5 x6 j)
    · refine sr_eX z (br_f (by decide) (nm_r (nI_1 j) (hk () ?_)))
      intro q hq
      rcases Nat.lt_or_ge q j with y | y
      · exact hc q y
      · rw [show q = j from by omega]; exact z
    · exact sr_eXn z (br_t rfl h)
theorem sy_f124 {post : Int32 → SY → Prop} (ht : t < 2) (hi : i < 4) (n5 : nn < 5) (h : post 0 (nI mm, nI nn, w, sr_wr ce (16 * t + 4 * i) (sr_ev x3 x5 x6) nn, tg, wk, ra, ca, pe)) : ∃ f, wY_fill_124 post (nI t) (nI i) x3 x5 x6 (nI mm) (nI nn) w f 0 ce tg wk ra ca pe := by
  refine pk_loop (σ := Nat → Int32) (fun f j c => wY_fill_124 post (nI t) (nI i) x3 x5 x6 (nI mm) (nI nn) w f (nI j) c tg wk ra ca pe) (fun j c => c = sr_wr ce (16 * t + 4 * i) (sr_ev x3 x5 x6) j) nn 0 ce (by omega) rfl ?_ ?_
  · intro f c hc
    subst hc
    exact br_t (nI_le (Nat.le_refl nn) (by omega)) h
  · intro f j c hj hc hk
    subst hc
    refine br_f (nI_ge hj (by omega)) ?_
    rw [sf_cellY, nI_clamp (by omega)]
    exact ⟨vp_in_nI (by omega) (by omega), nm_e (nm_r (nI_1 j) (hk _ rfl))⟩
theorem sy_f80 {post : Int32 → SY → Prop} (n5 : nn < 5) (hall : ∀ j, j < nn → sr_ok (sr_ev x3 x5 x6 j)) (h : ∃ f, wY_fill_124 post (nI t) (nI i) x3 x5 x6 (nI mm) (nI nn) w f 0 ce tg wk ra ca pe) : ∃ f, wY_fill_80 post (nI t) (nI i) x3 x5 x6 (nI mm) (nI nn) w ce tg wk ra ca pe f 0 := by
  refine pk_loop (σ := Unit) (fun f j _ => wY_fill_80 post (nI t) (nI i) x3 x5 x6 (nI mm) (nI nn) w ce tg wk ra ca pe f (nI j)) (fun _ _ => True) nn 0 () (by omega) trivial ?_ ?_
  · intro f c _
    exact br_t (nI_le (Nat.le_refl nn) (by omega)) h
  · intro f j c hj _ hk
    exact br_f (nI_ge hj (by omega)) (sr_eY (hall j hj) (br_t rfl (nm_r (nI_1 j) (hk () trivial))))
theorem sy_f80n {post : Int32 → SY → Prop} (n5 : nn < 5) (hall : ¬ ∀ j, j < nn → sr_ok (sr_ev x3 x5 x6 j)) (h : post (-3) (nI mm, nI nn, w, ce, tg, wk, ra, ca, pe)) : ∃ f, wY_fill_80 post (nI t) (nI i) x3 x5 x6 (nI mm) (nI nn) w ce tg wk ra ca pe f 0 := by
  refine pk_loop (σ := Unit) (fun f j _ => wY_fill_80 post (nI t) (nI i) x3 x5 x6 (nI mm) (nI nn) w ce tg wk ra ca pe f (nI j)) (fun j _ => ∀ q, q < j → sr_ok (sr_ev x3 x5 x6 q)) nn 0 () (by omega) (fun q hq => absurd hq (Nat.not_lt_zero q)) ?_ ?_
  · intro f c hc
    exact absurd hc hall
  · intro f j c hj hc hk
    refine br_f (nI_ge hj (by omega)) ?_
    by_cases z : sr_ok (sr_ev x3 x5 x6 j)
    · refine sr_eY z (br_t rfl (nm_r (nI_1 j) (hk () ?_)))
      intro q hq
      rcases Nat.lt_or_ge q j with y | y
      · exact hc q y
      · rw [show q = j from by omega]; exact z
    · exact sr_eYn z (br_f (by decide) h)
theorem sr_24 {c : Nat} (hc : c < 2 ^ 30) : sr_ok (nI c - 12) ↔ c ≤ 24 := by
  unfold sr_ok
  rw [show nI c - 12 = nI c - nI 12 from rfl, pk_sub_toInt hc (by decide)]
  omega
theorem sr_fill (hI : sr_I mm nn ce tg) (v1 v2 v3 v4 : Int32) : ∃ (r : Int32) (ce' : Nat → Int32), sr_I mm nn ce' tg ∧ (∀ post : Int32 → SX → Prop, post r (nI mm, nI nn, ce', tg, go, mi) → wpX_fill post (nI mm, nI nn, ce, tg, go, mi) v1 v2 v3 v4) ∧ (∀ post : Int32 → SY → Prop, post r (nI mm, nI nn, w, ce', tg, wk, ra, ca, pe) → wpY_fill post (nI mm, nI nn, w, ce, tg, wk, ra, ca, pe) v1 v2 v3 v4) := by
  obtain ⟨m0, m5, n0, n5⟩ := hI.1
  unfold wpX_fill wpY_fill
  dsimp only
  rcases sr_tab v1 with ⟨t, ht, rfl⟩ | ⟨bX, bY⟩
  · rcases sr_row (mm := mm) (cc := nI nn) (n := nI nn) (w := w) (ce := ce) (tg := tg) (go := go) (mi := mi) (wk := wk) (ra := ra) (ca := ca) (pe := pe) m5 v2 with ⟨i, hi, rfl⟩ | ⟨cX, cY⟩
    · by_cases h4 : v4 < 0
      · exact ⟨-3, ce, hI, fun post hp => sr_tX ht (br_f (by decide) (sr_rX m5 hi (br_f (by decide) (br_f (Int32.not_le.mpr h4) hp)))), fun post hp => sr_tY ht (br_t rfl (sr_rY m5 hi (br_t rfl (br_t h4 hp))))⟩
      · obtain ⟨b, hb, rfl⟩ := nI_of h4
        have h4' : 0 ≤ nI b := Int32.not_lt.mp h4
        have e1 : nI b / 32 = nI (b / 32) := pk_div hb (by decide : 0 < 32) (by decide)
        have e2 : nI b - nI b / 32 * 32 = nI (b % 32) := pk_rem hb (by decide : 0 < 32) (by decide)
        have n32 : ¬ (32 : Int32) = 0 := by decide
        have k1 := sr_24 (c := b / 32) (by omega)
        have k2 := sr_24 (c := b % 32) (by omega)
        rw [e2, e1]
        by_cases z1 : sr_ok v3 ∧ b / 32 ≤ 24 ∧ b % 32 ≤ 24
        · obtain ⟨y1, y2, y3⟩ := z1
          by_cases hall : ∀ j, j < nn → sr_ok (sr_ev v3 (nI (b / 32) - 12) (nI (b % 32) - 12) j)
          · exact ⟨0, sr_wr ce (16 * t + 4 * i) (sr_ev v3 (nI (b / 32) - 12) (nI (b % 32) - 12)) nn, sr_wrI hI hi nn (Nat.le_refl nn) hall,
              fun post hp => sr_tX ht (br_f (by decide) (sr_rX m5 hi (br_f (by decide) (br_t h4' ⟨n32, nm_e ⟨n32, nm_e (sr_eX y1 (br_f (by decide) (sr_eX (k1.mpr y2) (br_f (by decide) (sr_eX (k2.mpr y3) (br_f (by decide) (sx_f77 n5 hall (sx_f120 ht (by omega) n5 hp))))))))⟩⟩)))),
              fun post hp => sr_tY ht (br_t rfl (sr_rY m5 hi (br_t rfl (br_f h4 ⟨n32, br_f (nI_nlt (a := 24) y2 (by omega)) ⟨n32, br_f (nI_nlt (a := 24) y3 (by omega)) (sr_eY y1 (br_t rfl ⟨n32, nm_e ⟨n32, nm_e (sy_f80 n5 hall (sy_f124 ht (by omega) n5 hp))⟩⟩))⟩⟩))))⟩
          · exact ⟨-3, ce, hI,
              fun post hp => sr_tX ht (br_f (by decide) (sr_rX m5 hi (br_f (by decide) (br_t h4' ⟨n32, nm_e ⟨n32, nm_e (sr_eX y1 (br_f (by decide) (sr_eX (k1.mpr y2) (br_f (by decide) (sr_eX (k2.mpr y3) (br_f (by decide) (sx_f77n n5 hall hp)))))))⟩⟩)))),
              fun post hp => sr_tY ht (br_t rfl (sr_rY m5 hi (br_t rfl (br_f h4 ⟨n32, br_f (nI_nlt (a := 24) y2 (by omega)) ⟨n32, br_f (nI_nlt (a := 24) y3 (by omega)) (sr_eY y1 (br_t rfl ⟨n32, nm_e ⟨n32, nm_e (sy_f80n n5 hall hp)⟩⟩))⟩⟩))))⟩
        · refine ⟨-3, ce, hI, fun post hp => sr_tX ht (br_f (by decide) (sr_rX m5 hi (br_f (by decide) (br_t h4' ⟨n32, nm_e ⟨n32, nm_e ?_⟩⟩)))), fun post hp => sr_tY ht (br_t rfl (sr_rY m5 hi (br_t rfl (br_f h4 ⟨n32, ?_⟩))))⟩
          · by_cases y1 : sr_ok v3
            · refine sr_eX y1 (br_f (by decide) ?_)
              by_cases y2 : b / 32 ≤ 24
              · exact sr_eX (k1.mpr y2) (br_f (by decide) (sr_eXn (fun y3 => z1 ⟨y1, y2, k2.mp y3⟩) (br_t rfl hp)))
              · exact sr_eXn (fun y => y2 (k1.mp y)) (br_t rfl hp)
            · exact sr_eXn y1 (br_t rfl hp)
          · by_cases y2 : b / 32 ≤ 24
            · refine br_f (nI_nlt (a := 24) y2 (by omega)) ⟨n32, ?_⟩
              by_cases y3 : b % 32 ≤ 24
              · exact br_f (nI_nlt (a := 24) y3 (by omega)) (sr_eYn (fun y1 => z1 ⟨y1, y2, y3⟩) (br_f (by decide) hp))
              · exact br_t (nI_lt (a := 24) (by omega) (by omega)) hp
            · exact br_t (nI_lt (a := 24) (by omega) (by omega)) hp
    · exact ⟨-2, ce, hI, fun post hp => sr_tX ht (br_f (by decide) (cX _ (br_t rfl hp))), fun post hp => sr_tY ht (br_t rfl (cY _ (br_f (by decide) hp)))⟩
  · exact ⟨-1, ce, hI, fun post hp => bX _ (br_t rfl hp), fun post hp => bY _ _ (br_f (by decide) hp)⟩
end
theorem i_vc_fill {k : Nat} {u : SX} {v : SY} (I : i_Rel k u v) (hk : k + 5 ≤ 2562) (v1 : Int32) (v2 : Int32) (v3 : Int32) (v4 : Int32) : wpX_fill (fun r u' => wpY_fill (fun r' v' => r' = r ∧ i_Rel (k + 5) u' v') v v1 v2 v3 v4) u v1 v2 v3 v4 := by
  obtain ⟨mm, nn, ce, tg, go, mi, w, wk, ra, ca, pe, rfl, rfl, hI, hG, hZ⟩ := I
  obtain ⟨r, ce', hI', hX, hY⟩ := sr_fill (w := w) (go := go) (mi := mi) (wk := wk) (ra := ra) (ca := ca) (pe := pe) hI v1 v2 v3 v4
  exact hX _ (hY _ ⟨rfl, sr_mk hI' hG hZ⟩)
/-! mirror -/
def sr_mw (ce : Nat → Int32) (t nn i : Nat) : Nat → Nat → Int32
  | 0 => ce
  | j + 1 => upd (sr_mw ce t nn i j) (16 * t + 4 * i + j) (sr_mw ce t nn i j (16 * (1 - t) + 4 * i + (nn - 1 - j)))
def sr_mo (ce : Nat → Int32) (t nn : Nat) : Nat → Nat → Int32
  | 0 => ce
  | i + 1 => sr_mw (sr_mo ce t nn i) t nn i nn
theorem sr_mwI {mm nn : Nat} {ce tg : Nat → Int32} {t i : Nat} (hI : sr_I mm nn ce tg) (hi : i < mm) : ∀ j, j ≤ nn → sr_I mm nn (sr_mw ce t nn i j) tg := by
  obtain ⟨m0, m5, n0, n5⟩ := hI.1
  intro j
  induction j with
  | zero => intro _; exact hI
  | succ j ih =>
    intro hj
    have h := ih (by omega)
    exact sr_up h (h.2.1 _) (by omega) (by omega)
theorem sr_moI {mm nn : Nat} {ce tg : Nat → Int32} {t : Nat} (hI : sr_I mm nn ce tg) : ∀ i, i ≤ mm → sr_I mm nn (sr_mo ce t nn i) tg := by
  intro i
  induction i with
  | zero => intro _; exact hI
  | succ i ih =>
    intro hi
    exact sr_mwI (ih (by omega)) (by omega) nn (Nat.le_refl nn)
section
variable {mm nn : Nat} {w : Int32} {ce tg go : Nat → Int32} {mi wk : Nat → Int64} {ra ca pe : Nat → Int32} {t : Nat}
theorem sr_1t (ht : t < 2) : 1 - nI t = nI (1 - t) := pk_sub (a := 1) (b := t) (by omega)
theorem sx_mirror {post : Int32 → SX → Prop} (ht : t < 2) (m5 : mm < 5) (n5 : nn < 5) (h : post 0 (nI mm, nI nn, sr_mo ce t nn mm, tg, go, mi)) : ∃ f, wX_mirror_11 post (nI t) (nI mm) (nI nn) f 0 ce tg go mi := by
  refine pk_loop (σ := Nat → Int32) (fun f i c => wX_mirror_11 post (nI t) (nI mm) (nI nn) f (nI i) c tg go mi) (fun i c => c = sr_mo ce t nn i) mm 0 ce (by omega) rfl ?_ ?_
  · intro f c hc
    subst hc
    exact br_t (nI_le (Nat.le_refl mm) (by omega)) h
  · intro f i c hi hc hk
    refine br_f (nI_ge hi (by omega)) ?_
    refine pk_loop (σ := Nat → Int32) (fun f' j c => wX_mirror_21 post (wX_mirror_11 post (nI t) (nI mm) (nI nn) f) (nI t) (nI i) (nI mm) (nI nn) f' (nI j) c tg go mi) (fun j c => c = sr_mw (sr_mo ce t nn i) t nn i j) nn 0 c (by omega) hc ?_ ?_
    · intro f' c' hc'
      exact br_t (nI_le (Nat.le_refl nn) (by omega)) (nm_r (nI_1 i) (hk c' hc'))
    · intro f' j c' hj hc' hkj
      subst hc'
      have e : nI nn - 1 - nI j = nI (nn - 1 - j) := by
        show nI nn - nI 1 - nI j = _
        rw [pk_sub (by omega), pk_sub (by omega)]
      refine br_f (nI_ge hj (by omega)) ?_
      unfold wpX_cellAt
      dsimp only
      rw [sr_1t ht, e, sf_cell, sf_cell, nI_clamp (by omega), nI_clamp (by omega)]
      exact ⟨vp_in_nI (by omega) (by omega), vp_in_nI (by omega) (by omega), nm_e (nm_r (nI_1 j) (hkj _ rfl))⟩
theorem sy_mirror {post : Int32 → SY → Prop} (ht : t < 2) (m5 : mm < 5) (n5 : nn < 5) (h : post 0 (nI mm, nI nn, w, sr_mo ce t nn mm, tg, wk, ra, ca, pe)) : ∃ f, wY_mirror_12 post (nI t) (nI mm) (nI nn) w f 0 ce tg wk ra ca pe := by
  refine pk_loop (σ := Nat → Int32) (fun f i c => wY_mirror_12 post (nI t) (nI mm) (nI nn) w f (nI i) c tg wk ra ca pe) (fun i c => c = sr_mo ce t nn i) mm 0 ce (by omega) rfl ?_ ?_
  · intro f c hc
    subst hc
    exact br_t (nI_le (Nat.le_refl mm) (by omega)) h
  · intro f i c hi hc hk
    refine br_f (nI_ge hi (by omega)) ?_
    refine pk_loop (σ := Nat → Int32) (fun f' j c => wY_mirror_22 post (wY_mirror_12 post (nI t) (nI mm) (nI nn) w f) (nI t) (nI i) (nI mm) (nI nn) w f' (nI j) c tg wk ra ca pe) (fun j c => c = sr_mw (sr_mo ce t nn i) t nn i j) nn 0 c (by omega) hc ?_ ?_
    · intro f' c' hc'
      exact br_t (nI_le (Nat.le_refl nn) (by omega)) (nm_r (nI_1 i) (hk c' hc'))
    · intro f' j c' hj hc' hkj
      subst hc'
      have e : 16 - 16 * nI t + 4 * nI i + nI nn - 1 - nI j = nI (16 * (1 - t) + 4 * i + (nn - 1 - j)) := by
        show nI 16 - nI 16 * nI t + nI 4 * nI i + nI nn - nI 1 - nI j = _
        rw [pk_mul, pk_mul, pk_sub (by omega), nI_add, nI_add, pk_sub (by omega), pk_sub (by omega)]
        exact congrArg nI (by omega)
      refine br_f (nI_ge hj (by omega)) ?_
      rw [e, sf_cellY, nI_clamp (by omega), nI_clamp (by omega)]
      exact ⟨vp_in_nI (by omega) (by omega), vp_in_nI (by omega) (by omega), nm_e (nm_r (nI_1 j) (hkj _ rfl))⟩
end
theorem i_vc_mirror {k : Nat} {u : SX} {v : SY} (I : i_Rel k u v) (hk : k + 5 ≤ 2562) (v1 : Int32) : wpX_mirror (fun r u' => wpY_mirror (fun r' v' => r' = r ∧ i_Rel (k + 5) u' v') v v1) u v1 := by
  obtain ⟨mm, nn, ce, tg, go, mi, w, wk, ra, ca, pe, rfl, rfl, hI, hG, hZ⟩ := I
  obtain ⟨m0, m5, n0, n5⟩ := hI.1
  unfold wpX_mirror wpY_mirror
  dsimp only
  rcases sr_tab v1 with ⟨t, ht, rfl⟩ | ⟨bX, bY⟩
  · exact sr_tX ht (br_f (by decide) (sx_mirror ht m5 n5 (sr_tY ht (br_t rfl (sy_mirror ht m5 n5 ⟨rfl, sr_mk (sr_moI hI mm (Nat.le_refl mm)) hG hZ⟩)))))
  · exact bX _ (br_t rfl (bY _ _ (br_f (by decide) ⟨rfl, sr_mk hI hG hZ⟩)))
end
section
/-! rank, divisor, factor, classes, determinant -/
section
variable {mm nn t : Nat} {ce tg go go' : Nat → Int32} {wk : Nat → Int64}
theorem sr_hb (hI : sr_I mm nn ce tg) (hG : sr_G go) : ∀ i, i < 4 → ∀ j, j < 5 → sf_ab (sx_F ce go t i j) ≤ 200 := by
  intro i _ j _
  unfold sx_F
  by_cases e : j = 4
  · rw [if_pos e, sf_ab64]
    have := hG i
    omega
  · rw [if_neg e, sf_ab64]
    have := hI.2.1 (16 * t + 4 * i + j)
    omega
theorem sr_z64 : (0 : Int32).toInt64 = 0 := by decide
theorem sr_hr (ht : t < 2) (hI : sr_I mm nn ce tg) (hz : ∀ i, i < 4 → mm ≤ i → go i = 0) : ∀ i, i < 4 → mm ≤ i → ∀ j, j < 5 → sx_F ce go t i j = 0 := by
  intro i hi hm j hj
  unfold sx_F
  by_cases e : j = 4
  · rw [if_pos e, hz i hi hm, sr_z64]
  · rw [if_neg e, hI.2.2.1 (16 * t + 4 * i + j) (by omega) (Or.inl (by omega)), sr_z64]
theorem sr_hc (ht : t < 2) (hI : sr_I mm nn ce tg) : ∀ j, j < 4 → nn ≤ j → ∀ i, i < 4 → sx_F ce go t i j = 0 := by
  intro j hj hn i hi
  unfold sx_F
  rw [if_neg (by omega), hI.2.2.1 (16 * t + 4 * i + j) (by omega) (Or.inr (by omega)), sr_z64]
theorem sr_hW (n5 : nn < 5) (hW : ∀ i, i < 4 → ∀ j, j < 4 → wk (5 * i + j) = (ce (16 * t + 4 * i + j)).toInt64) : ∀ i, i < 4 → ∀ j, j < nn → wk (5 * i + j) = sx_F ce go t i j := by
  intro i hi j hj
  unfold sx_F
  rw [if_neg (by omega)]
  exact hW i hi j (by omega)
theorem sr_pmg {k r c : Nat} (hc : c < 16) : sf_pm (sx_F ce go t) k r c = sf_pm (sx_F ce go' t) k r c := by
  refine sf_pm_no (fun i _ j hj => ?_) k r c (by omega) (sf_S4b c hc).2
  unfold sx_F
  rw [if_neg (by omega), if_neg (by omega)]
theorem sr_D (k : Nat) : sf_D (sx_F ce go t) k = sf_D (sx_F ce go' t) k := by
  refine sf_go_congr 16 (fun a ha b hb => ?_)
  rw [sr_pmg (go := go) (go' := go') hb]
theorem sr_V (ht : t < 2) (hI : sr_I mm nn ce tg) (hW : ∀ i, i < 4 → ∀ j, j < 4 → wk (5 * i + j) = (ce (16 * t + 4 * i + j)).toInt64) {k : Nat} (hk : k ≤ 4) : sy_V wk mm nn k = sf_D (sx_F ce go t) k := by
  obtain ⟨m0, m5, n0, n5⟩ := hI.1
  rw [sy_V1 (F := sx_F ce tg t) m5 m0 n5 n0 (sr_hW n5 hW) (sr_hr ht hI hI.2.2.2.2) (sr_hc ht hI) hk]
  exact sr_D k
theorem sr_B (hI : sr_I mm nn ce tg) (hW : ∀ i, i < 4 → ∀ j, j < 4 → wk (5 * i + j) = (ce (16 * t + 4 * i + j)).toInt64) : sy_B wk mm nn := by
  obtain ⟨m0, m5, n0, n5⟩ := hI.1
  exact sy_B1 (F := sx_F ce tg t) n5 n0 m5 (sr_hW n5 hW) (sr_hb hI hI.2.2.2.1)
end
theorem i_vc_rank {k : Nat} {u : SX} {v : SY} (I : i_Rel k u v) (hk : k + 5 ≤ 2562) (v1 : Int32) : wpX_rank (fun r u' => wpY_rank (fun r' v' => r' = r ∧ i_Rel (k + 5) u' v') v v1) u v1 := by
  obtain ⟨mm, nn, ce, tg, go, mi, w, wk, ra, ca, pe, rfl, rfl, hI, hG, hZ⟩ := I
  obtain ⟨m0, m5, n0, n5⟩ := hI.1
  unfold wpX_rank wpY_rank
  dsimp only
  rcases sr_tab v1 with ⟨t, ht, rfl⟩ | ⟨bX, bY⟩
  · refine sr_tX ht (br_f (by decide) (sx_find ht hZ (fun M hM hR => ?_)))
    refine sx_rank (F := sx_F ce go t) ⟨hM, hR, sr_hb hI hG⟩ ?_
    refine sr_tY ht (br_t rfl (sy_take ht (fun wk' hW => ?_)))
    refine sy_ranked (by omega) (by omega) (sr_B hI hW) (fun ra' ca' pe' => ⟨?_, sr_mk hI hG hM⟩)
    rw [sf_rD_congr 4 (fun j _ hj => sr_V (go := go) ht hI hW hj)]
  · exact bX _ (br_t rfl (bY _ _ (br_f (by decide) ⟨rfl, sr_mk hI hG hZ⟩)))
theorem i_vc_divisor {k : Nat} {u : SX} {v : SY} (I : i_Rel k u v) (hk : k + 5 ≤ 2562) (v1 : Int32) (v2 : Int32) : wpX_divisor (fun r u' => wpY_divisor (fun r' v' => r' = r ∧ i_Rel (k + 5) u' v') v v1 v2) u v1 v2 := by
  obtain ⟨mm, nn, ce, tg, go, mi, w, wk, ra, ca, pe, rfl, rfl, hI, hG, hZ⟩ := I
  obtain ⟨m0, m5, n0, n5⟩ := hI.1
  unfold wpX_divisor wpY_divisor
  dsimp only
  rcases sr_tab v1 with ⟨t, ht, rfl⟩ | ⟨bX, bY⟩
  · by_cases h0 : v2 < 0
    · exact sr_tX ht (br_f (by decide) (br_t h0 (sr_tY ht (br_t rfl (br_t h0 ⟨rfl, sr_mk hI hG hZ⟩)))))
    · by_cases h4 : v2 ≤ 4
      · obtain ⟨d, hd, rfl⟩ := nI_of h0
        have d4 : d ≤ 4 := (nI_leI (b := 4) hd (by decide)).mp h4
        refine sr_tX ht (br_f (by decide) (br_f h0 (br_t h4 (sx_find ht hZ (fun M hM hR => ?_)))))
        refine sx_fD (F := sx_F ce go t) (by omega) ⟨hM, hR, sr_hb hI hG⟩ ?_
        refine sr_tY ht (br_t rfl (br_f h0 (br_t h4 (sy_take ht (fun wk' hW => ?_)))))
        refine sy_div (by omega) (by omega) d4 (sr_B hI hW) (fun ra' ca' pe' => ⟨?_, sr_mk hI hG hM⟩)
        rw [sr_V (go := go) ht hI hW d4]
      · exact sr_tX ht (br_f (by decide) (br_f h0 (br_f h4 (sr_tY ht (br_t rfl (br_f h0 (br_f h4 ⟨rfl, sr_mk hI hG hZ⟩)))))))
  · exact bX _ (br_t rfl (bY _ _ (br_f (by decide) ⟨rfl, sr_mk hI hG hZ⟩)))
theorem i_vc_factor {k : Nat} {u : SX} {v : SY} (I : i_Rel k u v) (hk : k + 5 ≤ 2562) (v1 : Int32) (v2 : Int32) : wpX_factor (fun r u' => wpY_factor (fun r' v' => r' = r ∧ i_Rel (k + 5) u' v') v v1 v2) u v1 v2 := by
  obtain ⟨mm, nn, ce, tg, go, mi, w, wk, ra, ca, pe, rfl, rfl, hI, hG, hZ⟩ := I
  obtain ⟨m0, m5, n0, n5⟩ := hI.1
  unfold wpX_factor
  dsimp only
  rcases sr_tab v1 with ⟨t, ht, rfl⟩ | ⟨bX, bY⟩
  · by_cases h0 : v2 < 1
    · refine sr_tX ht (br_f (by decide) (br_t h0 ?_))
      unfold wpY_factor
      dsimp only
      exact sr_tY ht (br_t rfl (br_t h0 ⟨rfl, sr_mk hI hG hZ⟩))
    · by_cases h4 : v2 ≤ 4
      · obtain ⟨d, hd, rfl⟩ := nI_of (x := v2) (Int32.not_lt.mpr (Int32.le_trans (by decide : (0 : Int32) ≤ 1) (Int32.not_lt.mp h0)))
        have d4 : d ≤ 4 := (nI_leI (b := 4) hd (by decide)).mp h4
        have d1 : 1 ≤ d := (nI_leI (a := 1) (by decide) hd).mp (Int32.not_lt.mp h0)
        obtain ⟨c, rfl⟩ : ∃ c, d = c + 1 := ⟨d - 1, by omega⟩
        have hb := sr_hb (t := t) hI hG
        refine sr_tX ht (br_f (by decide) (br_f h0 (br_t h4 (sx_find ht hZ (fun M hM hR => ?_)))))
        dsimp only
        rw [nI_pred]
        have hO : sx_OK (sx_F ce go t) M := ⟨hM, hR, hb⟩
        have l0 := sf_Dlt hb (k := c) (by omega)
        have l1 := sf_Dlt hb (k := c + 1) (by omega)
        refine sx_fD (by omega) hO ?_
        have Y : ∀ r : Int64, r = (if sf_D (sx_F ce go t) c = 0 then 0 else lN (sf_D (sx_F ce go t) (c + 1) / sf_D (sx_F ce go t) c)) → wpY_factor (fun r' v' => r' = r ∧ i_Rel (k + 5) (nI mm, nI nn, ce, tg, go, M) v') (nI mm, nI nn, w, ce, tg, wk, ra, ca, pe) (nI t) (nI (c + 1)) := by
          intro r hr
          unfold wpY_factor
          dsimp only
          refine sr_tY ht (br_t rfl (br_f h0 (br_t h4 (sy_take ht (fun wk' hW => ?_)))))
          refine sy_div (by omega) (by omega) d4 (sr_B hI hW) (fun ra1 ca1 pe1 => ?_)
          dsimp only
          rw [nI_pred]
          refine sy_div (by omega) (by omega) (by omega) (sr_B hI hW) (fun ra2 ca2 pe2 => ?_)
          dsimp only
          rw [sr_V (go := go) ht hI hW d4, sr_V (go := go) ht hI hW (show c ≤ 4 by omega)]
          by_cases e1 : sf_D (sx_F ce go t) (c + 1) = 0
          · refine br_t ((sx_lN0 l1).mpr e1) ⟨?_, sr_mk hI hG hM⟩
            rw [hr, e1, Nat.zero_div]
            by_cases e0 : sf_D (sx_F ce go t) c = 0
            · rw [if_pos e0]
            · rw [if_neg e0]; rfl
          · refine br_f (fun z => e1 ((sx_lN0 l1).mp z)) ?_
            by_cases e0 : sf_D (sx_F ce go t) c = 0
            · exact br_t ((sx_lN0 l0).mpr e0) ⟨by rw [hr, if_pos e0], sr_mk hI hG hM⟩
            · have nz : ¬ lN (sf_D (sx_F ce go t) c) = 0 := fun z => e0 ((sx_lN0 l0).mp z)
              refine br_f nz ⟨nz, ?_, sr_mk hI hG hM⟩
              rw [pk_lDiv (by omega) (by omega) (by omega), hr, if_neg e0]
        by_cases e0 : sf_D (sx_F ce go t) c = 0
        · exact br_t ((sx_lN0 l0).mpr e0) (Y 0 (by rw [if_pos e0]))
        · have nz : ¬ lN (sf_D (sx_F ce go t) c) = 0 := fun z => e0 ((sx_lN0 l0).mp z)
          refine br_f nz (sx_fD (by omega) hO ⟨nz, Y _ ?_⟩)
          rw [pk_lDiv (by omega) (by omega) (by omega), if_neg e0]
      · refine sr_tX ht (br_f (by decide) (br_f h0 (br_f h4 ?_)))
        unfold wpY_factor
        dsimp only
        exact sr_tY ht (br_t rfl (br_f h0 (br_f h4 ⟨rfl, sr_mk hI hG hZ⟩)))
  · refine bX _ (br_t rfl ?_)
    unfold wpY_factor
    dsimp only
    exact bY _ _ (br_f (by decide) ⟨rfl, sr_mk hI hG hZ⟩)
theorem i_vc_classes {k : Nat} {u : SX} {v : SY} (I : i_Rel k u v) (hk : k + 5 ≤ 2562) (v1 : Int32) : wpX_classes (fun r u' => wpY_classes (fun r' v' => r' = r ∧ i_Rel (k + 5) u' v') v v1) u v1 := by
  obtain ⟨mm, nn, ce, tg, go, mi, w, wk, ra, ca, pe, rfl, rfl, hI, hG, hZ⟩ := I
  obtain ⟨m0, m5, n0, n5⟩ := hI.1
  unfold wpX_classes wpY_classes
  dsimp only
  rcases sr_tab v1 with ⟨t, ht, rfl⟩ | ⟨bX, bY⟩
  · refine sr_tX ht (br_f (by decide) (sx_find ht hZ (fun M hM hR => ?_)))
    refine sx_fD (F := sx_F ce go t) (by omega) ⟨hM, hR, sr_hb hI hG⟩ ?_
    refine sr_tY ht (br_t rfl (sy_take ht (fun wk' hW => ?_)))
    refine sy_div (by omega) (by omega) (by omega) (sr_B hI hW) (fun ra' ca' pe' => ⟨?_, sr_mk hI hG hM⟩)
    rw [sr_V (go := go) ht hI hW (by omega)]
  · exact bX _ (br_t rfl (bY _ _ (br_f (by decide) ⟨rfl, sr_mk hI hG hZ⟩)))
theorem i_vc_determinant {k : Nat} {u : SX} {v : SY} (I : i_Rel k u v) (hk : k + 5 ≤ 2562) (v1 : Int32) : wpX_determinant (fun r u' => wpY_determinant (fun r' v' => r' = r ∧ i_Rel (k + 5) u' v') v v1) u v1 := by
  obtain ⟨mm, nn, ce, tg, go, mi, w, wk, ra, ca, pe, rfl, rfl, hI, hG, hZ⟩ := I
  obtain ⟨m0, m5, n0, n5⟩ := hI.1
  unfold wpX_determinant wpY_determinant
  dsimp only
  rcases sr_tab v1 with ⟨t, ht, rfl⟩ | ⟨bX, bY⟩
  · by_cases e : mm = nn
    · subst e
      have hp := (sf_S7 mm m5).1
      have hp0 : 0 < 2 ^ mm := Nat.two_pow_pos mm
      obtain ⟨a32, asz⟩ := sf_K4 mm m5
      have ea : ((1 : Int32) <<< (nI mm &&& 31)) - 1 = nI (2 ^ mm - 1) := by
        rw [sf_1shl mm (by omega)]
        exact pk_sub (b := 1) (by omega)
      have alt : 2 ^ mm - 1 < 2 ^ mm := by omega
      have a16 : 2 ^ mm - 1 < 16 := by omega
      refine sr_tX ht (br_f (by decide) (br_t rfl (sx_find ht hZ (fun M hM hR => ?_))))
      dsimp only
      refine nm_r ea ?_
      generalize 2 ^ mm - 1 = a at *
      have e2 : nI a * 32 + nI a = nI (32 * a + a) := by
        show nI a * nI 32 + _ = _
        rw [pk_mul, nI_add]; exact congrArg nI (by omega)
      rw [e2]
      refine ⟨vp_in_nI (by omega) (by omega), ?_⟩
      rw [nI_clamp (by omega), hR a a16 a a32 rfl, asz]
      refine sr_tY ht (br_t rfl (br_t rfl (sy_take ht (fun wk' hW => nm_r ea ?_))))
      refine sy_rows a16 (fun ra' hra => sy_cols a32 (by omega) (fun ca' hca => ?_))
      refine sy_minor (G := fun i j => wk' (5 * sf_rk a i + sf_rk a j)) (R := sf_rk a) (C := sf_rk a) (by omega) (fun i hi => ⟨hra i (by omega), sf_S2 a a32 a16 i (by omega)⟩) (fun j hj => ⟨hca j (by omega), sf_rk5 a a32 j (by omega)⟩) (fun i _ j _ => rfl) (fun pe' => ⟨?_, sr_mk hI hG hM⟩)
      exact sf_val1 (F := sx_F ce go t) n5 n0 (sr_hW n5 hW) a16 alt m0 (by omega) asz asz
    · have ne : ¬ nI mm = nI nn := fun z => e ((nI_eq (by omega) (by omega)).mp z)
      exact sr_tX ht (br_f (by decide) (br_f ne (sr_tY ht (br_t rfl (br_f ne ⟨rfl, sr_mk hI hG hZ⟩)))))
  · exact bX _ (br_t rfl (bY _ _ (br_f (by decide) ⟨rfl, sr_mk hI hG hZ⟩)))
end
section
/-! reaches, multiple, within -/
def sr_L (ce go : Nat → Int32) (t : Nat) : Nat := sf_Ls (sf_D (sx_F ce go t)) (sf_E (sx_F ce go t))
theorem sr_Lc {ce go go' : Nat → Int32} {t : Nat} (h : ∀ i, i < 4 → go i = go' i) : sr_L ce go t = sr_L ce go' t := by
  have hF : ∀ i, i < 4 → ∀ j, j < 5 → sx_F ce go t i j = sx_F ce go' t i j := by
    intro i hi j hj
    unfold sx_F
    rw [h i hi]
  have eD : sf_D (sx_F ce go t) = sf_D (sx_F ce go' t) := funext fun k => sf_go_congr 16 (fun a ha b hb => by rw [sf_pm_congr hF])
  have eE : sf_E (sx_F ce go t) = sf_E (sx_F ce go' t) := funext fun k => sf_go_congr 16 (fun a ha b hb => by rw [sf_pm_congr hF])
  unfold sr_L
  rw [eD, eE]
theorem sr_Ll {mm nn t : Nat} {ce tg go : Nat → Int32} (hI : sr_I mm nn ce tg) (hG : sr_G go) : sr_L ce go t < 2 ^ 50 := sf_Ls_lt (by decide) (fun k hk => sf_Dlt (sr_hb hI hG) (by omega))
theorem sr_1 {L : Nat} : (L ≠ 0 ∧ L ∣ 1) ↔ L = 1 := by
  constructor
  · intro h; exact Nat.dvd_one.mp h.2
  · intro h; subst h; exact ⟨by decide, Nat.dvd_refl 1⟩
section
variable {rc cc : Int32} {ce tg go : Nat → Int32} {mi : Nat → Int64}
theorem sx_aimT {post : SX → Prop} (h : ∀ g, (∀ i, i < 4 → g i = tg i) → (∀ i, 4 ≤ i → g i = go i) → post (rc, cc, ce, tg, g, mi)) : wpX_aimGoalAtTarget post (rc, cc, ce, tg, go, mi) := by
  unfold wpX_aimGoalAtTarget
  dsimp only
  refine pk_loop (σ := Nat → Int32) (fun f i g => wX_aimGoalAtTarget_2 post rc cc f (nI i) ce tg g mi) (fun i g => (∀ j, j < i → g j = tg j) ∧ ∀ j, i ≤ j → g j = go j) 4 0 go (by omega) ⟨fun j hj => absurd hj (Nat.not_lt_zero j), fun _ _ => rfl⟩ ?_ ?_
  · intro f g hg
    exact br_t (by decide) (h g hg.1 hg.2)
  · intro f i g hi hg hk
    refine br_f (nI_ge (b := 4) hi (by decide)) ?_
    rw [nI_clamp (by omega)]
    refine ⟨vp_in_nI (by omega) (by omega), vp_in_nI (by omega) (by omega), nm_e (nm_r (nI_1 i) (hk _ ⟨fun j hj => ?_, fun j hj => ?_⟩))⟩
    · rcases Nat.lt_or_ge j i with z | z
      · rw [pk_un (by omega)]; exact hg.1 j z
      · rw [show j = i from by omega]; exact pk_us
    · rw [pk_un (by omega)]; exact hg.2 j (by omega)
theorem sx_aimC {post : SX → Prop} {t c : Nat} (ht : t < 2) (hc : c < 4) (h : ∀ g, (∀ i, i < 4 → g i = ce (16 * t + 4 * i + c)) → (∀ i, 4 ≤ i → g i = go i) → post (rc, cc, ce, tg, g, mi)) : wpX_aimGoalAtColumn post (rc, cc, ce, tg, go, mi) (nI t) (nI c) := by
  unfold wpX_aimGoalAtColumn
  dsimp only
  refine pk_loop (σ := Nat → Int32) (fun f i g => wX_aimGoalAtColumn_2 post (nI t) (nI c) rc cc f (nI i) ce tg g mi) (fun i g => (∀ j, j < i → g j = ce (16 * t + 4 * j + c)) ∧ ∀ j, i ≤ j → g j = go j) 4 0 go (by omega) ⟨fun j hj => absurd hj (Nat.not_lt_zero j), fun _ _ => rfl⟩ ?_ ?_
  · intro f g hg
    exact br_t (by decide) (h g hg.1 hg.2)
  · intro f i g hi hg hk
    refine br_f (nI_ge (b := 4) hi (by decide)) ?_
    unfold wpX_cellAt
    dsimp only
    rw [sf_cell, nI_clamp (by omega), nI_clamp (by omega)]
    refine ⟨vp_in_nI (by omega) (by omega), vp_in_nI (by omega) (by omega), nm_e (nm_r (nI_1 i) (hk _ ⟨fun j hj => ?_, fun j hj => ?_⟩))⟩
    · rcases Nat.lt_or_ge j i with z | z
      · rw [pk_un (by omega)]; exact hg.1 j z
      · rw [show j = i from by omega]; exact pk_us
    · rw [pk_un (by omega)]; exact hg.2 j (by omega)
end
section
variable {mm nn t : Nat} {w : Int32} {ce tg go : Nat → Int32} {wk : Nat → Int64} {ra ca pe : Nat → Int32}
theorem sy_meets {post : Int32 → SY → Prop} {q : Nat} (ht : t < 2) (hI : sr_I mm nn ce tg) (hG : sr_G go) (hg : ∀ i, i < 4 → go i = tg i) (q1 : 0 < q) (q100 : q ≤ 100)
    (h1 : (sr_L ce go t ≠ 0 ∧ sr_L ce go t ∣ q) → ∀ w' wk' ra' ca' pe', post 1 (nI mm, nI nn, w', ce, tg, wk', ra', ca', pe'))
    (h2 : ¬ (sr_L ce go t ≠ 0 ∧ sr_L ce go t ∣ q) → ∀ w' wk' ra' ca' pe', post 0 (nI mm, nI nn, w', ce, tg, wk', ra', ca', pe')) :
    wpY_meets post (nI mm, nI nn, w, ce, tg, wk, ra, ca, pe) (nI t) (nI q) := by
  obtain ⟨m0, m5, n0, n5⟩ := hI.1
  unfold wpY_meets
  dsimp only
  refine sy_take ht (fun wk1 hW => ?_)
  dsimp only
  refine pk_loop (σ := Nat → Int64) (fun f i W => wY_meets_7 post (nI q) (nI mm) (nI nn) (nI nn) f (nI i) ce tg W ra ca pe) (fun i W => (∀ a, a < 4 → ∀ j, j < nn → W (5 * a + j) = sx_F ce go t a j) ∧ ∀ a, a < i → W (5 * a + nn) = (tg a).toInt64 * (nI q).toInt64) 4 0 wk1 (by omega) ⟨sr_hW n5 hW, fun a ha => absurd ha (Nat.not_lt_zero a)⟩ ?_ ?_
  · intro f W hW'
    refine br_t (by decide) ?_
    have eq : sf_ab (nI q).toInt64 = q := by
      rw [nI_l (by omega), sf_abN (by omega)]
    have hGF : ∀ i, i < 4 → W (5 * i + nn) = sx_F ce go t i 4 * (nI q).toInt64 := by
      intro i hi
      rw [hW'.2 i hi]
      unfold sx_F
      rw [if_pos rfl, hg i hi]
    have hz : ∀ i, i < 4 → mm ≤ i → go i = 0 := fun i hi hm => (hg i hi).trans (hI.2.2.2.2 i hi hm)
    refine sy_met (F := sx_F ce go t) (q := (nI q).toInt64) m5 m0 n5 n0 hW'.1 hGF (sr_hr ht hI hz) (sr_hc ht hI) (sr_hb hI hG) (by rw [eq]; exact q100) (by rw [eq]; exact q1) (fun z w' ra' ca' pe' => ⟨rfl, ?_⟩) (fun z w' ra' ca' pe' => ⟨rfl, ?_⟩)
    · rw [eq] at z
      exact h1 z _ _ _ _ _
    · rw [eq] at z
      exact h2 z _ _ _ _ _
  · intro f i W hi hW' hk
    have e2 : 5 * nI i + nI nn = nI (5 * i + nn) := by
      show nI 5 * _ + _ = _
      rw [pk_mul, nI_add]
    refine br_f (nI_ge (b := 4) hi (by decide)) ?_
    rw [e2, nI_clamp (by omega), nI_clamp (by omega)]
    refine ⟨vp_in_nI (by omega) (by omega), vp_in_nI (by omega) (by omega), nm_e (nm_r (nI_1 i) (hk _ ⟨fun a ha j hj => ?_, fun a ha => ?_⟩))⟩
    · rw [pk_uLn (by omega)]; exact hW'.1 a ha j hj
    · rcases Nat.lt_or_ge a i with z | z
      · rw [pk_uLn (by omega)]; exact hW'.2 a z
      · rw [show a = i from by omega]; exact pk_uLs
end
theorem sr_Gt {mm nn : Nat} {ce tg go g : Nat → Int32} (hI : sr_I mm nn ce tg) (hG : sr_G go) (h1 : ∀ i, i < 4 → g i = tg i) (h2 : ∀ i, 4 ≤ i → g i = go i) : sr_G g := by
  intro i
  rcases Nat.lt_or_ge i 4 with z | z
  · rw [h1 i z]; exact hI.2.2.2.1 i
  · rw [h2 i z]; exact hG i
theorem i_vc_reaches {k : Nat} {u : SX} {v : SY} (I : i_Rel k u v) (hk : k + 5 ≤ 2562) (v1 : Int32) : wpX_reaches (fun r u' => wpY_reaches (fun r' v' => r' = r ∧ i_Rel (k + 5) u' v') v v1) u v1 := by
  obtain ⟨mm, nn, ce, tg, go, mi, w, wk, ra, ca, pe, rfl, rfl, hI, hG, hZ⟩ := I
  unfold wpX_reaches wpY_reaches
  dsimp only
  rcases sr_tab v1 with ⟨t, ht, rfl⟩ | ⟨bX, bY⟩
  · refine sr_tX ht (br_f (by decide) (sx_aimT (fun g g1 g2 => ?_)))
    have hG' := sr_Gt hI hG g1 g2
    have hl : sr_L ce g t < 2 ^ 50 := sr_Ll hI hG'
    refine sx_lmg ht hZ (sr_hb hI hG') (fun M hM => ?_)
    dsimp only
    by_cases e : sr_L ce g t = 1
    · refine br_t (by show lN (sr_L ce g t) = 1; rw [e]; rfl) (sr_tY ht (br_t rfl (sy_meets (q := 1) ht hI hG' g1 (by decide) (by decide) (fun z w' wk' ra' ca' pe' => br_f (by decide) ⟨rfl, sr_mk hI hG' hM⟩) (fun z => absurd (sr_1.mpr e) z))))
    · refine br_f (fun z => e ((pk_lEQ (b := 1) (by omega) (by decide)).mp z)) (sr_tY ht (br_t rfl (sy_meets (q := 1) ht hI hG' g1 (by decide) (by decide) (fun z => absurd (sr_1.mp z) e) (fun z w' wk' ra' ca' pe' => br_t rfl ⟨rfl, sr_mk hI hG' hM⟩))))
  · exact bX _ (br_t rfl (bY _ _ (br_f (by decide) ⟨rfl, sr_mk hI hG hZ⟩)))
theorem sy_mult {mm nn t : Nat} {w : Int32} {ce tg go : Nat → Int32} {wk : Nat → Int64} {ra ca pe : Nat → Int32} {post : Int32 → SY → Prop} (ht : t < 2) (hI : sr_I mm nn ce tg) (hG : sr_G go) (hg : ∀ i, i < 4 → go i = tg i)
    (h : ∀ w' wk' ra' ca' pe', post (if sr_L ce go t ≤ 100 then nI (sr_L ce go t) else 0) (nI mm, nI nn, w', ce, tg, wk', ra', ca', pe')) :
    ∃ f, wY_multiple_12 post (nI t) f 1 (nI mm) (nI nn) w ce tg wk ra ca pe := by
  refine pk_loop (σ := Int32 × (Nat → Int64) × (Nat → Int32) × (Nat → Int32) × (Nat → Int32)) (fun f i s => wY_multiple_12 post (nI t) f (nI i) (nI mm) (nI nn) s.1 ce tg s.2.1 s.2.2.1 s.2.2.2.1 s.2.2.2.2) (fun i _ => 0 < i ∧ ∀ q, 0 < q → q < i → ¬ (sr_L ce go t ≠ 0 ∧ sr_L ce go t ∣ q)) 101 1 (w, wk, ra, ca, pe) (by omega) ⟨by decide, fun q a b => by omega⟩ ?_ ?_
  · intro f s hs
    have hp := h s.1 s.2.1 s.2.2.1 s.2.2.2.1 s.2.2.2.2
    refine br_t (by decide) ?_
    by_cases z : sr_L ce go t ≤ 100
    · rw [if_pos z] at hp
      have z0 : sr_L ce go t = 0 := by
        rcases Nat.eq_zero_or_pos (sr_L ce go t) with y | y
        · exact y
        · exact absurd ⟨by omega, Nat.dvd_refl _⟩ (hs.2 (sr_L ce go t) y (by omega))
      rw [z0] at hp
      exact hp
    · rw [if_neg z] at hp
      exact hp
  · intro f i s hi hs hk
    refine br_f (nI_nlt (a := 100) (b := i) (by omega) (by decide)) (sy_meets ht hI hG hg hs.1 (by omega) (fun z w' wk' ra' ca' pe' => br_f (by decide) ?_) (fun z w' wk' ra' ca' pe' => br_t rfl (nm_r (nI_1 i) (hk (w', wk', ra', ca', pe') ⟨by omega, ?_⟩))))
    · have e := sf_least hs.2 z hs.1
      have hp := h w' wk' ra' ca' pe'
      rw [e, if_pos (by omega)] at hp
      exact hp
    · intro q a b
      rcases Nat.lt_or_ge q i with y | y
      · exact hs.2 q a y
      · rw [show q = i from by omega]; exact z
theorem i_vc_multiple {k : Nat} {u : SX} {v : SY} (I : i_Rel k u v) (hk : k + 5 ≤ 2562) (v1 : Int32) : wpX_multiple (fun r u' => wpY_multiple (fun r' v' => r' = r ∧ i_Rel (k + 5) u' v') v v1) u v1 := by
  obtain ⟨mm, nn, ce, tg, go, mi, w, wk, ra, ca, pe, rfl, rfl, hI, hG, hZ⟩ := I
  unfold wpX_multiple wpY_multiple
  dsimp only
  rcases sr_tab v1 with ⟨t, ht, rfl⟩ | ⟨bX, bY⟩
  · refine sr_tX ht (br_f (by decide) (sx_aimT (fun g g1 g2 => ?_)))
    have hG' := sr_Gt hI hG g1 g2
    have hl : sr_L ce g t < 2 ^ 50 := sr_Ll hI hG'
    refine sx_lmg ht hZ (sr_hb hI hG') (fun M hM => ?_)
    dsimp only
    by_cases e : sr_L ce g t ≤ 100
    · refine br_t ((pk_lLE (a := sr_L ce g t) (b := 100) (by omega) (by decide)).mpr e) (sr_tY ht (br_t rfl (sy_mult ht hI hG' g1 (fun w' wk' ra' ca' pe' => ⟨?_, sr_mk hI hG' hM⟩))))
      rw [if_pos e]
      exact (lN_i _).symm
    · refine br_f (fun z => e ((pk_lLE (a := sr_L ce g t) (b := 100) (by omega) (by decide)).mp z)) (sr_tY ht (br_t rfl (sy_mult ht hI hG' g1 (fun w' wk' ra' ca' pe' => ⟨?_, sr_mk hI hG' hM⟩))))
      rw [if_neg e]
  · exact bX _ (br_t rfl (bY _ _ (br_f (by decide) ⟨rfl, sr_mk hI hG hZ⟩)))
/-! within -/
def sr_W (ce : Nat → Int32) (t j : Nat) : Nat := sr_L ce (fun i => ce (16 * t + 4 * i + j)) (1 - t)
theorem sr_Gc {mm nn t c : Nat} {ce tg go g : Nat → Int32} (hI : sr_I mm nn ce tg) (hG : sr_G go) (h1 : ∀ i, i < 4 → g i = ce (16 * t + 4 * i + c)) (h2 : ∀ i, 4 ≤ i → g i = go i) : sr_G g := by
  intro i
  rcases Nat.lt_or_ge i 4 with z | z
  · rw [h1 i z]
    have := hI.2.1 (16 * t + 4 * i + c)
    omega
  · rw [h2 i z]; exact hG i
theorem sr_nx {P : Nat → Prop} {j : Nat} (h : ∀ q, q < j → P q) (hj : P j) : ∀ q, q < j + 1 → P q := by
  intro q hq
  rcases Nat.lt_or_ge q j with z | z
  · exact h q z
  · rw [show q = j from by omega]; exact hj
section
variable {mm nn t : Nat} {w : Int32} {ce tg go : Nat → Int32} {mi wk : Nat → Int64} {ra ca pe : Nat → Int32}
theorem sx_within {post : Int32 → SX → Prop} (ht : t < 2) (hI : sr_I mm nn ce tg) (hG : sr_G go) (hZ : sx_Z mi)
    (h1 : (∀ j, j < nn → sr_W ce t j = 1) → ∀ g M, sr_G g → sx_Z M → post 1 (nI mm, nI nn, ce, tg, g, M))
    (h0 : (¬ ∀ j, j < nn → sr_W ce t j = 1) → ∀ g M, sr_G g → sx_Z M → post 0 (nI mm, nI nn, ce, tg, g, M)) :
    ∃ f, wX_within_11 post (nI t) f 0 (nI mm) (nI nn) ce tg go mi := by
  obtain ⟨m0, m5, n0, n5⟩ := hI.1
  refine pk_loop (σ := (Nat → Int32) × (Nat → Int64)) (fun f j s => wX_within_11 post (nI t) f (nI j) (nI mm) (nI nn) ce tg s.1 s.2) (fun j s => sr_G s.1 ∧ sx_Z s.2 ∧ ∀ q, q < j → sr_W ce t q = 1) nn 0 (go, mi) (by omega) ⟨hG, hZ, fun q hq => absurd hq (Nat.not_lt_zero q)⟩ ?_ ?_
  · intro f s hs
    exact br_t (nI_le (Nat.le_refl nn) (by omega)) (h1 hs.2.2 _ _ hs.1 hs.2.1)
  · intro f j s hj hs hk
    refine br_f (nI_ge hj (by omega)) (sx_aimC ht (by omega) (fun g g1 g2 => ?_))
    dsimp only
    have hG' := sr_Gc hI hs.1 g1 g2
    have hl : sr_L ce g (1 - t) < 2 ^ 50 := sr_Ll hI hG'
    have eL : sr_L ce g (1 - t) = sr_W ce t j := sr_Lc g1
    rw [sr_1t ht]
    refine sx_lmg (t := 1 - t) (by omega) hs.2.1 (sr_hb hI hG') (fun M hM => ?_)
    dsimp only
    by_cases e : sr_W ce t j = 1
    · refine br_t (by show lN (sr_L ce g (1 - t)) = 1; rw [eL, e]; rfl) (nm_r (nI_1 j) (hk (g, M) ⟨hG', hM, sr_nx hs.2.2 e⟩))
    · refine br_f (fun z => e (eL.symm.trans ((pk_lEQ (b := 1) (by omega) (by decide)).mp z))) (h0 (fun z => e (z j hj)) _ _ hG' hM)
theorem sy_within {post : Int32 → SY → Prop} (ht : t < 2) (hI : sr_I mm nn ce tg)
    (h1 : (∀ j, j < nn → sr_W ce t j = 1) → ∀ w' wk' ra' ca' pe', post 1 (nI mm, nI nn, w', ce, tg, wk', ra', ca', pe'))
    (h0 : (¬ ∀ j, j < nn → sr_W ce t j = 1) → ∀ w' wk' ra' ca' pe', post 0 (nI mm, nI nn, w', ce, tg, wk', ra', ca', pe')) :
    ∃ f, wY_within_12 post (nI t) f 0 (nI mm) (nI nn) w ce tg wk ra ca pe := by
  obtain ⟨m0, m5, n0, n5⟩ := hI.1
  refine pk_loop (σ := Int32 × (Nat → Int64) × (Nat → Int32) × (Nat → Int32) × (Nat → Int32)) (fun f j s => wY_within_12 post (nI t) f (nI j) (nI mm) (nI nn) s.1 ce tg s.2.1 s.2.2.1 s.2.2.2.1 s.2.2.2.2) (fun j _ => ∀ q, q < j → sr_W ce t q = 1) nn 0 (w, wk, ra, ca, pe) (by omega) (fun q hq => absurd hq (Nat.not_lt_zero q)) ?_ ?_
  · intro f s hs
    exact br_t (nI_le (Nat.le_refl nn) (by omega)) (h1 hs _ _ _ _ _)
  · intro f j s hj hs hk
    refine br_f (nI_ge hj (by omega)) ?_
    rw [sr_1t ht]
    refine sy_take (t := 1 - t) (by omega) (fun wk1 hW => ?_)
    dsimp only
    have hGj : sr_G (fun i => ce (16 * t + 4 * i + j)) := by
      intro i
      have := hI.2.1 (16 * t + 4 * i + j)
      show -200 ≤ (ce (16 * t + 4 * i + j)).toInt ∧ (ce (16 * t + 4 * i + j)).toInt ≤ 200
      omega
    have hz : ∀ i, i < 4 → mm ≤ i → (fun i => ce (16 * t + 4 * i + j)) i = 0 := fun i hi hm => hI.2.2.1 (16 * t + 4 * i + j) (by omega) (Or.inl (by omega))
    refine pk_loop (σ := Nat → Int64) (fun f' i W => wY_within_29 post (wY_within_12 post (nI t) f) (nI t) (nI j) (nI mm) (nI nn) (nI nn) f' (nI i) ce tg W s.2.2.1 s.2.2.2.1 s.2.2.2.2) (fun i W => (∀ a, a < 4 → ∀ b, b < nn → W (5 * a + b) = sx_F ce (fun i => ce (16 * t + 4 * i + j)) (1 - t) a b) ∧ ∀ a, a < i → W (5 * a + nn) = (ce (16 * t + 4 * a + j)).toInt64) 4 0 wk1 (by omega) ⟨sr_hW n5 hW, fun a ha => absurd ha (Nat.not_lt_zero a)⟩ ?_ ?_
    · intro f' W hW'
      refine br_t (by decide) ?_
      have hGF : ∀ i, i < 4 → W (5 * i + nn) = sx_F ce (fun i => ce (16 * t + 4 * i + j)) (1 - t) i 4 * 1 := by
        intro i hi
        rw [hW'.2 i hi]
        unfold sx_F
        rw [if_pos rfl]
        grind
      refine sy_met (F := sx_F ce (fun i => ce (16 * t + 4 * i + j)) (1 - t)) (q := 1) m5 m0 n5 n0 hW'.1 hGF (sr_hr (by omega) hI hz) (sr_hc (by omega) hI) (sr_hb hI hGj) (by decide) (by decide) (fun z w' ra' ca' pe' => ?_) (fun z w' ra' ca' pe' => ?_)
      · have z1 : sr_W ce t j = 1 := sr_1.mp z
        exact br_f (by decide) (nm_r (nI_1 j) (hk (w', W, ra', ca', pe') (sr_nx hs z1)))
      · exact br_t rfl (h0 (fun y => z (sr_1.mpr (y j hj))) _ _ _ _ _)
    · intro f' i W hi hW' hki
      have e2 : 5 * nI i + nI nn = nI (5 * i + nn) := by
        show nI 5 * _ + _ = _
        rw [pk_mul, nI_add]
      refine br_f (nI_ge (b := 4) hi (by decide)) ?_
      rw [sf_cellY, e2, nI_clamp (by omega), nI_clamp (by omega)]
      refine ⟨vp_in_nI (by omega) (by omega), vp_in_nI (by omega) (by omega), nm_e (nm_r (nI_1 i) (hki _ ⟨fun a ha b hb => ?_, fun a ha => ?_⟩))⟩
      · rw [pk_uLn (by omega)]; exact hW'.1 a ha b hb
      · rcases Nat.lt_or_ge a i with z | z
        · rw [pk_uLn (by omega)]; exact hW'.2 a z
        · rw [show a = i from by omega]; exact pk_uLs
end
theorem i_vc_within {k : Nat} {u : SX} {v : SY} (I : i_Rel k u v) (hk : k + 5 ≤ 2562) (v1 : Int32) : wpX_within (fun r u' => wpY_within (fun r' v' => r' = r ∧ i_Rel (k + 5) u' v') v v1) u v1 := by
  obtain ⟨mm, nn, ce, tg, go, mi, w, wk, ra, ca, pe, rfl, rfl, hI, hG, hZ⟩ := I
  unfold wpX_within wpY_within
  dsimp only
  rcases sr_tab v1 with ⟨t, ht, rfl⟩ | ⟨bX, bY⟩
  · refine sr_tX ht (br_f (by decide) (sx_within ht hI hG hZ (fun hall g M hg hM => sr_tY ht (br_t rfl (sy_within ht hI (fun _ w' wk' ra' ca' pe' => ⟨rfl, sr_mk hI hg hM⟩) (fun z => absurd hall z)))) (fun hall g M hg hM => sr_tY ht (br_t rfl (sy_within ht hI (fun z => absurd z hall) (fun _ w' wk' ra' ca' pe' => ⟨rfl, sr_mk hI hg hM⟩))))))
  · exact bX _ (br_t rfl (bY _ _ (br_f (by decide) ⟨rfl, sr_mk hI hG hZ⟩)))
end
section
/-! solutions -/
def sr_dg (p : Int32) (c : Int32) : Nat → Int32
  | 0 => c
  | j + 1 => sr_dg p c j / p
def sr_ls (ce : Nat → Int32) (b : Nat) (p c s : Int32) : Nat → Int32
  | 0 => s
  | j + 1 => sr_ls ce b p c s j + ce (b + j) * (sr_dg p c j - sr_dg p c j / p * p)
theorem sr_ring (a b d : Int32) : a - b + d = a + d - b := by grind
theorem sr_ls_t (ce : Nat → Int32) (b : Nat) (p c x : Int32) : ∀ j, sr_ls ce b p c (-x) j = sr_ls ce b p c 0 j - x := by
  intro j
  induction j with
  | zero => show -x = 0 - x; grind
  | succ j ih =>
    show sr_ls ce b p c (-x) j + _ = sr_ls ce b p c 0 j + _ - x
    rw [ih, sr_ring]
def sr_cd (ce tg : Nat → Int32) (t nn : Nat) (p c : Int32) (i : Nat) : Prop :=
  (sr_ls ce (16 * t + 4 * i) p c 0 nn - tg i) - (sr_ls ce (16 * t + 4 * i) p c 0 nn - tg i) / p * p = 0
section
variable {mm nn t : Nat} {w p : Int32} {ce tg go : Nat → Int32} {mi wk : Nat → Int64} {ra ca pe : Nat → Int32}
theorem sx_sol28 {post : Int32 → Prop} {J : Int32 → Prop} {c x : Int32} {i : Nat} (ht : t < 2) (hi : i < 4) (n5 : nn < 5) (hp : ¬ p = 0)
    (h1 : (sr_ls ce (16 * t + 4 * i) p c x nn - sr_ls ce (16 * t + 4 * i) p c x nn / p * p = 0) → J (nI (i + 1)))
    (h0 : (¬ sr_ls ce (16 * t + 4 * i) p c x nn - sr_ls ce (16 * t + 4 * i) p c x nn / p * p = 0) → post 0) :
    ∃ f, wX_isSolution_28 post J (nI t) p c (nI i) (nI mm) (nI nn) ce tg go mi f x c 0 := by
  refine pk_loop (σ := Int32 × Int32) (fun f j s => wX_isSolution_28 post J (nI t) p c (nI i) (nI mm) (nI nn) ce tg go mi f s.1 s.2 (nI j)) (fun j s => s = (sr_ls ce (16 * t + 4 * i) p c x j, sr_dg p c j)) nn 0 (x, c) (by omega) rfl ?_ ?_
  · intro f s hs
    subst hs
    exact br_t (nI_le (Nat.le_refl nn) (by omega)) ⟨hp, br_c (fun z => nm_r (nI_1 i) (h1 z)) (fun z => h0 z)⟩
  · intro f j s hj hs hk
    subst hs
    refine br_f (nI_ge hj (by omega)) ?_
    unfold wpX_cellAt
    dsimp only
    rw [sf_cell, nI_clamp (by omega)]
    exact ⟨vp_in_nI (by omega) (by omega), hp, nm_e ⟨hp, nm_e (nm_r (nI_1 j) (hk (_, _) rfl))⟩⟩
theorem sx_isSol {post : Int32 → Prop} {c : Int32} (ht : t < 2) (m5 : mm < 5) (n5 : nn < 5) (hp : ¬ p = 0)
    (h1 : (∀ i, i < mm → sr_cd ce tg t nn p c i) → post 1) (h0 : (¬ ∀ i, i < mm → sr_cd ce tg t nn p c i) → post 0) :
    wpX_isSolution post (nI mm, nI nn, ce, tg, go, mi) (nI t) p c := by
  unfold wpX_isSolution
  dsimp only
  refine pk_loop (σ := Unit) (fun f i _ => wX_isSolution_3 post (nI t) p c (nI mm) (nI nn) ce tg go mi f (nI i)) (fun i _ => ∀ q, q < i → sr_cd ce tg t nn p c q) mm 0 () (by omega) (fun q hq => absurd hq (Nat.not_lt_zero q)) ?_ ?_
  · intro f s hs
    exact br_t (nI_le (Nat.le_refl mm) (by omega)) (h1 hs)
  · intro f i s hi hs hk
    refine br_f (nI_ge hi (by omega)) ?_
    rw [nI_clamp (by omega)]
    refine ⟨vp_in_nI (by omega) (by omega), nm_e (sx_sol28 ht (by omega) n5 hp (fun z => hk () ?_) (fun z => h0 (fun y => z ?_)))⟩
    · rw [sr_ls_t] at z
      exact sr_nx hs z
    · rw [sr_ls_t]
      exact y i hi
theorem sy_left {post : Int32 → Prop} {c : Int32} {i : Nat} (ht : t < 2) (hi : i < 4) (n5 : nn < 5) (hp : ¬ p = 0) (h : post (sr_ls ce (16 * t + 4 * i) p c 0 nn)) : wpY_left post (nI mm, nI nn, w, ce, tg, wk, ra, ca, pe) (nI t) (nI i) c p := by
  unfold wpY_left
  dsimp only
  refine pk_loop (σ := Int32 × Int32) (fun f j s => wY_left_9 post (nI t) (nI i) p (nI mm) (nI nn) w ce tg wk ra ca pe f s.1 s.2 (nI j)) (fun j s => s = (sr_ls ce (16 * t + 4 * i) p c 0 j, sr_dg p c j)) nn 0 (0, c) (by omega) rfl ?_ ?_
  · intro f s hs
    subst hs
    exact br_t (nI_le (Nat.le_refl nn) (by omega)) h
  · intro f j s hj hs hk
    subst hs
    refine br_f (nI_ge hj (by omega)) ?_
    rw [sf_cellY, nI_clamp (by omega)]
    exact ⟨vp_in_nI (by omega) (by omega), hp, nm_e ⟨hp, nm_e (nm_r (nI_1 j) (hk (_, _) rfl))⟩⟩
theorem sy_sol66 {post : Int32 → Prop} {J : Int32 → Int32 → Prop} {x3 x4 : Int32} {c : Nat} (ht : t < 2) (m5 : mm < 5) (n5 : nn < 5) (hp : ¬ p = 0)
    (h1 : (∀ i, i < mm → sr_cd ce tg t nn p (nI c) i) → J (x4 + 1) (nI (c + 1))) (h0 : (¬ ∀ i, i < mm → sr_cd ce tg t nn p (nI c) i) → J x4 (nI (c + 1))) :
    ∃ f, wY_solutions_66 post J (nI t) p x3 x4 (nI c) (nI mm) (nI nn) w ce tg wk ra ca pe f 1 0 := by
  refine pk_loop (σ := Int32) (fun f i x => wY_solutions_66 post J (nI t) p x3 x4 (nI c) (nI mm) (nI nn) w ce tg wk ra ca pe f x (nI i)) (fun i x => (x = 1 ∧ ∀ q, q < i → sr_cd ce tg t nn p (nI c) q) ∨ (x = 0 ∧ ¬ ∀ q, q < mm → sr_cd ce tg t nn p (nI c) q)) mm 0 1 (by omega) (Or.inl ⟨rfl, fun q hq => absurd hq (Nat.not_lt_zero q)⟩) ?_ ?_
  · intro f x hx
    refine br_t (nI_le (Nat.le_refl mm) (by omega)) ?_
    rcases hx with ⟨rfl, hx⟩ | ⟨rfl, hx⟩
    · exact br_f (by decide) (nm_e (nm_r (nI_1 c) (h1 hx)))
    · exact br_t rfl (nm_r (nI_1 c) (h0 hx))
  · intro f i x hi hx hk
    refine br_f (nI_ge hi (by omega)) (sy_left ht (by omega) n5 hp ?_)
    rw [nI_clamp (by omega)]
    refine ⟨vp_in_nI (by omega) (by omega), hp, br_c (fun z => nm_r (nI_1 i) (hk _ ?_)) (fun z => nm_r (nI_1 i) (hk _ ?_))⟩
    · rcases hx with ⟨hx1, hx2⟩ | hx
      · exact Or.inl ⟨hx1, sr_nx hx2 z⟩
      · exact Or.inr hx
    · exact Or.inr ⟨rfl, fun y => z (y i hi)⟩
/-! both count -/
theorem sr_count {N : Nat} (hN : N < 2 ^ 31) (ht : t < 2) (m5 : mm < 5) (n5 : nn < 5) (hp : ¬ p = 0) : ∀ d c : Nat, c + d = N → ∀ x : Int32, ∃ r : Int32, (∀ post : Int32 → Prop, post r → wX_solutions_53 post (nI t) p (nI N) (nI mm) (nI nn) ce tg go mi (d + 1) x (nI c)) ∧ (∀ post : Int32 → Prop, post r → wY_solutions_54 post (nI t) p (nI N) (nI mm) (nI nn) w ce tg wk ra ca pe (d + 1) x (nI c)) := by
  intro d
  induction d with
  | zero =>
    intro c hc x
    have e : c = N := by omega
    subst e
    exact ⟨x, fun post h => br_t (nI_le (Nat.le_refl c) hN) h, fun post h => br_t (nI_le (Nat.le_refl c) hN) h⟩
  | succ d ih =>
    intro c hc x
    have hlt : ¬ nI N ≤ nI c := nI_ge (by omega) hN
    by_cases hall : ∀ i, i < mm → sr_cd ce tg t nn p (nI c) i
    · obtain ⟨r, hX, hY⟩ := ih (c + 1) (by omega) (x + 1)
      refine ⟨r, fun post h => br_f hlt (sx_isSol ht m5 n5 hp (fun _ => br_f (by decide) (nm_e (nm_r (nI_1 c) (hX post h)))) (fun z => absurd hall z)), fun post h => br_f hlt (sy_sol66 ht m5 n5 hp (fun _ => hY post h) (fun z => absurd hall z))⟩
    · obtain ⟨r, hX, hY⟩ := ih (c + 1) (by omega) x
      refine ⟨r, fun post h => br_f hlt (sx_isSol ht m5 n5 hp (fun z => absurd z hall) (fun _ => br_t rfl (nm_r (nI_1 c) (hX post h)))), fun post h => br_f hlt (sy_sol66 ht m5 n5 hp (fun z => absurd z hall) (fun _ => hY post h))⟩
theorem sx_sol {post : Int32 → Prop} {q : Nat} (n5 : nn < 5) (h : ∃ f, wX_solutions_53 post (nI t) (nI q) (nI (q ^ nn)) (nI mm) (nI nn) ce tg go mi f 0 0) : ∃ f, wX_solutions_28 post (nI t) (nI q) (nI mm) (nI nn) ce tg go mi f 1 0 := by
  refine pk_loop (σ := Int32) (fun f j x => wX_solutions_28 post (nI t) (nI q) (nI mm) (nI nn) ce tg go mi f x (nI j)) (fun j x => x = nI (q ^ j)) nn 0 1 (by omega) rfl ?_ ?_
  · intro f x hx
    subst hx
    exact br_t (nI_le (Nat.le_refl nn) (by omega)) h
  · intro f j x hj hx hk
    subst hx
    exact br_f (nI_ge hj (by omega)) (nm_r (e' := nI (q ^ (j + 1))) (by rw [pk_mul, Nat.pow_succ]) (nm_r (nI_1 j) (hk _ rfl)))
theorem sy_sol {post : Int32 → Prop} {q : Nat} (n5 : nn < 5) (h : ∃ f, wY_solutions_54 post (nI t) (nI q) (nI (q ^ nn)) (nI mm) (nI nn) w ce tg wk ra ca pe f 0 0) : ∃ f, wY_solutions_29 post (nI t) (nI q) (nI mm) (nI nn) w ce tg wk ra ca pe f 1 0 := by
  refine pk_loop (σ := Int32) (fun f j x => wY_solutions_29 post (nI t) (nI q) (nI mm) (nI nn) w ce tg wk ra ca pe f x (nI j)) (fun j x => x = nI (q ^ j)) nn 0 1 (by omega) rfl ?_ ?_
  · intro f x hx
    subst hx
    exact br_t (nI_le (Nat.le_refl nn) (by omega)) h
  · intro f j x hj hx hk
    subst hx
    exact br_f (nI_ge hj (by omega)) (nm_r (e' := nI (q ^ (j + 1))) (by rw [pk_mul, Nat.pow_succ]) (nm_r (nI_1 j) (hk _ rfl)))
end
theorem i_vc_solutions {k : Nat} {u : SX} {v : SY} (I : i_Rel k u v) (hk : k + 5 ≤ 2562) (v1 : Int32) (v2 : Int32) : wpX_solutions (fun r => wpY_solutions (fun r' => r' = r ∧ i_Rel (k + 5) u v) v v1 v2) u v1 v2 := by
  obtain ⟨mm, nn, ce, tg, go, mi, w, wk, ra, ca, pe, rfl, rfl, hI, hG, hZ⟩ := I
  obtain ⟨m0, m5, n0, n5⟩ := hI.1
  unfold wpX_solutions wpY_solutions
  dsimp only
  rcases sr_tab v1 with ⟨t, ht, rfl⟩ | ⟨bX, bY⟩
  · by_cases h0 : v2 < 1
    · exact sr_tX ht (br_f (by decide) (br_t h0 (sr_tY ht (br_t rfl (br_t h0 ⟨rfl, sr_mk hI hG hZ⟩)))))
    · by_cases h6 : v2 ≤ 6
      · obtain ⟨q, hq, rfl⟩ := nI_of (x := v2) (Int32.not_lt.mpr (Int32.le_trans (by decide : (0 : Int32) ≤ 1) (Int32.not_lt.mp h0)))
        have q6 : q ≤ 6 := (nI_leI (b := 6) hq (by decide)).mp h6
        have q1 : 1 ≤ q := (nI_leI (a := 1) (by decide) hq).mp (Int32.not_lt.mp h0)
        have hN : q ^ nn < 2 ^ 31 := by
          have a1 : q ^ nn ≤ 6 ^ nn := Nat.pow_le_pow_left q6 nn
          have a2 : 6 ^ nn ≤ 6 ^ 4 := Nat.pow_le_pow_right (by decide) (by omega)
          exact Nat.lt_of_le_of_lt (Nat.le_trans a1 a2) (by decide)
        obtain ⟨r, hX, hY⟩ := sr_count (w := w) (go := go) (mi := mi) (wk := wk) (ra := ra) (ca := ca) (pe := pe) (ce := ce) (tg := tg) (p := nI q) hN ht m5 n5 (nI_ne0 (by omega) hq) (q ^ nn) 0 (by omega) 0
        exact sr_tX ht (br_f (by decide) (br_f h0 (br_t h6 (sx_sol n5 ⟨_, hX _ (sr_tY ht (br_t rfl (br_f h0 (br_t h6 (sy_sol n5 ⟨_, hY _ ⟨rfl, sr_mk hI hG hZ⟩⟩)))))⟩))))
      · exact sr_tX ht (br_f (by decide) (br_f h0 (br_f h6 (sr_tY ht (br_t rfl (br_f h0 (br_f h6 ⟨rfl, sr_mk hI hG hZ⟩)))))))
  · exact bX _ (br_t rfl (bY _ _ (br_f (by decide) ⟨rfl, sr_mk hI hG hZ⟩)))
end
