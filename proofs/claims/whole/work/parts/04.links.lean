/-! the i-th member of a set; minors over sets as minors over the first k rows and columns -/
def sf_rkg (s : Nat) : Nat → Nat → Nat → Nat
  | 0, _, _ => 0
  | d + 1, j, i => if s / 2 ^ j % 2 = 1 then (if i = 0 then j else sf_rkg s d (j + 1) (i - 1)) else sf_rkg s d (j + 1) i
def sf_rk (s i : Nat) : Nat := sf_rkg s 5 0 i
theorem sf_link (F : Nat → Nat → Int64) {k r c : Nat} (hr : r < 16) (hc : c < 32) (h0 : 0 < k) (hk : k ≤ 4) (er : sf_sz r = k) (ec : sf_sz c = k) : sf_pm F k r c = sf_pm (fun i j => F (sf_rk r i) (sf_rk c j)) k (2 ^ k - 1) (2 ^ k - 1) := sorry
/-! Leibniz: the sum over the codes -/
def sf_pv (code i : Nat) : Nat := code / 4 ^ i % 4
def sf_us (code : Nat) : Nat → Nat
  | 0 => 0
  | i + 1 => sf_us code i ||| 2 ^ sf_pv code i
def sf_iv (code i : Nat) (o : Bool) : Nat → Bool
  | 0 => o
  | j + 1 => if sf_pv code i < sf_pv code j then !(sf_iv code i o j) else sf_iv code i o j
def sf_od (code : Nat) : Nat → Bool
  | 0 => false
  | i + 1 => sf_iv code i (sf_od code i) i
def sf_gd (k code i : Nat) : Bool := decide (sf_pv code i < k) && decide (sf_us code i / 2 ^ sf_pv code i % 2 = 0)
def sf_vd (k code : Nat) : Nat → Bool
  | 0 => true
  | i + 1 => sf_vd k code i && sf_gd k code i
def sf_pp (G : Nat → Nat → Int64) (code : Nat) (p : Int64) : Nat → Int64
  | 0 => p
  | i + 1 => sf_pp G code p i * G i (sf_pv code i)
def sf_pr (G : Nat → Nat → Int64) (k code : Nat) : Int64 := if sf_vd k code k = true then sf_pp G code (if sf_od code k = true then -1 else 1) k else 0
def sf_sm (f : Nat → Int64) : Nat → Int64
  | 0 => 0
  | n + 1 => sf_sm f n + f n
def sf_mn (G : Nat → Nat → Int64) (k : Nat) : Int64 := sf_sm (sf_pr G k) (4 ^ k)
theorem sf_mnE (G : Nat → Nat → Int64) {k : Nat} (h0 : 0 < k) (hk : k ≤ 4) : sf_mn G k = sf_pm G k (2 ^ k - 1) (2 ^ k - 1) := sorry
