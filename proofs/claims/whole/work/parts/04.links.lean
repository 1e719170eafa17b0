/-! the i-th member of a set; minors over sets as minors over the first k rows and columns -/
def sf_rkg (s : Nat) : Nat → Nat → Nat → Nat
  | 0, _, _ => 0
  | d + 1, j, i => if s / 2 ^ j % 2 = 1 then (if i = 0 then j else sf_rkg s d (j + 1) (i - 1)) else sf_rkg s d (j + 1) i
def sf_rk (s i : Nat) : Nat := sf_rkg s 5 0 i
theorem sf_lr1 (F : Nat → Nat → Int64) (c : Nat) : sf_pm F 1 1 c = sf_pm (fun i j => F (sf_rk 1 i) j) 1 1 c := by rfl
theorem sf_lr2 (F : Nat → Nat → Int64) (c : Nat) : sf_pm F 1 2 c = sf_pm (fun i j => F (sf_rk 2 i) j) 1 1 c := by rfl
theorem sf_lr3 (F : Nat → Nat → Int64) (c : Nat) : sf_pm F 2 3 c = sf_pm (fun i j => F (sf_rk 3 i) j) 2 3 c := by rfl
theorem sf_lr4 (F : Nat → Nat → Int64) (c : Nat) : sf_pm F 1 4 c = sf_pm (fun i j => F (sf_rk 4 i) j) 1 1 c := by rfl
theorem sf_lr5 (F : Nat → Nat → Int64) (c : Nat) : sf_pm F 2 5 c = sf_pm (fun i j => F (sf_rk 5 i) j) 2 3 c := by rfl
theorem sf_lr6 (F : Nat → Nat → Int64) (c : Nat) : sf_pm F 2 6 c = sf_pm (fun i j => F (sf_rk 6 i) j) 2 3 c := by rfl
theorem sf_lr7 (F : Nat → Nat → Int64) (c : Nat) : sf_pm F 3 7 c = sf_pm (fun i j => F (sf_rk 7 i) j) 3 7 c := by rfl
theorem sf_lr8 (F : Nat → Nat → Int64) (c : Nat) : sf_pm F 1 8 c = sf_pm (fun i j => F (sf_rk 8 i) j) 1 1 c := by rfl
theorem sf_lr9 (F : Nat → Nat → Int64) (c : Nat) : sf_pm F 2 9 c = sf_pm (fun i j => F (sf_rk 9 i) j) 2 3 c := by rfl
theorem sf_lr10 (F : Nat → Nat → Int64) (c : Nat) : sf_pm F 2 10 c = sf_pm (fun i j => F (sf_rk 10 i) j) 2 3 c := by rfl
theorem sf_lr11 (F : Nat → Nat → Int64) (c : Nat) : sf_pm F 3 11 c = sf_pm (fun i j => F (sf_rk 11 i) j) 3 7 c := by rfl
theorem sf_lr12 (F : Nat → Nat → Int64) (c : Nat) : sf_pm F 2 12 c = sf_pm (fun i j => F (sf_rk 12 i) j) 2 3 c := by rfl
theorem sf_lr13 (F : Nat → Nat → Int64) (c : Nat) : sf_pm F 3 13 c = sf_pm (fun i j => F (sf_rk 13 i) j) 3 7 c := by rfl
theorem sf_lr14 (F : Nat → Nat → Int64) (c : Nat) : sf_pm F 3 14 c = sf_pm (fun i j => F (sf_rk 14 i) j) 3 7 c := by rfl
theorem sf_lr15 (F : Nat → Nat → Int64) (c : Nat) : sf_pm F 4 15 c = sf_pm (fun i j => F (sf_rk 15 i) j) 4 15 c := by rfl
theorem sf_lc1 (F : Nat → Nat → Int64) : sf_pm F 1 1 1 = sf_pm (fun i j => F i (sf_rk 1 j)) 1 1 1 := by rfl
theorem sf_lc2 (F : Nat → Nat → Int64) : sf_pm F 1 1 2 = sf_pm (fun i j => F i (sf_rk 2 j)) 1 1 1 := by rfl
theorem sf_lc3 (F : Nat → Nat → Int64) : sf_pm F 2 3 3 = sf_pm (fun i j => F i (sf_rk 3 j)) 2 3 3 := by rfl
theorem sf_lc4 (F : Nat → Nat → Int64) : sf_pm F 1 1 4 = sf_pm (fun i j => F i (sf_rk 4 j)) 1 1 1 := by rfl
theorem sf_lc5 (F : Nat → Nat → Int64) : sf_pm F 2 3 5 = sf_pm (fun i j => F i (sf_rk 5 j)) 2 3 3 := by rfl
theorem sf_lc6 (F : Nat → Nat → Int64) : sf_pm F 2 3 6 = sf_pm (fun i j => F i (sf_rk 6 j)) 2 3 3 := by rfl
theorem sf_lc7 (F : Nat → Nat → Int64) : sf_pm F 3 7 7 = sf_pm (fun i j => F i (sf_rk 7 j)) 3 7 7 := by rfl
theorem sf_lc8 (F : Nat → Nat → Int64) : sf_pm F 1 1 8 = sf_pm (fun i j => F i (sf_rk 8 j)) 1 1 1 := by rfl
theorem sf_lc9 (F : Nat → Nat → Int64) : sf_pm F 2 3 9 = sf_pm (fun i j => F i (sf_rk 9 j)) 2 3 3 := by rfl
theorem sf_lc10 (F : Nat → Nat → Int64) : sf_pm F 2 3 10 = sf_pm (fun i j => F i (sf_rk 10 j)) 2 3 3 := by rfl
theorem sf_lc11 (F : Nat → Nat → Int64) : sf_pm F 3 7 11 = sf_pm (fun i j => F i (sf_rk 11 j)) 3 7 7 := by rfl
theorem sf_lc12 (F : Nat → Nat → Int64) : sf_pm F 2 3 12 = sf_pm (fun i j => F i (sf_rk 12 j)) 2 3 3 := by rfl
theorem sf_lc13 (F : Nat → Nat → Int64) : sf_pm F 3 7 13 = sf_pm (fun i j => F i (sf_rk 13 j)) 3 7 7 := by rfl
theorem sf_lc14 (F : Nat → Nat → Int64) : sf_pm F 3 7 14 = sf_pm (fun i j => F i (sf_rk 14 j)) 3 7 7 := by rfl
theorem sf_lc15 (F : Nat → Nat → Int64) : sf_pm F 4 15 15 = sf_pm (fun i j => F i (sf_rk 15 j)) 4 15 15 := by rfl
theorem sf_lc16 (F : Nat → Nat → Int64) : sf_pm F 1 1 16 = sf_pm (fun i j => F i (sf_rk 16 j)) 1 1 1 := by rfl
theorem sf_lc17 (F : Nat → Nat → Int64) : sf_pm F 2 3 17 = sf_pm (fun i j => F i (sf_rk 17 j)) 2 3 3 := by rfl
theorem sf_lc18 (F : Nat → Nat → Int64) : sf_pm F 2 3 18 = sf_pm (fun i j => F i (sf_rk 18 j)) 2 3 3 := by rfl
theorem sf_lc19 (F : Nat → Nat → Int64) : sf_pm F 3 7 19 = sf_pm (fun i j => F i (sf_rk 19 j)) 3 7 7 := by rfl
theorem sf_lc20 (F : Nat → Nat → Int64) : sf_pm F 2 3 20 = sf_pm (fun i j => F i (sf_rk 20 j)) 2 3 3 := by rfl
theorem sf_lc21 (F : Nat → Nat → Int64) : sf_pm F 3 7 21 = sf_pm (fun i j => F i (sf_rk 21 j)) 3 7 7 := by rfl
theorem sf_lc22 (F : Nat → Nat → Int64) : sf_pm F 3 7 22 = sf_pm (fun i j => F i (sf_rk 22 j)) 3 7 7 := by rfl
theorem sf_lc23 (F : Nat → Nat → Int64) : sf_pm F 4 15 23 = sf_pm (fun i j => F i (sf_rk 23 j)) 4 15 15 := by rfl
theorem sf_lc24 (F : Nat → Nat → Int64) : sf_pm F 2 3 24 = sf_pm (fun i j => F i (sf_rk 24 j)) 2 3 3 := by rfl
theorem sf_lc25 (F : Nat → Nat → Int64) : sf_pm F 3 7 25 = sf_pm (fun i j => F i (sf_rk 25 j)) 3 7 7 := by rfl
theorem sf_lc26 (F : Nat → Nat → Int64) : sf_pm F 3 7 26 = sf_pm (fun i j => F i (sf_rk 26 j)) 3 7 7 := by rfl
theorem sf_lc27 (F : Nat → Nat → Int64) : sf_pm F 4 15 27 = sf_pm (fun i j => F i (sf_rk 27 j)) 4 15 15 := by rfl
theorem sf_lc28 (F : Nat → Nat → Int64) : sf_pm F 3 7 28 = sf_pm (fun i j => F i (sf_rk 28 j)) 3 7 7 := by rfl
theorem sf_lc29 (F : Nat → Nat → Int64) : sf_pm F 4 15 29 = sf_pm (fun i j => F i (sf_rk 29 j)) 4 15 15 := by rfl
theorem sf_lc30 (F : Nat → Nat → Int64) : sf_pm F 4 15 30 = sf_pm (fun i j => F i (sf_rk 30 j)) 4 15 15 := by rfl
theorem sf_lr (F : Nat → Nat → Int64) (c : Nat) : ∀ r, r < 16 → 0 < r → sf_pm F (sf_sz r) r c = sf_pm (fun i j => F (sf_rk r i) j) (sf_sz r) (2 ^ sf_sz r - 1) c := by
  intro r hr h0
  have h : r = 1 ∨ r = 2 ∨ r = 3 ∨ r = 4 ∨ r = 5 ∨ r = 6 ∨ r = 7 ∨ r = 8 ∨ r = 9 ∨ r = 10 ∨ r = 11 ∨ r = 12 ∨ r = 13 ∨ r = 14 ∨ r = 15 := by omega
  rcases h with rfl | rfl | rfl | rfl | rfl | rfl | rfl | rfl | rfl | rfl | rfl | rfl | rfl | rfl | rfl
  · exact sf_lr1 F c
  · exact sf_lr2 F c
  · exact sf_lr3 F c
  · exact sf_lr4 F c
  · exact sf_lr5 F c
  · exact sf_lr6 F c
  · exact sf_lr7 F c
  · exact sf_lr8 F c
  · exact sf_lr9 F c
  · exact sf_lr10 F c
  · exact sf_lr11 F c
  · exact sf_lr12 F c
  · exact sf_lr13 F c
  · exact sf_lr14 F c
  · exact sf_lr15 F c
theorem sf_lc (F : Nat → Nat → Int64) : ∀ c, c < 31 → 0 < c → sf_pm F (sf_sz c) (2 ^ sf_sz c - 1) c = sf_pm (fun i j => F i (sf_rk c j)) (sf_sz c) (2 ^ sf_sz c - 1) (2 ^ sf_sz c - 1) := by
  intro c hr h0
  have h : c = 1 ∨ c = 2 ∨ c = 3 ∨ c = 4 ∨ c = 5 ∨ c = 6 ∨ c = 7 ∨ c = 8 ∨ c = 9 ∨ c = 10 ∨ c = 11 ∨ c = 12 ∨ c = 13 ∨ c = 14 ∨ c = 15 ∨ c = 16 ∨ c = 17 ∨ c = 18 ∨ c = 19 ∨ c = 20 ∨ c = 21 ∨ c = 22 ∨ c = 23 ∨ c = 24 ∨ c = 25 ∨ c = 26 ∨ c = 27 ∨ c = 28 ∨ c = 29 ∨ c = 30 := by omega
  rcases h with rfl | rfl | rfl | rfl | rfl | rfl | rfl | rfl | rfl | rfl | rfl | rfl | rfl | rfl | rfl | rfl | rfl | rfl | rfl | rfl | rfl | rfl | rfl | rfl | rfl | rfl | rfl | rfl | rfl | rfl
  · exact sf_lc1 F
  · exact sf_lc2 F
  · exact sf_lc3 F
  · exact sf_lc4 F
  · exact sf_lc5 F
  · exact sf_lc6 F
  · exact sf_lc7 F
  · exact sf_lc8 F
  · exact sf_lc9 F
  · exact sf_lc10 F
  · exact sf_lc11 F
  · exact sf_lc12 F
  · exact sf_lc13 F
  · exact sf_lc14 F
  · exact sf_lc15 F
  · exact sf_lc16 F
  · exact sf_lc17 F
  · exact sf_lc18 F
  · exact sf_lc19 F
  · exact sf_lc20 F
  · exact sf_lc21 F
  · exact sf_lc22 F
  · exact sf_lc23 F
  · exact sf_lc24 F
  · exact sf_lc25 F
  · exact sf_lc26 F
  · exact sf_lc27 F
  · exact sf_lc28 F
  · exact sf_lc29 F
  · exact sf_lc30 F
theorem sf_link (F : Nat → Nat → Int64) {k r c : Nat} (hr : r < 16) (hc : c < 32) (h0 : 0 < k) (hk : k ≤ 4) (er : sf_sz r = k) (ec : sf_sz c = k) : sf_pm F k r c = sf_pm (fun i j => F (sf_rk r i) (sf_rk c j)) k (2 ^ k - 1) (2 ^ k - 1) := by
  have r0 : 0 < r := by
    rcases Nat.eq_zero_or_pos r with z | z
    · subst z; exact absurd er (by rw [show sf_sz 0 = 0 from rfl]; omega)
    · exact z
  have c0 : 0 < c := by
    rcases Nat.eq_zero_or_pos c with z | z
    · subst z; exact absurd ec (by rw [show sf_sz 0 = 0 from rfl]; omega)
    · exact z
  have c1 : c < 31 := by
    rcases Nat.lt_or_ge c 31 with z | z
    · exact z
    · have : c = 31 := by omega
      subst this; exact absurd ec (by rw [show sf_sz 31 = 5 from rfl]; omega)
  have e1 := sf_lr F c r hr r0
  rw [er] at e1
  rw [e1]
  have e2 := sf_lc (fun i j => F (sf_rk r i) j) c c1 c0
  rw [ec] at e2
  exact e2
/-! Leibniz: the sum over the codes -/
def sf_pv (code i : Nat) : Nat := code / 4 ^ i % 4
def sf_us (code : Nat) : Nat → Nat
  | 0 => 0
  | i + 1 => sf_us code i ||| 2 ^ sf_pv code i
def sf_iv (code i : Nat) (o : Bool) : Nat → Bool
  | 0 => o
  | j + 1 => if sf_pv code i < sf_pv code j then !(sf_iv code i o j) else sf_iv code i o j
def sf_od (code : Nat) : Nat → Bool
  | 0 => false
  | i + 1 => sf_iv code i (sf_od code i) i
def sf_gd (k code i : Nat) : Bool := decide (sf_pv code i < k) && decide (sf_us code i / 2 ^ sf_pv code i % 2 = 0)
def sf_vd (k code : Nat) : Nat → Bool
  | 0 => true
  | i + 1 => sf_vd k code i && sf_gd k code i
def sf_pp (G : Nat → Nat → Int64) (code : Nat) (p : Int64) : Nat → Int64
  | 0 => p
  | i + 1 => sf_pp G code p i * G i (sf_pv code i)
def sf_pr (G : Nat → Nat → Int64) (k code : Nat) : Int64 := if sf_vd k code k = true then sf_pp G code (if sf_od code k = true then -1 else 1) k else 0
def sf_sm (f : Nat → Int64) : Nat → Int64
  | 0 => 0
  | n + 1 => sf_sm f n + f n
def sf_mn (G : Nat → Nat → Int64) (k : Nat) : Int64 := sf_sm (sf_pr G k) (4 ^ k)
theorem sf_sm_f (f : Nat → Int64) (v : Nat → Bool) (hf : ∀ c, v c = false → f c = 0) : ∀ n, sf_sm f n = ((List.range n).filter v).foldl (fun s c => s + f c) 0 := by
  intro n
  induction n with
  | zero => rfl
  | succ n ih =>
    rw [List.range_succ, List.filter_append, List.foldl_append, ← ih]
    show sf_sm f n + f n = _
    cases h : v n with
    | true => simp [List.filter, h]
    | false => simp [List.filter, h, hf n h]
theorem sf_prf (G : Nat → Nat → Int64) (k c : Nat) (h : sf_vd k c k = false) : sf_pr G k c = 0 := by
  unfold sf_pr; rw [h]; rfl
theorem sf_L1 : (List.range 4).filter (fun c => sf_vd 1 c 1) = [0] := by decide +kernel
theorem sf_e1_0 (G : Nat → Nat → Int64) : sf_pr G 1 0 = 1 * G 0 0 := by rfl
theorem sf_x1 (G : Nat → Nat → Int64) : sf_pm G 1 1 1 = (0 + 1 * G 0 0 * 1) := by rfl
theorem sf_mn1 (G : Nat → Nat → Int64) : sf_mn G 1 = sf_pm G 1 1 1 := by
  unfold sf_mn
  rw [show 4 ^ 1 = 4 from rfl, sf_sm_f _ (fun c => sf_vd 1 c 1) (fun c h => sf_prf G 1 c h) 4, sf_L1, sf_x1]
  simp only [List.foldl, sf_e1_0]
  grind
theorem sf_L2 : (List.range 16).filter (fun c => sf_vd 2 c 2) = [1, 4] := by decide +kernel
theorem sf_e2_1 (G : Nat → Nat → Int64) : sf_pr G 2 1 = (-1) * G 0 1 * G 1 0 := by rfl
theorem sf_e2_4 (G : Nat → Nat → Int64) : sf_pr G 2 4 = 1 * G 0 0 * G 1 1 := by rfl
theorem sf_x2 (G : Nat → Nat → Int64) : sf_pm G 2 3 3 = ((0 + 1 * G 0 0 * (0 + 1 * G 1 1 * 1)) + (-1) * G 0 1 * (0 + 1 * G 1 0 * 1)) := by rfl
theorem sf_mn2 (G : Nat → Nat → Int64) : sf_mn G 2 = sf_pm G 2 3 3 := by
  unfold sf_mn
  rw [show 4 ^ 2 = 16 from rfl, sf_sm_f _ (fun c => sf_vd 2 c 2) (fun c h => sf_prf G 2 c h) 16, sf_L2, sf_x2]
  simp only [List.foldl, sf_e2_1, sf_e2_4]
  grind
theorem sf_L3 : (List.range 64).filter (fun c => sf_vd 3 c 3) = [6, 9, 18, 24, 33, 36] := by decide +kernel
theorem sf_e3_6 (G : Nat → Nat → Int64) : sf_pr G 3 6 = (-1) * G 0 2 * G 1 1 * G 2 0 := by rfl
theorem sf_e3_9 (G : Nat → Nat → Int64) : sf_pr G 3 9 = 1 * G 0 1 * G 1 2 * G 2 0 := by rfl
theorem sf_e3_18 (G : Nat → Nat → Int64) : sf_pr G 3 18 = 1 * G 0 2 * G 1 0 * G 2 1 := by rfl
theorem sf_e3_24 (G : Nat → Nat → Int64) : sf_pr G 3 24 = (-1) * G 0 0 * G 1 2 * G 2 1 := by rfl
theorem sf_e3_33 (G : Nat → Nat → Int64) : sf_pr G 3 33 = (-1) * G 0 1 * G 1 0 * G 2 2 := by rfl
theorem sf_e3_36 (G : Nat → Nat → Int64) : sf_pr G 3 36 = 1 * G 0 0 * G 1 1 * G 2 2 := by rfl
theorem sf_x3 (G : Nat → Nat → Int64) : sf_pm G 3 7 7 = (((0 + 1 * G 0 0 * ((0 + 1 * G 1 1 * (0 + 1 * G 2 2 * 1)) + (-1) * G 1 2 * (0 + 1 * G 2 1 * 1))) + (-1) * G 0 1 * ((0 + 1 * G 1 0 * (0 + 1 * G 2 2 * 1)) + (-1) * G 1 2 * (0 + 1 * G 2 0 * 1))) + (-(-1)) * G 0 2 * ((0 + 1 * G 1 0 * (0 + 1 * G 2 1 * 1)) + (-1) * G 1 1 * (0 + 1 * G 2 0 * 1))) := by rfl
theorem sf_mn3 (G : Nat → Nat → Int64) : sf_mn G 3 = sf_pm G 3 7 7 := by
  unfold sf_mn
  rw [show 4 ^ 3 = 64 from rfl, sf_sm_f _ (fun c => sf_vd 3 c 3) (fun c h => sf_prf G 3 c h) 64, sf_L3, sf_x3]
  simp only [List.foldl, sf_e3_6, sf_e3_9, sf_e3_18, sf_e3_24, sf_e3_33, sf_e3_36]
  grind
theorem sf_L4 : (List.range 256).filter (fun c => sf_vd 4 c 4) = [27, 30, 39, 45, 54, 57, 75, 78, 99, 108, 114, 120, 135, 141, 147, 156, 177, 180, 198, 201, 210, 216, 225, 228] := by decide +kernel
theorem sf_e4_27 (G : Nat → Nat → Int64) : sf_pr G 4 27 = 1 * G 0 3 * G 1 2 * G 2 1 * G 3 0 := by rfl
theorem sf_e4_30 (G : Nat → Nat → Int64) : sf_pr G 4 30 = (-1) * G 0 2 * G 1 3 * G 2 1 * G 3 0 := by rfl
theorem sf_e4_39 (G : Nat → Nat → Int64) : sf_pr G 4 39 = (-1) * G 0 3 * G 1 1 * G 2 2 * G 3 0 := by rfl
theorem sf_e4_45 (G : Nat → Nat → Int64) : sf_pr G 4 45 = 1 * G 0 1 * G 1 3 * G 2 2 * G 3 0 := by rfl
theorem sf_e4_54 (G : Nat → Nat → Int64) : sf_pr G 4 54 = 1 * G 0 2 * G 1 1 * G 2 3 * G 3 0 := by rfl
theorem sf_e4_57 (G : Nat → Nat → Int64) : sf_pr G 4 57 = (-1) * G 0 1 * G 1 2 * G 2 3 * G 3 0 := by rfl
theorem sf_e4_75 (G : Nat → Nat → Int64) : sf_pr G 4 75 = (-1) * G 0 3 * G 1 2 * G 2 0 * G 3 1 := by rfl
theorem sf_e4_78 (G : Nat → Nat → Int64) : sf_pr G 4 78 = 1 * G 0 2 * G 1 3 * G 2 0 * G 3 1 := by rfl
theorem sf_e4_99 (G : Nat → Nat → Int64) : sf_pr G 4 99 = 1 * G 0 3 * G 1 0 * G 2 2 * G 3 1 := by rfl
theorem sf_e4_108 (G : Nat → Nat → Int64) : sf_pr G 4 108 = (-1) * G 0 0 * G 1 3 * G 2 2 * G 3 1 := by rfl
theorem sf_e4_114 (G : Nat → Nat → Int64) : sf_pr G 4 114 = (-1) * G 0 2 * G 1 0 * G 2 3 * G 3 1 := by rfl
theorem sf_e4_120 (G : Nat → Nat → Int64) : sf_pr G 4 120 = 1 * G 0 0 * G 1 2 * G 2 3 * G 3 1 := by rfl
theorem sf_e4_135 (G : Nat → Nat → Int64) : sf_pr G 4 135 = 1 * G 0 3 * G 1 1 * G 2 0 * G 3 2 := by rfl
theorem sf_e4_141 (G : Nat → Nat → Int64) : sf_pr G 4 141 = (-1) * G 0 1 * G 1 3 * G 2 0 * G 3 2 := by rfl
theorem sf_e4_147 (G : Nat → Nat → Int64) : sf_pr G 4 147 = (-1) * G 0 3 * G 1 0 * G 2 1 * G 3 2 := by rfl
theorem sf_e4_156 (G : Nat → Nat → Int64) : sf_pr G 4 156 = 1 * G 0 0 * G 1 3 * G 2 1 * G 3 2 := by rfl
theorem sf_e4_177 (G : Nat → Nat → Int64) : sf_pr G 4 177 = 1 * G 0 1 * G 1 0 * G 2 3 * G 3 2 := by rfl
theorem sf_e4_180 (G : Nat → Nat → Int64) : sf_pr G 4 180 = (-1) * G 0 0 * G 1 1 * G 2 3 * G 3 2 := by rfl
theorem sf_e4_198 (G : Nat → Nat → Int64) : sf_pr G 4 198 = (-1) * G 0 2 * G 1 1 * G 2 0 * G 3 3 := by rfl
theorem sf_e4_201 (G : Nat → Nat → Int64) : sf_pr G 4 201 = 1 * G 0 1 * G 1 2 * G 2 0 * G 3 3 := by rfl
theorem sf_e4_210 (G : Nat → Nat → Int64) : sf_pr G 4 210 = 1 * G 0 2 * G 1 0 * G 2 1 * G 3 3 := by rfl
theorem sf_e4_216 (G : Nat → Nat → Int64) : sf_pr G 4 216 = (-1) * G 0 0 * G 1 2 * G 2 1 * G 3 3 := by rfl
theorem sf_e4_225 (G : Nat → Nat → Int64) : sf_pr G 4 225 = (-1) * G 0 1 * G 1 0 * G 2 2 * G 3 3 := by rfl
theorem sf_e4_228 (G : Nat → Nat → Int64) : sf_pr G 4 228 = 1 * G 0 0 * G 1 1 * G 2 2 * G 3 3 := by rfl
theorem sf_x4 (G : Nat → Nat → Int64) : sf_pm G 4 15 15 = ((((0 + 1 * G 0 0 * (((0 + 1 * G 1 1 * ((0 + 1 * G 2 2 * (0 + 1 * G 3 3 * 1)) + (-1) * G 2 3 * (0 + 1 * G 3 2 * 1))) + (-1) * G 1 2 * ((0 + 1 * G 2 1 * (0 + 1 * G 3 3 * 1)) + (-1) * G 2 3 * (0 + 1 * G 3 1 * 1))) + (-(-1)) * G 1 3 * ((0 + 1 * G 2 1 * (0 + 1 * G 3 2 * 1)) + (-1) * G 2 2 * (0 + 1 * G 3 1 * 1)))) + (-1) * G 0 1 * (((0 + 1 * G 1 0 * ((0 + 1 * G 2 2 * (0 + 1 * G 3 3 * 1)) + (-1) * G 2 3 * (0 + 1 * G 3 2 * 1))) + (-1) * G 1 2 * ((0 + 1 * G 2 0 * (0 + 1 * G 3 3 * 1)) + (-1) * G 2 3 * (0 + 1 * G 3 0 * 1))) + (-(-1)) * G 1 3 * ((0 + 1 * G 2 0 * (0 + 1 * G 3 2 * 1)) + (-1) * G 2 2 * (0 + 1 * G 3 0 * 1)))) + (-(-1)) * G 0 2 * (((0 + 1 * G 1 0 * ((0 + 1 * G 2 1 * (0 + 1 * G 3 3 * 1)) + (-1) * G 2 3 * (0 + 1 * G 3 1 * 1))) + (-1) * G 1 1 * ((0 + 1 * G 2 0 * (0 + 1 * G 3 3 * 1)) + (-1) * G 2 3 * (0 + 1 * G 3 0 * 1))) + (-(-1)) * G 1 3 * ((0 + 1 * G 2 0 * (0 + 1 * G 3 1 * 1)) + (-1) * G 2 1 * (0 + 1 * G 3 0 * 1)))) + (-(-(-1))) * G 0 3 * (((0 + 1 * G 1 0 * ((0 + 1 * G 2 1 * (0 + 1 * G 3 2 * 1)) + (-1) * G 2 2 * (0 + 1 * G 3 1 * 1))) + (-1) * G 1 1 * ((0 + 1 * G 2 0 * (0 + 1 * G 3 2 * 1)) + (-1) * G 2 2 * (0 + 1 * G 3 0 * 1))) + (-(-1)) * G 1 2 * ((0 + 1 * G 2 0 * (0 + 1 * G 3 1 * 1)) + (-1) * G 2 1 * (0 + 1 * G 3 0 * 1)))) := by rfl
theorem sf_mn4 (G : Nat → Nat → Int64) : sf_mn G 4 = sf_pm G 4 15 15 := by
  unfold sf_mn
  rw [show 4 ^ 4 = 256 from rfl, sf_sm_f _ (fun c => sf_vd 4 c 4) (fun c h => sf_prf G 4 c h) 256, sf_L4, sf_x4]
  simp only [List.foldl, sf_e4_27, sf_e4_30, sf_e4_39, sf_e4_45, sf_e4_54, sf_e4_57, sf_e4_75, sf_e4_78, sf_e4_99, sf_e4_108, sf_e4_114, sf_e4_120, sf_e4_135, sf_e4_141, sf_e4_147, sf_e4_156, sf_e4_177, sf_e4_180, sf_e4_198, sf_e4_201, sf_e4_210, sf_e4_216, sf_e4_225, sf_e4_228]
  grind
theorem sf_mnE (G : Nat → Nat → Int64) {k : Nat} (h0 : 0 < k) (hk : k ≤ 4) : sf_mn G k = sf_pm G k (2 ^ k - 1) (2 ^ k - 1) := by
  have h : k = 1 ∨ k = 2 ∨ k = 3 ∨ k = 4 := by omega
  rcases h with rfl | rfl | rfl | rfl
  · exact sf_mn1 G
  · exact sf_mn2 G
  · exact sf_mn3 G
  · exact sf_mn4 G
