/-! the i-th member of a set; minors over sets as minors over the first k rows and columns -/
def sf_rkg (s : Nat) : Nat → Nat → Nat → Nat
  | 0, _, _ => 0
  | d + 1, j, i => if s / 2 ^ j % 2 = 1 then (if i = 0 then j else sf_rkg s d (j + 1) (i - 1)) else sf_rkg s d (j + 1) i
def sf_rk (s i : Nat) : Nat := sf_rkg s 5 0 i
theorem sf_lr (F : Nat → Nat → Int64) (c : Nat) : ∀ r, r < 16 → 0 < r → sf_pm F (sf_sz r) r c = sf_pm (fun i j => F (sf_rk r i) j) (sf_sz r) (2 ^ sf_sz r - 1) c := by
  intro r hr h0
  have h : r = 1 ∨ r = 2 ∨ r = 3 ∨ r = 4 ∨ r = 5 ∨ r = 6 ∨ r = 7 ∨ r = 8 ∨ r = 9 ∨ r = 10 ∨ r = 11 ∨ r = 12 ∨ r = 13 ∨ r = 14 ∨ r = 15 := by omega
  rcases h with rfl | rfl | rfl | rfl | rfl | rfl | rfl | rfl | rfl | rfl | rfl | rfl | rfl | rfl | rfl <;> rfl
def sf_cn (s : Nat) : Nat → Nat
  | 0 => 0
  | i + 1 => if s / 2 ^ i % 2 = 1 then sf_cn s i + 1 else sf_cn s i
theorem sf_cn_rk : ∀ s, s < 32 → ∀ i, i < 5 → s / 2 ^ i % 2 = 1 → sf_rk s (sf_cn s i) = i := by decide +kernel
theorem sf_cn_sz : ∀ s, s < 32 → sf_cn s 5 = sf_sz s ∧ (s < 16 → sf_cn s 4 = sf_sz s) := by decide +kernel
def sf_xj (f M : Nat → Int64) (c : Nat) : Nat → Int64 × Int64
  | 0 => (0, 1)
  | j + 1 => ((sf_xj f M c j).1 + (sf_xj f M c j).2 * f (sf_rk c j) * M (c ^^^ 2 ^ sf_rk c j), -(sf_xj f M c j).2)
theorem sf_xj_s (f M : Nat → Int64) (c j : Nat) : sf_xj f M c (j + 1) = ((sf_xj f M c j).1 + (sf_xj f M c j).2 * f (sf_rk c j) * M (c ^^^ 2 ^ sf_rk c j), -(sf_xj f M c j).2) := rfl
theorem sf_xs_xj {f M : Nat → Int64} {c : Nat} (hc : c < 32) : ∀ i, i ≤ 5 → sf_xs f M c i = sf_xj f M c (sf_cn c i) := by
  intro i
  induction i with
  | zero => exact fun _ => rfl
  | succ i ih =>
    intro hi
    by_cases hb : c / 2 ^ i % 2 = 1
    · have e : sf_cn c (i + 1) = sf_cn c i + 1 := if_pos hb
      rw [sf_xs_t hb, e, sf_xj_s, sf_cn_rk c hc i (by omega) hb, ← ih (by omega)]
    · have e : sf_cn c (i + 1) = sf_cn c i := if_neg hb
      rw [sf_xs_f hb, e, ih (by omega)]
theorem sf_xj_congr {f f' M M' : Nat → Int64} {c c' : Nat} : ∀ n, (∀ j, j < n → f (sf_rk c j) = f' (sf_rk c' j) ∧ M (c ^^^ 2 ^ sf_rk c j) = M' (c' ^^^ 2 ^ sf_rk c' j)) → sf_xj f M c n = sf_xj f' M' c' n := by
  intro n
  induction n with
  | zero => exact fun _ => rfl
  | succ n ih =>
    intro h
    rw [sf_xj_s, sf_xj_s, ih (fun j hj => h j (by omega)), (h n (by omega)).1, (h n (by omega)).2]
def sf_K1 (c j i : Nat) : Bool := decide (sf_rk (c ^^^ 2 ^ sf_rk c j) i = sf_rk c (if i < j then i else i + 1))
theorem sf_K1t : ∀ c, c < 32 → ∀ j, j < sf_sz c → ∀ i, i < sf_sz c - 1 → sf_K1 c j i = true := by decide +kernel
theorem sf_K2 : ∀ c, c < 32 → ∀ j, j < sf_sz c → c ^^^ 2 ^ sf_rk c j < 32 ∧ sf_sz (c ^^^ 2 ^ sf_rk c j) + 1 = sf_sz c := by decide +kernel
theorem sf_K3 : ∀ k, k < 5 → ∀ j, j < k → sf_rk (2 ^ k - 1) j = j := by decide +kernel
theorem sf_K4 : ∀ k, k < 5 → 2 ^ k - 1 < 32 ∧ sf_sz (2 ^ k - 1) = k := by decide +kernel
theorem sf_lcg : ∀ k c c', c < 32 → c' < 32 → sf_sz c = k → sf_sz c' = k → ∀ F G : Nat → Nat → Int64, (∀ i j, j < k → F i (sf_rk c j) = G i (sf_rk c' j)) → ∀ r, sf_pm F k r c = sf_pm G k r c' := by
  intro k
  induction k with
  | zero => intro c c' _ _ _ _ F G _ r; rfl
  | succ k ih =>
    intro c c' hc hc' hs hs' F G h r
    show (sf_xs (F (sf_lo r)) (fun d => sf_pm F k (r ^^^ 2 ^ sf_lo r) d) c 5).1 = (sf_xs (G (sf_lo r)) (fun d => sf_pm G k (r ^^^ 2 ^ sf_lo r) d) c' 5).1
    rw [sf_xs_xj hc 5 (Nat.le_refl 5), sf_xs_xj hc' 5 (Nat.le_refl 5), (sf_cn_sz c hc).1, (sf_cn_sz c' hc').1, hs, hs']
    rw [sf_xj_congr (k + 1) (fun j hj => ⟨h _ j hj, ?_⟩)]
    obtain ⟨a1, a2⟩ := sf_K2 c hc j (by omega)
    obtain ⟨b1, b2⟩ := sf_K2 c' hc' j (by omega)
    refine ih _ _ a1 b1 (by omega) (by omega) F G (fun i i' hi' => ?_) _
    have e1 := of_decide_eq_true (sf_K1t c hc j (by omega) i' (by omega))
    have e2 := of_decide_eq_true (sf_K1t c' hc' j (by omega) i' (by omega))
    rw [e1, e2]
    by_cases z : i' < j
    · rw [if_pos z]; exact h _ _ (by omega)
    · rw [if_neg z]; exact h _ _ (by omega)
theorem sf_link (F : Nat → Nat → Int64) {k r c : Nat} (hr : r < 16) (hc : c < 32) (h0 : 0 < k) (hk : k ≤ 4) (er : sf_sz r = k) (ec : sf_sz c = k) : sf_pm F k r c = sf_pm (fun i j => F (sf_rk r i) (sf_rk c j)) k (2 ^ k - 1) (2 ^ k - 1) := by
  have r0 : 0 < r := by
    rcases Nat.eq_zero_or_pos r with z | z
    · subst z; exact absurd er (by rw [show sf_sz 0 = 0 from rfl]; omega)
    · exact z
  have e1 := sf_lr F c r hr r0
  rw [er] at e1
  rw [e1]
  refine sf_lcg k c (2 ^ k - 1) hc (sf_K4 k (by omega)).1 ec (sf_K4 k (by omega)).2 _ _ (fun i j hj => ?_) _
  rw [sf_K3 k (by omega) j hj]
/-! Leibniz: the sum over the codes -/
def sf_pv (code i : Nat) : Nat := code / 4 ^ i % 4
def sf_us (code : Nat) : Nat → Nat
  | 0 => 0
  | i + 1 => sf_us code i ||| 2 ^ sf_pv code i
def sf_iv (code i : Nat) (o : Bool) : Nat → Bool
  | 0 => o
  | j + 1 => if sf_pv code i < sf_pv code j then !(sf_iv code i o j) else sf_iv code i o j
def sf_od (code : Nat) : Nat → Bool
  | 0 => false
  | i + 1 => sf_iv code i (sf_od code i) i
def sf_gd (k code i : Nat) : Bool := decide (sf_pv code i < k) && decide (sf_us code i / 2 ^ sf_pv code i % 2 = 0)
def sf_vd (k code : Nat) : Nat → Bool
  | 0 => true
  | i + 1 => sf_vd k code i && sf_gd k code i
def sf_pp (G : Nat → Nat → Int64) (code : Nat) (p : Int64) : Nat → Int64
  | 0 => p
  | i + 1 => sf_pp G code p i * G i (sf_pv code i)
def sf_pr (G : Nat → Nat → Int64) (k code : Nat) : Int64 := if sf_vd k code k = true then sf_pp G code (if sf_od code k = true then -1 else 1) k else 0
def sf_sm (f : Nat → Int64) : Nat → Int64
  | 0 => 0
  | n + 1 => sf_sm f n + f n
def sf_mn (G : Nat → Nat → Int64) (k : Nat) : Int64 := sf_sm (sf_pr G k) (4 ^ k)
theorem sf_sm_f (f : Nat → Int64) (v : Nat → Bool) (hf : ∀ c, v c = false → f c = 0) : ∀ n, sf_sm f n = ((List.range n).filter v).foldl (fun s c => s + f c) 0 := by
  intro n
  induction n with
  | zero => rfl
  | succ n ih =>
    rw [List.range_succ, List.filter_append, List.foldl_append, ← ih]
    show sf_sm f n + f n = _
    cases h : v n with
    | true => simp [List.filter, h]
    | false => simp [List.filter, h, hf n h]
theorem sf_prf (G : Nat → Nat → Int64) (k c : Nat) (h : sf_vd k c k = false) : sf_pr G k c = 0 := by
  unfold sf_pr; rw [h]; rfl
theorem sf_L1 : (List.range 4).filter (fun c => sf_vd 1 c 1) = [0] := by decide +kernel
theorem sf_e1_0 (G : Nat → Nat → Int64) : sf_pr G 1 0 = 1 * G 0 0 := by rfl
theorem sf_x1 (G : Nat → Nat → Int64) : sf_pm G 1 1 1 = (0 + 1 * G 0 0 * 1) := by simp only [sf_pm, sf_xs, sf_lo, Nat.reducePow, Nat.reduceDiv, Nat.reduceMod, Nat.reduceXor, Nat.reduceEqDiff, reduceIte]
theorem sf_mn1 (G : Nat → Nat → Int64) : sf_mn G 1 = sf_pm G 1 1 1 := by
  unfold sf_mn
  rw [show 4 ^ 1 = 4 from rfl, sf_sm_f _ (fun c => sf_vd 1 c 1) (fun c h => sf_prf G 1 c h) 4, sf_L1, sf_x1]
  simp only [List.foldl, sf_e1_0]
  grind
theorem sf_L2 : (List.range 16).filter (fun c => sf_vd 2 c 2) = [1, 4] := by decide +kernel
theorem sf_e2_1 (G : Nat → Nat → Int64) : sf_pr G 2 1 = (-1) * G 0 1 * G 1 0 := by rfl
theorem sf_e2_4 (G : Nat → Nat → Int64) : sf_pr G 2 4 = 1 * G 0 0 * G 1 1 := by rfl
theorem sf_x2 (G : Nat → Nat → Int64) : sf_pm G 2 3 3 = ((0 + 1 * G 0 0 * (0 + 1 * G 1 1 * 1)) + (-1) * G 0 1 * (0 + 1 * G 1 0 * 1)) := by simp only [sf_pm, sf_xs, sf_lo, Nat.reducePow, Nat.reduceDiv, Nat.reduceMod, Nat.reduceXor, Nat.reduceEqDiff, reduceIte]
theorem sf_mn2 (G : Nat → Nat → Int64) : sf_mn G 2 = sf_pm G 2 3 3 := by
  unfold sf_mn
  rw [show 4 ^ 2 = 16 from rfl, sf_sm_f _ (fun c => sf_vd 2 c 2) (fun c h => sf_prf G 2 c h) 16, sf_L2, sf_x2]
  simp only [List.foldl, sf_e2_1, sf_e2_4]
  grind
theorem sf_L3 : (List.range 64).filter (fun c => sf_vd 3 c 3) = [6, 9, 18, 24, 33, 36] := by decide +kernel
theorem sf_e3_6 (G : Nat → Nat → Int64) : sf_pr G 3 6 = (-1) * G 0 2 * G 1 1 * G 2 0 := by rfl
theorem sf_e3_9 (G : Nat → Nat → Int64) : sf_pr G 3 9 = 1 * G 0 1 * G 1 2 * G 2 0 := by rfl
theorem sf_e3_18 (G : Nat → Nat → Int64) : sf_pr G 3 18 = 1 * G 0 2 * G 1 0 * G 2 1 := by rfl
theorem sf_e3_24 (G : Nat → Nat → Int64) : sf_pr G 3 24 = (-1) * G 0 0 * G 1 2 * G 2 1 := by rfl
theorem sf_e3_33 (G : Nat → Nat → Int64) : sf_pr G 3 33 = (-1) * G 0 1 * G 1 0 * G 2 2 := by rfl
theorem sf_e3_36 (G : Nat → Nat → Int64) : sf_pr G 3 36 = 1 * G 0 0 * G 1 1 * G 2 2 := by rfl
theorem sf_x3 (G : Nat → Nat → Int64) : sf_pm G 3 7 7 = (((0 + 1 * G 0 0 * ((0 + 1 * G 1 1 * (0 + 1 * G 2 2 * 1)) + (-1) * G 1 2 * (0 + 1 * G 2 1 * 1))) + (-1) * G 0 1 * ((0 + 1 * G 1 0 * (0 + 1 * G 2 2 * 1)) + (-1) * G 1 2 * (0 + 1 * G 2 0 * 1))) + (-(-1)) * G 0 2 * ((0 + 1 * G 1 0 * (0 + 1 * G 2 1 * 1)) + (-1) * G 1 1 * (0 + 1 * G 2 0 * 1))) := by simp only [sf_pm, sf_xs, sf_lo, Nat.reducePow, Nat.reduceDiv, Nat.reduceMod, Nat.reduceXor, Nat.reduceEqDiff, reduceIte]
theorem sf_mn3 (G : Nat → Nat → Int64) : sf_mn G 3 = sf_pm G 3 7 7 := by
  unfold sf_mn
  rw [show 4 ^ 3 = 64 from rfl, sf_sm_f _ (fun c => sf_vd 3 c 3) (fun c h => sf_prf G 3 c h) 64, sf_L3, sf_x3]
  simp only [List.foldl, sf_e3_6, sf_e3_9, sf_e3_18, sf_e3_24, sf_e3_33, sf_e3_36]
  grind
theorem sf_L4 : (List.range 256).filter (fun c => sf_vd 4 c 4) = [27, 30, 39, 45, 54, 57, 75, 78, 99, 108, 114, 120, 135, 141, 147, 156, 177, 180, 198, 201, 210, 216, 225, 228] := by decide +kernel
theorem sf_e4_27 (G : Nat → Nat → Int64) : sf_pr G 4 27 = 1 * G 0 3 * G 1 2 * G 2 1 * G 3 0 := by rfl
theorem sf_e4_30 (G : Nat → Nat → Int64) : sf_pr G 4 30 = (-1) * G 0 2 * G 1 3 * G 2 1 * G 3 0 := by rfl
theorem sf_e4_39 (G : Nat → Nat → Int64) : sf_pr G 4 39 = (-1) * G 0 3 * G 1 1 * G 2 2 * G 3 0 := by rfl
theorem sf_e4_45 (G : Nat → Nat → Int64) : sf_pr G 4 45 = 1 * G 0 1 * G 1 3 * G 2 2 * G 3 0 := by rfl
theorem sf_e4_54 (G : Nat → Nat → Int64) : sf_pr G 4 54 = 1 * G 0 2 * G 1 1 * G 2 3 * G 3 0 := by rfl
theorem sf_e4_57 (G : Nat → Nat → Int64) : sf_pr G 4 57 = (-1) * G 0 1 * G 1 2 * G 2 3 * G 3 0 := by rfl
theorem sf_e4_75 (G : Nat → Nat → Int64) : sf_pr G 4 75 = (-1) * G 0 3 * G 1 2 * G 2 0 * G 3 1 := by rfl
theorem sf_e4_78 (G : Nat → Nat → Int64) : sf_pr G 4 78 = 1 * G 0 2 * G 1 3 * G 2 0 * G 3 1 := by rfl
theorem sf_e4_99 (G : Nat → Nat → Int64) : sf_pr G 4 99 = 1 * G 0 3 * G 1 0 * G 2 2 * G 3 1 := by rfl
theorem sf_e4_108 (G : Nat → Nat → Int64) : sf_pr G 4 108 = (-1) * G 0 0 * G 1 3 * G 2 2 * G 3 1 := by rfl
theorem sf_e4_114 (G : Nat → Nat → Int64) : sf_pr G 4 114 = (-1) * G 0 2 * G 1 0 * G 2 3 * G 3 1 := by rfl
theorem sf_e4_120 (G : Nat → Nat → Int64) : sf_pr G 4 120 = 1 * G 0 0 * G 1 2 * G 2 3 * G 3 1 := by rfl
theorem sf_e4_135 (G : Nat → Nat → Int64) : sf_pr G 4 135 = 1 * G 0 3 * G 1 1 * G 2 0 * G 3 2 := by rfl
theorem sf_e4_141 (G : Nat → Nat → Int64) : sf_pr G 4 141 = (-1) * G 0 1 * G 1 3 * G 2 0 * G 3 2 := by rfl
theorem sf_e4_147 (G : Nat → Nat → Int64) : sf_pr G 4 147 = (-1) * G 0 3 * G 1 0 * G 2 1 * G 3 2 := by rfl
theorem sf_e4_156 (G : Nat → Nat → Int64) : sf_pr G 4 156 = 1 * G 0 0 * G 1 3 * G 2 1 * G 3 2 := by rfl
theorem sf_e4_177 (G : Nat → Nat → Int64) : sf_pr G 4 177 = 1 * G 0 1 * G 1 0 * G 2 3 * G 3 2 := by rfl
theorem sf_e4_180 (G : Nat → Nat → Int64) : sf_pr G 4 180 = (-1) * G 0 0 * G 1 1 * G 2 3 * G 3 2 := by rfl
theorem sf_e4_198 (G : Nat → Nat → Int64) : sf_pr G 4 198 = (-1) * G 0 2 * G 1 1 * G 2 0 * G 3 3 := by rfl
theorem sf_e4_201 (G : Nat → Nat → Int64) : sf_pr G 4 201 = 1 * G 0 1 * G 1 2 * G 2 0 * G 3 3 := by rfl
theorem sf_e4_210 (G : Nat → Nat → Int64) : sf_pr G 4 210 = 1 * G 0 2 * G 1 0 * G 2 1 * G 3 3 := by rfl
theorem sf_e4_216 (G : Nat → Nat → Int64) : sf_pr G 4 216 = (-1) * G 0 0 * G 1 2 * G 2 1 * G 3 3 := by rfl
theorem sf_e4_225 (G : Nat → Nat → Int64) : sf_pr G 4 225 = (-1) * G 0 1 * G 1 0 * G 2 2 * G 3 3 := by rfl
theorem sf_e4_228 (G : Nat → Nat → Int64) : sf_pr G 4 228 = 1 * G 0 0 * G 1 1 * G 2 2 * G 3 3 := by rfl
theorem sf_x4 (G : Nat → Nat → Int64) : sf_pm G 4 15 15 = ((((0 + 1 * G 0 0 * (((0 + 1 * G 1 1 * ((0 + 1 * G 2 2 * (0 + 1 * G 3 3 * 1)) + (-1) * G 2 3 * (0 + 1 * G 3 2 * 1))) + (-1) * G 1 2 * ((0 + 1 * G 2 1 * (0 + 1 * G 3 3 * 1)) + (-1) * G 2 3 * (0 + 1 * G 3 1 * 1))) + (-(-1)) * G 1 3 * ((0 + 1 * G 2 1 * (0 + 1 * G 3 2 * 1)) + (-1) * G 2 2 * (0 + 1 * G 3 1 * 1)))) + (-1) * G 0 1 * (((0 + 1 * G 1 0 * ((0 + 1 * G 2 2 * (0 + 1 * G 3 3 * 1)) + (-1) * G 2 3 * (0 + 1 * G 3 2 * 1))) + (-1) * G 1 2 * ((0 + 1 * G 2 0 * (0 + 1 * G 3 3 * 1)) + (-1) * G 2 3 * (0 + 1 * G 3 0 * 1))) + (-(-1)) * G 1 3 * ((0 + 1 * G 2 0 * (0 + 1 * G 3 2 * 1)) + (-1) * G 2 2 * (0 + 1 * G 3 0 * 1)))) + (-(-1)) * G 0 2 * (((0 + 1 * G 1 0 * ((0 + 1 * G 2 1 * (0 + 1 * G 3 3 * 1)) + (-1) * G 2 3 * (0 + 1 * G 3 1 * 1))) + (-1) * G 1 1 * ((0 + 1 * G 2 0 * (0 + 1 * G 3 3 * 1)) + (-1) * G 2 3 * (0 + 1 * G 3 0 * 1))) + (-(-1)) * G 1 3 * ((0 + 1 * G 2 0 * (0 + 1 * G 3 1 * 1)) + (-1) * G 2 1 * (0 + 1 * G 3 0 * 1)))) + (-(-(-1))) * G 0 3 * (((0 + 1 * G 1 0 * ((0 + 1 * G 2 1 * (0 + 1 * G 3 2 * 1)) + (-1) * G 2 2 * (0 + 1 * G 3 1 * 1))) + (-1) * G 1 1 * ((0 + 1 * G 2 0 * (0 + 1 * G 3 2 * 1)) + (-1) * G 2 2 * (0 + 1 * G 3 0 * 1))) + (-(-1)) * G 1 2 * ((0 + 1 * G 2 0 * (0 + 1 * G 3 1 * 1)) + (-1) * G 2 1 * (0 + 1 * G 3 0 * 1)))) := by simp only [sf_pm, sf_xs, sf_lo, Nat.reducePow, Nat.reduceDiv, Nat.reduceMod, Nat.reduceXor, Nat.reduceEqDiff, reduceIte]
theorem sf_mn4 (G : Nat → Nat → Int64) : sf_mn G 4 = sf_pm G 4 15 15 := by
  unfold sf_mn
  rw [show 4 ^ 4 = 256 from rfl, sf_sm_f _ (fun c => sf_vd 4 c 4) (fun c h => sf_prf G 4 c h) 256, sf_L4, sf_x4]
  simp only [List.foldl, sf_e4_27, sf_e4_30, sf_e4_39, sf_e4_45, sf_e4_54, sf_e4_57, sf_e4_75, sf_e4_78, sf_e4_99, sf_e4_108, sf_e4_114, sf_e4_120, sf_e4_135, sf_e4_141, sf_e4_147, sf_e4_156, sf_e4_177, sf_e4_180, sf_e4_198, sf_e4_201, sf_e4_210, sf_e4_216, sf_e4_225, sf_e4_228]
  generalize G 0 0 = g00
  generalize G 0 1 = g01
  generalize G 0 2 = g02
  generalize G 0 3 = g03
  generalize G 1 0 = g10
  generalize G 1 1 = g11
  generalize G 1 2 = g12
  generalize G 1 3 = g13
  generalize G 2 0 = g20
  generalize G 2 1 = g21
  generalize G 2 2 = g22
  generalize G 2 3 = g23
  generalize G 3 0 = g30
  generalize G 3 1 = g31
  generalize G 3 2 = g32
  generalize G 3 3 = g33
  grind
theorem sf_mnE (G : Nat → Nat → Int64) {k : Nat} (h0 : 0 < k) (hk : k ≤ 4) : sf_mn G k = sf_pm G k (2 ^ k - 1) (2 ^ k - 1) := by
  have h : k = 1 ∨ k = 2 ∨ k = 3 ∨ k = 4 := by omega
  rcases h with rfl | rfl | rfl | rfl
  · exact sf_mn1 G
  · exact sf_mn2 G
  · exact sf_mn3 G
  · exact sf_mn4 G
