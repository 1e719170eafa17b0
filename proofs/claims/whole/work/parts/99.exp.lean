theorem sf_sm_f (f : Nat → Int64) (v : Nat → Bool) (hf : ∀ c, v c = false → f c = 0) : ∀ n, sf_sm f n = ((List.range n).filter v).foldl (fun s c => s + f c) 0 := by
  intro n
  induction n with
  | zero => rfl
  | succ n ih =>
    rw [List.range_succ, List.filter_append, List.foldl_append, ← ih]
    show sf_sm f n + f n = _
    cases h : v n with
    | true => simp [List.filter, h]
    | false => simp [List.filter, h, hf n h]
theorem sf_prf (G : Nat → Nat → Int64) (k c : Nat) (h : sf_vd k c k = false) : sf_pr G k c = 0 := by
  unfold sf_pr; rw [h]; rfl
set_option maxHeartbeats 100000 in
theorem sf_L2 : (List.range 16).filter (fun c => sf_vd 2 c 2) = [1, 4] := by decide +kernel
set_option maxHeartbeats 100000 in
theorem sf_e2_1 (G : Nat → Nat → Int64) : sf_pr G 2 1 = (-1) * G 0 1 * G 1 0 := by rfl
set_option maxHeartbeats 100000 in
theorem sf_x2a (G : Nat → Nat → Int64) : sf_pm G 2 3 3 = ((0 + 1 * G 0 0 * (0 + 1 * G 1 1 * 1)) + (-1) * G 0 1 * (0 + 1 * G 1 0 * 1)) := by simp only [sf_pm, sf_xs, sf_lo, Nat.reducePow, Nat.reduceDiv, Nat.reduceMod, Nat.reduceXor, Nat.reduceEqDiff, reduceIte]
set_option maxHeartbeats 100000 in
theorem sf_x2b (G : Nat → Nat → Int64) : sf_pm G 2 3 3 = ((0 + 1 * G 0 0 * (0 + 1 * G 1 1 * 1)) + (-1) * G 0 1 * (0 + 1 * G 1 0 * 1)) := by simp [sf_pm, sf_xs, sf_lo]
