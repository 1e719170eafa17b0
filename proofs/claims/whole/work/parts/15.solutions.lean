/-! solutions -/
def sr_dg (p : Int32) (c : Int32) : Nat → Int32
  | 0 => c
  | j + 1 => sr_dg p c j / p
def sr_ls (ce : Nat → Int32) (b : Nat) (p c s : Int32) : Nat → Int32
  | 0 => s
  | j + 1 => sr_ls ce b p c s j + ce (b + j) * (sr_dg p c j - sr_dg p c j / p * p)
theorem sr_ring (a b d : Int32) : a - b + d = a + d - b := by grind
theorem sr_ls_t (ce : Nat → Int32) (b : Nat) (p c x : Int32) : ∀ j, sr_ls ce b p c (-x) j = sr_ls ce b p c 0 j - x := by
  intro j
  induction j with
  | zero => show -x = 0 - x; grind
  | succ j ih =>
    show sr_ls ce b p c (-x) j + _ = sr_ls ce b p c 0 j + _ - x
    rw [ih, sr_ring]
def sr_cd (ce tg : Nat → Int32) (t nn : Nat) (p c : Int32) (i : Nat) : Prop :=
  (sr_ls ce (16 * t + 4 * i) p c 0 nn - tg i) - (sr_ls ce (16 * t + 4 * i) p c 0 nn - tg i) / p * p = 0
section
variable {mm nn t : Nat} {w p : Int32} {ce tg go : Nat → Int32} {mi wk : Nat → Int64} {ra ca pe : Nat → Int32}
theorem sx_sol28 {post : Int32 → Prop} {J : Int32 → Prop} {c x : Int32} {i : Nat} (ht : t < 2) (hi : i < 4) (n5 : nn < 5) (hp : ¬ p = 0)
    (h1 : (sr_ls ce (16 * t + 4 * i) p c x nn - sr_ls ce (16 * t + 4 * i) p c x nn / p * p = 0) → J (nI (i + 1)))
    (h0 : (¬ sr_ls ce (16 * t + 4 * i) p c x nn - sr_ls ce (16 * t + 4 * i) p c x nn / p * p = 0) → post 0) :
    ∃ f, wX_isSolution_28 post J (nI t) p c (nI i) (nI mm) (nI nn) ce tg go mi f x c 0 := by
  refine pk_loop (σ := Int32 × Int32) (fun f j s => wX_isSolution_28 post J (nI t) p c (nI i) (nI mm) (nI nn) ce tg go mi f s.1 s.2 (nI j)) (fun j s => s = (sr_ls ce (16 * t + 4 * i) p c x j, sr_dg p c j)) nn 0 (x, c) (by omega) rfl ?_ ?_
  · intro f s hs
    subst hs
    exact br_t (nI_le (Nat.le_refl nn) (by omega)) ⟨hp, br_c (fun z => nm_r (nI_1 i) (h1 z)) (fun z => h0 z)⟩
  · intro f j s hj hs hk
    subst hs
    refine br_f (nI_ge hj (by omega)) ?_
    unfold wpX_cellAt
    dsimp only
    rw [sf_cell, nI_clamp (by omega)]
    exact ⟨vp_in_nI (by omega) (by omega), hp, nm_e ⟨hp, nm_e (nm_r (nI_1 j) (hk (_, _) rfl))⟩⟩
theorem sx_isSol {post : Int32 → Prop} {c : Int32} (ht : t < 2) (m5 : mm < 5) (n5 : nn < 5) (hp : ¬ p = 0)
    (h1 : (∀ i, i < mm → sr_cd ce tg t nn p c i) → post 1) (h0 : (¬ ∀ i, i < mm → sr_cd ce tg t nn p c i) → post 0) :
    wpX_isSolution post (nI mm, nI nn, ce, tg, go, mi) (nI t) p c := by
  unfold wpX_isSolution
  dsimp only
  refine pk_loop (σ := Unit) (fun f i _ => wX_isSolution_3 post (nI t) p c (nI mm) (nI nn) ce tg go mi f (nI i)) (fun i _ => ∀ q, q < i → sr_cd ce tg t nn p c q) mm 0 () (by omega) (fun q hq => absurd hq (Nat.not_lt_zero q)) ?_ ?_
  · intro f s hs
    exact br_t (nI_le (Nat.le_refl mm) (by omega)) (h1 hs)
  · intro f i s hi hs hk
    refine br_f (nI_ge hi (by omega)) ?_
    rw [nI_clamp (by omega)]
    refine ⟨vp_in_nI (by omega) (by omega), nm_e (sx_sol28 ht (by omega) n5 hp (fun z => hk () ?_) (fun z => h0 (fun y => z ?_)))⟩
    · rw [sr_ls_t] at z
      exact sr_nx hs z
    · rw [sr_ls_t]
      exact y i hi
theorem sy_left {post : Int32 → Prop} {c : Int32} {i : Nat} (ht : t < 2) (hi : i < 4) (n5 : nn < 5) (hp : ¬ p = 0) (h : post (sr_ls ce (16 * t + 4 * i) p c 0 nn)) : wpY_left post (nI mm, nI nn, w, ce, tg, wk, ra, ca, pe) (nI t) (nI i) c p := by
  unfold wpY_left
  dsimp only
  refine pk_loop (σ := Int32 × Int32) (fun f j s => wY_left_9 post (nI t) (nI i) p (nI mm) (nI nn) w ce tg wk ra ca pe f s.1 s.2 (nI j)) (fun j s => s = (sr_ls ce (16 * t + 4 * i) p c 0 j, sr_dg p c j)) nn 0 (0, c) (by omega) rfl ?_ ?_
  · intro f s hs
    subst hs
    exact br_t (nI_le (Nat.le_refl nn) (by omega)) h
  · intro f j s hj hs hk
    subst hs
    refine br_f (nI_ge hj (by omega)) ?_
    rw [sf_cellY, nI_clamp (by omega)]
    exact ⟨vp_in_nI (by omega) (by omega), hp, nm_e ⟨hp, nm_e (nm_r (nI_1 j) (hk (_, _) rfl))⟩⟩
theorem sy_sol66 {post : Int32 → Prop} {J : Int32 → Int32 → Prop} {x3 x4 : Int32} {c : Nat} (ht : t < 2) (m5 : mm < 5) (n5 : nn < 5) (hp : ¬ p = 0)
    (h1 : (∀ i, i < mm → sr_cd ce tg t nn p (nI c) i) → J (x4 + 1) (nI (c + 1))) (h0 : (¬ ∀ i, i < mm → sr_cd ce tg t nn p (nI c) i) → J x4 (nI (c + 1))) :
    ∃ f, wY_solutions_66 post J (nI t) p x3 x4 (nI c) (nI mm) (nI nn) w ce tg wk ra ca pe f 1 0 := by
  refine pk_loop (σ := Int32) (fun f i x => wY_solutions_66 post J (nI t) p x3 x4 (nI c) (nI mm) (nI nn) w ce tg wk ra ca pe f x (nI i)) (fun i x => (x = 1 ∧ ∀ q, q < i → sr_cd ce tg t nn p (nI c) q) ∨ (x = 0 ∧ ¬ ∀ q, q < mm → sr_cd ce tg t nn p (nI c) q)) mm 0 1 (by omega) (Or.inl ⟨rfl, fun q hq => absurd hq (Nat.not_lt_zero q)⟩) ?_ ?_
  · intro f x hx
    refine br_t (nI_le (Nat.le_refl mm) (by omega)) ?_
    rcases hx with ⟨rfl, hx⟩ | ⟨rfl, hx⟩
    · exact br_f (by decide) (nm_e (nm_r (nI_1 c) (h1 hx)))
    · exact br_t rfl (nm_r (nI_1 c) (h0 hx))
  · intro f i x hi hx hk
    refine br_f (nI_ge hi (by omega)) (sy_left ht (by omega) n5 hp ?_)
    rw [nI_clamp (by omega)]
    refine ⟨vp_in_nI (by omega) (by omega), hp, br_c (fun z => nm_r (nI_1 i) (hk _ ?_)) (fun z => nm_r (nI_1 i) (hk _ ?_))⟩
    · rcases hx with ⟨hx1, hx2⟩ | hx
      · exact Or.inl ⟨hx1, sr_nx hx2 z⟩
      · exact Or.inr hx
    · exact Or.inr ⟨rfl, fun y => z (y i hi)⟩
/-! both count -/
theorem sr_count {N : Nat} (hN : N < 2 ^ 31) (ht : t < 2) (m5 : mm < 5) (n5 : nn < 5) (hp : ¬ p = 0) : ∀ d c : Nat, c + d = N → ∀ x : Int32, ∃ r : Int32, (∀ post : Int32 → Prop, post r → wX_solutions_53 post (nI t) p (nI N) (nI mm) (nI nn) ce tg go mi (d + 1) x (nI c)) ∧ (∀ post : Int32 → Prop, post r → wY_solutions_54 post (nI t) p (nI N) (nI mm) (nI nn) w ce tg wk ra ca pe (d + 1) x (nI c)) := by
  intro d
  induction d with
  | zero =>
    intro c hc x
    have e : c = N := by omega
    subst e
    exact ⟨x, fun post h => br_t (nI_le (Nat.le_refl c) hN) h, fun post h => br_t (nI_le (Nat.le_refl c) hN) h⟩
  | succ d ih =>
    intro c hc x
    have hlt : ¬ nI N ≤ nI c := nI_ge (by omega) hN
    by_cases hall : ∀ i, i < mm → sr_cd ce tg t nn p (nI c) i
    · obtain ⟨r, hX, hY⟩ := ih (c + 1) (by omega) (x + 1)
      refine ⟨r, fun post h => br_f hlt (sx_isSol ht m5 n5 hp (fun _ => br_f (by decide) (nm_e (nm_r (nI_1 c) (hX post h)))) (fun z => absurd hall z)), fun post h => br_f hlt (sy_sol66 ht m5 n5 hp (fun _ => hY post h) (fun z => absurd hall z))⟩
    · obtain ⟨r, hX, hY⟩ := ih (c + 1) (by omega) x
      refine ⟨r, fun post h => br_f hlt (sx_isSol ht m5 n5 hp (fun z => absurd z hall) (fun _ => br_t rfl (nm_r (nI_1 c) (hX post h)))), fun post h => br_f hlt (sy_sol66 ht m5 n5 hp (fun z => absurd z hall) (fun _ => hY post h))⟩
theorem sx_sol {post : Int32 → Prop} {q : Nat} (n5 : nn < 5) (h : ∃ f, wX_solutions_53 post (nI t) (nI q) (nI (q ^ nn)) (nI mm) (nI nn) ce tg go mi f 0 0) : ∃ f, wX_solutions_28 post (nI t) (nI q) (nI mm) (nI nn) ce tg go mi f 1 0 := by
  refine pk_loop (σ := Int32) (fun f j x => wX_solutions_28 post (nI t) (nI q) (nI mm) (nI nn) ce tg go mi f x (nI j)) (fun j x => x = nI (q ^ j)) nn 0 1 (by omega) rfl ?_ ?_
  · intro f x hx
    subst hx
    exact br_t (nI_le (Nat.le_refl nn) (by omega)) h
  · intro f j x hj hx hk
    subst hx
    exact br_f (nI_ge hj (by omega)) (nm_r (e' := nI (q ^ (j + 1))) (by rw [pk_mul, Nat.pow_succ]) (nm_r (nI_1 j) (hk _ rfl)))
theorem sy_sol {post : Int32 → Prop} {q : Nat} (n5 : nn < 5) (h : ∃ f, wY_solutions_54 post (nI t) (nI q) (nI (q ^ nn)) (nI mm) (nI nn) w ce tg wk ra ca pe f 0 0) : ∃ f, wY_solutions_29 post (nI t) (nI q) (nI mm) (nI nn) w ce tg wk ra ca pe f 1 0 := by
  refine pk_loop (σ := Int32) (fun f j x => wY_solutions_29 post (nI t) (nI q) (nI mm) (nI nn) w ce tg wk ra ca pe f x (nI j)) (fun j x => x = nI (q ^ j)) nn 0 1 (by omega) rfl ?_ ?_
  · intro f x hx
    subst hx
    exact br_t (nI_le (Nat.le_refl nn) (by omega)) h
  · intro f j x hj hx hk
    subst hx
    exact br_f (nI_ge hj (by omega)) (nm_r (e' := nI (q ^ (j + 1))) (by rw [pk_mul, Nat.pow_succ]) (nm_r (nI_1 j) (hk _ rfl)))
end
theorem i_vc_solutions {k : Nat} {u : SX} {v : SY} (I : i_Rel k u v) (hk : k + 5 ≤ 2562) (v1 : Int32) (v2 : Int32) : wpX_solutions (fun r => wpY_solutions (fun r' => r' = r ∧ i_Rel (k + 5) u v) v v1 v2) u v1 v2 := by
  obtain ⟨mm, nn, ce, tg, go, mi, w, wk, ra, ca, pe, rfl, rfl, hI, hG, hZ⟩ := I
  obtain ⟨m0, m5, n0, n5⟩ := hI.1
  unfold wpX_solutions wpY_solutions
  dsimp only
  rcases sr_tab v1 with ⟨t, ht, rfl⟩ | ⟨bX, bY⟩
  · by_cases h0 : v2 < 1
    · exact sr_tX ht (br_f (by decide) (br_t h0 (sr_tY ht (br_t rfl (br_t h0 ⟨rfl, sr_mk hI hG hZ⟩)))))
    · by_cases h6 : v2 ≤ 6
      · obtain ⟨q, hq, rfl⟩ := nI_of (x := v2) (Int32.not_lt.mpr (Int32.le_trans (by decide : (0 : Int32) ≤ 1) (Int32.not_lt.mp h0)))
        have q6 : q ≤ 6 := (nI_leI (b := 6) hq (by decide)).mp h6
        have q1 : 1 ≤ q := (nI_leI (a := 1) (by decide) hq).mp (Int32.not_lt.mp h0)
        have hN : q ^ nn < 2 ^ 31 := by
          have a1 : q ^ nn ≤ 6 ^ nn := Nat.pow_le_pow_left q6 nn
          have a2 : 6 ^ nn ≤ 6 ^ 4 := Nat.pow_le_pow_right (by decide) (by omega)
          exact Nat.lt_of_le_of_lt (Nat.le_trans a1 a2) (by decide)
        obtain ⟨r, hX, hY⟩ := sr_count (w := w) (go := go) (mi := mi) (wk := wk) (ra := ra) (ca := ca) (pe := pe) (ce := ce) (tg := tg) (p := nI q) hN ht m5 n5 (nI_ne0 (by omega) hq) (q ^ nn) 0 (by omega) 0
        exact sr_tX ht (br_f (by decide) (br_f h0 (br_t h6 (sx_sol n5 ⟨_, hX _ (sr_tY ht (br_t rfl (br_f h0 (br_t h6 (sy_sol n5 ⟨_, hY _ ⟨rfl, sr_mk hI hG hZ⟩⟩)))))⟩))))
      · exact sr_tX ht (br_f (by decide) (br_f h0 (br_f h6 (sr_tY ht (br_t rfl (br_f h0 (br_f h6 ⟨rfl, sr_mk hI hG hZ⟩)))))))
  · exact bX _ (br_t rfl (bY _ _ (br_f (by decide) ⟨rfl, sr_mk hI hG hZ⟩)))
