/-! reaches, multiple, within -/
def sr_L (ce go : Nat → Int32) (t : Nat) : Nat := sf_Ls (sf_D (sx_F ce go t)) (sf_E (sx_F ce go t))
theorem sr_Lc {ce go go' : Nat → Int32} {t : Nat} (h : ∀ i, i < 4 → go i = go' i) : sr_L ce go t = sr_L ce go' t := by
  have hF : ∀ i, i < 4 → ∀ j, j < 5 → sx_F ce go t i j = sx_F ce go' t i j := by
    intro i hi j hj
    unfold sx_F
    rw [h i hi]
  have eD : sf_D (sx_F ce go t) = sf_D (sx_F ce go' t) := funext fun k => sf_go_congr 16 (fun a ha b hb => by rw [sf_pm_congr hF])
  have eE : sf_E (sx_F ce go t) = sf_E (sx_F ce go' t) := funext fun k => sf_go_congr 16 (fun a ha b hb => by rw [sf_pm_congr hF])
  unfold sr_L
  rw [eD, eE]
theorem sr_Ll {mm nn t : Nat} {ce tg go : Nat → Int32} (hI : sr_I mm nn ce tg) (hG : sr_G go) : sr_L ce go t < 2 ^ 50 := sf_Ls_lt (by decide) (fun k hk => sf_Dlt (sr_hb hI hG) (by omega))
theorem sr_1 {L : Nat} : (L ≠ 0 ∧ L ∣ 1) ↔ L = 1 := by
  constructor
  · intro h; exact Nat.dvd_one.mp h.2
  · intro h; subst h; exact ⟨by decide, Nat.dvd_refl 1⟩
section
variable {rc cc : Int32} {ce tg go : Nat → Int32} {mi : Nat → Int64}
theorem sx_aimT {post : SX → Prop} (h : ∀ g, (∀ i, i < 4 → g i = tg i) → (∀ i, 4 ≤ i → g i = go i) → post (rc, cc, ce, tg, g, mi)) : wpX_aimGoalAtTarget post (rc, cc, ce, tg, go, mi) := by
  unfold wpX_aimGoalAtTarget
  dsimp only
  refine pk_loop (σ := Nat → Int32) (fun f i g => wX_aimGoalAtTarget_2 post rc cc f (nI i) ce tg g mi) (fun i g => (∀ j, j < i → g j = tg j) ∧ ∀ j, i ≤ j → g j = go j) 4 0 go (by omega) ⟨fun j hj => absurd hj (Nat.not_lt_zero j), fun _ _ => rfl⟩ ?_ ?_
  · intro f g hg
    exact br_t (by decide) (h g hg.1 hg.2)
  · intro f i g hi hg hk
    refine br_f (nI_ge (b := 4) hi (by decide)) ?_
    rw [nI_clamp (by omega)]
    refine ⟨vp_in_nI (by omega) (by omega), vp_in_nI (by omega) (by omega), nm_e (nm_r (nI_1 i) (hk _ ⟨fun j hj => ?_, fun j hj => ?_⟩))⟩
    · rcases Nat.lt_or_ge j i with z | z
      · rw [pk_un (by omega)]; exact hg.1 j z
      · rw [show j = i from by omega]; exact pk_us
    · rw [pk_un (by omega)]; exact hg.2 j (by omega)
theorem sx_aimC {post : SX → Prop} {t c : Nat} (ht : t < 2) (hc : c < 4) (h : ∀ g, (∀ i, i < 4 → g i = ce (16 * t + 4 * i + c)) → (∀ i, 4 ≤ i → g i = go i) → post (rc, cc, ce, tg, g, mi)) : wpX_aimGoalAtColumn post (rc, cc, ce, tg, go, mi) (nI t) (nI c) := by
  unfold wpX_aimGoalAtColumn
  dsimp only
  refine pk_loop (σ := Nat → Int32) (fun f i g => wX_aimGoalAtColumn_2 post (nI t) (nI c) rc cc f (nI i) ce tg g mi) (fun i g => (∀ j, j < i → g j = ce (16 * t + 4 * j + c)) ∧ ∀ j, i ≤ j → g j = go j) 4 0 go (by omega) ⟨fun j hj => absurd hj (Nat.not_lt_zero j), fun _ _ => rfl⟩ ?_ ?_
  · intro f g hg
    exact br_t (by decide) (h g hg.1 hg.2)
  · intro f i g hi hg hk
    refine br_f (nI_ge (b := 4) hi (by decide)) ?_
    unfold wpX_cellAt
    dsimp only
    rw [sf_cell, nI_clamp (by omega), nI_clamp (by omega)]
    refine ⟨vp_in_nI (by omega) (by omega), vp_in_nI (by omega) (by omega), nm_e (nm_r (nI_1 i) (hk _ ⟨fun j hj => ?_, fun j hj => ?_⟩))⟩
    · rcases Nat.lt_or_ge j i with z | z
      · rw [pk_un (by omega)]; exact hg.1 j z
      · rw [show j = i from by omega]; exact pk_us
    · rw [pk_un (by omega)]; exact hg.2 j (by omega)
end
section
variable {mm nn t : Nat} {w : Int32} {ce tg go : Nat → Int32} {wk : Nat → Int64} {ra ca pe : Nat → Int32}
theorem sy_meets {post : Int32 → SY → Prop} {q : Nat} (ht : t < 2) (hI : sr_I mm nn ce tg) (hG : sr_G go) (hg : ∀ i, i < 4 → go i = tg i) (q1 : 0 < q) (q100 : q ≤ 100)
    (h1 : (sr_L ce go t ≠ 0 ∧ sr_L ce go t ∣ q) → ∀ w' wk' ra' ca' pe', post 1 (nI mm, nI nn, w', ce, tg, wk', ra', ca', pe'))
    (h2 : ¬ (sr_L ce go t ≠ 0 ∧ sr_L ce go t ∣ q) → ∀ w' wk' ra' ca' pe', post 0 (nI mm, nI nn, w', ce, tg, wk', ra', ca', pe')) :
    wpY_meets post (nI mm, nI nn, w, ce, tg, wk, ra, ca, pe) (nI t) (nI q) := by
  obtain ⟨m0, m5, n0, n5⟩ := hI.1
  unfold wpY_meets
  dsimp only
  refine sy_take ht (fun wk1 hW => ?_)
  dsimp only
  refine pk_loop (σ := Nat → Int64) (fun f i W => wY_meets_7 post (nI q) (nI mm) (nI nn) (nI nn) f (nI i) ce tg W ra ca pe) (fun i W => (∀ a, a < 4 → ∀ j, j < nn → W (5 * a + j) = sx_F ce go t a j) ∧ ∀ a, a < i → W (5 * a + nn) = (tg a).toInt64 * (nI q).toInt64) 4 0 wk1 (by omega) ⟨sr_hW n5 hW, fun a ha => absurd ha (Nat.not_lt_zero a)⟩ ?_ ?_
  · intro f W hW'
    refine br_t (by decide) ?_
    have eq : sf_ab (nI q).toInt64 = q := by
      rw [nI_l (by omega), sf_abN (by omega)]
    have hGF : ∀ i, i < 4 → W (5 * i + nn) = sx_F ce go t i 4 * (nI q).toInt64 := by
      intro i hi
      rw [hW'.2 i hi]
      unfold sx_F
      rw [if_pos rfl, hg i hi]
    have hz : ∀ i, i < 4 → mm ≤ i → go i = 0 := fun i hi hm => (hg i hi).trans (hI.2.2.2.2 i hi hm)
    refine sy_met (F := sx_F ce go t) (q := (nI q).toInt64) m5 m0 n5 n0 hW'.1 hGF (sr_hr ht hI hz) (sr_hc ht hI) (sr_hb hI hG) (by rw [eq]; exact q100) (by rw [eq]; exact q1) (fun z w' ra' ca' pe' => ⟨rfl, ?_⟩) (fun z w' ra' ca' pe' => ⟨rfl, ?_⟩)
    · rw [eq] at z
      exact h1 z _ _ _ _ _
    · rw [eq] at z
      exact h2 z _ _ _ _ _
  · intro f i W hi hW' hk
    have e2 : 5 * nI i + nI nn = nI (5 * i + nn) := by
      show nI 5 * _ + _ = _
      rw [pk_mul, nI_add]
    refine br_f (nI_ge (b := 4) hi (by decide)) ?_
    rw [e2, nI_clamp (by omega), nI_clamp (by omega)]
    refine ⟨vp_in_nI (by omega) (by omega), vp_in_nI (by omega) (by omega), nm_e (nm_r (nI_1 i) (hk _ ⟨fun a ha j hj => ?_, fun a ha => ?_⟩))⟩
    · rw [pk_uLn (by omega)]; exact hW'.1 a ha j hj
    · rcases Nat.lt_or_ge a i with z | z
      · rw [pk_uLn (by omega)]; exact hW'.2 a z
      · rw [show a = i from by omega]; exact pk_uLs
end
theorem sr_Gt {mm nn : Nat} {ce tg go g : Nat → Int32} (hI : sr_I mm nn ce tg) (hG : sr_G go) (h1 : ∀ i, i < 4 → g i = tg i) (h2 : ∀ i, 4 ≤ i → g i = go i) : sr_G g := by
  intro i
  rcases Nat.lt_or_ge i 4 with z | z
  · rw [h1 i z]; exact hI.2.2.2.1 i
  · rw [h2 i z]; exact hG i
theorem i_vc_reaches {k : Nat} {u : SX} {v : SY} (I : i_Rel k u v) (hk : k + 5 ≤ 2562) (v1 : Int32) : wpX_reaches (fun r u' => wpY_reaches (fun r' v' => r' = r ∧ i_Rel (k + 5) u' v') v v1) u v1 := by
  obtain ⟨mm, nn, ce, tg, go, mi, w, wk, ra, ca, pe, rfl, rfl, hI, hG, hZ⟩ := I
  unfold wpX_reaches wpY_reaches
  dsimp only
  rcases sr_tab v1 with ⟨t, ht, rfl⟩ | ⟨bX, bY⟩
  · refine sr_tX ht (br_f (by decide) (sx_aimT (fun g g1 g2 => ?_)))
    have hG' := sr_Gt hI hG g1 g2
    have hl : sr_L ce g t < 2 ^ 50 := sr_Ll hI hG'
    refine sx_lmg ht hZ (sr_hb hI hG') (fun M hM => ?_)
    dsimp only
    by_cases e : sr_L ce g t = 1
    · refine br_t (by show lN (sr_L ce g t) = 1; rw [e]; rfl) (sr_tY ht (br_t rfl (sy_meets (q := 1) ht hI hG' g1 (by decide) (by decide) (fun z w' wk' ra' ca' pe' => br_f (by decide) ⟨rfl, sr_mk hI hG' hM⟩) (fun z => absurd (sr_1.mpr e) z))))
    · refine br_f (fun z => e ((pk_lEQ (b := 1) (by omega) (by decide)).mp z)) (sr_tY ht (br_t rfl (sy_meets (q := 1) ht hI hG' g1 (by decide) (by decide) (fun z => absurd (sr_1.mp z) e) (fun z w' wk' ra' ca' pe' => br_t rfl ⟨rfl, sr_mk hI hG' hM⟩))))
  · exact bX _ (br_t rfl (bY _ _ (br_f (by decide) ⟨rfl, sr_mk hI hG hZ⟩)))
theorem sy_mult {mm nn t : Nat} {w : Int32} {ce tg go : Nat → Int32} {wk : Nat → Int64} {ra ca pe : Nat → Int32} {post : Int32 → SY → Prop} (ht : t < 2) (hI : sr_I mm nn ce tg) (hG : sr_G go) (hg : ∀ i, i < 4 → go i = tg i)
    (h : ∀ w' wk' ra' ca' pe', post (if sr_L ce go t ≤ 100 then nI (sr_L ce go t) else 0) (nI mm, nI nn, w', ce, tg, wk', ra', ca', pe')) :
    ∃ f, wY_multiple_12 post (nI t) f 1 (nI mm) (nI nn) w ce tg wk ra ca pe := by
  refine pk_loop (σ := Int32 × (Nat → Int64) × (Nat → Int32) × (Nat → Int32) × (Nat → Int32)) (fun f i s => wY_multiple_12 post (nI t) f (nI i) (nI mm) (nI nn) s.1 ce tg s.2.1 s.2.2.1 s.2.2.2.1 s.2.2.2.2) (fun i _ => 0 < i ∧ ∀ q, 0 < q → q < i → ¬ (sr_L ce go t ≠ 0 ∧ sr_L ce go t ∣ q)) 101 1 (w, wk, ra, ca, pe) (by omega) ⟨by decide, fun q a b => by omega⟩ ?_ ?_
  · intro f s hs
    have hp := h s.1 s.2.1 s.2.2.1 s.2.2.2.1 s.2.2.2.2
    refine br_t (by decide) ?_
    by_cases z : sr_L ce go t ≤ 100
    · rw [if_pos z] at hp
      have z0 : sr_L ce go t = 0 := by
        rcases Nat.eq_zero_or_pos (sr_L ce go t) with y | y
        · exact y
        · exact absurd ⟨by omega, Nat.dvd_refl _⟩ (hs.2 (sr_L ce go t) y (by omega))
      rw [z0] at hp
      exact hp
    · rw [if_neg z] at hp
      exact hp
  · intro f i s hi hs hk
    refine br_f (nI_nlt (a := 100) (b := i) (by omega) (by decide)) (sy_meets ht hI hG hg hs.1 (by omega) (fun z w' wk' ra' ca' pe' => br_f (by decide) ?_) (fun z w' wk' ra' ca' pe' => br_t rfl (nm_r (nI_1 i) (hk (w', wk', ra', ca', pe') ⟨by omega, ?_⟩))))
    · have e := sf_least hs.2 z hs.1
      have hp := h w' wk' ra' ca' pe'
      rw [e, if_pos (by omega)] at hp
      exact hp
    · intro q a b
      rcases Nat.lt_or_ge q i with y | y
      · exact hs.2 q a y
      · rw [show q = i from by omega]; exact z
theorem i_vc_multiple {k : Nat} {u : SX} {v : SY} (I : i_Rel k u v) (hk : k + 5 ≤ 2562) (v1 : Int32) : wpX_multiple (fun r u' => wpY_multiple (fun r' v' => r' = r ∧ i_Rel (k + 5) u' v') v v1) u v1 := by
  obtain ⟨mm, nn, ce, tg, go, mi, w, wk, ra, ca, pe, rfl, rfl, hI, hG, hZ⟩ := I
  unfold wpX_multiple wpY_multiple
  dsimp only
  rcases sr_tab v1 with ⟨t, ht, rfl⟩ | ⟨bX, bY⟩
  · refine sr_tX ht (br_f (by decide) (sx_aimT (fun g g1 g2 => ?_)))
    have hG' := sr_Gt hI hG g1 g2
    have hl : sr_L ce g t < 2 ^ 50 := sr_Ll hI hG'
    refine sx_lmg ht hZ (sr_hb hI hG') (fun M hM => ?_)
    dsimp only
    by_cases e : sr_L ce g t ≤ 100
    · refine br_t ((pk_lLE (a := sr_L ce g t) (b := 100) (by omega) (by decide)).mpr e) (sr_tY ht (br_t rfl (sy_mult ht hI hG' g1 (fun w' wk' ra' ca' pe' => ⟨?_, sr_mk hI hG' hM⟩))))
      rw [if_pos e]
      exact (lN_i _).symm
    · refine br_f (fun z => e ((pk_lLE (a := sr_L ce g t) (b := 100) (by omega) (by decide)).mp z)) (sr_tY ht (br_t rfl (sy_mult ht hI hG' g1 (fun w' wk' ra' ca' pe' => ⟨?_, sr_mk hI hG' hM⟩))))
      rw [if_neg e]
  · exact bX _ (br_t rfl (bY _ _ (br_f (by decide) ⟨rfl, sr_mk hI hG hZ⟩)))
/-! within -/
def sr_W (ce : Nat → Int32) (t j : Nat) : Nat := sr_L ce (fun i => ce (16 * t + 4 * i + j)) (1 - t)
theorem sr_Gc {mm nn t c : Nat} {ce tg go g : Nat → Int32} (hI : sr_I mm nn ce tg) (hG : sr_G go) (h1 : ∀ i, i < 4 → g i = ce (16 * t + 4 * i + c)) (h2 : ∀ i, 4 ≤ i → g i = go i) : sr_G g := by
  intro i
  rcases Nat.lt_or_ge i 4 with z | z
  · rw [h1 i z]
    have := hI.2.1 (16 * t + 4 * i + c)
    omega
  · rw [h2 i z]; exact hG i
theorem sr_nx {P : Nat → Prop} {j : Nat} (h : ∀ q, q < j → P q) (hj : P j) : ∀ q, q < j + 1 → P q := by
  intro q hq
  rcases Nat.lt_or_ge q j with z | z
  · exact h q z
  · rw [show q = j from by omega]; exact hj
section
variable {mm nn t : Nat} {w : Int32} {ce tg go : Nat → Int32} {mi wk : Nat → Int64} {ra ca pe : Nat → Int32}
theorem sx_within {post : Int32 → SX → Prop} (ht : t < 2) (hI : sr_I mm nn ce tg) (hG : sr_G go) (hZ : sx_Z mi)
    (h1 : (∀ j, j < nn → sr_W ce t j = 1) → ∀ g M, sr_G g → sx_Z M → post 1 (nI mm, nI nn, ce, tg, g, M))
    (h0 : (¬ ∀ j, j < nn → sr_W ce t j = 1) → ∀ g M, sr_G g → sx_Z M → post 0 (nI mm, nI nn, ce, tg, g, M)) :
    ∃ f, wX_within_11 post (nI t) f 0 (nI mm) (nI nn) ce tg go mi := by
  obtain ⟨m0, m5, n0, n5⟩ := hI.1
  refine pk_loop (σ := (Nat → Int32) × (Nat → Int64)) (fun f j s => wX_within_11 post (nI t) f (nI j) (nI mm) (nI nn) ce tg s.1 s.2) (fun j s => sr_G s.1 ∧ sx_Z s.2 ∧ ∀ q, q < j → sr_W ce t q = 1) nn 0 (go, mi) (by omega) ⟨hG, hZ, fun q hq => absurd hq (Nat.not_lt_zero q)⟩ ?_ ?_
  · intro f s hs
    exact br_t (nI_le (Nat.le_refl nn) (by omega)) (h1 hs.2.2 _ _ hs.1 hs.2.1)
  · intro f j s hj hs hk
    refine br_f (nI_ge hj (by omega)) (sx_aimC ht (by omega) (fun g g1 g2 => ?_))
    dsimp only
    have hG' := sr_Gc hI hs.1 g1 g2
    have hl : sr_L ce g (1 - t) < 2 ^ 50 := sr_Ll hI hG'
    have eL : sr_L ce g (1 - t) = sr_W ce t j := sr_Lc g1
    rw [sr_1t ht]
    refine sx_lmg (t := 1 - t) (by omega) hs.2.1 (sr_hb hI hG') (fun M hM => ?_)
    dsimp only
    by_cases e : sr_W ce t j = 1
    · refine br_t (by show lN (sr_L ce g (1 - t)) = 1; rw [eL, e]; rfl) (nm_r (nI_1 j) (hk (g, M) ⟨hG', hM, sr_nx hs.2.2 e⟩))
    · refine br_f (fun z => e (eL.symm.trans ((pk_lEQ (b := 1) (by omega) (by decide)).mp z))) (h0 (fun z => e (z j hj)) _ _ hG' hM)
theorem sy_within {post : Int32 → SY → Prop} (ht : t < 2) (hI : sr_I mm nn ce tg)
    (h1 : (∀ j, j < nn → sr_W ce t j = 1) → ∀ w' wk' ra' ca' pe', post 1 (nI mm, nI nn, w', ce, tg, wk', ra', ca', pe'))
    (h0 : (¬ ∀ j, j < nn → sr_W ce t j = 1) → ∀ w' wk' ra' ca' pe', post 0 (nI mm, nI nn, w', ce, tg, wk', ra', ca', pe')) :
    ∃ f, wY_within_12 post (nI t) f 0 (nI mm) (nI nn) w ce tg wk ra ca pe := by
  obtain ⟨m0, m5, n0, n5⟩ := hI.1
  refine pk_loop (σ := Int32 × (Nat → Int64) × (Nat → Int32) × (Nat → Int32) × (Nat → Int32)) (fun f j s => wY_within_12 post (nI t) f (nI j) (nI mm) (nI nn) s.1 ce tg s.2.1 s.2.2.1 s.2.2.2.1 s.2.2.2.2) (fun j _ => ∀ q, q < j → sr_W ce t q = 1) nn 0 (w, wk, ra, ca, pe) (by omega) (fun q hq => absurd hq (Nat.not_lt_zero q)) ?_ ?_
  · intro f s hs
    exact br_t (nI_le (Nat.le_refl nn) (by omega)) (h1 hs _ _ _ _ _)
  · intro f j s hj hs hk
    refine br_f (nI_ge hj (by omega)) ?_
    rw [sr_1t ht]
    refine sy_take (t := 1 - t) (by omega) (fun wk1 hW => ?_)
    dsimp only
    have hGj : sr_G (fun i => ce (16 * t + 4 * i + j)) := by
      intro i
      have := hI.2.1 (16 * t + 4 * i + j)
      show -200 ≤ (ce (16 * t + 4 * i + j)).toInt ∧ (ce (16 * t + 4 * i + j)).toInt ≤ 200
      omega
    have hz : ∀ i, i < 4 → mm ≤ i → (fun i => ce (16 * t + 4 * i + j)) i = 0 := fun i hi hm => hI.2.2.1 (16 * t + 4 * i + j) (by omega) (Or.inl (by omega))
    refine pk_loop (σ := Nat → Int64) (fun f' i W => wY_within_29 post (wY_within_12 post (nI t) f) (nI t) (nI j) (nI mm) (nI nn) (nI nn) f' (nI i) ce tg W s.2.2.1 s.2.2.2.1 s.2.2.2.2) (fun i W => (∀ a, a < 4 → ∀ b, b < nn → W (5 * a + b) = sx_F ce (fun i => ce (16 * t + 4 * i + j)) (1 - t) a b) ∧ ∀ a, a < i → W (5 * a + nn) = (ce (16 * t + 4 * a + j)).toInt64) 4 0 wk1 (by omega) ⟨sr_hW n5 hW, fun a ha => absurd ha (Nat.not_lt_zero a)⟩ ?_ ?_
    · intro f' W hW'
      refine br_t (by decide) ?_
      have hGF : ∀ i, i < 4 → W (5 * i + nn) = sx_F ce (fun i => ce (16 * t + 4 * i + j)) (1 - t) i 4 * 1 := by
        intro i hi
        rw [hW'.2 i hi]
        unfold sx_F
        rw [if_pos rfl]
        grind
      refine sy_met (F := sx_F ce (fun i => ce (16 * t + 4 * i + j)) (1 - t)) (q := 1) m5 m0 n5 n0 hW'.1 hGF (sr_hr (by omega) hI hz) (sr_hc (by omega) hI) (sr_hb hI hGj) (by decide) (by decide) (fun z w' ra' ca' pe' => ?_) (fun z w' ra' ca' pe' => ?_)
      · have z1 : sr_W ce t j = 1 := sr_1.mp z
        exact br_f (by decide) (nm_r (nI_1 j) (hk (w', W, ra', ca', pe') (sr_nx hs z1)))
      · exact br_t rfl (h0 (fun y => z (sr_1.mpr (y j hj))) _ _ _ _ _)
    · intro f' i W hi hW' hki
      have e2 : 5 * nI i + nI nn = nI (5 * i + nn) := by
        show nI 5 * _ + _ = _
        rw [pk_mul, nI_add]
      refine br_f (nI_ge (b := 4) hi (by decide)) ?_
      rw [sf_cellY, e2, nI_clamp (by omega), nI_clamp (by omega)]
      refine ⟨vp_in_nI (by omega) (by omega), vp_in_nI (by omega) (by omega), nm_e (nm_r (nI_1 i) (hki _ ⟨fun a ha b hb => ?_, fun a ha => ?_⟩))⟩
      · rw [pk_uLn (by omega)]; exact hW'.1 a ha b hb
      · rcases Nat.lt_or_ge a i with z | z
        · rw [pk_uLn (by omega)]; exact hW'.2 a z
        · rw [show a = i from by omega]; exact pk_uLs
end
theorem i_vc_within {k : Nat} {u : SX} {v : SY} (I : i_Rel k u v) (hk : k + 5 ≤ 2562) (v1 : Int32) : wpX_within (fun r u' => wpY_within (fun r' v' => r' = r ∧ i_Rel (k + 5) u' v') v v1) u v1 := by
  obtain ⟨mm, nn, ce, tg, go, mi, w, wk, ra, ca, pe, rfl, rfl, hI, hG, hZ⟩ := I
  unfold wpX_within wpY_within
  dsimp only
  rcases sr_tab v1 with ⟨t, ht, rfl⟩ | ⟨bX, bY⟩
  · refine sr_tX ht (br_f (by decide) (sx_within ht hI hG hZ (fun hall g M hg hM => sr_tY ht (br_t rfl (sy_within ht hI (fun _ w' wk' ra' ca' pe' => ⟨rfl, sr_mk hI hg hM⟩) (fun z => absurd hall z)))) (fun hall g M hg hM => sr_tY ht (br_t rfl (sy_within ht hI (fun z => absurd z hall) (fun _ w' wk' ra' ca' pe' => ⟨rfl, sr_mk hI hg hM⟩))))))
  · exact bX _ (br_t rfl (bY _ _ (br_f (by decide) ⟨rfl, sr_mk hI hG hZ⟩)))
