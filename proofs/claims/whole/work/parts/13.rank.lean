/-! rank, divisor, factor, classes, determinant -/
section
variable {mm nn t : Nat} {ce tg go go' : Nat → Int32} {wk : Nat → Int64}
theorem sr_hb (hI : sr_I mm nn ce tg) (hG : sr_G go) : ∀ i, i < 4 → ∀ j, j < 5 → sf_ab (sx_F ce go t i j) ≤ 200 := by
  intro i _ j _
  unfold sx_F
  by_cases e : j = 4
  · rw [if_pos e, sf_ab64]
    have := hG i
    omega
  · rw [if_neg e, sf_ab64]
    have := hI.2.1 (16 * t + 4 * i + j)
    omega
theorem sr_z64 : (0 : Int32).toInt64 = 0 := by decide
theorem sr_hr (ht : t < 2) (hI : sr_I mm nn ce tg) (hz : ∀ i, i < 4 → mm ≤ i → go i = 0) : ∀ i, i < 4 → mm ≤ i → ∀ j, j < 5 → sx_F ce go t i j = 0 := by
  intro i hi hm j hj
  unfold sx_F
  by_cases e : j = 4
  · rw [if_pos e, hz i hi hm, sr_z64]
  · rw [if_neg e, hI.2.2.1 (16 * t + 4 * i + j) (by omega) (Or.inl (by omega)), sr_z64]
theorem sr_hc (ht : t < 2) (hI : sr_I mm nn ce tg) : ∀ j, j < 4 → nn ≤ j → ∀ i, i < 4 → sx_F ce go t i j = 0 := by
  intro j hj hn i hi
  unfold sx_F
  rw [if_neg (by omega), hI.2.2.1 (16 * t + 4 * i + j) (by omega) (Or.inr (by omega)), sr_z64]
theorem sr_hW (n5 : nn < 5) (hW : ∀ i, i < 4 → ∀ j, j < 4 → wk (5 * i + j) = (ce (16 * t + 4 * i + j)).toInt64) : ∀ i, i < 4 → ∀ j, j < nn → wk (5 * i + j) = sx_F ce go t i j := by
  intro i hi j hj
  unfold sx_F
  rw [if_neg (by omega)]
  exact hW i hi j (by omega)
theorem sr_pmg {k r c : Nat} (hc : c < 16) : sf_pm (sx_F ce go t) k r c = sf_pm (sx_F ce go' t) k r c := by
  refine sf_pm_no (fun i _ j hj => ?_) k r c (by omega) (sf_S4b c hc).2
  unfold sx_F
  rw [if_neg (by omega), if_neg (by omega)]
theorem sr_D (k : Nat) : sf_D (sx_F ce go t) k = sf_D (sx_F ce go' t) k := by
  refine sf_go_congr 16 (fun a ha b hb => ?_)
  rw [sr_pmg (go := go) (go' := go') hb]
theorem sr_V (ht : t < 2) (hI : sr_I mm nn ce tg) (hW : ∀ i, i < 4 → ∀ j, j < 4 → wk (5 * i + j) = (ce (16 * t + 4 * i + j)).toInt64) {k : Nat} (hk : k ≤ 4) : sy_V wk mm nn k = sf_D (sx_F ce go t) k := by
  obtain ⟨m0, m5, n0, n5⟩ := hI.1
  rw [sy_V1 (F := sx_F ce tg t) m5 m0 n5 n0 (sr_hW n5 hW) (sr_hr ht hI hI.2.2.2.2) (sr_hc ht hI) hk]
  exact sr_D k
theorem sr_B (hI : sr_I mm nn ce tg) (hW : ∀ i, i < 4 → ∀ j, j < 4 → wk (5 * i + j) = (ce (16 * t + 4 * i + j)).toInt64) : sy_B wk mm nn := by
  obtain ⟨m0, m5, n0, n5⟩ := hI.1
  exact sy_B1 (F := sx_F ce tg t) n5 n0 m5 (sr_hW n5 hW) (sr_hb hI hI.2.2.2.1)
end
theorem i_vc_rank {k : Nat} {u : SX} {v : SY} (I : i_Rel k u v) (hk : k + 5 ≤ 2562) (v1 : Int32) : wpX_rank (fun r u' => wpY_rank (fun r' v' => r' = r ∧ i_Rel (k + 5) u' v') v v1) u v1 := by
  obtain ⟨mm, nn, ce, tg, go, mi, w, wk, ra, ca, pe, rfl, rfl, hI, hG, hZ⟩ := I
  obtain ⟨m0, m5, n0, n5⟩ := hI.1
  unfold wpX_rank wpY_rank
  dsimp only
  rcases sr_tab v1 with ⟨t, ht, rfl⟩ | ⟨bX, bY⟩
  · refine sr_tX ht (br_f (by decide) (sx_find ht hZ (fun M hM hR => ?_)))
    refine sx_rank (F := sx_F ce go t) ⟨hM, hR, sr_hb hI hG⟩ ?_
    refine sr_tY ht (br_t rfl (sy_take ht (fun wk' hW => ?_)))
    refine sy_ranked (by omega) (by omega) (sr_B hI hW) (fun ra' ca' pe' => ⟨?_, sr_mk hI hG hM⟩)
    rw [sf_rD_congr 4 (fun j _ hj => sr_V (go := go) ht hI hW hj)]
  · exact bX _ (br_t rfl (bY _ _ (br_f (by decide) ⟨rfl, sr_mk hI hG hZ⟩)))
theorem i_vc_divisor {k : Nat} {u : SX} {v : SY} (I : i_Rel k u v) (hk : k + 5 ≤ 2562) (v1 : Int32) (v2 : Int32) : wpX_divisor (fun r u' => wpY_divisor (fun r' v' => r' = r ∧ i_Rel (k + 5) u' v') v v1 v2) u v1 v2 := by
  obtain ⟨mm, nn, ce, tg, go, mi, w, wk, ra, ca, pe, rfl, rfl, hI, hG, hZ⟩ := I
  obtain ⟨m0, m5, n0, n5⟩ := hI.1
  unfold wpX_divisor wpY_divisor
  dsimp only
  rcases sr_tab v1 with ⟨t, ht, rfl⟩ | ⟨bX, bY⟩
  · by_cases h0 : v2 < 0
    · exact sr_tX ht (br_f (by decide) (br_t h0 (sr_tY ht (br_t rfl (br_t h0 ⟨rfl, sr_mk hI hG hZ⟩)))))
    · by_cases h4 : v2 ≤ 4
      · obtain ⟨d, hd, rfl⟩ := nI_of h0
        have d4 : d ≤ 4 := (nI_leI (b := 4) hd (by decide)).mp h4
        refine sr_tX ht (br_f (by decide) (br_f h0 (br_t h4 (sx_find ht hZ (fun M hM hR => ?_)))))
        refine sx_fD (F := sx_F ce go t) (by omega) ⟨hM, hR, sr_hb hI hG⟩ ?_
        refine sr_tY ht (br_t rfl (br_f h0 (br_t h4 (sy_take ht (fun wk' hW => ?_)))))
        refine sy_div (by omega) (by omega) d4 (sr_B hI hW) (fun ra' ca' pe' => ⟨?_, sr_mk hI hG hM⟩)
        rw [sr_V (go := go) ht hI hW d4]
      · exact sr_tX ht (br_f (by decide) (br_f h0 (br_f h4 (sr_tY ht (br_t rfl (br_f h0 (br_f h4 ⟨rfl, sr_mk hI hG hZ⟩)))))))
  · exact bX _ (br_t rfl (bY _ _ (br_f (by decide) ⟨rfl, sr_mk hI hG hZ⟩)))
theorem i_vc_factor {k : Nat} {u : SX} {v : SY} (I : i_Rel k u v) (hk : k + 5 ≤ 2562) (v1 : Int32) (v2 : Int32) : wpX_factor (fun r u' => wpY_factor (fun r' v' => r' = r ∧ i_Rel (k + 5) u' v') v v1 v2) u v1 v2 := by
  obtain ⟨mm, nn, ce, tg, go, mi, w, wk, ra, ca, pe, rfl, rfl, hI, hG, hZ⟩ := I
  obtain ⟨m0, m5, n0, n5⟩ := hI.1
  unfold wpX_factor
  dsimp only
  rcases sr_tab v1 with ⟨t, ht, rfl⟩ | ⟨bX, bY⟩
  · by_cases h0 : v2 < 1
    · refine sr_tX ht (br_f (by decide) (br_t h0 ?_))
      unfold wpY_factor
      dsimp only
      exact sr_tY ht (br_t rfl (br_t h0 ⟨rfl, sr_mk hI hG hZ⟩))
    · by_cases h4 : v2 ≤ 4
      · obtain ⟨d, hd, rfl⟩ := nI_of (x := v2) (Int32.not_lt.mpr (Int32.le_trans (by decide : (0 : Int32) ≤ 1) (Int32.not_lt.mp h0)))
        have d4 : d ≤ 4 := (nI_leI (b := 4) hd (by decide)).mp h4
        have d1 : 1 ≤ d := (nI_leI (a := 1) (by decide) hd).mp (Int32.not_lt.mp h0)
        obtain ⟨c, rfl⟩ : ∃ c, d = c + 1 := ⟨d - 1, by omega⟩
        have hb := sr_hb (t := t) hI hG
        refine sr_tX ht (br_f (by decide) (br_f h0 (br_t h4 (sx_find ht hZ (fun M hM hR => ?_)))))
        dsimp only
        rw [nI_pred]
        have hO : sx_OK (sx_F ce go t) M := ⟨hM, hR, hb⟩
        have l0 := sf_Dlt hb (k := c) (by omega)
        have l1 := sf_Dlt hb (k := c + 1) (by omega)
        refine sx_fD (by omega) hO ?_
        have Y : ∀ r : Int64, r = (if sf_D (sx_F ce go t) c = 0 then 0 else lN (sf_D (sx_F ce go t) (c + 1) / sf_D (sx_F ce go t) c)) → wpY_factor (fun r' v' => r' = r ∧ i_Rel (k + 5) (nI mm, nI nn, ce, tg, go, M) v') (nI mm, nI nn, w, ce, tg, wk, ra, ca, pe) (nI t) (nI (c + 1)) := by
          intro r hr
          unfold wpY_factor
          dsimp only
          refine sr_tY ht (br_t rfl (br_f h0 (br_t h4 (sy_take ht (fun wk' hW => ?_)))))
          refine sy_div (by omega) (by omega) d4 (sr_B hI hW) (fun ra1 ca1 pe1 => ?_)
          dsimp only
          rw [nI_pred]
          refine sy_div (by omega) (by omega) (by omega) (sr_B hI hW) (fun ra2 ca2 pe2 => ?_)
          dsimp only
          rw [sr_V (go := go) ht hI hW d4, sr_V (go := go) ht hI hW (show c ≤ 4 by omega)]
          by_cases e1 : sf_D (sx_F ce go t) (c + 1) = 0
          · refine br_t ((sx_lN0 l1).mpr e1) ⟨?_, sr_mk hI hG hM⟩
            rw [hr, e1, Nat.zero_div]
            by_cases e0 : sf_D (sx_F ce go t) c = 0
            · rw [if_pos e0]
            · rw [if_neg e0]; rfl
          · refine br_f (fun z => e1 ((sx_lN0 l1).mp z)) ?_
            by_cases e0 : sf_D (sx_F ce go t) c = 0
            · exact br_t ((sx_lN0 l0).mpr e0) ⟨by rw [hr, if_pos e0], sr_mk hI hG hM⟩
            · have nz : ¬ lN (sf_D (sx_F ce go t) c) = 0 := fun z => e0 ((sx_lN0 l0).mp z)
              refine br_f nz ⟨nz, ?_, sr_mk hI hG hM⟩
              rw [pk_lDiv (by omega) (by omega) (by omega), hr, if_neg e0]
        by_cases e0 : sf_D (sx_F ce go t) c = 0
        · exact br_t ((sx_lN0 l0).mpr e0) (Y 0 (by rw [if_pos e0]))
        · have nz : ¬ lN (sf_D (sx_F ce go t) c) = 0 := fun z => e0 ((sx_lN0 l0).mp z)
          refine br_f nz (sx_fD (by omega) hO ⟨nz, Y _ ?_⟩)
          rw [pk_lDiv (by omega) (by omega) (by omega), if_neg e0]
      · refine sr_tX ht (br_f (by decide) (br_f h0 (br_f h4 ?_)))
        unfold wpY_factor
        dsimp only
        exact sr_tY ht (br_t rfl (br_f h0 (br_f h4 ⟨rfl, sr_mk hI hG hZ⟩)))
  · refine bX _ (br_t rfl ?_)
    unfold wpY_factor
    dsimp only
    exact bY _ _ (br_f (by decide) ⟨rfl, sr_mk hI hG hZ⟩)
theorem i_vc_classes {k : Nat} {u : SX} {v : SY} (I : i_Rel k u v) (hk : k + 5 ≤ 2562) (v1 : Int32) : wpX_classes (fun r u' => wpY_classes (fun r' v' => r' = r ∧ i_Rel (k + 5) u' v') v v1) u v1 := by
  obtain ⟨mm, nn, ce, tg, go, mi, w, wk, ra, ca, pe, rfl, rfl, hI, hG, hZ⟩ := I
  obtain ⟨m0, m5, n0, n5⟩ := hI.1
  unfold wpX_classes wpY_classes
  dsimp only
  rcases sr_tab v1 with ⟨t, ht, rfl⟩ | ⟨bX, bY⟩
  · refine sr_tX ht (br_f (by decide) (sx_find ht hZ (fun M hM hR => ?_)))
    refine sx_fD (F := sx_F ce go t) (by omega) ⟨hM, hR, sr_hb hI hG⟩ ?_
    refine sr_tY ht (br_t rfl (sy_take ht (fun wk' hW => ?_)))
    refine sy_div (by omega) (by omega) (by omega) (sr_B hI hW) (fun ra' ca' pe' => ⟨?_, sr_mk hI hG hM⟩)
    rw [sr_V (go := go) ht hI hW (by omega)]
  · exact bX _ (br_t rfl (bY _ _ (br_f (by decide) ⟨rfl, sr_mk hI hG hZ⟩)))
theorem i_vc_determinant {k : Nat} {u : SX} {v : SY} (I : i_Rel k u v) (hk : k + 5 ≤ 2562) (v1 : Int32) : wpX_determinant (fun r u' => wpY_determinant (fun r' v' => r' = r ∧ i_Rel (k + 5) u' v') v v1) u v1 := by
  obtain ⟨mm, nn, ce, tg, go, mi, w, wk, ra, ca, pe, rfl, rfl, hI, hG, hZ⟩ := I
  obtain ⟨m0, m5, n0, n5⟩ := hI.1
  unfold wpX_determinant wpY_determinant
  dsimp only
  rcases sr_tab v1 with ⟨t, ht, rfl⟩ | ⟨bX, bY⟩
  · by_cases e : mm = nn
    · subst e
      have hp := (sf_S7 mm m5).1
      have hp0 : 0 < 2 ^ mm := Nat.two_pow_pos mm
      obtain ⟨a32, asz⟩ := sf_K4 mm m5
      have ea : ((1 : Int32) <<< (nI mm &&& 31)) - 1 = nI (2 ^ mm - 1) := by
        rw [sf_1shl mm (by omega)]
        exact pk_sub (b := 1) (by omega)
      have alt : 2 ^ mm - 1 < 2 ^ mm := by omega
      have a16 : 2 ^ mm - 1 < 16 := by omega
      refine sr_tX ht (br_f (by decide) (br_t rfl (sx_find ht hZ (fun M hM hR => ?_))))
      dsimp only
      refine nm_r ea ?_
      generalize 2 ^ mm - 1 = a at *
      have e2 : nI a * 32 + nI a = nI (32 * a + a) := by
        show nI a * nI 32 + _ = _
        rw [pk_mul, nI_add]; exact congrArg nI (by omega)
      rw [e2]
      refine ⟨vp_in_nI (by omega) (by omega), ?_⟩
      rw [nI_clamp (by omega), hR a a16 a a32 rfl, asz]
      refine sr_tY ht (br_t rfl (br_t rfl (sy_take ht (fun wk' hW => nm_r ea ?_))))
      refine sy_rows a16 (fun ra' hra => sy_cols a32 (by omega) (fun ca' hca => ?_))
      refine sy_minor (G := fun i j => wk' (5 * sf_rk a i + sf_rk a j)) (R := sf_rk a) (C := sf_rk a) (by omega) (fun i hi => ⟨hra i (by omega), sf_S2 a a32 a16 i (by omega)⟩) (fun j hj => ⟨hca j (by omega), sf_rk5 a a32 j (by omega)⟩) (fun i _ j _ => rfl) (fun pe' => ⟨?_, sr_mk hI hG hM⟩)
      exact sf_val1 (F := sx_F ce go t) n5 n0 (sr_hW n5 hW) a16 alt m0 (by omega) asz asz
    · have ne : ¬ nI mm = nI nn := fun z => e ((nI_eq (by omega) (by omega)).mp z)
      exact sr_tX ht (br_f (by decide) (br_f ne (sr_tY ht (br_t rfl (br_f ne ⟨rfl, sr_mk hI hG hZ⟩)))))
  · exact bX _ (br_t rfl (bY _ _ (br_f (by decide) ⟨rfl, sr_mk hI hG hZ⟩)))
