/-! fill and mirror -/
def sr_ev (x3 x5 x6 : Int32) (j : Nat) : Int32 := (x3 + (nI j * x5)) + ((nI j * nI j) * x6)
def sr_ok (x : Int32) : Prop := -12 ≤ x.toInt ∧ x.toInt ≤ 12
def sr_wr (ce : Nat → Int32) (b : Nat) (ev : Nat → Int32) : Nat → Nat → Int32
  | 0 => ce
  | j + 1 => upd (sr_wr ce b ev j) (b + j) (ev j)
theorem sr_wrI {mm nn : Nat} {ce tg : Nat → Int32} {t i : Nat} {ev : Nat → Int32} (hI : sr_I mm nn ce tg) (hi : i < mm) : ∀ j, j ≤ nn → (∀ q, q < j → sr_ok (ev q)) → sr_I mm nn (sr_wr ce (16 * t + 4 * i) ev j) tg := by
  obtain ⟨m0, m5, n0, n5⟩ := hI.1
  intro j
  induction j with
  | zero => intro _ _; exact hI
  | succ j ih =>
    intro hj h
    exact sr_up (ih (by omega) (fun q hq => h q (by omega))) (h j (by omega)) (by omega) (by omega)
section
variable {mm nn : Nat} {w : Int32} {ce tg go : Nat → Int32} {mi wk : Nat → Int64} {ra ca pe : Nat → Int32} {x3 x5 x6 : Int32} {t i : Nat}
theorem sx_f120 {post : Int32 → SX → Prop} (ht : t < 2) (hi : i < 4) (n5 : nn < 5) (h : post 0 (nI mm, nI nn, sr_wr ce (16 * t + 4 * i) (sr_ev x3 x5 x6) nn, tg, go, mi)) : ∃ f, wX_fill_120 post (nI t) (nI i) x3 x5 x6 (nI mm) (nI nn) f 0 ce tg go mi := by
  refine pk_loop (σ := Nat → Int32) (fun f j c => wX_fill_120 post (nI t) (nI i) x3 x5 x6 (nI mm) (nI nn) f (nI j) c tg go mi) (fun j c => c = sr_wr ce (16 * t + 4 * i) (sr_ev x3 x5 x6) j) nn 0 ce (by omega) rfl ?_ ?_
  · intro f c hc
    subst hc
    exact br_t (nI_le (Nat.le_refl nn) (by omega)) h
  · intro f j c hj hc hk
    subst hc
    refine br_f (nI_ge hj (by omega)) ?_
    unfold wpX_cellAt
    dsimp only
    rw [sf_cell, nI_clamp (by omega)]
    exact ⟨vp_in_nI (by omega) (by omega), nm_e (nm_r (nI_1 j) (hk _ rfl))⟩
theorem sx_f77 {post : Int32 → SX → Prop} (n5 : nn < 5) (hall : ∀ j, j < nn → sr_ok (sr_ev x3 x5 x6 j)) (h : ∃ f, wX_fill_120 post (nI t) (nI i) x3 x5 x6 (nI mm) (nI nn) f 0 ce tg go mi) : ∃ f, wX_fill_77 post (nI t) (nI i) x3 x5 x6 (nI mm) (nI nn) ce tg go mi f 0 := by
  refine pk_loop (σ := Unit) (fun f j _ => wX_fill_77 post (nI t) (nI i) x3 x5 x6 (nI mm) (nI nn) ce tg go mi f (nI j)) (fun _ _ => True) nn 0 () (by omega) trivial ?_ ?_
  · intro f c _
    exact br_t (nI_le (Nat.le_refl nn) (by omega)) h
  · intro f j c hj _ hk
    exact br_f (nI_ge hj (by omega)) (sr_eX (hall j hj) (br_f (by decide) (nm_r (nI_1 j) (hk () trivial))))
theorem sx_f77n {post : Int32 → SX → Prop} (n5 : nn < 5) (hall : ¬ ∀ j, j < nn → sr_ok (sr_ev x3 x5 x6 j)) (h : post (-3) (nI mm, nI nn, ce, tg, go, mi)) : ∃ f, wX_fill_77 post (nI t) (nI i) x3 x5 x6 (nI mm) (nI nn) ce tg go mi f 0 := by
  refine pk_loop (σ := Unit) (fun f j _ => wX_fill_77 post (nI t) (nI i) x3 x5 x6 (nI mm) (nI nn) ce tg go mi f (nI j)) (fun j _ => ∀ q, q < j → sr_ok (sr_ev x3 x5 x6 q)) nn 0 () (by omega) (fun q hq => absurd hq (Nat.not_lt_zero q)) ?_ ?_
  · intro f c hc
    exact absurd hc hall
  · intro f j c hj hc hk
    refine br_f (nI_ge hj (by omega)) ?_
    by_cases z : sr_ok (sr_ev x3 x5 x6 j)
    · refine sr_eX z (br_f (by decide) (nm_r (nI_1 j) (hk () ?_)))
      intro q hq
      rcases Nat.lt_or_ge q j with y | y
      · exact hc q y
      · rw [show q = j from by omega]; exact z
    · exact sr_eXn z (br_t rfl h)
theorem sy_f124 {post : Int32 → SY → Prop} (ht : t < 2) (hi : i < 4) (n5 : nn < 5) (h : post 0 (nI mm, nI nn, w, sr_wr ce (16 * t + 4 * i) (sr_ev x3 x5 x6) nn, tg, wk, ra, ca, pe)) : ∃ f, wY_fill_124 post (nI t) (nI i) x3 x5 x6 (nI mm) (nI nn) w f 0 ce tg wk ra ca pe := by
  refine pk_loop (σ := Nat → Int32) (fun f j c => wY_fill_124 post (nI t) (nI i) x3 x5 x6 (nI mm) (nI nn) w f (nI j) c tg wk ra ca pe) (fun j c => c = sr_wr ce (16 * t + 4 * i) (sr_ev x3 x5 x6) j) nn 0 ce (by omega) rfl ?_ ?_
  · intro f c hc
    subst hc
    exact br_t (nI_le (Nat.le_refl nn) (by omega)) h
  · intro f j c hj hc hk
    subst hc
    refine br_f (nI_ge hj (by omega)) ?_
    rw [sf_cellY, nI_clamp (by omega)]
    exact ⟨vp_in_nI (by omega) (by omega), nm_e (nm_r (nI_1 j) (hk _ rfl))⟩
theorem sy_f80 {post : Int32 → SY → Prop} (n5 : nn < 5) (hall : ∀ j, j < nn → sr_ok (sr_ev x3 x5 x6 j)) (h : ∃ f, wY_fill_124 post (nI t) (nI i) x3 x5 x6 (nI mm) (nI nn) w f 0 ce tg wk ra ca pe) : ∃ f, wY_fill_80 post (nI t) (nI i) x3 x5 x6 (nI mm) (nI nn) w ce tg wk ra ca pe f 0 := by
  refine pk_loop (σ := Unit) (fun f j _ => wY_fill_80 post (nI t) (nI i) x3 x5 x6 (nI mm) (nI nn) w ce tg wk ra ca pe f (nI j)) (fun _ _ => True) nn 0 () (by omega) trivial ?_ ?_
  · intro f c _
    exact br_t (nI_le (Nat.le_refl nn) (by omega)) h
  · intro f j c hj _ hk
    exact br_f (nI_ge hj (by omega)) (sr_eY (hall j hj) (br_t rfl (nm_r (nI_1 j) (hk () trivial))))
theorem sy_f80n {post : Int32 → SY → Prop} (n5 : nn < 5) (hall : ¬ ∀ j, j < nn → sr_ok (sr_ev x3 x5 x6 j)) (h : post (-3) (nI mm, nI nn, w, ce, tg, wk, ra, ca, pe)) : ∃ f, wY_fill_80 post (nI t) (nI i) x3 x5 x6 (nI mm) (nI nn) w ce tg wk ra ca pe f 0 := by
  refine pk_loop (σ := Unit) (fun f j _ => wY_fill_80 post (nI t) (nI i) x3 x5 x6 (nI mm) (nI nn) w ce tg wk ra ca pe f (nI j)) (fun j _ => ∀ q, q < j → sr_ok (sr_ev x3 x5 x6 q)) nn 0 () (by omega) (fun q hq => absurd hq (Nat.not_lt_zero q)) ?_ ?_
  · intro f c hc
    exact absurd hc hall
  · intro f j c hj hc hk
    refine br_f (nI_ge hj (by omega)) ?_
    by_cases z : sr_ok (sr_ev x3 x5 x6 j)
    · refine sr_eY z (br_t rfl (nm_r (nI_1 j) (hk () ?_)))
      intro q hq
      rcases Nat.lt_or_ge q j with y | y
      · exact hc q y
      · rw [show q = j from by omega]; exact z
    · exact sr_eYn z (br_f (by decide) h)
theorem sr_24 {c : Nat} (hc : c < 2 ^ 30) : sr_ok (nI c - 12) ↔ c ≤ 24 := by
  unfold sr_ok
  rw [show nI c - 12 = nI c - nI 12 from rfl, pk_sub_toInt hc (by decide)]
  omega
theorem sr_fill (hI : sr_I mm nn ce tg) (v1 v2 v3 v4 : Int32) : ∃ (r : Int32) (ce' : Nat → Int32), sr_I mm nn ce' tg ∧ (∀ post : Int32 → SX → Prop, post r (nI mm, nI nn, ce', tg, go, mi) → wpX_fill post (nI mm, nI nn, ce, tg, go, mi) v1 v2 v3 v4) ∧ (∀ post : Int32 → SY → Prop, post r (nI mm, nI nn, w, ce', tg, wk, ra, ca, pe) → wpY_fill post (nI mm, nI nn, w, ce, tg, wk, ra, ca, pe) v1 v2 v3 v4) := by
  obtain ⟨m0, m5, n0, n5⟩ := hI.1
  unfold wpX_fill wpY_fill
  dsimp only
  rcases sr_tab v1 with ⟨t, ht, rfl⟩ | ⟨bX, bY⟩
  · rcases sr_row (mm := mm) (cc := nI nn) (n := nI nn) (w := w) (ce := ce) (tg := tg) (go := go) (mi := mi) (wk := wk) (ra := ra) (ca := ca) (pe := pe) m5 v2 with ⟨i, hi, rfl⟩ | ⟨cX, cY⟩
    · by_cases h4 : v4 < 0
      · exact ⟨-3, ce, hI, fun post hp => sr_tX ht (br_f (by decide) (sr_rX m5 hi (br_f (by decide) (br_f (Int32.not_le.mpr h4) hp)))), fun post hp => sr_tY ht (br_t rfl (sr_rY m5 hi (br_t rfl (br_t h4 hp))))⟩
      · obtain ⟨b, hb, rfl⟩ := nI_of h4
        have h4' : 0 ≤ nI b := Int32.not_lt.mp h4
        have e1 : nI b / 32 = nI (b / 32) := pk_div hb (by decide : 0 < 32) (by decide)
        have e2 : nI b - nI b / 32 * 32 = nI (b % 32) := pk_rem hb (by decide : 0 < 32) (by decide)
        have n32 : ¬ (32 : Int32) = 0 := by decide
        have k1 := sr_24 (c := b / 32) (by omega)
        have k2 := sr_24 (c := b % 32) (by omega)
        rw [e2, e1]
        by_cases z1 : sr_ok v3 ∧ b / 32 ≤ 24 ∧ b % 32 ≤ 24
        · obtain ⟨y1, y2, y3⟩ := z1
          by_cases hall : ∀ j, j < nn → sr_ok (sr_ev v3 (nI (b / 32) - 12) (nI (b % 32) - 12) j)
          · exact ⟨0, sr_wr ce (16 * t + 4 * i) (sr_ev v3 (nI (b / 32) - 12) (nI (b % 32) - 12)) nn, sr_wrI hI hi nn (Nat.le_refl nn) hall,
              fun post hp => sr_tX ht (br_f (by decide) (sr_rX m5 hi (br_f (by decide) (br_t h4' ⟨n32, nm_e ⟨n32, nm_e (sr_eX y1 (br_f (by decide) (sr_eX (k1.mpr y2) (br_f (by decide) (sr_eX (k2.mpr y3) (br_f (by decide) (sx_f77 n5 hall (sx_f120 ht (by omega) n5 hp))))))))⟩⟩)))),
              fun post hp => sr_tY ht (br_t rfl (sr_rY m5 hi (br_t rfl (br_f h4 ⟨n32, br_f (nI_nlt (a := 24) y2 (by omega)) ⟨n32, br_f (nI_nlt (a := 24) y3 (by omega)) (sr_eY y1 (br_t rfl ⟨n32, nm_e ⟨n32, nm_e (sy_f80 n5 hall (sy_f124 ht (by omega) n5 hp))⟩⟩))⟩⟩))))⟩
          · exact ⟨-3, ce, hI,
              fun post hp => sr_tX ht (br_f (by decide) (sr_rX m5 hi (br_f (by decide) (br_t h4' ⟨n32, nm_e ⟨n32, nm_e (sr_eX y1 (br_f (by decide) (sr_eX (k1.mpr y2) (br_f (by decide) (sr_eX (k2.mpr y3) (br_f (by decide) (sx_f77n n5 hall hp)))))))⟩⟩)))),
              fun post hp => sr_tY ht (br_t rfl (sr_rY m5 hi (br_t rfl (br_f h4 ⟨n32, br_f (nI_nlt (a := 24) y2 (by omega)) ⟨n32, br_f (nI_nlt (a := 24) y3 (by omega)) (sr_eY y1 (br_t rfl ⟨n32, nm_e ⟨n32, nm_e (sy_f80n n5 hall hp)⟩⟩))⟩⟩))))⟩
        · refine ⟨-3, ce, hI, fun post hp => sr_tX ht (br_f (by decide) (sr_rX m5 hi (br_f (by decide) (br_t h4' ⟨n32, nm_e ⟨n32, nm_e ?_⟩⟩)))), fun post hp => sr_tY ht (br_t rfl (sr_rY m5 hi (br_t rfl (br_f h4 ⟨n32, ?_⟩))))⟩
          · by_cases y1 : sr_ok v3
            · refine sr_eX y1 (br_f (by decide) ?_)
              by_cases y2 : b / 32 ≤ 24
              · exact sr_eX (k1.mpr y2) (br_f (by decide) (sr_eXn (fun y3 => z1 ⟨y1, y2, k2.mp y3⟩) (br_t rfl hp)))
              · exact sr_eXn (fun y => y2 (k1.mp y)) (br_t rfl hp)
            · exact sr_eXn y1 (br_t rfl hp)
          · by_cases y2 : b / 32 ≤ 24
            · refine br_f (nI_nlt (a := 24) y2 (by omega)) ⟨n32, ?_⟩
              by_cases y3 : b % 32 ≤ 24
              · exact br_f (nI_nlt (a := 24) y3 (by omega)) (sr_eYn (fun y1 => z1 ⟨y1, y2, y3⟩) (br_f (by decide) hp))
              · exact br_t (nI_lt (a := 24) (by omega) (by omega)) hp
            · exact br_t (nI_lt (a := 24) (by omega) (by omega)) hp
    · exact ⟨-2, ce, hI, fun post hp => sr_tX ht (br_f (by decide) (cX _ (br_t rfl hp))), fun post hp => sr_tY ht (br_t rfl (cY _ (br_f (by decide) hp)))⟩
  · exact ⟨-1, ce, hI, fun post hp => bX _ (br_t rfl hp), fun post hp => bY _ _ (br_f (by decide) hp)⟩
end
theorem i_vc_fill {k : Nat} {u : SX} {v : SY} (I : i_Rel k u v) (hk : k + 5 ≤ 2562) (v1 : Int32) (v2 : Int32) (v3 : Int32) (v4 : Int32) : wpX_fill (fun r u' => wpY_fill (fun r' v' => r' = r ∧ i_Rel (k + 5) u' v') v v1 v2 v3 v4) u v1 v2 v3 v4 := by
  obtain ⟨mm, nn, ce, tg, go, mi, w, wk, ra, ca, pe, rfl, rfl, hI, hG, hZ⟩ := I
  obtain ⟨r, ce', hI', hX, hY⟩ := sr_fill (w := w) (go := go) (mi := mi) (wk := wk) (ra := ra) (ca := ca) (pe := pe) hI v1 v2 v3 v4
  exact hX _ (hY _ ⟨rfl, sr_mk hI' hG hZ⟩)
/-! mirror -/
def sr_mw (ce : Nat → Int32) (t nn i : Nat) : Nat → Nat → Int32
  | 0 => ce
  | j + 1 => upd (sr_mw ce t nn i j) (16 * t + 4 * i + j) (sr_mw ce t nn i j (16 * (1 - t) + 4 * i + (nn - 1 - j)))
def sr_mo (ce : Nat → Int32) (t nn : Nat) : Nat → Nat → Int32
  | 0 => ce
  | i + 1 => sr_mw (sr_mo ce t nn i) t nn i nn
theorem sr_mwI {mm nn : Nat} {ce tg : Nat → Int32} {t i : Nat} (hI : sr_I mm nn ce tg) (hi : i < mm) : ∀ j, j ≤ nn → sr_I mm nn (sr_mw ce t nn i j) tg := by
  obtain ⟨m0, m5, n0, n5⟩ := hI.1
  intro j
  induction j with
  | zero => intro _; exact hI
  | succ j ih =>
    intro hj
    have h := ih (by omega)
    exact sr_up h (h.2.1 _) (by omega) (by omega)
theorem sr_moI {mm nn : Nat} {ce tg : Nat → Int32} {t : Nat} (hI : sr_I mm nn ce tg) : ∀ i, i ≤ mm → sr_I mm nn (sr_mo ce t nn i) tg := by
  intro i
  induction i with
  | zero => intro _; exact hI
  | succ i ih =>
    intro hi
    exact sr_mwI (ih (by omega)) (by omega) nn (Nat.le_refl nn)
section
variable {mm nn : Nat} {w : Int32} {ce tg go : Nat → Int32} {mi wk : Nat → Int64} {ra ca pe : Nat → Int32} {t : Nat}
theorem sr_1t (ht : t < 2) : 1 - nI t = nI (1 - t) := pk_sub (a := 1) (b := t) (by omega)
theorem sx_mirror {post : Int32 → SX → Prop} (ht : t < 2) (m5 : mm < 5) (n5 : nn < 5) (h : post 0 (nI mm, nI nn, sr_mo ce t nn mm, tg, go, mi)) : ∃ f, wX_mirror_11 post (nI t) (nI mm) (nI nn) f 0 ce tg go mi := by
  refine pk_loop (σ := Nat → Int32) (fun f i c => wX_mirror_11 post (nI t) (nI mm) (nI nn) f (nI i) c tg go mi) (fun i c => c = sr_mo ce t nn i) mm 0 ce (by omega) rfl ?_ ?_
  · intro f c hc
    subst hc
    exact br_t (nI_le (Nat.le_refl mm) (by omega)) h
  · intro f i c hi hc hk
    refine br_f (nI_ge hi (by omega)) ?_
    refine pk_loop (σ := Nat → Int32) (fun f' j c => wX_mirror_21 post (wX_mirror_11 post (nI t) (nI mm) (nI nn) f) (nI t) (nI i) (nI mm) (nI nn) f' (nI j) c tg go mi) (fun j c => c = sr_mw (sr_mo ce t nn i) t nn i j) nn 0 c (by omega) hc ?_ ?_
    · intro f' c' hc'
      exact br_t (nI_le (Nat.le_refl nn) (by omega)) (nm_r (nI_1 i) (hk c' hc'))
    · intro f' j c' hj hc' hkj
      subst hc'
      have e : nI nn - 1 - nI j = nI (nn - 1 - j) := by
        show nI nn - nI 1 - nI j = _
        rw [pk_sub (by omega), pk_sub (by omega)]
      refine br_f (nI_ge hj (by omega)) ?_
      unfold wpX_cellAt
      dsimp only
      rw [sr_1t ht, e, sf_cell, sf_cell, nI_clamp (by omega), nI_clamp (by omega)]
      exact ⟨vp_in_nI (by omega) (by omega), vp_in_nI (by omega) (by omega), nm_e (nm_r (nI_1 j) (hkj _ rfl))⟩
theorem sy_mirror {post : Int32 → SY → Prop} (ht : t < 2) (m5 : mm < 5) (n5 : nn < 5) (h : post 0 (nI mm, nI nn, w, sr_mo ce t nn mm, tg, wk, ra, ca, pe)) : ∃ f, wY_mirror_12 post (nI t) (nI mm) (nI nn) w f 0 ce tg wk ra ca pe := by
  refine pk_loop (σ := Nat → Int32) (fun f i c => wY_mirror_12 post (nI t) (nI mm) (nI nn) w f (nI i) c tg wk ra ca pe) (fun i c => c = sr_mo ce t nn i) mm 0 ce (by omega) rfl ?_ ?_
  · intro f c hc
    subst hc
    exact br_t (nI_le (Nat.le_refl mm) (by omega)) h
  · intro f i c hi hc hk
    refine br_f (nI_ge hi (by omega)) ?_
    refine pk_loop (σ := Nat → Int32) (fun f' j c => wY_mirror_22 post (wY_mirror_12 post (nI t) (nI mm) (nI nn) w f) (nI t) (nI i) (nI mm) (nI nn) w f' (nI j) c tg wk ra ca pe) (fun j c => c = sr_mw (sr_mo ce t nn i) t nn i j) nn 0 c (by omega) hc ?_ ?_
    · intro f' c' hc'
      exact br_t (nI_le (Nat.le_refl nn) (by omega)) (nm_r (nI_1 i) (hk c' hc'))
    · intro f' j c' hj hc' hkj
      subst hc'
      have e : 16 - 16 * nI t + 4 * nI i + nI nn - 1 - nI j = nI (16 * (1 - t) + 4 * i + (nn - 1 - j)) := by
        show nI 16 - nI 16 * nI t + nI 4 * nI i + nI nn - nI 1 - nI j = _
        rw [pk_mul, pk_mul, pk_sub (by omega), nI_add, nI_add, pk_sub (by omega), pk_sub (by omega)]
        exact congrArg nI (by omega)
      refine br_f (nI_ge hj (by omega)) ?_
      rw [e, sf_cellY, nI_clamp (by omega), nI_clamp (by omega)]
      exact ⟨vp_in_nI (by omega) (by omega), vp_in_nI (by omega) (by omega), nm_e (nm_r (nI_1 j) (hkj _ rfl))⟩
end
theorem i_vc_mirror {k : Nat} {u : SX} {v : SY} (I : i_Rel k u v) (hk : k + 5 ≤ 2562) (v1 : Int32) : wpX_mirror (fun r u' => wpY_mirror (fun r' v' => r' = r ∧ i_Rel (k + 5) u' v') v v1) u v1 := by
  obtain ⟨mm, nn, ce, tg, go, mi, w, wk, ra, ca, pe, rfl, rfl, hI, hG, hZ⟩ := I
  obtain ⟨m0, m5, n0, n5⟩ := hI.1
  unfold wpX_mirror wpY_mirror
  dsimp only
  rcases sr_tab v1 with ⟨t, ht, rfl⟩ | ⟨bX, bY⟩
  · exact sr_tX ht (br_f (by decide) (sx_mirror ht m5 n5 (sr_tY ht (br_t rfl (sy_mirror ht m5 n5 ⟨rfl, sr_mk (sr_moI hI mm (Nat.le_refl mm)) hG hZ⟩)))))
  · exact bX _ (br_t rfl (bY _ _ (br_f (by decide) ⟨rfl, sr_mk hI hG hZ⟩)))
