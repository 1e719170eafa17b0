/-! the reference's divisors and ranks -/
def sy_B (wk : Nat → Int64) (mm ww : Nat) : Prop := ∀ k, 0 < k → k ≤ 4 → ∀ a, a < 2 ^ mm → ∀ b, b < 2 ^ ww → sf_sz a = k → sf_sz b = k → sf_ab (sf_mn (fun i j => wk (5 * sf_rk a i + sf_rk b j)) k) < 2 ^ 50
def sy_f (wk : Nat → Int64) (k a b : Nat) : Nat := if sf_sz a = k ∧ sf_sz b = k then sf_ab (sf_mn (fun i j => wk (5 * sf_rk a i + sf_rk b j)) k) else 0
def sy_V (wk : Nat → Int64) (mm ww k : Nat) : Nat := if k = 0 then 1 else sf_Y wk mm ww k
theorem sy_p5 : ∀ w, w < 6 → 2 ^ w ≤ 32 := by decide +kernel
theorem sy_fl {wk : Nat → Int64} {mm ww k : Nat} (h0 : 0 < k) (hk : k ≤ 4) (hB : sy_B wk mm ww) : ∀ a, a < 2 ^ mm → ∀ b, b < 2 ^ ww → sy_f wk k a b < 2 ^ 50 := by
  intro a ha b hb
  unfold sy_f
  by_cases e : sf_sz a = k ∧ sf_sz b = k
  · rw [if_pos e]; exact hB k h0 hk a ha b hb e.1 e.2
  · rw [if_neg e]; decide
theorem sy_Yl {wk : Nat → Int64} {mm ww k : Nat} (h0 : 0 < k) (hk : k ≤ 4) (hB : sy_B wk mm ww) : sf_Y wk mm ww k < 2 ^ 50 :=
  sf_go_lt (by decide) (2 ^ mm) (sy_fl h0 hk hB)
theorem sy_Vl {wk : Nat → Int64} {mm ww k : Nat} (hk : k ≤ 4) (hB : sy_B wk mm ww) : sy_V wk mm ww k < 2 ^ 50 := by
  unfold sy_V
  by_cases e : k = 0
  · rw [if_pos e]; decide
  · rw [if_neg e]; exact sy_Yl (by omega) hk hB
section
variable {n w : Int32} {ce tg : Nat → Int32} {wk : Nat → Int64} {ra ca pe : Nat → Int32}
theorem sy_divp {post : Int64 → SY → Prop} {mm ww k : Nat} (hm : mm ≤ 4) (hw : ww ≤ 5) (h0 : 0 < k) (hk : k ≤ 4) (hB : sy_B wk mm ww) (h : ∀ ra' ca' pe', post (lN (sf_Y wk mm ww k)) (nI mm, n, nI ww, ce, tg, wk, ra', ca', pe')) : wpY_divided post (nI mm, n, nI ww, ce, tg, wk, ra, ca, pe) (nI k) := by
  unfold wpY_divided
  dsimp only
  have hm16 := (sf_S7 mm (by omega)).1
  have hw32 := sy_p5 ww (by omega)
  have hf := sy_fl h0 hk hB
  refine br_f (nI_ne0 h0 (by omega)) ?_
  refine pk_loop (σ := Int64 × (Nat → Int32) × (Nat → Int32) × (Nat → Int32)) (fun f a s => wY_divided_11 post (nI k) f s.1 (nI a) (nI mm) n (nI ww) ce tg wk s.2.1 s.2.2.1 s.2.2.2) (fun a s => s.1 = lN (sf_go (sy_f wk k) (2 ^ ww) a)) (2 ^ mm) 0 (0, ra, ca, pe) (Nat.zero_le _) rfl ?_ ?_
  · intro f s hs
    refine br_t (by rw [sf_1shl mm (by omega)]; exact nI_le (Nat.le_refl _) (by omega)) ?_
    rw [hs]
    exact h _ _ _
  · intro f a s ha hs hk'
    have hgo : sf_go (sy_f wk k) (2 ^ ww) a < 2 ^ 50 := sf_go_lt (by decide) a (fun i hi => hf i (by omega))
    refine br_f (by rw [sf_1shl mm (by omega)]; exact nI_ge ha (by omega)) ?_
    refine pk_loop (σ := Int64 × (Nat → Int32) × (Nat → Int32) × (Nat → Int32)) (fun f' b s => wY_divided_25 post (wY_divided_11 post (nI k) f) (nI k) (nI a) f' s.1 (nI b) (nI mm) n (nI ww) ce tg wk s.2.1 s.2.2.1 s.2.2.2) (fun b s => s.1 = lN (sf_gc (sy_f wk k a) (sf_go (sy_f wk k) (2 ^ ww) a) b)) (2 ^ ww) 0 s (Nat.zero_le _) hs ?_ ?_
    · intro f' s' hs'
      exact br_t (by rw [sf_1shl ww (by omega)]; exact nI_le (Nat.le_refl _) (by omega)) (nm_r (nI_1 a) (hk' s' hs'))
    · intro f' b s' hb hs' hkb
      have hgc := sf_gc_lt hgo b (fun c hc => hf a ha c (by omega))
      refine br_f (by rw [sf_1shl ww (by omega)]; exact nI_ge hb (by omega)) (sy_size (by omega) ?_)
      have a4 := sf_sz4 a (by omega)
      have b5 : sf_sz b ≤ 5 := (by decide +kernel : ∀ c, c < 32 → sf_sz c ≤ 5) b (by omega)
      by_cases ea : sf_sz a = k
      · refine br_t (by rw [ea]) (sy_size (by omega) ?_)
        by_cases eb : sf_sz b = k
        · refine br_t (by rw [eb]) (sy_rows (by omega) (fun ra' hra => sy_cols (by omega) (by omega) (fun ca' hca => ?_)))
          refine sy_minor (G := fun i j => wk (5 * sf_rk a i + sf_rk b j)) (R := sf_rk a) (C := sf_rk b) hk (fun i hi => ⟨hra i (by omega), sf_S2 a (by omega) (by omega) i (by omega)⟩) (fun j hj => ⟨hca j (by omega), sf_rk5 b (by omega) j (by omega)⟩) (fun i _ j _ => rfl) (fun pe' => ?_)
          have hv := hB k h0 hk a ha b hb ea eb
          refine sy_common (by rw [hs', sf_abN (by omega)]; exact hgc) hv (nm_r (nI_1 b) (hkb (_, ra', ca', pe') ?_))
          show lN _ = lN (Nat.gcd (sf_gc (sy_f wk k a) (sf_go (sy_f wk k) (2 ^ ww) a) b) (sy_f wk k a b))
          rw [hs', sf_abN (by omega)]
          unfold sy_f
          rw [if_pos ⟨ea, eb⟩]
        · refine br_f (fun z => eb ((nI_eq (by omega) (by omega)).mp z)) (nm_r (nI_1 b) (hkb s' ?_))
          show _ = lN (Nat.gcd (sf_gc (sy_f wk k a) (sf_go (sy_f wk k) (2 ^ ww) a) b) (sy_f wk k a b))
          rw [show sy_f wk k a b = 0 from if_neg (fun z => eb z.2), Nat.gcd_zero_right]
          exact hs'
      · refine br_f (fun z => ea ((nI_eq (by omega) (by omega)).mp z)) (nm_r (nI_1 b) (hkb s' ?_))
        show _ = lN (Nat.gcd (sf_gc (sy_f wk k a) (sf_go (sy_f wk k) (2 ^ ww) a) b) (sy_f wk k a b))
        rw [show sy_f wk k a b = 0 from if_neg (fun z => ea z.1), Nat.gcd_zero_right]
        exact hs'
theorem sy_div {post : Int64 → SY → Prop} {mm ww k : Nat} (hm : mm ≤ 4) (hw : ww ≤ 5) (hk : k ≤ 4) (hB : sy_B wk mm ww) (h : ∀ ra' ca' pe', post (lN (sy_V wk mm ww k)) (nI mm, n, nI ww, ce, tg, wk, ra', ca', pe')) : wpY_divided post (nI mm, n, nI ww, ce, tg, wk, ra, ca, pe) (nI k) := by
  rcases Nat.eq_zero_or_pos k with z | z
  · subst z
    exact br_t rfl (h ra ca pe)
  · refine sy_divp hm hw z hk hB (fun ra' ca' pe' => ?_)
    have e := h ra' ca' pe'
    rw [show sy_V wk mm ww k = sf_Y wk mm ww k from if_neg (by omega)] at e
    exact e
theorem sy_ranked {post : Int32 → SY → Prop} {mm ww : Nat} (hm : mm ≤ 4) (hw : ww ≤ 5) (hB : sy_B wk mm ww) (h : ∀ ra' ca' pe', post (nI (sf_rD (sy_V wk mm ww) 4)) (nI mm, n, nI ww, ce, tg, wk, ra', ca', pe')) : wpY_ranked post (nI mm, n, nI ww, ce, tg, wk, ra, ca, pe) := by
  unfold wpY_ranked
  dsimp only
  refine pk_loop (σ := Int32 × (Nat → Int32) × (Nat → Int32) × (Nat → Int32)) (fun f i s => wY_ranked_4 post f s.1 (nI i) (nI mm) n (nI ww) ce tg wk s.2.1 s.2.2.1 s.2.2.2) (fun i s => s.1 = nI (sf_rD (sy_V wk mm ww) (i - 1)) ∧ 0 < i) 5 1 (0, ra, ca, pe) (by omega) ⟨rfl, by decide⟩ ?_ ?_
  · intro f s hs
    rw [hs.1]
    exact br_t (by decide) (h _ _ _)
  · intro f i s hi hs hk
    obtain ⟨j, rfl⟩ : ∃ j, i = j + 1 := ⟨i - 1, by omega⟩
    rw [hs.1]
    refine br_f (nI_ge (b := 5) hi (by decide)) (sy_div hm hw (by omega) hB (fun ra' ca' pe' => ?_))
    have hd := sy_Vl (k := j + 1) (by omega) hB
    by_cases e : sy_V wk mm ww (j + 1) = 0
    · refine br_t ((sx_lN0 hd).mpr e) (nm_r (nI_1 _) (hk (_, ra', ca', pe') ⟨?_, by omega⟩))
      show nI (sf_rD (sy_V wk mm ww) j) = nI (sf_rD (sy_V wk mm ww) (j + 1))
      rw [sf_rD_t e]
    · refine br_f (fun z => e ((sx_lN0 hd).mp z)) (nm_r (nI_1 _) (hk (_, ra', ca', pe') ⟨?_, by omega⟩))
      show nI (j + 1) = nI (sf_rD (sy_V wk mm ww) (j + 1))
      rw [sf_rD_f e]
theorem sy_take {post : SY → Prop} {m : Int32} {t : Nat} (ht : t < 2) (h : ∀ wk', (∀ i, i < 4 → ∀ j, j < 4 → wk' (5 * i + j) = (ce (16 * t + 4 * i + j)).toInt64) → post (m, n, n, ce, tg, wk', ra, ca, pe)) : wpY_take post (m, n, w, ce, tg, wk, ra, ca, pe) (nI t) := by
  unfold wpY_take
  dsimp only
  refine pk_loop (σ := Nat → Int64) (fun f i W => wY_take_10 post (nI t) m n n f (nI i) ce tg W ra ca pe) (fun i W => ∀ i', i' < i → ∀ j, j < 4 → W (5 * i' + j) = (ce (16 * t + 4 * i' + j)).toInt64) 4 0 wk (by omega) (fun i' hi' => absurd hi' (Nat.not_lt_zero i')) ?_ ?_
  · intro f W hW
    exact br_t (by decide) (h W hW)
  · intro f i W hi hW hk
    refine br_f (nI_ge (b := 4) hi (by decide)) ?_
    refine pk_loop (σ := Nat → Int64) (fun f' j W => wY_take_17 post (wY_take_10 post (nI t) m n n f) (nI t) (nI i) m n n f' (nI j) ce tg W ra ca pe) (fun j W => (∀ i', i' < i → ∀ j, j < 4 → W (5 * i' + j) = (ce (16 * t + 4 * i' + j)).toInt64) ∧ ∀ j', j' < j → W (5 * i + j') = (ce (16 * t + 4 * i + j')).toInt64) 4 0 W (by omega) ⟨hW, fun j' hj' => absurd hj' (Nat.not_lt_zero j')⟩ ?_ ?_
    · intro f' W' hW'
      refine br_t (by decide) (nm_r (nI_1 i) (hk W' ?_))
      intro i' hi' j hj
      rcases Nat.lt_or_ge i' i with z | z
      · exact hW'.1 i' z j hj
      · rw [show i' = i from by omega]; exact hW'.2 j hj
    · intro f' j W' hj hW' hkj
      have e2 : 5 * nI i + nI j = nI (5 * i + j) := by
        show nI 5 * _ + _ = _
        rw [pk_mul, nI_add]
      refine br_f (nI_ge (b := 4) hj (by decide)) ?_
      rw [sf_cellY, e2]
      refine ⟨vp_in_nI (by omega) (by omega), vp_in_nI (by omega) (by omega), nm_e (nm_r (nI_1 j) (hkj _ ?_))⟩
      rw [nI_clamp (by omega), nI_clamp (by omega)]
      constructor
      · intro i' hi' j' hj'
        rw [pk_uLn (by omega)]
        exact hW'.1 i' hi' j' hj'
      · intro j' hj'
        rcases Nat.lt_or_ge j' j with z | z
        · rw [pk_uLn (by omega)]; exact hW'.2 j' z
        · rw [show j' = j from by omega]; exact pk_uLs
end
/-! the reference's test of a goal -/
section
variable {w : Int32} {ce tg : Nat → Int32} {wk : Nat → Int64} {ra ca pe : Nat → Int32} {mm nn : Nat} {F : Nat → Nat → Int64} {q : Int64}
theorem sy_B1 (n5 : nn < 5) (n0 : 0 < nn) (m5 : mm < 5) (hW : ∀ i, i < 4 → ∀ j, j < nn → wk (5 * i + j) = F i j) (hb : ∀ i, i < 4 → ∀ j, j < 5 → sf_ab (F i j) ≤ 200) : sy_B wk mm nn := by
  intro k h0 hk a ha b hb' ea eb
  have h16 := (sf_S7 mm m5).1
  rw [sf_val1 n5 n0 hW (by omega) hb' h0 hk ea eb]
  exact Nat.lt_of_le_of_lt (sf_pm_bound hb k (by omega) a b) (sf_pw (by omega))
theorem sy_B2 (n5 : nn < 5) (n0 : 0 < nn) (m5 : mm < 5) (hW : ∀ i, i < 4 → ∀ j, j < nn → wk (5 * i + j) = F i j) (hG : ∀ i, i < 4 → wk (5 * i + nn) = F i 4 * q) (hb : ∀ i, i < 4 → ∀ j, j < 5 → sf_ab (F i j) ≤ 200) (hq : sf_ab q ≤ 100) : sy_B wk mm (nn + 1) := by
  intro k h0 hk a ha b hb' ea eb
  have h16 := (sf_S7 mm m5).1
  have hn2 := (sf_S7 nn n5).2
  rcases Nat.lt_or_ge b (2 ^ nn) with z | z
  · rw [sf_val1 n5 n0 hW (by omega) z h0 hk ea eb]
    exact Nat.lt_of_le_of_lt (sf_pm_bound hb k (by omega) a b) (sf_pw (by omega))
  · obtain ⟨c, rfl⟩ : ∃ c, b = c + 2 ^ nn := ⟨b - 2 ^ nn, by omega⟩
    have zc : c < 2 ^ nn := by omega
    rw [sf_val2 n5 n0 hW hG (by omega) zc h0 hk ea ((sf_S6 nn n5 n0 c zc).1.symm.trans eb)]
    have h1 := sf_pm_bound hb k (by omega) a (16 + c)
    have h2 : 1000 ^ k ≤ 1000 ^ 4 := Nat.pow_le_pow_right (by decide) hk
    have h3 : sf_ab q * sf_ab (sf_pm F k a (16 + c)) ≤ 100 * 1000 ^ 4 := Nat.mul_le_mul hq (Nat.le_trans h1 h2)
    rw [sf_mul (Nat.lt_of_le_of_lt h3 (by decide))]
    exact Nat.lt_of_le_of_lt h3 (by decide)
theorem sy_V1 (m5 : mm < 5) (m0 : 0 < mm) (n5 : nn < 5) (n0 : 0 < nn) (hW : ∀ i, i < 4 → ∀ j, j < nn → wk (5 * i + j) = F i j) (hr : ∀ i, i < 4 → mm ≤ i → ∀ j, j < 5 → F i j = 0) (hc : ∀ j, j < 4 → nn ≤ j → ∀ i, i < 4 → F i j = 0) {k : Nat} (hk : k ≤ 4) : sy_V wk mm nn k = sf_D F k := by
  unfold sy_V
  rcases Nat.eq_zero_or_pos k with z | z
  · subst z
    rw [if_pos rfl, sf_D0]
  · rw [if_neg (by omega), sf_Y1 m5 m0 n5 n0 hW hr hc z hk]
theorem sy_met {post : Int32 → SY → Prop} (m5 : mm < 5) (m0 : 0 < mm) (n5 : nn < 5) (n0 : 0 < nn) (hW : ∀ i, i < 4 → ∀ j, j < nn → wk (5 * i + j) = F i j) (hG : ∀ i, i < 4 → wk (5 * i + nn) = F i 4 * q) (hr : ∀ i, i < 4 → mm ≤ i → ∀ j, j < 5 → F i j = 0) (hc : ∀ j, j < 4 → nn ≤ j → ∀ i, i < 4 → F i j = 0) (hb : ∀ i, i < 4 → ∀ j, j < 5 → sf_ab (F i j) ≤ 200) (hq : sf_ab q ≤ 100) (q0 : 0 < sf_ab q)
    (h1 : (sf_Ls (sf_D F) (sf_E F) ≠ 0 ∧ sf_Ls (sf_D F) (sf_E F) ∣ sf_ab q) → ∀ w' ra' ca' pe', post 1 (nI mm, nI nn, w', ce, tg, wk, ra', ca', pe'))
    (h2 : ¬ (sf_Ls (sf_D F) (sf_E F) ≠ 0 ∧ sf_Ls (sf_D F) (sf_E F) ∣ sf_ab q) → ∀ w' ra' ca' pe', post 0 (nI mm, nI nn, w', ce, tg, wk, ra', ca', pe')) :
    wpY_met post (nI mm, nI nn, w, ce, tg, wk, ra, ca, pe) := by
  unfold wpY_met
  dsimp only
  have B1 : sy_B wk mm nn := sy_B1 n5 n0 m5 hW hb
  have B2 : sy_B wk mm (nn + 1) := sy_B2 n5 n0 m5 hW hG hb hq
  have V1 : ∀ k, k ≤ 4 → sy_V wk mm nn k = sf_D F k := fun k hk => sy_V1 m5 m0 n5 n0 hW hr hc hk
  have V2 : ∀ k, 0 < k → k ≤ 4 → sy_V wk mm (nn + 1) k = Nat.gcd (sf_D F k) (sf_ab q * sf_E F k) := fun k h0 hk => by
    rw [show sy_V wk mm (nn + 1) k = sf_Y wk mm (nn + 1) k from if_neg (by omega)]
    exact sf_Y2 m5 m0 n5 n0 hW hG hr hc hb hq h0 hk
  have key := sf_met (D := sf_D F) (E := sf_E F) (D' := sy_V wk mm (nn + 1)) q0 (sf_D0 F) (sf_E5 F) rfl V2 (sf_Es F)
  have eR : sf_rD (sy_V wk mm nn) 4 = sf_rD (sf_D F) 4 := sf_rD_congr 4 (fun j _ hj => V1 j hj)
  have r4 := sf_rD_le (sf_D F) 4
  have r4' := sf_rD_le (sy_V wk mm (nn + 1)) 4
  refine sy_ranked (by omega) (by omega) B1 (fun ra1 ca1 pe1 => ?_)
  rw [eR]
  refine sy_div (by omega) (by omega) r4 B1 (fun ra2 ca2 pe2 => ?_)
  rw [V1 _ r4]
  refine nm_r (nI_1 nn) (sy_ranked (by omega) (by omega) B2 (fun ra3 ca3 pe3 => ?_))
  by_cases e1 : sf_rD (sy_V wk mm (nn + 1)) 4 = sf_rD (sf_D F) 4
  · refine br_t (by rw [e1]) (sy_div (by omega) (by omega) r4 B2 (fun ra4 ca4 pe4 => ?_))
    have l1 := sf_Dlt hb (k := sf_rD (sf_D F) 4) (by omega)
    have l2 := sy_Vl (k := sf_rD (sf_D F) 4) r4 B2
    by_cases e2 : sy_V wk mm (nn + 1) (sf_rD (sf_D F) 4) = sf_D F (sf_rD (sf_D F) 4)
    · exact br_t (by rw [e2]) (h1 (key.mp ⟨e1, e2⟩) _ _ _ _)
    · exact br_f (fun z => e2 ((pk_lEQ (by omega) (by omega)).mp z)) (h2 (fun z => e2 (key.mpr z).2) _ _ _ _)
  · exact br_f (fun z => e1 ((nI_eq (by omega) (by omega)).mp z)) (h2 (fun z => e1 (key.mpr z).1) _ _ _ _)
end
