/-! the reference's private methods -/
section
variable {m n w : Int32} {ce tg : Nat → Int32} {wk : Nat → Int64} {ra ca pe : Nat → Int32}
theorem sy_eu0 {post : Int64 → Prop} {g : Nat} (hp : post (lN g)) : ∀ d i : Nat, i + d = 120 → ∀ k, d < k → wY_common_31 post m n w ce tg wk ra ca pe k (lN g) 0 (nI i) := by
  intro d
  induction d with
  | zero =>
    intro i hi k hk
    obtain ⟨k, rfl⟩ : ∃ k', k = k' + 1 := ⟨k - 1, by omega⟩
    rw [show i = 120 from by omega]
    exact br_t (by decide) hp
  | succ d ih =>
    intro i hi k hk
    obtain ⟨k, rfl⟩ : ∃ k', k = k' + 1 := ⟨k - 1, by omega⟩
    exact br_f (nI_ge (b := 120) (by omega) (by decide)) (br_t (by decide) (nm_r (nI_1 i) (ih (i + 1) (by omega) k (by omega))))
theorem sy_eu {post : Int64 → Prop} : ∀ d i g s : Nat, i + d ≤ 120 → g < 2 ^ 63 → s < 2 ^ 63 → sf_ok d g s → post (lN (Nat.gcd g s)) → ∀ k, 120 < k + i → wY_common_31 post m n w ce tg wk ra ca pe k (lN g) (lN s) (nI i) := by
  intro d
  induction d with
  | zero =>
    intro i g s hi hg hs ho hp k hk
    have z : s = 0 := ho
    subst z
    rw [Nat.gcd_zero_right] at hp
    exact sy_eu0 hp (120 - i) i (by omega) k (by omega)
  | succ d ih =>
    intro i g s hi hg hs ho hp k hk
    rcases Nat.eq_zero_or_pos s with z | z
    · subst z
      rw [Nat.gcd_zero_right] at hp
      exact sy_eu0 hp (120 - i) i (by omega) k (by omega)
    · obtain ⟨k, rfl⟩ : ∃ k', k = k' + 1 := ⟨k - 1, by omega⟩
      have hz : ¬ lN s = 0 := fun y => by
        have := (pk_lEQ hs (by decide : 0 < 2 ^ 63)).mp y
        omega
      have hz' : ¬ lN s ≤ 0 := fun y => by
        have := (pk_lLE hs (by decide : 0 < 2 ^ 63)).mp y
        omega
      refine br_f (nI_ge (b := 120) (by omega) (by decide)) (br_f hz' ⟨hz, nm_r (pk_lRem hg z hs) (nm_r (nI_1 i) ?_)⟩)
      have ho' : sf_ok d s (g % s) := by
        rcases ho with y | y
        · omega
        · exact y
      rw [sf_gcd_step] at hp
      exact ih (i + 1) s (g % s) (by omega) hs (Nat.lt_trans (Nat.mod_lt g z) hs) ho' hp k (by omega)
theorem sy_eu12 {post : Int64 → Prop} {g : Nat} {b : Int64} (hg : g < 2 ^ 63) (hb : sf_ab b < 2 ^ 50) (h : post (lN (Nat.gcd g (sf_ab b)))) : wY_common_12 post b (lN g) m n w ce tg wk ra ca pe := by
  have key : wY_common_31 post m n w ce tg wk ra ca pe 121 (lN g) (lN (sf_ab b)) 0 := sy_eu 100 0 g (sf_ab b) (by omega) hg (by omega) (sf_ok_of 50 g _ hb) h 121 (by omega)
  refine br_c (fun h0 => ⟨121, ?_⟩) (fun h0 => nm_r (sf_neg (Int64.not_le.mp h0) (by omega)) ⟨121, key⟩)
  have e := (sf_pos (Int64.not_lt.mpr h0)).1
  rw [← e] at key
  exact key
theorem sy_common {post : Int64 → Prop} {a b : Int64} (ha : sf_ab a < 2 ^ 50) (hb : sf_ab b < 2 ^ 50) (h : post (lN (Nat.gcd (sf_ab a) (sf_ab b)))) : wpY_common post (m, n, w, ce, tg, wk, ra, ca, pe) a b := by
  have key : wY_common_12 post b (lN (sf_ab a)) m n w ce tg wk ra ca pe := sy_eu12 (by omega) hb h
  refine br_c (fun h0 => ?_) (fun h0 => ?_)
  · have e := (sf_pos (Int64.not_lt.mpr h0)).1
    rw [← e] at key
    exact key
  · rw [sf_neg (Int64.not_le.mp h0) (by omega)]
    exact key
theorem sy_sz : ∀ s, s < 32 → ((((nI s &&& 1) + ((nI s >>> ((1 : Int32) &&& 31)) &&& 1)) + ((nI s >>> ((2 : Int32) &&& 31)) &&& 1)) + ((nI s >>> ((3 : Int32) &&& 31)) &&& 1)) + ((nI s >>> ((4 : Int32) &&& 31)) &&& 1) = nI (sf_sz s) := by decide +kernel
theorem sy_size {post : Int32 → Prop} {s : Nat} (hs : s < 32) (h : post (nI (sf_sz s))) : wpY_size post (m, n, w, ce, tg, wk, ra, ca, pe) (nI s) := by
  unfold wpY_size
  dsimp only
  rw [sy_sz s hs]
  exact h
theorem sy_rows {post : SY → Prop} {a : Nat} (ha : a < 16) (h : ∀ ra', (∀ q, q < sf_sz a → ra' q = nI (sf_rk a q)) → post (m, n, w, ce, tg, wk, ra', ca, pe)) : wpY_pickRows post (m, n, w, ce, tg, wk, ra, ca, pe) (nI a) := by
  unfold wpY_pickRows
  dsimp only
  refine pk_loop (σ := Int32 × (Nat → Int32)) (fun k i s => wY_pickRows_4 post (nI a) m n w k s.1 (nI i) ce tg wk s.2 ca pe) (fun i s => s.1 = nI (sf_cn a i) ∧ ∀ q, q < sf_cn a i → s.2 q = nI (sf_rk a q)) 4 0 (0, ra) (by omega) ⟨rfl, fun q hq => absurd hq (Nat.not_lt_zero q)⟩ ?_ ?_
  · intro k s hs
    refine br_t (by decide) (h s.2 ?_)
    rw [← (sf_cn_sz a (by omega)).2 ha]
    exact hs.2
  · intro k i s hi hs hk
    obtain ⟨h1, h2⟩ := hs
    have e : (nI a >>> (nI i &&& 31)) &&& 1 = nI (a / 2 ^ i % 2) := sf_bitn (by omega) (by omega)
    have hc := sf_cn_le a (by omega) i (by omega)
    refine br_f (nI_ge (b := 4) hi (by decide)) ?_
    by_cases hb : a / 2 ^ i % 2 = 1
    · have ec : sf_cn a (i + 1) = sf_cn a i + 1 := if_pos hb
      refine br_t (by rw [e, hb]; rfl) ?_
      rw [h1]
      refine ⟨vp_in_nI (by omega) (by omega), nm_e (nm_r (nI_1 _) (nm_r (nI_1 i) (hk (nI (sf_cn a i + 1), upd s.2 (nI (sf_cn a i)).toNatClampNeg (nI i)) ⟨by show nI _ = nI _; rw [ec], ?_⟩)))⟩
      intro q hq
      show upd s.2 (nI (sf_cn a i)).toNatClampNeg (nI i) q = _
      rw [nI_clamp (by omega)]
      rw [ec] at hq
      rcases Nat.lt_or_ge q (sf_cn a i) with z | z
      · rw [pk_un (by omega)]; exact h2 q z
      · rw [show q = sf_cn a i from by omega, pk_us, sf_cn_rk a (by omega) i (by omega) hb]
    · have h0 : a / 2 ^ i % 2 = 0 := by have := Nat.mod_lt (a / 2 ^ i) (show 0 < 2 by decide); omega
      have ec : sf_cn a (i + 1) = sf_cn a i := if_neg hb
      refine br_f (by rw [e, h0]; decide) (nm_r (nI_1 i) (hk s ?_))
      rw [ec]; exact ⟨h1, h2⟩
theorem sy_cols {post : SY → Prop} {a : Nat} (ha : a < 32) (h4 : sf_sz a ≤ 4) (h : ∀ ca', (∀ q, q < sf_sz a → ca' q = nI (sf_rk a q)) → post (m, n, w, ce, tg, wk, ra, ca', pe)) : wpY_pickColumns post (m, n, w, ce, tg, wk, ra, ca, pe) (nI a) := by
  unfold wpY_pickColumns
  dsimp only
  refine pk_loop (σ := Int32 × (Nat → Int32)) (fun k i s => wY_pickColumns_4 post (nI a) m n w k s.1 (nI i) ce tg wk ra s.2 pe) (fun i s => s.1 = nI (sf_cn a i) ∧ ∀ q, q < sf_cn a i → s.2 q = nI (sf_rk a q)) 5 0 (0, ca) (by omega) ⟨rfl, fun q hq => absurd hq (Nat.not_lt_zero q)⟩ ?_ ?_
  · intro k s hs
    refine br_t (by decide) (h s.2 ?_)
    rw [← (sf_cn_sz a ha).1]
    exact hs.2
  · intro k i s hi hs hk
    obtain ⟨h1, h2⟩ := hs
    have e : (nI a >>> (nI i &&& 31)) &&& 1 = nI (a / 2 ^ i % 2) := sf_bitn (by omega) (by omega)
    have hc := sf_cn_le a (by omega) i (by omega)
    refine br_f (nI_ge (b := 5) hi (by decide)) ?_
    by_cases hb : a / 2 ^ i % 2 = 1
    · have ec : sf_cn a (i + 1) = sf_cn a i + 1 := if_pos hb
      have hl := sf_cn_lt a ha i hi hb
      refine br_t (by rw [e, hb]; rfl) ?_
      rw [h1]
      refine br_f (nI_ge (b := 4) (by omega) (by decide)) ⟨vp_in_nI (by omega) (by omega), nm_e (nm_r (nI_1 _) (nm_r (nI_1 i) (hk (nI (sf_cn a i + 1), upd s.2 (nI (sf_cn a i)).toNatClampNeg (nI i)) ⟨by show nI _ = nI _; rw [ec], ?_⟩)))⟩
      intro q hq
      show upd s.2 (nI (sf_cn a i)).toNatClampNeg (nI i) q = _
      rw [nI_clamp (by omega)]
      rw [ec] at hq
      rcases Nat.lt_or_ge q (sf_cn a i) with z | z
      · rw [pk_un (by omega)]; exact h2 q z
      · rw [show q = sf_cn a i from by omega, pk_us, sf_cn_rk a (by omega) i (by omega) hb]
    · have h0 : a / 2 ^ i % 2 = 0 := by have := Nat.mod_lt (a / 2 ^ i) (show 0 < 2 by decide); omega
      have ec : sf_cn a (i + 1) = sf_cn a i := if_neg hb
      refine br_f (by rw [e, h0]; decide) (nm_r (nI_1 i) (hk s ?_))
      rw [ec]; exact ⟨h1, h2⟩
/-! one product of the sum -/
def sy_b (o : Bool) : Int32 := if o = true then 1 else 0
theorem sy_143 {post : Int64 → SY → Prop} {G : Nat → Nat → Int64} {R C : Nat → Nat} {code k : Nat} {p : Int64} (hk : k ≤ 4) (hR : ∀ i, i < k → ra i = nI (R i) ∧ R i < 4) (hC : ∀ j, j < k → ca j = nI (C j) ∧ C j < 5) (hG : ∀ i, i < k → ∀ j, j < k → wk (5 * R i + C j) = G i j) (hP : ∀ i, i < k → pe i = nI (sf_pv code i) ∧ sf_pv code i < k) (h : post (sf_pp G code p k) (m, n, w, ce, tg, wk, ra, ca, pe)) : ∃ f, wY_product_143 post (nI k) m n w ce tg wk ra ca pe f p 0 := by
  refine pk_loop (σ := Int64) (fun f i x => wY_product_143 post (nI k) m n w ce tg wk ra ca pe f x (nI i)) (fun i x => x = sf_pp G code p i) k 0 p (by omega) rfl ?_ ?_
  · intro f x hx
    subst hx
    exact br_t (nI_le (Nat.le_refl k) (by omega)) h
  · intro f i x hi hx hk'
    subst hx
    obtain ⟨p1, p2⟩ := hP i hi
    obtain ⟨r1, r2⟩ := hR i hi
    obtain ⟨c1, c2⟩ := hC _ p2
    have e1 : (nI i).toNatClampNeg = i := nI_clamp (by omega)
    have e2 : (nI (sf_pv code i)).toNatClampNeg = sf_pv code i := nI_clamp (by omega)
    have e3 : 5 * nI (R i) + nI (C (sf_pv code i)) = nI (5 * R i + C (sf_pv code i)) := by
      show nI 5 * _ + _ = _
      rw [pk_mul, nI_add]
    have e4 : (nI (5 * R i + C (sf_pv code i))).toNatClampNeg = 5 * R i + C (sf_pv code i) := nI_clamp (by omega)
    refine br_f (nI_ge hi (by omega)) (br_f (nI_ge (b := 4) (by omega) (by decide)) ?_)
    rw [e1, p1, e2, r1, c1, e3, e4, hG i hi _ p2]
    refine ⟨vp_in_nI (by omega) (by omega), vp_in_nI (by omega) (by omega), vp_in_nI (by omega) (by omega), vp_in_nI (by omega) (by omega), nm_e (nm_r (nI_1 i) (hk' _ rfl))⟩
theorem sy_78 {post : Int64 → SY → Prop} {J : Int32 → Int32 → Int32 → (Nat → Int32) → (Nat → Int32) → (Nat → Int64) → (Nat → Int32) → (Nat → Int32) → (Nat → Int32) → Prop} {x1 x2 x3 : Int32} {code i : Nat} {o : Bool} (hi : i < 4) (hP : ∀ j, j ≤ i → pe j = nI (sf_pv code j)) (h : J x3 (sy_b (sf_iv code i o i)) (nI (i + 1)) ce tg wk ra ca pe) : ∃ f, wY_product_78 post J x1 x2 x3 (nI i) m n w ce tg wk ra ca pe f (sy_b o) 0 := by
  refine pk_loop (σ := Int32) (fun f j x => wY_product_78 post J x1 x2 x3 (nI i) m n w ce tg wk ra ca pe f x (nI j)) (fun j x => x = sy_b (sf_iv code i o j)) i 0 _ (by omega) rfl ?_ ?_
  · intro f x hx
    subst hx
    exact br_t (nI_le (Nat.le_refl i) (by omega)) (nm_r (nI_1 i) h)
  · intro f j x hj hx hk
    subst hx
    have q1 := sf_pv4 code i
    have q2 := sf_pv4 code j
    refine br_f (nI_ge hj (by omega)) ?_
    rw [nI_clamp (by omega), nI_clamp (by omega), hP j (by omega), hP i (Nat.le_refl i)]
    refine ⟨vp_in_nI (by omega) (by omega), vp_in_nI (by omega) (by omega), ?_⟩
    by_cases z : sf_pv code i < sf_pv code j
    · have e : sf_iv code i o (j + 1) = !(sf_iv code i o j) := if_pos z
      refine br_f (nI_ge z (by omega)) ?_
      cases y : sf_iv code i o j with
      | true =>
        refine br_f (by decide) (nm_r (nI_1 j) (hk _ ?_))
        rw [e, y]; rfl
      | false =>
        refine br_t (by decide) (nm_r (nI_1 j) (hk _ ?_))
        rw [e, y]; rfl
    · have e : sf_iv code i o (j + 1) = sf_iv code i o j := if_neg z
      exact br_t (nI_le (by omega) (by omega)) (nm_r (nI_1 j) (hk _ (by rw [e])))
theorem sy_prod {post : Int64 → SY → Prop} {G : Nat → Nat → Int64} {R C : Nat → Nat} {code k : Nat} (hcode : code < 256) (hk : k ≤ 4) (hR : ∀ i, i < k → ra i = nI (R i) ∧ R i < 4) (hC : ∀ j, j < k → ca j = nI (C j) ∧ C j < 5) (hG : ∀ i, i < k → ∀ j, j < k → wk (5 * R i + C j) = G i j) (h : ∀ pe', post (sf_pr G k code) (m, n, w, ce, tg, wk, ra, ca, pe')) : wpY_product post (m, n, w, ce, tg, wk, ra, ca, pe) (nI code) (nI k) := by
  unfold wpY_product
  dsimp only
  have hstop : ∀ i, i < k → sf_gd k code i = false → sf_pr G k code = 0 := by
    intro i hi hg
    refine sf_prf G k code ?_
    have : ∀ j, i < j → sf_vd k code j = false := by
      intro j
      induction j with
      | zero => intro z; omega
      | succ j ih =>
        intro z
        show (sf_vd k code j && sf_gd k code j) = false
        rcases Nat.lt_or_ge i j with y | y
        · rw [ih y]; rfl
        · rw [show j = i from by omega, hg, Bool.and_false]
    exact this k hi
  refine pk_loop (σ := Int32 × Int32 × (Nat → Int32)) (fun f i s => wY_product_8 post (nI code) (nI k) m n w f s.1 s.2.1 (nI i) ce tg wk ra ca s.2.2) (fun i s => s.1 = nI (sf_us code i) ∧ s.2.1 = sy_b (sf_od code i) ∧ (∀ j, j < i → s.2.2 j = nI (sf_pv code j) ∧ sf_pv code j < k) ∧ sf_vd k code i = true) k 0 (0, 0, pe) (by omega) ⟨rfl, rfl, fun j hj => absurd hj (Nat.not_lt_zero j), rfl⟩ ?_ ?_
  · intro f s hs
    obtain ⟨_, h2, h3, h4⟩ := hs
    have h5 := h s.2.2
    unfold sf_pr at h5
    rw [if_pos h4] at h5
    refine br_t (nI_le (Nat.le_refl k) (by omega)) ?_
    rw [h2]
    unfold wY_product_126
    cases y : sf_od code k with
    | true =>
      rw [y, if_pos rfl] at h5
      exact br_f (by decide) (sy_143 hk hR hC hG h3 h5)
    | false =>
      rw [y, if_neg (by decide)] at h5
      exact br_t (by decide) (sy_143 hk hR hC hG h3 h5)
  · intro f i s hi hs hk'
    obtain ⟨h1, h2, h3, h4⟩ := hs
    have q := sf_pv4 code i
    have u16 := sf_us16 code hcode i (by omega)
    have e0 : (nI i).toNatClampNeg = i := nI_clamp (by omega)
    have e1 : (nI code >>> ((2 * nI i) &&& 31)) &&& 3 = nI (sf_pv code i) := by
      rw [show 2 * nI i = nI (2 * i) from pk_mul 2 i]
      exact sf_code code hcode i (by omega)
    refine br_f (nI_ge hi (by omega)) (br_f (nI_ge (b := 4) (by omega) (by decide)) ⟨vp_in_nI (by omega) (by omega), ?_⟩)
    rw [e0, e1, h1, h2]
    refine nm_e ⟨vp_in_nI (by omega) (by omega), ?_⟩
    rw [pk_us]
    by_cases z : sf_pv code i < k
    · refine br_f (nI_ge z (by omega)) ⟨vp_in_nI (by omega) (by omega), ?_⟩
      rw [sf_bitn (by omega) (by omega)]
      by_cases y : sf_us code i / 2 ^ sf_pv code i % 2 = 0
      · rw [y]
        refine br_f (by decide) ⟨vp_in_nI (by omega) (by omega), nm_r (by rw [sf_1shl _ (by omega), sf_or _ u16 _ q]) ?_⟩
        refine sy_78 (by omega) (fun j hj => ?_) (hk' (_, _, _) ⟨rfl, rfl, fun j hj => ?_, ?_⟩)
        · rcases Nat.lt_or_ge j i with x | x
          · rw [pk_un (by omega)]; exact (h3 j x).1
          · rw [show j = i from by omega, pk_us]
        · rcases Nat.lt_or_ge j i with x | x
          · refine ⟨?_, (h3 j x).2⟩
            show upd s.2.2 i _ j = _
            rw [pk_un (by omega)]; exact (h3 j x).1
          · rw [show j = i from by omega]
            exact ⟨pk_us, z⟩
        · show (sf_vd k code i && sf_gd k code i) = true
          rw [h4]
          unfold sf_gd
          rw [decide_eq_true z, decide_eq_true y]
          rfl
      · have y1 : sf_us code i / 2 ^ sf_pv code i % 2 = 1 := by have := Nat.mod_lt (sf_us code i / 2 ^ sf_pv code i) (show 0 < 2 by decide); omega
        rw [y1]
        refine br_t rfl ?_
        have h5 := h (upd s.2.2 i (nI (sf_pv code i)))
        rw [hstop i hi (by unfold sf_gd; rw [decide_eq_false y, Bool.and_false])] at h5
        exact h5
    · refine br_t (nI_le (by omega) (by omega)) ?_
      have h5 := h (upd s.2.2 i (nI (sf_pv code i)))
      rw [hstop i hi (by unfold sf_gd; rw [decide_eq_false z, Bool.false_and])] at h5
      exact h5
theorem sy_minor {post : Int64 → SY → Prop} {G : Nat → Nat → Int64} {R C : Nat → Nat} {k : Nat} (hk : k ≤ 4) (hR : ∀ i, i < k → ra i = nI (R i) ∧ R i < 4) (hC : ∀ j, j < k → ca j = nI (C j) ∧ C j < 5) (hG : ∀ i, i < k → ∀ j, j < k → wk (5 * R i + C j) = G i j) (h : ∀ pe', post (sf_mn G k) (m, n, w, ce, tg, wk, ra, ca, pe')) : wpY_minor post (m, n, w, ce, tg, wk, ra, ca, pe) (nI k) := by
  unfold wpY_minor
  dsimp only
  have hp : 4 ^ k ≤ 256 := Nat.pow_le_pow_right (by decide : 0 < 4) hk
  refine pk_loop (σ := Int32) (fun f i x => wY_minor_4 post (nI k) m n w ce tg wk ra ca pe f x (nI i)) (fun i x => x = nI (4 ^ i)) k 0 1 (by omega) rfl ?_ ?_
  · intro f x hx
    subst hx
    refine br_t (nI_le (Nat.le_refl k) (by omega)) ?_
    refine pk_loop (σ := Int64 × (Nat → Int32)) (fun f c s => wY_minor_24 post (nI k) (nI (4 ^ k)) f s.1 (nI c) m n w ce tg wk ra ca s.2) (fun c s => s.1 = sf_sm (sf_pr G k) c) (4 ^ k) 0 (0, pe) (Nat.zero_le _) rfl ?_ ?_
    · intro f s hs
      refine br_t (nI_le (Nat.le_refl _) (by omega)) ?_
      rw [hs]
      exact h s.2
    · intro f c s hc hs hk'
      refine br_f (nI_ge hc (by omega)) (sy_prod (by omega) hk hR hC hG (fun pe' => ?_))
      refine nm_e (nm_r (nI_1 c) (hk' (_, pe') ?_))
      show s.1 + sf_pr G k c = sf_sm (sf_pr G k) c + sf_pr G k c
      rw [hs]
  · intro f i x hi hx hk'
    subst hx
    refine br_f (nI_ge hi (by omega)) (nm_r (e' := nI (4 ^ (i + 1))) ?_ (nm_r (nI_1 i) (hk' _ rfl)))
    show nI (4 ^ i) * nI 4 = _
    rw [pk_mul, Nat.pow_succ]
end
