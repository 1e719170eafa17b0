/-! the relation, the refusals -/
def sr_I (mm nn : Nat) (ce tg : Nat → Int32) : Prop := (0 < mm ∧ mm < 5 ∧ 0 < nn ∧ nn < 5) ∧ (∀ p, -12 ≤ (ce p).toInt ∧ (ce p).toInt ≤ 12) ∧ (∀ p, p < 32 → (mm ≤ p / 4 % 4 ∨ nn ≤ p % 4) → ce p = 0) ∧ (∀ i, -200 ≤ (tg i).toInt ∧ (tg i).toInt ≤ 200) ∧ (∀ i, i < 4 → mm ≤ i → tg i = 0)
def sr_G (go : Nat → Int32) : Prop := ∀ i, -200 ≤ (go i).toInt ∧ (go i).toInt ≤ 200
def i_Rel (_ : Nat) (u : SX) (v : SY) : Prop := ∃ (mm nn : Nat) (ce tg go : Nat → Int32) (mi : Nat → Int64) (w : Int32) (wk : Nat → Int64) (ra ca pe : Nat → Int32), u = (nI mm, nI nn, ce, tg, go, mi) ∧ v = (nI mm, nI nn, w, ce, tg, wk, ra, ca, pe) ∧ sr_I mm nn ce tg ∧ sr_G go ∧ sx_Z mi
theorem i_up {k : Nat} {u : SX} {v : SY} (h : i_Rel k u v) : i_Rel (k + 5) u v := h
theorem sr_mk {k mm nn : Nat} {ce tg go : Nat → Int32} {mi : Nat → Int64} {w : Int32} {wk : Nat → Int64} {ra ca pe : Nat → Int32} (hI : sr_I mm nn ce tg) (hG : sr_G go) (hZ : sx_Z mi) : i_Rel k (nI mm, nI nn, ce, tg, go, mi) (nI mm, nI nn, w, ce, tg, wk, ra, ca, pe) := ⟨mm, nn, ce, tg, go, mi, w, wk, ra, ca, pe, rfl, rfl, hI, hG, hZ⟩
theorem sr_cl (x : Int32) : ∃ a : Nat, 0 < a ∧ a < 5 ∧ ∀ P : Int32 → Prop, P (nI a) → ((1 ≤ x → ((x ≤ 4 → P x) ∧ (¬ x ≤ 4 → P 4))) ∧ (¬ 1 ≤ x → P 1)) := by
  by_cases h1 : 1 ≤ x
  · by_cases h4 : x ≤ 4
    · obtain ⟨j, hj, rfl⟩ := nI_of (x := x) (Int32.not_lt.mpr (Int32.le_trans (by decide : (0 : Int32) ≤ 1) h1))
      have e1 : 1 ≤ j := (nI_leI (a := 1) (by decide) hj).mp h1
      have e4 : j ≤ 4 := (nI_leI (b := 4) hj (by decide)).mp h4
      exact ⟨j, by omega, by omega, fun P h => br_t h1 (br_t h4 h)⟩
    · exact ⟨4, by decide, by decide, fun P h => br_t h1 (br_f h4 h)⟩
  · exact ⟨1, by decide, by decide, fun P h => br_f h1 h⟩
theorem i_vc0 (k0 : Int32) (k1 : Int32) : wpX_init (fun u => wpY_init (fun v => i_Rel 2 u v) k0 k1) k0 k1 := by
  obtain ⟨a, a0, a5, hA⟩ := sr_cl k0
  obtain ⟨b, b0, b5, hB⟩ := sr_cl k1
  have xA : ∀ post : Int32 → Prop, post (nI a) → wpX_clampedSide post k0 := fun post h => hA post h
  have xB : ∀ post : Int32 → Prop, post (nI b) → wpX_clampedSide post k1 := fun post h => hB post h
  have yB : ∀ (post : SY → Prop) (z : Int32), post (z, nI b, 0, (fun _ => 0), (fun _ => 0), (fun _ => 0), (fun _ => 0), (fun _ => 0), (fun _ => 0)) → wY_init_68 post k1 z 0 0 0 (fun _ => 0) (fun _ => 0) (fun _ => 0) (fun _ => 0) (fun _ => 0) (fun _ => 0) := fun post z h => hB (fun y => post (z, y, 0, (fun _ => 0), (fun _ => 0), (fun _ => 0), (fun _ => 0), (fun _ => 0), (fun _ => 0))) h
  have yA : ∀ (post : SY → Prop), wY_init_68 post k1 (nI a) 0 0 0 (fun _ => 0) (fun _ => 0) (fun _ => 0) (fun _ => 0) (fun _ => 0) (fun _ => 0) → wpY_init post k0 k1 := fun post h => hA (fun z => wY_init_68 post k1 z 0 0 0 (fun _ => 0) (fun _ => 0) (fun _ => 0) (fun _ => 0) (fun _ => 0) (fun _ => 0)) h
  unfold wpX_init
  refine xA _ (xB _ (yA _ (yB _ _ (sr_mk ⟨⟨a0, a5, b0, b5⟩, ?_, fun _ _ _ => rfl, ?_, fun _ _ _ => rfl⟩ ?_ fun _ _ _ _ _ => rfl))))
  · intro p; show -12 ≤ (0 : Int32).toInt ∧ (0 : Int32).toInt ≤ 12; decide
  · intro p; show -200 ≤ (0 : Int32).toInt ∧ (0 : Int32).toInt ≤ 200; decide
  · intro p; show -200 ≤ (0 : Int32).toInt ∧ (0 : Int32).toInt ≤ 200; decide
theorem sr_tX {post : Int32 → Prop} {t : Nat} (ht : t < 2) (h : post 1) : wpX_isTable post (nI t) := by
  have : t = 0 ∨ t = 1 := by omega
  rcases this with rfl | rfl
  · exact br_t rfl h
  · exact br_f (by decide) (br_t rfl h)
theorem sr_tY {post : Int32 → Prop} {v : SY} {t : Nat} (ht : t < 2) (h : post 0) : wpY_bad post v (nI t) := by
  obtain ⟨a, b, c, d, e, f, g, i, j⟩ := v
  exact br_f (nI_pos (by omega)) (br_t (nI_le (b := 1) (by omega) (by decide)) h)
theorem sr_tab (x : Int32) : (∃ t, t < 2 ∧ x = nI t) ∨ ((∀ post : Int32 → Prop, post 0 → wpX_isTable post x) ∧ (∀ (post : Int32 → Prop) (v : SY), post 1 → wpY_bad post v x)) := by
  rcases pk_ix x (n := 2) (by decide) with h | h | h
  · refine Or.inr ⟨fun post hp => br_f (fun z => ?_) (br_f (fun z => ?_) hp), fun post v hp => ?_⟩
    · rw [z] at h; exact absurd h (by decide)
    · rw [z] at h; exact absurd h (by decide)
    · obtain ⟨a, b, c, d, e, f, g, i, j⟩ := v
      exact br_t h hp
  · refine Or.inr ⟨fun post hp => br_f (fun z => ?_) (br_f (fun z => ?_) hp), fun post v hp => ?_⟩
    · rw [z] at h; exact absurd h (by decide)
    · rw [z] at h; exact absurd h (by decide)
    · obtain ⟨a, b, c, d, e, f, g, i, j⟩ := v
      refine br_f (fun z => ?_) (br_f (fun z => ?_) hp)
      · exact absurd (Int32.lt_of_le_of_lt h z) (by decide)
      · exact absurd (Int32.le_trans h z) (by decide)
  · exact Or.inl h
theorem sr_m12 : (-12 : Int32).toInt = -12 ∧ (12 : Int32).toInt = 12 := by decide
theorem sr_eX {post : Int32 → Prop} {x : Int32} (h : -12 ≤ x.toInt ∧ x.toInt ≤ 12) (hp : post 1) : wpX_isEntry post x := by
  refine br_f (fun z => ?_) (br_f (fun z => ?_) hp)
  · rw [Int32.lt_iff_toInt_lt, sr_m12.1] at z; omega
  · rw [Int32.lt_iff_toInt_lt, sr_m12.2] at z; omega
theorem sr_eXn {post : Int32 → Prop} {x : Int32} (h : ¬ (-12 ≤ x.toInt ∧ x.toInt ≤ 12)) (hp : post 0) : wpX_isEntry post x := by
  refine br_c (fun _ => hp) (fun z => br_t ?_ hp)
  rw [Int32.lt_iff_toInt_lt, sr_m12.1] at z
  rw [Int32.lt_iff_toInt_lt, sr_m12.2]; omega
theorem sr_eY {post : Int32 → Prop} {v : SY} {x : Int32} (h : -12 ≤ x.toInt ∧ x.toInt ≤ 12) (hp : post 0) : wpY_far post v x := by
  obtain ⟨a, b, c, d, e, f, g, i, j⟩ := v
  refine br_f (fun z => ?_) (br_t ?_ hp)
  · rw [Int32.lt_iff_toInt_lt, sr_m12.1] at z; omega
  · rw [Int32.le_iff_toInt_le, sr_m12.2]; omega
theorem sr_eYn {post : Int32 → Prop} {v : SY} {x : Int32} (h : ¬ (-12 ≤ x.toInt ∧ x.toInt ≤ 12)) (hp : post 1) : wpY_far post v x := by
  obtain ⟨a, b, c, d, e, f, g, i, j⟩ := v
  refine br_c (fun _ => hp) (fun z => br_f (fun y => ?_) hp)
  rw [Int32.lt_iff_toInt_lt, sr_m12.1] at z
  rw [Int32.le_iff_toInt_le, sr_m12.2] at y; omega
section
variable {mm nn : Nat} {cc n w : Int32} {ce tg go : Nat → Int32} {mi wk : Nat → Int64} {ra ca pe : Nat → Int32}
theorem sr_rX {post : Int32 → Prop} {i : Nat} (hm : mm < 5) (h : i < mm) (hp : post 1) : wpX_isRow post (nI mm, cc, ce, tg, go, mi) (nI i) := br_f (nI_pos (by omega)) (br_f (nI_ge h (by omega)) hp)
theorem sr_rXn {post : Int32 → Prop} {i : Nat} (hi : i < 2 ^ 31) (h : mm ≤ i) (hp : post 0) : wpX_isRow post (nI mm, cc, ce, tg, go, mi) (nI i) := br_f (nI_pos hi) (br_t (nI_le h hi) hp)
theorem sr_cX {post : Int32 → Prop} {i : Nat} (hm : nn < 5) (h : i < nn) (hp : post 1) : wpX_isColumn post (cc, nI nn, ce, tg, go, mi) (nI i) := br_f (nI_pos (by omega)) (br_f (nI_ge h (by omega)) hp)
theorem sr_cXn {post : Int32 → Prop} {i : Nat} (hi : i < 2 ^ 31) (h : nn ≤ i) (hp : post 0) : wpX_isColumn post (cc, nI nn, ce, tg, go, mi) (nI i) := br_f (nI_pos hi) (br_t (nI_le h hi) hp)
theorem sr_rY {post : Int32 → Prop} {i : Nat} (hm : mm < 5) (h : i < mm) (hp : post 0) : wpY_badRow post (nI mm, n, w, ce, tg, wk, ra, ca, pe) (nI i) := br_f (nI_pos (by omega)) (br_t (nI_lt h (by omega)) hp)
theorem sr_rYn {post : Int32 → Prop} {i : Nat} (hi : i < 2 ^ 31) (h : mm ≤ i) (hp : post 1) : wpY_badRow post (nI mm, n, w, ce, tg, wk, ra, ca, pe) (nI i) := br_f (nI_pos hi) (br_f (nI_nlt h hi) hp)
theorem sr_row (hm : mm < 5) (x : Int32) : (∃ i, i < mm ∧ x = nI i) ∨ ((∀ post : Int32 → Prop, post 0 → wpX_isRow post (nI mm, cc, ce, tg, go, mi) x) ∧ (∀ post : Int32 → Prop, post 1 → wpY_badRow post (nI mm, n, w, ce, tg, wk, ra, ca, pe) x)) := by
  by_cases h : x < 0
  · exact Or.inr ⟨fun post hp => br_t h hp, fun post hp => br_t h hp⟩
  · obtain ⟨j, hj, rfl⟩ := nI_of h
    rcases Nat.lt_or_ge j mm with z | z
    · exact Or.inl ⟨j, z, rfl⟩
    · exact Or.inr ⟨fun post hp => sr_rXn hj z hp, fun post hp => sr_rYn hj z hp⟩
end
theorem i_vc_rows {k : Nat} {u : SX} {v : SY} (I : i_Rel k u v) (hk : k + 5 ≤ 2562) : wpX_rows (fun r => wpY_rows (fun r' => r' = r ∧ i_Rel (k + 5) u v) v) u := by
  obtain ⟨mm, nn, ce, tg, go, mi, w, wk, ra, ca, pe, rfl, rfl, hI, hG, hZ⟩ := I
  exact And.intro rfl (sr_mk hI hG hZ)
theorem i_vc_columns {k : Nat} {u : SX} {v : SY} (I : i_Rel k u v) (hk : k + 5 ≤ 2562) : wpX_columns (fun r => wpY_columns (fun r' => r' = r ∧ i_Rel (k + 5) u v) v) u := by
  obtain ⟨mm, nn, ce, tg, go, mi, w, wk, ra, ca, pe, rfl, rfl, hI, hG, hZ⟩ := I
  exact And.intro rfl (sr_mk hI hG hZ)
/-! set -/
theorem sr_up {mm nn : Nat} {ce tg : Nat → Int32} {p : Nat} {x : Int32} (hI : sr_I mm nn ce tg) (hx : -12 ≤ x.toInt ∧ x.toInt ≤ 12) (h1 : p / 4 % 4 < mm) (h2 : p % 4 < nn) : sr_I mm nn (upd ce p x) tg := by
  refine ⟨hI.1, fun q => ?_, fun q hq hz => ?_, hI.2.2.2⟩
  · by_cases e : q = p
    · rw [e, pk_us]; exact hx
    · rw [pk_un e]; exact hI.2.1 q
  · have e : q ≠ p := by
      intro z; subst z; omega
    rw [pk_un e]; exact hI.2.2.1 q hq hz
section
variable {mm nn : Nat} {w : Int32} {ce tg go : Nat → Int32} {mi wk : Nat → Int64} {ra ca pe : Nat → Int32}
theorem sr_set (hI : sr_I mm nn ce tg) (v1 v2 v3 : Int32) : ∃ (r : Int32) (ce' : Nat → Int32), sr_I mm nn ce' tg ∧ (∀ post : Int32 → SX → Prop, post r (nI mm, nI nn, ce', tg, go, mi) → wpX_set post (nI mm, nI nn, ce, tg, go, mi) v1 v2 v3) ∧ (∀ post : Int32 → SY → Prop, post r (nI mm, nI nn, w, ce', tg, wk, ra, ca, pe) → wpY_set post (nI mm, nI nn, w, ce, tg, wk, ra, ca, pe) v1 v2 v3) := by
  obtain ⟨m0, m5, n0, n5⟩ := hI.1
  unfold wpX_set wpY_set
  dsimp only
  rcases sr_tab v1 with ⟨t, ht, rfl⟩ | ⟨bX, bY⟩
  · by_cases h2 : v2 < 0
    · exact ⟨-2, ce, hI, fun post hp => sr_tX ht (br_f (by decide) (br_t h2 hp)), fun post hp => sr_tY ht (br_t rfl (br_t h2 hp))⟩
    · obtain ⟨a, ha, rfl⟩ := nI_of h2
      have e1 : nI a / 4 = nI (a / 4) := pk_div ha (by decide : 0 < 4) (by decide)
      have e2 : nI a - nI a / 4 * 4 = nI (a % 4) := pk_rem ha (by decide : 0 < 4) (by decide)
      have e3 : nI t * 16 + nI a = nI (16 * t + a) := by
        show nI t * nI 16 + _ = _
        rw [pk_mul, nI_add]; exact congrArg nI (by omega)
      have e4 : 16 * nI t + nI a = nI (16 * t + a) := by
        show nI 16 * nI t + _ = _
        rw [pk_mul, nI_add]
      rw [e2, e1, e3, e4]
      have n4 : ¬ (4 : Int32) = 0 := by decide
      have a4 : a / 4 < 2 ^ 31 := by omega
      rcases Nat.lt_or_ge (a / 4) mm with z1 | z1
      · rcases Nat.lt_or_ge (a % 4) nn with z2 | z2
        · by_cases z3 : -12 ≤ v3.toInt ∧ v3.toInt ≤ 12
          · refine ⟨0, upd ce (16 * t + a) v3, sr_up hI z3 (by omega) (by omega), fun post hp => ?_, fun post hp => ?_⟩
            · refine sr_tX ht (br_f (by decide) (br_f h2 ⟨n4, sr_rX m5 z1 (br_f (by decide) ⟨n4, sr_cX n5 z2 (br_f (by decide) (sr_eX z3 (br_f (by decide) ⟨vp_in_nI (by omega) (by omega), nm_e ?_⟩)))⟩)⟩))
              rw [nI_clamp (by omega)]; exact hp
            · refine sr_tY ht (br_t rfl (br_f h2 ⟨n4, br_f (nI_ge z1 (by omega)) ⟨n4, br_t (nI_lt z2 (by omega)) (sr_eY z3 (br_t rfl ⟨vp_in_nI (by omega) (by omega), nm_e ?_⟩))⟩⟩))
              rw [nI_clamp (by omega)]; exact hp
          · exact ⟨-3, ce, hI, fun post hp => sr_tX ht (br_f (by decide) (br_f h2 ⟨n4, sr_rX m5 z1 (br_f (by decide) ⟨n4, sr_cX n5 z2 (br_f (by decide) (sr_eXn z3 (br_t rfl hp)))⟩)⟩)), fun post hp => sr_tY ht (br_t rfl (br_f h2 ⟨n4, br_f (nI_ge z1 (by omega)) ⟨n4, br_t (nI_lt z2 (by omega)) (sr_eYn z3 (br_f (by decide) hp))⟩⟩))⟩
        · exact ⟨-2, ce, hI, fun post hp => sr_tX ht (br_f (by decide) (br_f h2 ⟨n4, sr_rX m5 z1 (br_f (by decide) ⟨n4, sr_cXn (by omega) z2 (br_t rfl hp)⟩)⟩)), fun post hp => sr_tY ht (br_t rfl (br_f h2 ⟨n4, br_f (nI_ge z1 (by omega)) ⟨n4, br_f (nI_nlt z2 (by omega)) hp⟩⟩))⟩
      · exact ⟨-2, ce, hI, fun post hp => sr_tX ht (br_f (by decide) (br_f h2 ⟨n4, sr_rXn a4 z1 (br_t rfl hp)⟩)), fun post hp => sr_tY ht (br_t rfl (br_f h2 ⟨n4, br_t (nI_le z1 a4) hp⟩))⟩
  · exact ⟨-1, ce, hI, fun post hp => bX _ (br_t rfl hp), fun post hp => bY _ _ (br_f (by decide) hp)⟩
theorem sr_aim (hI : sr_I mm nn ce tg) (v1 v2 : Int32) : ∃ (r : Int32) (tg' : Nat → Int32), sr_I mm nn ce tg' ∧ (∀ post : Int32 → SX → Prop, post r (nI mm, nI nn, ce, tg', go, mi) → wpX_aim post (nI mm, nI nn, ce, tg, go, mi) v1 v2) ∧ (∀ post : Int32 → SY → Prop, post r (nI mm, nI nn, w, ce, tg', wk, ra, ca, pe) → wpY_aim post (nI mm, nI nn, w, ce, tg, wk, ra, ca, pe) v1 v2) := by
  obtain ⟨m0, m5, n0, n5⟩ := hI.1
  unfold wpX_aim wpY_aim
  dsimp only
  rcases sr_row (mm := mm) (cc := nI nn) (n := nI nn) (w := w) (ce := ce) (tg := tg) (go := go) (mi := mi) (wk := wk) (ra := ra) (ca := ca) (pe := pe) m5 v1 with ⟨i, hi, rfl⟩ | ⟨bX, bY⟩
  · by_cases h1 : v2 < -200
    · exact ⟨-2, tg, hI, fun post hp => sr_rX m5 hi (br_f (by decide) (br_t h1 hp)), fun post hp => sr_rY m5 hi (br_t rfl (br_t h1 hp))⟩
    · by_cases h2 : v2 ≤ 200
      · refine ⟨0, upd tg i v2, ⟨hI.1, hI.2.1, hI.2.2.1, fun j => ?_, fun j hj hm => ?_⟩, fun post hp => ?_, fun post hp => ?_⟩
        · by_cases e : j = i
          · rw [e, pk_us]
            rw [Int32.lt_iff_toInt_lt, show (-200 : Int32).toInt = -200 from by decide] at h1
            rw [Int32.le_iff_toInt_le, show (200 : Int32).toInt = 200 from by decide] at h2
            omega
          · rw [pk_un e]; exact hI.2.2.2.1 j
        · rw [pk_un (by omega)]; exact hI.2.2.2.2 j hj hm
        · refine sr_rX m5 hi (br_f (by decide) (br_f h1 (br_t h2 ⟨vp_in_nI (by omega) (by omega), nm_e ?_⟩)))
          rw [nI_clamp (by omega)]; exact hp
        · refine sr_rY m5 hi (br_t rfl (br_f h1 (br_t h2 ⟨vp_in_nI (by omega) (by omega), nm_e ?_⟩)))
          rw [nI_clamp (by omega)]; exact hp
      · exact ⟨-2, tg, hI, fun post hp => sr_rX m5 hi (br_f (by decide) (br_f h1 (br_f h2 hp))), fun post hp => sr_rY m5 hi (br_t rfl (br_f h1 (br_f h2 hp)))⟩
  · exact ⟨-1, tg, hI, fun post hp => bX _ (br_t rfl hp), fun post hp => bY _ (br_f (by decide) hp)⟩
theorem sr_get (hI : sr_I mm nn ce tg) (v1 v2 v3 : Int32) : ∃ (r : Int32), (∀ post : Int32 → Prop, post r → wpX_get post (nI mm, nI nn, ce, tg, go, mi) v1 v2 v3) ∧ (∀ post : Int32 → Prop, post r → wpY_get post (nI mm, nI nn, w, ce, tg, wk, ra, ca, pe) v1 v2 v3) := by
  obtain ⟨m0, m5, n0, n5⟩ := hI.1
  unfold wpX_get wpY_get
  dsimp only
  rcases sr_tab v1 with ⟨t, ht, rfl⟩ | ⟨bX, bY⟩
  · rcases sr_row (mm := mm) (cc := nI nn) (n := nI nn) (w := w) (ce := ce) (tg := tg) (go := go) (mi := mi) (wk := wk) (ra := ra) (ca := ca) (pe := pe) m5 v2 with ⟨i, hi, rfl⟩ | ⟨cX, cY⟩
    · by_cases h3 : v3 < 0
      · exact ⟨0, fun post hp => sr_tX ht (br_f (by decide) (sr_rX m5 hi (br_f (by decide) (br_t h3 (br_t rfl hp))))), fun post hp => sr_tY ht (br_t rfl (sr_rY m5 hi (br_t rfl (br_t h3 hp))))⟩
      · obtain ⟨j, hj, rfl⟩ := nI_of h3
        rcases Nat.lt_or_ge j nn with z | z
        · refine ⟨ce (16 * t + 4 * i + j), fun post hp => sr_tX ht (br_f (by decide) (sr_rX m5 hi (br_f (by decide) (sr_cX n5 z (br_f (by decide) ?_))))), fun post hp => sr_tY ht (br_t rfl (sr_rY m5 hi (br_t rfl (br_f h3 (br_t (nI_lt z (by omega)) ?_)))))⟩
          · show vp_in (nI t * 16 + nI i * 4 + nI j) 32 ∧ post (ce (nI t * 16 + nI i * 4 + nI j).toNatClampNeg)
            rw [sf_cell, nI_clamp (by omega)]
            exact ⟨vp_in_nI (by omega) (by omega), hp⟩
          · rw [sf_cellY, nI_clamp (by omega)]
            exact ⟨vp_in_nI (by omega) (by omega), hp⟩
        · exact ⟨0, fun post hp => sr_tX ht (br_f (by decide) (sr_rX m5 hi (br_f (by decide) (sr_cXn hj z (br_t rfl hp))))), fun post hp => sr_tY ht (br_t rfl (sr_rY m5 hi (br_t rfl (br_f h3 (br_f (nI_nlt z hj) hp)))))⟩
    · exact ⟨0, fun post hp => sr_tX ht (br_f (by decide) (cX _ (br_t rfl hp))), fun post hp => sr_tY ht (br_t rfl (cY _ (br_f (by decide) hp)))⟩
  · exact ⟨0, fun post hp => bX _ (br_t rfl hp), fun post hp => bY _ _ (br_f (by decide) hp)⟩
end
theorem i_vc_set {k : Nat} {u : SX} {v : SY} (I : i_Rel k u v) (hk : k + 5 ≤ 2562) (v1 : Int32) (v2 : Int32) (v3 : Int32) : wpX_set (fun r u' => wpY_set (fun r' v' => r' = r ∧ i_Rel (k + 5) u' v') v v1 v2 v3) u v1 v2 v3 := by
  obtain ⟨mm, nn, ce, tg, go, mi, w, wk, ra, ca, pe, rfl, rfl, hI, hG, hZ⟩ := I
  obtain ⟨r, ce', hI', hX, hY⟩ := sr_set (w := w) (go := go) (mi := mi) (wk := wk) (ra := ra) (ca := ca) (pe := pe) hI v1 v2 v3
  exact hX _ (hY _ ⟨rfl, sr_mk hI' hG hZ⟩)
theorem i_vc_aim {k : Nat} {u : SX} {v : SY} (I : i_Rel k u v) (hk : k + 5 ≤ 2562) (v1 : Int32) (v2 : Int32) : wpX_aim (fun r u' => wpY_aim (fun r' v' => r' = r ∧ i_Rel (k + 5) u' v') v v1 v2) u v1 v2 := by
  obtain ⟨mm, nn, ce, tg, go, mi, w, wk, ra, ca, pe, rfl, rfl, hI, hG, hZ⟩ := I
  obtain ⟨r, tg', hI', hX, hY⟩ := sr_aim (w := w) (go := go) (mi := mi) (wk := wk) (ra := ra) (ca := ca) (pe := pe) hI v1 v2
  exact hX _ (hY _ ⟨rfl, sr_mk hI' hG hZ⟩)
theorem i_vc_get {k : Nat} {u : SX} {v : SY} (I : i_Rel k u v) (hk : k + 5 ≤ 2562) (v1 : Int32) (v2 : Int32) (v3 : Int32) : wpX_get (fun r => wpY_get (fun r' => r' = r ∧ i_Rel (k + 5) u v) v v1 v2 v3) u v1 v2 v3 := by
  obtain ⟨mm, nn, ce, tg, go, mi, w, wk, ra, ca, pe, rfl, rfl, hI, hG, hZ⟩ := I
  obtain ⟨r, hX, hY⟩ := sr_get (w := w) (go := go) (mi := mi) (wk := wk) (ra := ra) (ca := ca) (pe := pe) hI v1 v2 v3
  exact hX _ (hY _ ⟨rfl, sr_mk hI hG hZ⟩)
