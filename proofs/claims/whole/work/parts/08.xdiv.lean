/-! the class's divisors -/
theorem sx_eu {post : Int64 → Prop} : ∀ d i g s : Nat, i + d ≤ 1000 → g < 2 ^ 63 → s < 2 ^ 63 → sf_ok d g s → post (lN (Nat.gcd g s)) → ∀ n, d < n → wX_commonDivisor_31 post n (lN g) (lN s) (nI i) := by
  intro d
  induction d with
  | zero =>
    intro i g s hi hg hs ho hp n hn
    obtain ⟨n, rfl⟩ : ∃ n', n = n' + 1 := ⟨n - 1, by omega⟩
    have z : s = 0 := ho
    subst z
    rw [Nat.gcd_zero_right] at hp
    exact br_c (fun _ => hp) (fun _ => br_t rfl hp)
  | succ d ih =>
    intro i g s hi hg hs ho hp n hn
    obtain ⟨n, rfl⟩ : ∃ n', n = n' + 1 := ⟨n - 1, by omega⟩
    refine br_f (nI_ge (b := 1000) (by omega) (by decide)) ?_
    rcases Nat.eq_zero_or_pos s with z | z
    · subst z
      rw [Nat.gcd_zero_right] at hp
      exact br_t rfl hp
    · have hz : ¬ lN s = 0 := fun y => by
        have := (pk_lEQ hs (by decide : 0 < 2 ^ 63)).mp y
        omega
      refine br_f hz ⟨hz, nm_r (pk_lRem hg z hs) (nm_r (nI_1 i) ?_)⟩
      have ho' : sf_ok d s (g % s) := by
        rcases ho with y | y
        · omega
        · exact y
      rw [sf_gcd_step] at hp
      exact ih (i + 1) s (g % s) (by omega) hs (Nat.lt_trans (Nat.mod_lt g z) hs) ho' hp n (by omega)
theorem sx_eu12 {post : Int64 → Prop} {g : Nat} {b : Int64} (hg : g < 2 ^ 63) (hb : sf_ab b < 2 ^ 50) (h : post (lN (Nat.gcd g (sf_ab b)))) : wX_commonDivisor_12 post b (lN g) := by
  have key : wX_commonDivisor_31 post 101 (lN g) (lN (sf_ab b)) 0 := sx_eu 100 0 g (sf_ab b) (by omega) hg (by omega) (sf_ok_of 50 g _ hb) h 101 (by omega)
  refine br_c (fun h0 => ⟨101, ?_⟩) (fun h0 => nm_r (sf_neg (Int64.not_le.mp h0) (by omega)) ⟨101, key⟩)
  have e := (sf_pos (Int64.not_lt.mpr h0)).1
  rw [← e] at key
  exact key
theorem sx_common {post : Int64 → Prop} {a b : Int64} (ha : sf_ab a < 2 ^ 50) (hb : sf_ab b < 2 ^ 50) (h : post (lN (Nat.gcd (sf_ab a) (sf_ab b)))) : wpX_commonDivisor post a b := by
  have key : wX_commonDivisor_12 post b (lN (sf_ab a)) := sx_eu12 (by omega) hb h
  refine br_c (fun h0 => ?_) (fun h0 => ?_)
  · have e := (sf_pos (Int64.not_lt.mpr h0)).1
    rw [← e] at key
    exact key
  · rw [sf_neg (Int64.not_le.mp h0) (by omega)]
    exact key
section
variable {rc cc : Int32} {ce tg go : Nat → Int32} {mi : Nat → Int64}
theorem sx_fd {post : Int64 → Prop} {k w : Nat} (hk : k < 100) (hw : w ≤ 16) (hM : ∀ i, i < 512 → sf_ab (mi i) < 2 ^ 50) (h : post (lN (sf_go (fun r c => if sf_sz r = k then sf_ab (mi (32 * r + w + c)) else 0) 16 16))) : wpX_foundDivisor post (rc, cc, ce, tg, go, mi) (nI k) (nI w) := by
  unfold wpX_foundDivisor
  dsimp only
  have hf : ∀ r, r < 16 → ∀ c, c < 16 → (if sf_sz r = k then sf_ab (mi (32 * r + w + c)) else 0) < 2 ^ 50 := by
    intro r hr c hc
    by_cases e : sf_sz r = k
    · rw [if_pos e]; exact hM _ (by omega)
    · rw [if_neg e]; decide
  refine pk_loop (σ := Int64) (fun n i x => wX_foundDivisor_5 post (nI k) (nI w) rc cc ce tg go mi n x (nI i)) (fun i x => x = lN (sf_go (fun r c => if sf_sz r = k then sf_ab (mi (32 * r + w + c)) else 0) 16 i)) 16 0 0 (by omega) rfl ?_ ?_
  · intro n x hx
    subst hx
    exact br_t (by decide) h
  · intro n i x hi hx hk'
    subst hx
    refine br_f (nI_ge (b := 16) hi (by decide)) (sx_size (by omega) ?_)
    have hgo : sf_go (fun r c => if sf_sz r = k then sf_ab (mi (32 * r + w + c)) else 0) 16 i < 2 ^ 50 := sf_go_lt (by decide) i (fun a ha => hf a (by omega))
    by_cases e : sf_sz i = k
    · refine br_t (by rw [e]) ?_
      refine pk_loop (σ := Int64) (fun n' j x => wX_foundDivisor_24 post (wX_foundDivisor_5 post (nI k) (nI w) rc cc ce tg go mi n) (nI k) (nI w) (nI i) rc cc ce tg go mi n' x (nI j)) (fun j x => x = lN (sf_gc (fun c => if sf_sz i = k then sf_ab (mi (32 * i + w + c)) else 0) (sf_go (fun r c => if sf_sz r = k then sf_ab (mi (32 * r + w + c)) else 0) 16 i) j)) 16 0 _ (by omega) rfl ?_ ?_
      · intro n' y hy
        exact br_t (by decide) (nm_r (nI_1 i) (hk' y hy))
      · intro n' j y hj hy hkj
        subst hy
        have e2 : nI i * 32 + nI w + nI j = nI (32 * i + w + j) := by
          show nI i * nI 32 + nI w + nI j = _
          rw [pk_mul, nI_add, nI_add]; exact congrArg nI (by omega)
        refine br_f (nI_ge (b := 16) hj (by decide)) ?_
        rw [e2]
        refine ⟨vp_in_nI (by omega) (by omega), ?_⟩
        rw [nI_clamp (by omega)]
        have hgc := sf_gc_lt hgo j (fun c hc => hf i hi c (by omega))
        refine sx_common (by rw [sf_abN (by omega)]; exact hgc) (hM _ (by omega)) (nm_r (nI_1 j) (hkj _ ?_))
        rw [sf_abN (by omega)]
        show _ = lN (Nat.gcd _ (if sf_sz i = k then sf_ab (mi (32 * i + w + j)) else 0))
        rw [if_pos e]
    · refine br_f (fun z => e ((nI_eq (by have := sf_sz4 i hi; omega) (by omega)).mp z)) (nm_r (nI_1 i) (hk' _ ?_))
      show _ = lN (sf_gc (fun c => if sf_sz i = k then sf_ab (mi (32 * i + w + c)) else 0) _ 16)
      rw [sf_gc_congr 16 (fun c _ => if_neg e), sf_gc_0]
def sx_OK (F : Nat → Nat → Int64) (M : Nat → Int64) : Prop := sx_Z M ∧ (∀ r, r < 16 → sx_R F M r 32) ∧ ∀ i, i < 4 → ∀ j, j < 5 → sf_ab (F i j) ≤ 200
theorem sx_val {F : Nat → Nat → Int64} {M : Nat → Int64} (h : sx_OK F M) {r c : Nat} (hr : r < 16) (hc : c < 32) : sf_ab (M (32 * r + c)) = if sf_sz r = sf_sz c then sf_ab (sf_pm F (sf_sz r) r c) else 0 := by
  by_cases e : sf_sz r = sf_sz c
  · rw [if_pos e, h.2.1 r hr c hc e]
  · rw [if_neg e, h.1 r hr c hc e, sf_ab0]
theorem sx_bd {F : Nat → Nat → Int64} {M : Nat → Int64} (h : sx_OK F M) : ∀ i, i < 512 → sf_ab (M i) < 2 ^ 50 := by
  intro i hi
  have e : i = 32 * (i / 32) + i % 32 := by omega
  rw [e, sx_val h (by omega) (by omega)]
  by_cases e : sf_sz (i / 32) = sf_sz (i % 32)
  · rw [if_pos e]
    have h4 := sf_sz4 (i / 32) (by omega)
    exact Nat.lt_of_le_of_lt (sf_pm_bound h.2.2 _ (by omega) _ _) (sf_pw (by omega))
  · rw [if_neg e]; decide
theorem sx_fD {post : Int64 → Prop} {F : Nat → Nat → Int64} {k : Nat} (hk : k < 100) (hO : sx_OK F mi) (h : post (lN (sf_D F k))) : wpX_foundDivisor post (rc, cc, ce, tg, go, mi) (nI k) 0 := by
  refine sx_fd (w := 0) hk (by omega) (sx_bd hO) ?_
  have e : sf_go (fun r c => if sf_sz r = k then sf_ab (mi (32 * r + 0 + c)) else 0) 16 16 = sf_D F k := by
    refine sf_go_congr 16 (fun a ha b hb => ?_)
    show (if sf_sz a = k then sf_ab (mi (32 * a + b)) else 0) = if sf_sz a = k ∧ sf_sz b = k then sf_ab (sf_pm F k a b) else 0
    rw [sx_val hO ha (by omega)]
    by_cases ea : sf_sz a = k
    · rw [if_pos ea]
      by_cases eb : sf_sz b = k
      · rw [if_pos (ea.trans eb.symm), if_pos ⟨ea, eb⟩, ea]
      · rw [if_neg (fun z => eb (z.symm.trans ea)), if_neg (fun z => eb z.2)]
    · rw [if_neg ea, if_neg (fun z => ea z.1)]
  rw [e]; exact h
theorem sx_fE {post : Int64 → Prop} {F : Nat → Nat → Int64} {k : Nat} (hk : k < 100) (hO : sx_OK F mi) (h : post (lN (sf_E F k))) : wpX_foundDivisor post (rc, cc, ce, tg, go, mi) (nI k) 16 := by
  refine sx_fd (w := 16) hk (by omega) (sx_bd hO) ?_
  have e : sf_go (fun r c => if sf_sz r = k then sf_ab (mi (32 * r + 16 + c)) else 0) 16 16 = sf_E F k := by
    refine sf_go_congr 16 (fun a ha b hb => ?_)
    show (if sf_sz a = k then sf_ab (mi (32 * a + 16 + b)) else 0) = if sf_sz a = k ∧ sf_sz (16 + b) = k then sf_ab (sf_pm F k a (16 + b)) else 0
    rw [show 32 * a + 16 + b = 32 * a + (16 + b) from by omega, sx_val hO ha (by omega)]
    by_cases ea : sf_sz a = k
    · rw [if_pos ea]
      by_cases eb : sf_sz (16 + b) = k
      · rw [if_pos (ea.trans eb.symm), if_pos ⟨ea, eb⟩, ea]
      · rw [if_neg (fun z => eb (z.symm.trans ea)), if_neg (fun z => eb z.2)]
    · rw [if_neg ea, if_neg (fun z => ea z.1)]
  rw [e]; exact h
theorem sx_lN0 {a : Nat} (h : a < 2 ^ 50) : lN a = 0 ↔ a = 0 := pk_lEQ (by omega) (by decide : 0 < 2 ^ 63)
theorem sx_rank {post : Int32 → Prop} {F : Nat → Nat → Int64} (hO : sx_OK F mi) (h : post (nI (sf_rD (sf_D F) 4))) : wpX_foundRank post (rc, cc, ce, tg, go, mi) := by
  unfold wpX_foundRank
  dsimp only
  refine pk_loop (σ := Int32) (fun n i x => wX_foundRank_4 post rc cc ce tg go mi n x (nI i)) (fun i x => x = nI (sf_rD (sf_D F) (i - 1)) ∧ 0 < i) 5 1 0 (by omega) ⟨rfl, by decide⟩ ?_ ?_
  · intro n x hx
    rw [hx.1]
    exact br_t (by decide) h
  · intro n i x hi hx hk
    obtain ⟨j, rfl⟩ : ∃ j, i = j + 1 := ⟨i - 1, by omega⟩
    rw [hx.1]
    refine br_f (nI_nlt (a := 4) (b := j + 1) (by omega) (by decide)) (sx_fD (by omega) hO ?_)
    have hd := sf_Dlt hO.2.2 (k := j + 1) (by omega)
    by_cases e : sf_D F (j + 1) = 0
    · refine br_t ((sx_lN0 hd).mpr e) (nm_r (nI_1 _) (hk _ ⟨?_, by omega⟩))
      show nI (sf_rD (sf_D F) j) = nI (sf_rD (sf_D F) (j + 1))
      rw [sf_rD_t e]
    · refine br_f (fun z => e ((sx_lN0 hd).mp z)) (nm_r (nI_1 _) (hk _ ⟨?_, by omega⟩))
      show nI (j + 1) = nI (sf_rD (sf_D F) (j + 1))
      rw [sf_rD_f e]
theorem sx_lmg {post : Int64 → SX → Prop} {t : Nat} (ht : t < 2) (hZ : sx_Z mi) (hb : ∀ i, i < 4 → ∀ j, j < 5 → sf_ab (sx_F ce go t i j) ≤ 200) (h : ∀ M, sx_Z M → post (lN (sf_Ls (sf_D (sx_F ce go t)) (sf_E (sx_F ce go t)))) (rc, cc, ce, tg, go, M)) : wpX_leastMultipleOfGoal post (rc, cc, ce, tg, go, mi) (nI t) := by
  unfold wpX_leastMultipleOfGoal
  dsimp only
  refine sx_find ht hZ (fun M hM hR => ?_)
  have hO : sx_OK (sx_F ce go t) M := ⟨hM, hR, hb⟩
  have h1 := h M hM
  generalize sx_F ce go t = F at *
  refine sx_rank hO ?_
  have hr := sf_rD_le (sf_D F) 4
  unfold sf_Ls at h1
  generalize sf_rD (sf_D F) 4 = r at *
  rw [nI_1]
  refine sx_fE (by omega) hO ?_
  have he := sf_Elt hb (k := r + 1) (by omega)
  by_cases e : sf_E F (r + 1) = 0
  · rw [if_pos e] at h1
    refine br_t ((sx_lN0 he).mpr e) (sx_fD (by omega) hO (sx_fE (by omega) hO ?_))
    have hd := sf_Dlt hb (k := r) (by omega)
    have he2 := sf_Elt hb (k := r) (by omega)
    refine sx_common (by rw [sf_abN (by omega)]; exact hd) (by rw [sf_abN (by omega)]; exact he2) ?_
    rw [sf_abN (by omega), sf_abN (by omega)]
    have hg := sf_gcd_lt hd he2
    by_cases z : Nat.gcd (sf_D F r) (sf_E F r) = 0
    · rw [z, Nat.div_zero] at h1
      exact br_t ((sx_lN0 hg).mpr z) h1
    · have nz : ¬ lN (Nat.gcd (sf_D F r) (sf_E F r)) = 0 := fun y => z ((sx_lN0 hg).mp y)
      refine br_f nz ⟨nz, ?_⟩
      rw [pk_lDiv (by omega) (by omega) (by omega)]
      exact h1
  · rw [if_neg e] at h1
    exact br_f (fun y => e ((sx_lN0 he).mp y)) h1
end
