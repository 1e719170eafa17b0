/-! the class's private methods -/
theorem sf_cn_s (s i : Nat) : sf_cn s (i + 1) = sf_cn s i + s / 2 ^ i % 2 := by
  show (if s / 2 ^ i % 2 = 1 then sf_cn s i + 1 else sf_cn s i) = _
  by_cases h : s / 2 ^ i % 2 = 1
  · rw [if_pos h, h]
  · rw [if_neg h]; have := Nat.mod_lt (s / 2 ^ i) (show 0 < 2 by decide); omega
theorem sx_size {post : Int32 → Prop} {s : Nat} (hs : s < 32) (h : post (nI (sf_sz s))) : wpX_sizeOf post (nI s) := by
  refine pk_loop (σ := Int32) (fun n i x => wX_sizeOf_4 post (nI s) n x (nI i)) (fun i x => x = nI (sf_cn s i)) 5 0 0 (by omega) rfl ?_ ?_
  · intro n x hx
    subst hx
    exact br_t (by decide) (by rw [(sf_cn_sz s hs).1]; exact h)
  · intro n i x hi hx hk
    subst hx
    refine br_f (nI_nlt (a := 4) (b := i) (by omega) (by decide)) (nm_r (e' := nI (sf_cn s (i + 1))) ?_ (nm_r (nI_1 i) (hk _ rfl)))
    rw [sf_bitn (by omega) (by omega), nI_add, sf_cn_s]
theorem sf_lo_i : ∀ s, s < 16 → ∀ i, i < 4 → (∀ j, j < i → ¬ s / 2 ^ j % 2 = 1) → s / 2 ^ i % 2 = 1 → sf_lo s = i := by decide +kernel
theorem sf_lo_n : ∀ s, s < 16 → (∀ j, j < 4 → ¬ s / 2 ^ j % 2 = 1) → sf_lo s = 0 := by decide +kernel
theorem sx_least {post : Int32 → Prop} {s : Nat} (hs : s < 16) (h : post (nI (sf_lo s))) : wpX_leastOf post (nI s) := by
  refine pk_loop (σ := Unit) (fun n i _ => wX_leastOf_2 post (nI s) n (nI i)) (fun i _ => ∀ j, j < i → ¬ s / 2 ^ j % 2 = 1) 4 0 () (by omega) (fun j hj => absurd hj (Nat.not_lt_zero j)) ?_ ?_
  · intro n x hx
    rw [sf_lo_n s hs hx] at h
    exact br_t (by decide) h
  · intro n i x hi hx hk
    have e : (nI s >>> (nI i &&& 31)) &&& 1 = nI (s / 2 ^ i % 2) := sf_bitn (by omega) (by omega)
    refine br_f (nI_ge (b := 4) hi (by decide)) ?_
    by_cases hb : s / 2 ^ i % 2 = 1
    · refine br_t (by rw [e, hb]; rfl) ?_
      rw [sf_lo_i s hs i hi hx hb] at h
      exact h
    · have h0 : s / 2 ^ i % 2 = 0 := by have := Nat.mod_lt (s / 2 ^ i) (show 0 < 2 by decide); omega
      refine br_f (by rw [e, h0]; decide) (nm_r (nI_1 i) (hk () ?_))
      intro j hj
      rcases Nat.lt_or_ge j i with z | z
      · exact hx j z
      · rw [show j = i from by omega]; exact hb
def sx_F (ce go : Nat → Int32) (t : Nat) (r c : Nat) : Int64 := if c = 4 then (go r).toInt64 else (ce (16 * t + 4 * r + c)).toInt64
section
variable {rc cc : Int32} {ce tg go : Nat → Int32} {mi : Nat → Int64}
theorem sx_71 {post : Int64 → Prop} {J : Int64 → Int64 → Int32 → Prop} {x1 x4 z : Int32} {c r i : Nat} {s1 s2 : Int64} (hr : r < 16) (hx : c ^^^ 2 ^ i < 32) (hJ : J (s1 + s2 * z.toInt64 * mi (32 * r + (c ^^^ 2 ^ i))) (-s2) (nI (i + 1))) : wX_expandedMinor_71 post J x1 (nI c) x4 (nI r) s1 s2 (nI i) (nI (2 ^ i)) z rc cc ce tg go mi := by
  have e : nI r * 32 + (nI c ^^^ nI (2 ^ i)) = nI (32 * r + (c ^^^ 2 ^ i)) := by
    rw [nx_xor]
    show nI r * nI 32 + _ = _
    rw [pk_mul, nI_add]
    exact congrArg nI (by omega)
  unfold wX_expandedMinor_71
  rw [e]
  refine ⟨vp_in_nI (by omega) (by omega), nm_e (nm_e (nm_r (nI_1 i) ?_))⟩
  rw [nI_clamp (by omega)]
  exact hJ
theorem sx_exp {post : Int64 → Prop} {t r c : Nat} (ht : t < 2) (hr : r < 16) (h0 : 0 < r) (hc : c < 32) (h : post (sf_xs (sx_F ce go t (sf_lo r)) (fun c' => mi (32 * (r ^^^ 2 ^ sf_lo r) + c')) c 5).1) : wpX_expandedMinor post (rc, cc, ce, tg, go, mi) (nI t) (nI r) (nI c) := by
  unfold wpX_expandedMinor
  dsimp only
  refine sx_least hr ?_
  have hl := sf_lo4 r
  have hr' : r ^^^ 2 ^ sf_lo r < r := (sf_T1 r hr h0).1
  generalize sf_lo r = l at *
  refine nm_r (e' := nI (r ^^^ 2 ^ l)) (by rw [sf_1shl l (by omega), nx_xor]) ?_
  generalize r ^^^ 2 ^ l = r' at *
  refine pk_loop (σ := Int64 × Int64) (fun n i s => wX_expandedMinor_23 post (nI t) (nI c) (nI l) (nI r') rc cc ce tg go mi n s.1 s.2 (nI i)) (fun i s => s = sf_xs (sx_F ce go t l) (fun c' => mi (32 * r' + c')) c i) 5 0 (0, 1) (by omega) rfl ?_ ?_
  · intro n s hs
    subst hs
    exact br_t (by decide) h
  · intro n i s hi hs hk
    refine br_f (nI_nlt (a := 4) (b := i) (by omega) (by decide)) (nm_r (sf_1shl i (by omega)) ?_)
    by_cases hb : c / 2 ^ i % 2 = 1
    · refine br_f (fun z => (sf_andb c hc i hi).mp z hb) ?_
      have hx := (sf_T2 c hc i hi hb).1
      by_cases h4 : i = 4
      · subst h4
        refine br_t (by decide) ⟨vp_in_nI hl (by omega), sx_71 (by omega) hx ?_⟩
        refine hk (s.1 + s.2 * _ * _, -s.2) ?_
        rw [sf_xs_t hb, ← hs, nI_clamp (by omega)]
        rfl
      · refine br_f (fun z => h4 ((nI_eq (by omega) (by decide)).mp z)) ?_
        show vp_in (nI t * 16 + nI l * 4 + nI i) 32 ∧ _
        rw [sf_cell]
        refine ⟨vp_in_nI (by omega) (by omega), sx_71 (by omega) hx ?_⟩
        refine hk (s.1 + s.2 * _ * _, -s.2) ?_
        rw [sf_xs_t hb, ← hs, nI_clamp (by omega)]
        show _ = (s.1 + s.2 * sx_F ce go t l i * mi (32 * r' + (c ^^^ 2 ^ i)), -s.2)
        unfold sx_F
        rw [if_neg h4]
    · refine br_t ((sf_andb c hc i hi).mpr hb) (nm_r (nI_1 i) (hk s ?_))
      rw [sf_xs_f hb]; exact hs
def sx_Z (M : Nat → Int64) : Prop := ∀ r, r < 16 → ∀ c, c < 32 → ¬ sf_sz r = sf_sz c → M (32 * r + c) = 0
def sx_R (F : Nat → Nat → Int64) (M : Nat → Int64) (r C : Nat) : Prop := ∀ c, c < C → sf_sz r = sf_sz c → M (32 * r + c) = sf_pm F (sf_sz r) r c
theorem sx_find {post : SX → Prop} {t : Nat} (ht : t < 2) (hZ : sx_Z mi) (h : ∀ M, sx_Z M → (∀ r, r < 16 → sx_R (sx_F ce go t) M r 32) → post (rc, cc, ce, tg, go, M)) : wpX_findMinors post (rc, cc, ce, tg, go, mi) (nI t) := by
  unfold wpX_findMinors
  dsimp only
  refine nm_e ?_
  refine pk_loop (σ := Nat → Int64) (fun n i M => wX_findMinors_9 post (nI t) rc cc n (nI i) ce tg go M) (fun i M => sx_Z M ∧ (∀ r, r < i → sx_R (sx_F ce go t) M r 32) ∧ 0 < i) 16 1 _ (by omega) ⟨?_, ?_, by decide⟩ ?_ ?_
  · intro r hr c hc hs
    rw [pk_uLn ?_]
    · exact hZ r hr c hc hs
    · intro z
      have z1 : r = 0 := by omega
      have z2 : c = 0 := by omega
      subst z1 z2
      exact hs rfl
  · intro r hr c hc hs
    have z1 : r = 0 := by omega
    subst z1
    have z2 : c = 0 := sf_sz0 c hc hs.symm
    subst z2
    exact pk_uLs
  · intro n M hM
    exact br_t (by decide) (h M hM.1 hM.2.1)
  · intro n i M hi hM hk
    have hi0 := hM.2.2
    · refine br_f (nI_ge (b := 16) hi (by decide)) ?_
      refine pk_loop (σ := Nat → Int64) (fun n' j M => wX_findMinors_17 post (wX_findMinors_9 post (nI t) rc cc n) (nI t) (nI i) rc cc n' (nI j) ce tg go M) (fun j M => sx_Z M ∧ (∀ r, r < i → sx_R (sx_F ce go t) M r 32) ∧ sx_R (sx_F ce go t) M i j) 32 1 M (by omega) ⟨hM.1, hM.2.1, ?_⟩ ?_ ?_
      · intro c hc hs
        have z : c = 0 := by omega
        subst z
        have : i = 0 := sf_sz0 i (by omega) hs
        omega
      · intro n' M' hM'
        refine br_t (by decide) (nm_r (nI_1 i) (hk M' ⟨hM'.1, ?_, by omega⟩))
        intro r hr
        rcases Nat.lt_or_ge r i with z | z
        · exact hM'.2.1 r z
        · rw [show r = i from by omega]; exact hM'.2.2
      · intro n' j M' hj hM' hk'
        refine br_f (nI_ge (b := 32) hj (by decide)) (sx_size (by omega) (sx_size hj ?_))
        by_cases hs : sf_sz i = sf_sz j
        · refine br_t (by rw [hs]) (sx_exp ht (by omega) (by omega) hj ?_)
          have e : nI i * 32 + nI j = nI (32 * i + j) := by
            show nI i * nI 32 + _ = _
            rw [pk_mul, nI_add]; exact congrArg nI (by omega)
          rw [e]
          refine ⟨vp_in_nI (by omega) (by omega), nm_e (nm_r (nI_1 j) (hk' _ ?_))⟩
          rw [nI_clamp (by omega)]
          obtain ⟨t1, t2, _⟩ := sf_T1 i (by omega) (by omega)
          have hv : (sf_xs (sx_F ce go t (sf_lo i)) (fun c' => M' (32 * (i ^^^ 2 ^ sf_lo i) + c')) j 5).1 = sf_pm (sx_F ce go t) (sf_sz i) i j := by
            obtain ⟨k, hk2⟩ : ∃ k, sf_sz i = k + 1 := ⟨sf_sz i - 1, by omega⟩
            rw [hk2]
            show _ = (sf_xs (sx_F ce go t (sf_lo i)) (fun c' => sf_pm (sx_F ce go t) k (i ^^^ 2 ^ sf_lo i) c') j 5).1
            rw [sf_xs_congr 5 (fun b hb hbit => ⟨rfl, ?_⟩)]
            obtain ⟨t3, t4⟩ := sf_T2 j hj b hb hbit
            have e2 := hM'.2.1 _ t1 _ t3 (by omega)
            rw [show sf_sz (i ^^^ 2 ^ sf_lo i) = k from by omega] at e2
            exact e2
          rw [hv]
          refine ⟨?_, ?_, ?_⟩
          · intro r hr c hc hn
            rw [pk_uLn ?_]
            · exact hM'.1 r hr c hc hn
            · intro z
              have z1 : r = i := by omega
              have z2 : c = j := by omega
              subst z1 z2
              exact hn hs
          · intro r hr c hc he
            rw [pk_uLn (by omega)]
            exact hM'.2.1 r hr c hc he
          · intro c hc he
            rcases Nat.lt_or_ge c j with z | z
            · rw [pk_uLn (by omega)]; exact hM'.2.2 c z he
            · rw [show c = j from by omega]; exact pk_uLs
        · refine br_f ?_ (nm_r (nI_1 j) (hk' M' ⟨hM'.1, hM'.2.1, ?_⟩))
          · intro z
            have a1 := sf_sz4 i (by omega)
            have a2 : sf_sz j ≤ 5 := (by decide +kernel : ∀ c, c < 32 → sf_sz c ≤ 5) j hj
            exact hs ((nI_eq (by omega) (by omega)).mp z)
          · intro c hc he
            rcases Nat.lt_or_ge c j with z | z
            · exact hM'.2.2 c z he
            · rw [show c = j from by omega] at he; exact absurd he hs
end
