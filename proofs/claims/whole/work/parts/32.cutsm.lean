/-! the component's Cuts: greatestLevel, belowAtLevel -/
def mxL (l : Nat → Nat) (S : Nat) : Nat → Nat
  | 0 => 0
  | n + 1 => if S.testBit n then max (mxL l S n) (l n) else mxL l S n
theorem mxL_le {l : Nat → Nat} {S m : Nat} (h : ∀ j, S.testBit j = true → l j ≤ m) : ∀ n, mxL l S n ≤ m
  | 0 => Nat.zero_le _
  | n + 1 => by
    rw [mxL]
    split
    · rename_i q
      exact Nat.max_le.mpr ⟨mxL_le h n, h n q⟩
    · exact mxL_le h n
theorem mxL_ge {l : Nat → Nat} {S j : Nat} (h : S.testBit j = true) : ∀ n, j < n → l j ≤ mxL l S n
  | 0, hj => absurd hj (by omega)
  | n + 1, hj => by
    rw [mxL]
    by_cases e : j = n
    · subst e; rw [if_pos h]; exact Nat.le_max_right _ _
    · have := mxL_ge (l := l) h n (by omega)
      split
      · exact Nat.le_trans this (Nat.le_max_left _ _)
      · exact this
theorem mxL_at {l : Nat → Nat} {S : Nat} : ∀ n, mxL l S n = 0 ∨ ∃ j, j < n ∧ S.testBit j = true ∧ l j = mxL l S n
  | 0 => Or.inl rfl
  | n + 1 => by
    rw [mxL]
    have ih := mxL_at (l := l) (S := S) n
    split
    · rename_i q
      by_cases h : mxL l S n ≤ l n
      · rw [Nat.max_eq_right h]; exact Or.inr ⟨n, by omega, q, rfl⟩
      · rw [Nat.max_eq_left (by omega)]
        rcases ih with h1 | ⟨j, h1, h2⟩
        · exact Or.inl h1
        · exact Or.inr ⟨j, by omega, h2⟩
    · rcases ih with h1 | ⟨j, h1, h2⟩
      · exact Or.inl h1
      · exact Or.inr ⟨j, by omega, h2⟩
theorem maxI {a b : Nat} (ha : a < 2 ^ 31) (hb : b < 2 ^ 31) : (if nI a < nI b then nI b else nI a) = nI (max a b) := by
  by_cases h : a < b
  · rw [if_pos ((nI_ltI ha hb).mpr h), Nat.max_eq_right (by omega)]
  · rw [if_neg (fun q => h ((nI_ltI ha hb).mp q)), Nat.max_eq_left (by omega)]
abbrev ct_greatest (C : jm_C) : Prop := ∀ (i S : Nat) (l : Nat → Nat) (σ : jm_G) (post : Option jm_V → jm_G → Prop), S < 2 ^ 40 → (∀ j, S.testBit j = true → σ.1 18 i j = nI (l j) ∧ l j < 100) → post (some (jI (nI (mxL l S 40)))) σ → C kX4_greatestLevel [jR 17 i, jJ (lN S)] σ post
theorem T_greatest (L : Nat) {C : jm_C} (hC : jm_mon C) (h1 : ct_low C) : ct_greatest (jm_up L C) := by
  intro i S l σ post hS hl hp
  refine jm_start rfl (Nat.le_of_ble_eq_true rfl) hC fun X hg hw => ?_
  refine hg [5] 20 _ ?_
  show X (σ, 5, [some (jR 17 i), some (jJ (lN S)), none, some (jI (nI 0)), some (jJ (lN S)), none], [])
  have hb9 : ∀ n, mxL l S n < 100 := fun n => Nat.lt_of_le_of_lt (mxL_le (m := 99) (fun j hj => by have := (hl j hj).2; omega) n) (by omega)
  have main := jm_bits (X := X) S (fun k => (σ, 5, [some (jR 17 i), some (jJ (lN S)), none, some (jI (nI (mxL l S k))), some (jJ (lN (hi S k))), none], [])) 40 ?_ ?_ ?_ 0 (by omega)
  · have main : X (σ, 5, [some (jR 17 i), some (jJ (lN S)), none, some (jI (nI 0)), some (jJ (lN (hi S 0))), none], []) := main
    rw [hi_0] at main
    exact main
  · show X (σ, 5, [some (jR 17 i), some (jJ (lN S)), none, some (jI (nI (mxL l S 40))), some (jJ (lN (hi S 40))), none], [])
    rw [hi_end hS]
    refine hg [] 30 _ ?_
    refine br_c (fun h => ?_) (fun h => ?_)
    · exact And.intro trivial hp
    · exact absurd ((cmp_0 _ _).mpr rfl) h
  · intro k hk hb
    have e : mxL l S (k + 1) = mxL l S k := by rw [mxL, hb]; simp
    simp only [e, hi_skip hb]
  · intro k hk hb ih
    refine hg [5] 30 _ ?_
    refine br_c (fun h => ?_) (fun h => ?_)
    · exact absurd h (hi_n0 hS hb)
    · refine h1 S k σ _ (p40 hS) hb ?_
      refine And.intro (vp_in_nI (by omega) (by omega)) ?_
      refine jm_eqv (X := X) ih rfl rfl ?_ rfl
      show [some (jR 17 i), some (jJ (lN S)), none, some (jI (if nI (mxL l S k) < σ.1 18 i (nI k).toNatClampNeg then σ.1 18 i (nI k).toNatClampNeg else nI (mxL l S k))), some (jJ (lN (hi S k) &&& (lN (hi S k) - lN 1))), none] = _
      have h9 := hb9 k
      have := (hl k hb).2
      rw [nxt hb, nI_clamp (by omega), (hl k hb).1, maxI (by omega) (by omega), mxL, if_pos hb]
abbrev ct_belowAt (C : jm_C) : Prop := ∀ (N : nw) (i g m : Nat) (l : Nat → Nat) (σ : jm_G) (post : Option jm_V → jm_G → Prop), nw_ok N → cN N σ → g < nN N → m < 100 → (∀ j, (nB N g).testBit j = true → σ.1 18 i j = nI (l j) ∧ l j < 100) → post (some (jJ (lN (mk (fun j => (nB N g).testBit j && decide (l j = m)) 40)))) σ → C kX4_belowAtLevel [jR 17 i, jI (nI g), jI (nI m)] σ post
theorem T_belowAt (L : Nat) {C : jm_C} (hC : jm_mon C) (h1 : ct_low C) (h2 : ct_bit C) : ct_belowAt (jm_up L C) := by
  intro N i g m l σ post hok hN hgn hm hl hp
  refine jm_start rfl (Nat.le_of_ble_eq_true rfl) hC fun X hg hw => ?_
  have hn := hok.1
  have hS := nB_lt40 hok g
  refine hg [13] 30 _ ?_
  refine And.intro (in40 hok hgn) ?_
  show X (σ, 13, [some (jR 17 i), some (jI (nI g)), some (jI (nI m)), some (jJ (lN 0)), none, some (jJ (σ.2 7 0 (nI g).toNatClampNeg)), none, none], [])
  rw [cl40 hok hgn, hN.2.2.2.2.2.2.2.2.1 g (by omega)]
  have main := jm_bits (X := X) (nB N g) (fun k => (σ, 13, [some (jR 17 i), some (jI (nI g)), some (jI (nI m)), some (jJ (lN (mk (fun j => (nB N g).testBit j && decide (l j = m)) k))), none, some (jJ (lN (hi (nB N g) k))), none, none], [])) 40 ?_ ?_ ?_ 0 (by omega)
  · have main : X (σ, 13, [some (jR 17 i), some (jI (nI g)), some (jI (nI m)), some (jJ (lN 0)), none, some (jJ (lN (hi (nB N g) 0))), none, none], []) := main
    rw [hi_0] at main
    exact main
  · show X (σ, 13, [some (jR 17 i), some (jI (nI g)), some (jI (nI m)), some (jJ (lN (mk (fun j => (nB N g).testBit j && decide (l j = m)) 40))), none, some (jJ (lN (hi (nB N g) 40))), none, none], [])
    rw [hi_end hS]
    refine hg [] 30 _ ?_
    refine br_c (fun h => ?_) (fun h => ?_)
    · exact And.intro trivial hp
    · exact absurd ((cmp_0 _ _).mpr rfl) h
  · intro k hk hb
    have e : mk (fun j => (nB N g).testBit j && decide (l j = m)) (k + 1) = mk (fun j => (nB N g).testBit j && decide (l j = m)) k := by rw [mk]; simp [hb]
    simp only [e, hi_skip hb]
  · intro k hk hb ih
    refine hg [13] 40 _ ?_
    refine br_c (fun h => ?_) (fun h => ?_)
    · exact absurd h (hi_n0 hS hb)
    · refine h1 (nB N g) k σ _ (p40 hS) hb ?_
      refine And.intro (vp_in_nI (by omega) (by omega)) ?_
      obtain ⟨e1, e2⟩ := hl k hb
      refine br_c (fun h3 => ?_) (fun h3 => ?_)
      · have h3 : σ.1 18 i (nI k).toNatClampNeg = nI m := h3
        rw [nI_clamp (by omega), e1, nI_eq (by omega) (by omega)] at h3
        refine h2 k σ _ (by omega) ?_
        refine hw _ _ _ [some (jR 17 i), some (jI (nI g)), some (jI (nI m)), some (jJ (lN (mk (fun j => (nB N g).testBit j && decide (l j = m)) k) ||| lN (2 ^ k))), none, some (jJ (lN (hi (nB N g) k) &&& (lN (hi (nB N g) k) - lN 1))), none, none] _ (by repeat' first | exact trivial | exact rfl | apply And.intro) ?_
        refine jm_eqv (X := X) ih rfl rfl ?_ rfl
        rw [nxt hb, fb_orL, mk]
        simp [hb, h3]
      · have h3 : ¬ σ.1 18 i (nI k).toNatClampNeg = nI m := h3
        rw [nI_clamp (by omega), e1, nI_eq (by omega) (by omega)] at h3
        refine hw _ _ _ [some (jR 17 i), some (jI (nI g)), some (jI (nI m)), some (jJ (lN (mk (fun j => (nB N g).testBit j && decide (l j = m)) k))), none, some (jJ (lN (hi (nB N g) k) &&& (lN (hi (nB N g) k) - lN 1))), none, none] _ (by repeat' first | exact trivial | exact rfl | apply And.intro) ?_
        refine jm_eqv (X := X) ih rfl rfl ?_ rfl
        rw [nxt hb, mk]
        simp [hb, h3]
