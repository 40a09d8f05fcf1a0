/-! the least methods of both sides: bits -/
abbrev ct_mhas (C : jm_C) : Prop := ∀ (S n : Nat) (σ : jm_G) (post : Option jm_V → jm_G → Prop), S < 2 ^ 63 → n < 64 → post (some (jI (bI (S.testBit n)))) σ → C kX10_has [jJ (lN S), jI (nI n)] σ post
theorem T_mhas (L : Nat) {C : jm_C} (hC : jm_mon C) : ct_mhas (jm_up L C) := by
  intro S n σ post hS hn hp
  refine jm_start rfl (Nat.le_of_ble_eq_true rfl) hC fun X hg hw => ?_
  refine hg [] 7 _ ?_
  show X (σ, 7, [some (jJ (lN S)), none, some (jI (nI n))], [jI (lg_cmp ((lN S >>> ((nI n).toInt64 &&& 63)) &&& lN 1) (lN 1))])
  rw [lN_shr hS hn, lN_and1, bit_div]
  refine hg [] 10 _ ?_
  refine br_c (fun h => ?_) (fun h => ?_)
  · have h := (cmp_0 _ _).mp h
    cases hb : S.testBit n with
    | true => rw [hb] at hp; exact ⟨Or.inr rfl, hp⟩
    | false => rw [hb] at h; exact absurd h (by decide)
  · have h := fun q => h ((cmp_0 _ _).mpr q)
    cases hb : S.testBit n with
    | true => rw [hb] at h; exact absurd rfl h
    | false => rw [hb] at hp; exact ⟨Or.inl rfl, hp⟩
/-- how many places below 40 are in a set -/
def cnt (S n : Nat) : Nat := fb_ct (fun i => S.testBit i) n
theorem cnt_succ (S n : Nat) : cnt S (n + 1) = cnt S n + (S.testBit n).toNat := by
  unfold cnt; rw [fb_ct_succ]; cases S.testBit n <;> rfl
theorem cnt_le (S n : Nat) : cnt S n ≤ n := fb_ct_le _ _
abbrev ct_mmany (C : jm_C) : Prop := ∀ (S : Nat) (σ : jm_G) (post : Option jm_V → jm_G → Prop), S < 2 ^ 63 → post (some (jI (nI (cnt S 40)))) σ → C kX10_manyOf [jJ (lN S)] σ post
theorem T_mmany (L : Nat) {C : jm_C} (hC : jm_mon C) (h1 : ct_mhas C) : ct_mmany (jm_up L C) := by
  intro S σ post hS hp
  refine jm_start rfl (Nat.le_of_ble_eq_true rfl) hC fun X hg hw => ?_
  refine hg [4] 10 _ ?_
  refine jm_for (X := X) (fun k => (σ, 4, [some (jJ (lN S)), none, some (jI (nI (cnt S k))), some (jI (nI k))], [])) 40 ?_ ?_ 0 (by omega)
  · refine hg [4] 20 _ ?_
    refine br_c (fun h => ?_) (fun h => ?_)
    · exact ⟨trivial, hp⟩
    · exact absurd (nI_le (Nat.le_refl 40) (by omega)) h
  · intro k hk ih
    refine hg [4] 20 _ ?_
    refine br_c (fun h => ?_) (fun h => ?_)
    · have h : nI 40 ≤ nI k := h
      exact absurd h (nI_ge hk (by omega))
    · refine h1 S k σ _ hS (by omega) ?_
      refine br_c (fun h2 => ?_) (fun h2 => ?_)
      · have h2 := bI_0.mp h2
        refine jm_eqv (X := X) ih rfl rfl ?_ rfl
        simp [jm_put1, jm_set, jm_kill, jm_int, nI_add, cnt_succ, h2]
      · have h2 := bI_n0.mp h2
        refine jm_eqv (X := X) ih rfl rfl ?_ rfl
        simp [jm_put1, jm_set, jm_kill, jm_int, nI_add, cnt_succ, h2]
