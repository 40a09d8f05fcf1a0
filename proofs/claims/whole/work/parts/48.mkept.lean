/-! the model's kept cuts: greatestIn, isAhead, makes, setOf -/
theorem mxL_end {l : Nat → Nat} {S n : Nat} (hS : ∀ j, S.testBit j = true → j < n) : ∀ d, mxL l S (n + d) = mxL l S n
  | 0 => rfl
  | d + 1 => by
    rw [← Nat.add_assoc, mxL, if_neg, mxL_end hS d]
    intro q
    have := hS _ q
    omega
abbrev ct_grIn (C : jm_C) : Prop := ∀ (N : nw) (S : Nat) (l : Nat → Nat) (σ : jm_G) (post : Option jm_V → jm_G → Prop), nw_ok N → mN N σ → S < 2 ^ 40 → (∀ j, S.testBit j = true → j < nN N ∧ σ.1 44 0 j = nI (l j) ∧ l j < 100) → post (some (jI (nI (mxL l S 40)))) σ → C kX10_greatestIn [jR 38 0, jJ (lN S)] σ post
theorem T_grIn (L : Nat) {C : jm_C} (hC : jm_mon C) (h1 : ct_mhas C) : ct_grIn (jm_up L C) := by
  intro N S l σ post hok hN hS hl hp
  refine jm_start rfl (Nat.le_of_ble_eq_true rfl) hC fun X hg hw => ?_
  have h40 := hok.1
  refine hg [5] 20 _ ?_
  show X (σ, 5, [some (jR 38 0), some (jJ (lN S)), none, some (jI (nI 0)), some (jI (nI 0))], [])
  have hb9 : ∀ n, mxL l S n < 100 := fun n => Nat.lt_of_le_of_lt (mxL_le (m := 99) (fun j hj => by have := (hl j hj).2.2; omega) n) (by omega)
  have main := jm_for (X := X) (fun k => (σ, 5, [some (jR 38 0), some (jJ (lN S)), none, some (jI (nI (mxL l S k))), some (jI (nI k))], [])) (nN N) ?_ ?_ 0 (by omega)
  · exact main
  · refine hg [5] 30 _ ?_
    refine br_c (fun _ => ?_) (fun h => ?_)
    · refine And.intro trivial ?_
      have e := mxL_end (l := l) (n := nN N) (fun j hj => (hl j hj).1) (40 - nN N)
      rw [show nN N + (40 - nN N) = 40 by omega] at e
      rw [e] at hp
      exact hp
    · have h : ¬ σ.1 38 0 1 ≤ nI (nN N) := h
      rw [hN.1, nI_leI (by omega) (by omega)] at h
      omega
  · intro k hk ih
    have h9 := hb9 k
    refine hg [5] 40 _ ?_
    refine br_c (fun h => ?_) (fun _ => ?_)
    · have h : σ.1 38 0 1 ≤ nI k := h
      rw [hN.1, nI_leI (by omega) (by omega)] at h
      omega
    · refine h1 S k σ _ (p40 hS) (by omega) ?_
      refine br_c (fun h => ?_) (fun h => ?_)
      · have h := bI_0.mp h
        refine jm_eqv (X := X) ih rfl rfl ?_ rfl
        show [some (jR 38 0), some (jJ (lN S)), none, some (jI (nI (mxL l S k))), some (jI (nI k + nI 1))] = _
        rw [nI_add, mxL, h]
        simp
      · have h := bI_n0.mp h
        obtain ⟨e0, e1, e2⟩ := hl k h
        have ek : (nI k).toNatClampNeg = k := nI_clamp (by omega)
        refine And.intro (vp_in_nI (by omega) (by omega)) ?_
        refine br_c (fun h2 => ?_) (fun h2 => ?_)
        · have h2 : σ.1 44 0 (nI k).toNatClampNeg ≤ nI (mxL l S k) := h2
          rw [ek, e1, nI_leI (by omega) (by omega)] at h2
          refine jm_eqv (X := X) ih rfl rfl ?_ rfl
          show [some (jR 38 0), some (jJ (lN S)), none, some (jI (nI (mxL l S k))), some (jI (nI k + nI 1))] = _
          rw [nI_add, mxL, if_pos h, Nat.max_eq_left h2]
        · have h2 : ¬ σ.1 44 0 (nI k).toNatClampNeg ≤ nI (mxL l S k) := h2
          rw [ek, e1, nI_leI (by omega) (by omega)] at h2
          refine And.intro (vp_in_nI (by omega) (by omega)) ?_
          refine jm_eqv (X := X) ih rfl rfl ?_ rfl
          show [some (jR 38 0), some (jJ (lN S)), none, some (jI (σ.1 44 0 (nI k).toNatClampNeg)), some (jI (nI k + nI 1))] = _
          rw [nI_add, ek, e1, mxL, if_pos h, Nat.max_eq_right (by omega)]
noncomputable def ahB (l : Nat → Nat) (a b : Nat) : Bool := @decide (plc l a < plc l b) (Nat.decLt _ _)
abbrev ct_ahead (C : jm_C) : Prop := ∀ (N : nw) (x y : Nat) (l : Nat → Nat) (σ : jm_G) (post : Option jm_V → jm_G → Prop), nw_ok N → mN N σ → x < 2 ^ 40 → y < 2 ^ 40 → cnt x 40 ≤ 6 → cnt y 40 ≤ 6 → (∀ j, x.testBit j = true ∨ y.testBit j = true → j < nN N ∧ σ.1 44 0 j = nI (l j) ∧ l j < 100) → post (some (jI (bI (decide (plc l x < plc l y))))) σ → C kX10_isAhead [jR 38 0, jJ (lN x), jJ (lN y)] σ post
theorem xor_low {x y j : Nat} (h1 : x.testBit j ≠ y.testBit j) (h2 : ∀ i, i < j → x.testBit i = y.testBit i) : (x ^^^ y).testBit j = true ∧ ∀ i, i < j → (x ^^^ y).testBit i = false := by
  refine ⟨?_, fun i hi => ?_⟩
  · rw [Nat.testBit_xor]
    revert h1
    cases x.testBit j <;> cases y.testBit j <;> simp
  · rw [Nat.testBit_xor, h2 i hi]
    cases y.testBit i <;> rfl
