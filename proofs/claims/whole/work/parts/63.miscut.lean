/-! whether some nodes cut a gate off, by its cone -/
theorem cdn_mono (N : nw) (S : Nat) : ∀ (k R i : Nat), R.testBit i = true → (cdn N S k R).testBit i = true
  | 0, _, _, h => h
  | k + 1, R, i, h => by
    rw [cdn]
    apply cdn_mono N S k
    split
    · rw [Nat.testBit_or, h]; rfl
    · exact h
theorem cdn_hi {N : nw} (hok : nw_ok N) (S : Nat) : ∀ (k R i : Nat), k ≤ i → (cdn N S k R).testBit i = R.testBit i
  | 0, _, _, _ => rfl
  | k + 1, R, i, h => by
    rw [cdn, cdn_hi hok S k _ i (by omega)]
    split
    · rw [Nat.testBit_or, Nat.testBit_and, sD_bit]
      cases hb : (sM N k).testBit i with
      | false => simp
      | true => have := sM_lt hok hb; omega
    · rfl
theorem cdn_closed {N : nw} (hok : nw_ok N) (S : Nat) : ∀ (k R i j : Nat), i < k → (cdn N S k R).testBit i = true → (sM N i).testBit j = true → S.testBit j = false → isG N j = true → (cdn N S k R).testBit j = true
  | 0, _, _, _, h, _, _, _, _ => absurd h (by omega)
  | k + 1, R, i, j, h, hi, hs, hc, hg => by
    rw [cdn] at hi ⊢
    by_cases e : i = k
    · subst e
      rw [cdn_hi hok S i _ i (Nat.le_refl _)] at hi
      have hR : R.testBit i = true := by
        split at hi
        · assumption
        · exact hi
      rw [if_pos hR]
      apply cdn_mono
      rw [Nat.testBit_or, Nat.testBit_and, sD_bit, hs, hc, gM_bit, hg]
      simp
    · exact cdn_closed hok S k _ i j (by omega) hi hs hc hg
theorem cne_le {N : nw} (hok : nw_ok N) (g S : Nat) : ∀ i, (cne N g S).testBit i = true → i ≤ g := by
  intro i hi
  rcases Nat.lt_or_ge g i with q | q
  · unfold cne at hi
    rw [cdn_hi hok S (g + 1) _ i (by omega), Nat.testBit_two_pow, decide_eq_true_eq] at hi
    omega
  · exact q
theorem cne_sepi {N : nw} (hok : nw_ok N) {g S : Nat} (hg : isG N g = true) (hS : ∀ j, S.testBit j = true → (nB N g).testBit j = true) : (∀ i j, (cne N g S).testBit i = true → (sM N i).testBit j = true → isG N j = false → S.testBit j = true) ↔ Sep N g S := by
  have hcg : ∀ i, (cne N g S).testBit i = true → isG N i = true := cdn_gate _ _ fun i hi => by
    rw [Nat.testBit_two_pow, decide_eq_true_eq] at hi
    rw [← hi]; exact hg
  constructor
  · intro h
    refine ⟨hS, fun i hi => hcg i ?_⟩
    refine rch_min (N := N) (g := g) (S := S) (fun i => (cne N g S).testBit i = true) (cdn_mono N S _ _ _ (by rw [Nat.testBit_two_pow]; simp)) (fun i j hi hs hc => ?_) i hi
    have hgj : isG N j = true := by
      cases q : isG N j with
      | true => rfl
      | false => have := h i j hi hs q; rw [hc] at this; cases this
    exact cdn_closed hok S (g + 1) _ i j (by have := cne_le hok g S i hi; omega) hi hs hc hgj
  · intro h i j hi hs hg9
    rw [cne_sep h] at hi
    cases hc : S.testBit j with
    | true => rfl
    | false => have := h.2 j (rch_closed hok hi hs hc); rw [hg9] at this; cases this
