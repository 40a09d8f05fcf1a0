/-! the component's isCut -/
def icA (N : nw) (K : Nat) (x : Int32) (S : Nat) : Bool := atN (nN N) x (isG N) && decide (cnt S 64 ≤ K) && seps N x.toNatClampNeg S
abbrev ct_cisCut (C : jm_C) : Prop := ∀ (N : nw) (K S : Nat) (x : Int32) (σ : jm_G) (post : Option jm_V → jm_G → Prop), nw_ok N → cN N σ → K ≤ 6 → σ.1 0 0 7 = nI K → S < 2 ^ 64 → post (some (jI (bI (icA N K x S)))) σ → C kX9_isCut [jR 0 0, jI x, jJ (lN S)] σ post
theorem T_cisCut (L : Nat) {C : jm_C} (hC : jm_mon C) (h1 : ct_isSort kX5_isGate isG C) (h2 : ct_bc C) (h3 : ct_seps C) : ct_cisCut (jm_up L C) := by
  intro N K S x σ post hok hN hK6 h7 hS hp
  refine jm_start rfl (Nat.le_of_ble_eq_true rfl) hC fun X hg hw => ?_
  have h40 := hok.1
  have hc64 := cnt_le S 64
  refine hg [] 60 _ ?_
  unfold icA at hp
  refine h1 N x σ _ hok hN ?_
  refine br_c (fun h => ?_) (fun h => ?_)
  · have h := bI_0.mp h
    rw [h] at hp
    exact And.intro (Or.inl rfl) hp
  · have h := bI_n0.mp h
    rw [h] at hp
    obtain ⟨g, hgn, rfl, hgt⟩ := atN_t (by omega) h
    rw [nI_clamp (by omega)] at hp
    refine h2 S σ _ hS ?_
    refine br_c (fun h5 => ?_) (fun h5 => ?_)
    · have h5 : σ.1 0 0 7 < nI (cnt S 64) := h5
      rw [h7, nI_ltI (by omega) (by omega)] at h5
      rw [show decide (cnt S 64 ≤ K) = false by simp; omega] at hp
      exact And.intro (Or.inl rfl) hp
    · have h5 : ¬ σ.1 0 0 7 < nI (cnt S 64) := h5
      rw [h7, nI_ltI (by omega) (by omega)] at h5
      rw [show decide (cnt S 64 ≤ K) = true by simp; omega] at hp
      refine h3 N g S σ _ hok hN hgn hS ?_
      refine br_c (fun h6 => ?_) (fun h6 => ?_)
      · have h6 := bI_0.mp h6
        rw [h6] at hp
        exact And.intro (Or.inl rfl) hp
      · have h6 := bI_n0.mp h6
        rw [h6] at hp
        exact And.intro (Or.inr rfl) hp
