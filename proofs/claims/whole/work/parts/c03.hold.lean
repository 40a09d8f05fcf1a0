/-! the component's holds, where it answers, at depth -/
abbrev ct_chold (C : jm_C) : Prop := ∀ (x : Int32) (A : ast) (σ : jm_G) (post : Option jm_V → jm_G → Prop), bRA A σ → hoT A.1 A.2.2.1 x = false → (∀ σ', bRA A σ' → off 0 37 σ σ' → post (some (jJ (lN (hoA A.1 A.2.2.1 A.2.2.2.1 x)))) σ') → C kX9_holds [jR 0 0, jI x] σ post
theorem D_chold (L : Nat) : ∀ d, 13 ≤ d → ct_chold (jm_does L d) := jm_lift (h := 12) (P := fun C => ct_chold C) fun d hd x A σ post hb hT hp => C_holds L (jm_does_mon L d) (D_isSort_isGate_isG L d (by omega)) (D_bitsOf L d (by omega)) x A σ post hb.1 hb.2.1 hT fun σ' r o => hp σ' ⟨hb.1, r, mRA_off hb.2.2 o⟩ o
/-- the long that is written down -/
theorem bRA_out {A : ast} {σ : jm_G} (h : bRA A σ) (f : Nat → Int64) : bRA A (wJ σ 71 0 f) := by
  have ho : off 71 71 σ (wJ σ 71 0 f) := off_wJ (off_refl _ _ _) (by omega) (by omega)
  have hm : mf [71] [] σ (wJ σ 71 0 f) := mf_wJ (mf_refl _ _ _) (by decide) (by decide)
  exact ⟨h.1, cRA_off h.2.1 (off_wide ho (by omega) (by omega)), mR_mf h.2.2 hm (by decide) (by decide)⟩
