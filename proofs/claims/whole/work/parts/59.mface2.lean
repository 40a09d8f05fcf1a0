/-! the model's answers about cuts: kept, cone -/
/-- what kept(x, c) tells -/
noncomputable def kpA (N : nw) (K : Nat) (x c : Int32) : Nat := if atN (nN N) x (isG N) then (if c < 0 then 0 else kpI N K x.toNatClampNeg c.toNatClampNeg) else 0
abbrev ct_mkept (C : jm_C) : Prop := ∀ (N : nw) (K : Nat) (x c : Int32) (σ : jm_G) (post : Option jm_V → jm_G → Prop), nw_ok N → mN N σ → 3 ≤ K → K ≤ 6 → σ.1 38 0 7 = nI K → mLd N K σ → (∀ σ', mf lyA (0 :: lyB) σ σ' → σ'.1 38 0 0 = nI 0 → mL N K (nN N) σ' → σ'.1 38 0 9 = bI true → post (some (jJ (lN (kpA N K x c)))) σ') → C kX10_kept [jR 38 0, jI x, jI c] σ post
theorem T_mkept (L : Nat) {C : jm_C} (hC : jm_mon C) (h1 : ct_lays C) (h2 : ct_misGate C) : ct_mkept (jm_up L C) := by
  intro N K x c σ post hok hN hK hK6 h7 hLd hp
  refine jm_start rfl (Nat.le_of_ble_eq_true rfl) hC fun X hg hw => ?_
  have h40 := hok.1
  refine hg [] 60 _ ?_
  obtain ⟨b, b1, b2⟩ := mLd_th hLd (k := 0) (by omega) (nI 0)
  refine h1 N K b (sF σ 0 (nI 0)) _ hok (mN_sF hN (by omega) _) hK hK6 (by rw [sF_1, if_neg (by omega)]; exact h7) b1 b2 fun τ o1 o2 o3 => ?_
  have hf : mf lyA (0 :: lyB) σ τ := mf_trans (mf_sF (mf_refl _ _ _) (by decide)) (mf_wide o1 (by decide) (by decide))
  have hNt : mN N τ := mN_mf hN hf (by decide) (by decide)
  have hp := hp τ hf (by rw [(o1.2 0 0 (by decide)).1, sF_1, if_pos rfl]) o2 o3
  unfold kpA at hp
  refine h2 N x τ _ hok hNt ?_
  refine br_c (fun h => ?_) (fun h => ?_)
  · have h := bI_0.mp h
    rw [h, if_neg (fun q => by cases q)] at hp
    exact And.intro trivial hp
  · have h := bI_n0.mp h
    rw [h, if_pos rfl] at hp
    obtain ⟨g, hgn, rfl, hgt⟩ := atN_t (by omega) h
    have eg : (nI g).toNatClampNeg = g := nI_clamp (by omega)
    rw [eg] at hp
    obtain ⟨k1, k2, k3⟩ := o2.2.1 g hgn
    refine br_c (fun h0 => ?_) (fun h0 => ?_)
    · have h0 : c < 0 := h0
      rw [if_pos h0] at hp
      exact And.intro trivial hp
    · have h0 : ¬ c < 0 := h0
      rw [if_neg h0] at hp
      obtain ⟨j, hj, rfl⟩ := nI_of h0
      rw [nI_clamp hj] at hp
      unfold kpI at hp
      refine And.intro (vp_in_nI (by omega) (by omega)) ?_
      refine br_c (fun h5 => ?_) (fun h5 => ?_)
      · have h5 : τ.1 51 0 (nI g).toNatClampNeg ≤ nI j := h5
        rw [eg, k2, nI_leI (by omega) (by omega)] at h5
        rw [if_neg (by omega)] at hp
        exact And.intro trivial hp
      · have h5 : ¬ τ.1 51 0 (nI g).toNatClampNeg ≤ nI j := h5
        rw [eg, k2, nI_leI (by omega) (by omega)] at h5
        rw [if_pos (by omega)] at hp
        have e8 : nI 8 * nI g + nI j = nI (8 * g + j) := by rw [pk_mul, nI_add]
        refine And.intro (show vp_in (nI 8 * nI g + nI j) 320 by rw [e8]; exact vp_in_nI (by omega) (by omega)) ?_
        refine And.intro trivial ?_
        show post (some (jJ (τ.2 50 0 (nI 8 * nI g + nI j).toNatClampNeg))) τ
        rw [e8, nI_clamp (by omega), k3 j (by omega)]
        exact hp
/-- what cone(x) tells -/
noncomputable def coA9 (N : nw) (K : Nat) (x : Int32) : Int32 := if atN (nN N) x (isG N) then nI (cnt (rch N x.toNatClampNeg (nea N K x.toNatClampNeg)) 40) else -(nI 1)
abbrev ct_mcone (C : jm_C) : Prop := ∀ (N : nw) (K : Nat) (x : Int32) (σ : jm_G) (post : Option jm_V → jm_G → Prop), nw_ok N → mN N σ → 3 ≤ K → K ≤ 6 → σ.1 38 0 7 = nI K → mLd N K σ → (∀ σ', mf lyA (0 :: lyB) σ σ' → σ'.1 38 0 0 = nI 0 → mL N K (nN N) σ' → σ'.1 38 0 9 = bI true → post (some (jI (coA9 N K x))) σ') → C kX10_cone [jR 38 0, jI x] σ post
theorem T_mcone (L : Nat) {C : jm_C} (hC : jm_mon C) (h1 : ct_lays C) (h2 : ct_misGate C) (h3 : ct_coneOf C) (h4 : ct_mmany C) : ct_mcone (jm_up L C) := by
  intro N K x σ post hok hN hK hK6 h7 hLd hp
  refine jm_start rfl (Nat.le_of_ble_eq_true rfl) hC fun X hg hw => ?_
  have h40 := hok.1
  refine hg [] 60 _ ?_
  obtain ⟨b, b1, b2⟩ := mLd_th hLd (k := 0) (by omega) (nI 0)
  refine h1 N K b (sF σ 0 (nI 0)) _ hok (mN_sF hN (by omega) _) hK hK6 (by rw [sF_1, if_neg (by omega)]; exact h7) b1 b2 fun τ o1 o2 o3 => ?_
  have hf : mf lyA (0 :: lyB) σ τ := mf_trans (mf_sF (mf_refl _ _ _) (by decide)) (mf_wide o1 (by decide) (by decide))
  have hNt : mN N τ := mN_mf hN hf (by decide) (by decide)
  have hp := hp τ hf (by rw [(o1.2 0 0 (by decide)).1, sF_1, if_pos rfl]) o2 o3
  unfold coA9 at hp
  refine h2 N x τ _ hok hNt ?_
  refine br_c (fun h => ?_) (fun h => ?_)
  · have h := bI_0.mp h
    rw [h, if_neg (fun q => by cases q)] at hp
    exact And.intro trivial hp
  · have h := bI_n0.mp h
    rw [h, if_pos rfl] at hp
    obtain ⟨g, hgn, rfl, hgt⟩ := atN_t (by omega) h
    have eg : (nI g).toNatClampNeg = g := nI_clamp (by omega)
    rw [eg] at hp
    have hnr := (o2.2.2 g hgn hgt).1
    have e45 : τ.2 45 0 (nI g).toNatClampNeg = lN (nea N K g) := by rw [eg]; exact (o2.1 g hgn).2
    refine And.intro (vp_in_nI (by omega) (by omega)) ?_
    have call : ∀ {post' : Option jm_V → jm_G → Prop}, (∀ v ω, post' v ω → post' v ω) → C kX10_coneOf [jR 38 0, jI (nI g), jJ (lN (nea N K g))] τ post' → C kX10_coneOf [jR 38 0, jI (nI g), jJ (τ.2 45 0 (nI g).toNatClampNeg)] τ post' := fun _ h => by rw [e45]; exact h
    refine call (fun _ _ h => h) ?_
    refine h3 N g (nea N K g) τ _ hok hNt hgt (Sep_lt hok hnr.1) ?_
    rw [cne_sep hnr.1]
    refine h4 _ τ _ (p40 (rch_lt hok g _ hgn)) ?_
    exact And.intro trivial hp
