/-! the component's answers about cuts: kept, cone, depth, near -/
def cAll (N : nw) (σ : jm_G) : Prop := ∀ i, i < 4 → ∃ n, n ≤ nN N ∧ cA N i (i + 3) n σ ∧ σ.1 17 i 8 = nI n
theorem cA_eq {N : nw} {i K n : Nat} {σ τ : jm_G} (h : cA N i K n σ) (e : ∀ t, 17 ≤ t → t ≤ 21 → τ.1 t i = σ.1 t i ∧ τ.2 t i = σ.2 t i) : cA N i K n τ := by
  have e17 := (e 17 (by omega) (by omega)).1
  have e18 := (e 18 (by omega) (by omega)).1
  have e19 := (e 19 (by omega) (by omega)).2
  have e20 := (e 20 (by omega) (by omega)).2
  have e21 := (e 21 (by omega) (by omega)).1
  unfold cA kR
  rw [e17, e18, e19, e20, e21]
  exact h
theorem cAll_offC {N : nw} {K : Nat} {σ τ : jm_G} (hK : 3 ≤ K) (h : cAll N σ) (ho : offC (K - 3) σ τ) (hA : cA N (K - 3) K (nN N) τ) (h8 : τ.1 17 (K - 3) 8 = nI (nN N)) : cAll N τ := by
  intro i hi
  by_cases e : i = K - 3
  · rw [e]
    refine ⟨nN N, Nat.le_refl _, ?_, h8⟩
    rw [show K - 3 + 3 = K by omega]
    exact hA
  · obtain ⟨n, q1, q2, q3⟩ := h i hi
    refine ⟨n, q1, cA_eq q2 fun t a b => ho.2 t a b i e, ?_⟩
    rw [(ho.2 17 (by omega) (by omega) i e).1]
    exact q3
/-- cutsOfK, from what holds of all four -/
theorem c_cutsOfK {C : jm_C} (h : ct_cutsOfK C) {N : nw} {K : Nat} {σ : jm_G} {post : Option jm_V → jm_G → Prop} (hok : nw_ok N) (hN : cN N σ) (hK : 3 ≤ K) (hK6 : K ≤ 6) (h7 : σ.1 0 0 7 = nI K) (hA : cAll N σ)
  (hp : ∀ σ', off 10 21 σ σ' → cAll N σ' → cA N (K - 3) K (nN N) σ' → post (some (jR 17 (K - 3))) σ') : C kX9_cutsOfK [jR 0 0] σ post := by
  obtain ⟨n, q1, q2, q3⟩ := hA (K - 3) (by omega)
  rw [show K - 3 + 3 = K by omega] at q2
  exact h N K n σ post hok hN hK hK6 h7 q2 q3 q1 fun τ o1 o2 o3 => hp τ o1.1 (cAll_offC hK hA o1 o2 o3) o2
abbrev ct_ckept (C : jm_C) : Prop := ∀ (N : nw) (K : Nat) (x c : Int32) (σ : jm_G) (post : Option jm_V → jm_G → Prop), nw_ok N → cN N σ → 3 ≤ K → K ≤ 6 → σ.1 0 0 7 = nI K → cAll N σ → (∀ σ', off 10 21 σ σ' → cAll N σ' → post (some (jJ (lN (kpA N K x c)))) σ') → C kX9_kept [jR 0 0, jI x, jI c] σ post
theorem T_ckept (L : Nat) {C : jm_C} (hC : jm_mon C) (h1 : ct_isSort kX5_isGate isG C) (h2 : ct_cutsOfK C) (h3 : ct_keptCut C) : ct_ckept (jm_up L C) := by
  intro N K x c σ post hok hN hK hK6 h7 hA hp
  refine jm_start rfl (Nat.le_of_ble_eq_true rfl) hC fun X hg hw => ?_
  have h40 := hok.1
  refine hg [] 60 _ ?_
  unfold kpA at hp
  refine h1 N x σ _ hok hN ?_
  refine br_c (fun h => ?_) (fun h => ?_)
  · have h := bI_0.mp h
    rw [h, if_neg (fun q => by cases q)] at hp
    exact And.intro trivial (hp σ (off_refl _ _ _) hA)
  · have h := bI_n0.mp h
    rw [h, if_pos rfl] at hp
    obtain ⟨g, hgn, rfl, hgt⟩ := atN_t (by omega) h
    rw [nI_clamp (by omega)] at hp
    refine br_c (fun h0 => ?_) (fun h0 => ?_)
    · have h0 : c < 0 := h0
      rw [if_pos h0] at hp
      exact And.intro trivial (hp σ (off_refl _ _ _) hA)
    · have h0 : ¬ c < 0 := h0
      rw [if_neg h0] at hp
      obtain ⟨j, hj, rfl⟩ := nI_of h0
      rw [nI_clamp hj] at hp
      refine br_c (fun h5 => ?_) (fun h5 => ?_)
      · have h5 : nI j < nI 8 := h5
        rw [nI_ltI (by omega) (by omega)] at h5
        refine c_cutsOfK h2 hok hN hK hK6 h7 hA fun τ o1 o2 o3 => ?_
        refine h3 N (K - 3) K (nN N) g j τ _ o3 hgn h40 h5 ?_
        exact And.intro trivial (hp τ o1 o2)
      · have h5 : ¬ nI j < nI 8 := h5
        rw [nI_ltI (by omega) (by omega)] at h5
        have e : kpI N K g j = 0 := by
          unfold kpI
          rw [if_neg]
          have := kp_le (K := K) (i := g) hok
          omega
        rw [e] at hp
        exact And.intro trivial (hp σ (off_refl _ _ _) hA)
abbrev ct_ccone (C : jm_C) : Prop := ∀ (N : nw) (K : Nat) (x : Int32) (σ : jm_G) (post : Option jm_V → jm_G → Prop), nw_ok N → cN N σ → 3 ≤ K → K ≤ 6 → σ.1 0 0 7 = nI K → cAll N σ → (∀ σ', off 10 21 σ σ' → cAll N σ' → post (some (jI (coA9 N K x))) σ') → C kX9_cone [jR 0 0, jI x] σ post
theorem T_ccone (L : Nat) {C : jm_C} (hC : jm_mon C) (h1 : ct_isSort kX5_isGate isG C) (h2 : ct_cutsOfK C) (h3 : ct_reached C) (h4 : ct_bc C) : ct_ccone (jm_up L C) := by
  intro N K x σ post hok hN hK hK6 h7 hA hp
  refine jm_start rfl (Nat.le_of_ble_eq_true rfl) hC fun X hg hw => ?_
  have h40 := hok.1
  refine hg [] 60 _ ?_
  unfold coA9 at hp
  refine h1 N x σ _ hok hN ?_
  refine br_c (fun h => ?_) (fun h => ?_)
  · have h := bI_0.mp h
    rw [h, if_neg (fun q => by cases q)] at hp
    exact And.intro trivial (hp σ (off_refl _ _ _) hA)
  · have h := bI_n0.mp h
    rw [h, if_pos rfl] at hp
    obtain ⟨g, hgn, rfl, hgt⟩ := atN_t (by omega) h
    have eg : (nI g).toNatClampNeg = g := nI_clamp (by omega)
    rw [eg] at hp
    refine c_cutsOfK h2 hok hN hK hK6 h7 hA fun τ o1 o2 o3 => ?_
    have hNt := cN_off hN o1 (by omega) (by omega)
    refine And.intro (vp_in_nI (by omega) (by omega)) ?_
    have e19 : τ.2 19 (K - 3) (nI g).toNatClampNeg = lN (nea N K g) := by rw [eg]; exact (o3.2.1 g hgn).2
    have call : ∀ {post' : Option jm_V → jm_G → Prop}, (∀ v ω, post' v ω → post' v ω) → C kX5_reached [jR 2 0, jI (nI g), jJ (lN (nea N K g))] τ post' → C kX5_reached [jR 2 0, jI (nI g), jJ (τ.2 19 (K - 3) (nI g).toNatClampNeg)] τ post' := fun _ h => by rw [e19]; exact h
    refine call (fun _ _ h => h) ?_
    refine h3 N g (nea N K g) τ _ hok hNt hgn ?_
    have hr := rch_lt hok g (nea N K g) hgn
    refine h4 _ τ _ (Nat.lt_trans hr (by omega)) ?_
    rw [cnt64 hr]
    exact And.intro trivial (hp τ o1 o2)
abbrev ct_cdepth (C : jm_C) : Prop := ∀ (N : nw) (K : Nat) (σ : jm_G) (post : Option jm_V → jm_G → Prop), nw_ok N → cN N σ → 3 ≤ K → K ≤ 6 → σ.1 0 0 7 = nI K → cAll N σ → (∀ σ', off 10 21 σ σ' → cAll N σ' → post (some (jI (nI (mxL (lev N K) (rts N) 40)))) σ') → C kX9_depth [jR 0 0] σ post
theorem T_cdepth (L : Nat) {C : jm_C} (hC : jm_mon C) (h2 : ct_cutsOfK C) (h3 : ct_roots C) (h4 : ct_greatest C) : ct_cdepth (jm_up L C) := by
  intro N K σ post hok hN hK hK6 h7 hA hp
  refine jm_start rfl (Nat.le_of_ble_eq_true rfl) hC fun X hg hw => ?_
  have h40 := hok.1
  refine hg [] 60 _ ?_
  refine c_cutsOfK h2 hok hN hK hK6 h7 hA fun τ o1 o2 o3 => ?_
  have hNt := cN_off hN o1 (by omega) (by omega)
  refine h3 N τ _ hok hNt ?_
  refine h4 (K - 3) (rts N) (lev N K) τ _ (rts_lt40 hok) (fun j hj => ?_) ?_
  · have hj := rts_lt hok hj
    exact ⟨(o3.2.1 j hj).1, by have := lev_bound hok hK (N := N) (K := K) j; omega⟩
  · exact And.intro trivial (hp τ o1 o2)
