/-! keptCut, cutsOfK -/
theorem cA_lev {N : nw} {i K n j : Nat} {σ : jm_G} (h : cA N i K n σ) (hj : j < n) : σ.1 18 i j = nI (lev N K j) := (h.2.1 j hj).1
theorem cA_nea {N : nw} {i K n j : Nat} {σ : jm_G} (h : cA N i K n σ) (hj : j < n) : σ.2 19 i j = lN (nea N K j) := (h.2.1 j hj).2
noncomputable def kpI (N : nw) (K g c : Nat) : Nat := @ite _ (c < (kp N K g).1) (Classical.propDecidable _) ((kp N K g).2 c) 0
abbrev ct_keptCut (C : jm_C) : Prop := ∀ (N : nw) (i K n g c : Nat) (σ : jm_G) (post : Option jm_V → jm_G → Prop), cA N i K n σ → g < n → n ≤ 40 → c < 8 → post (some (jJ (lN (kpI N K g c)))) σ → C kX4_keptCut [jR 17 i, jI (nI g), jI (nI c)] σ post
theorem T_keptCut (L : Nat) {C : jm_C} (hC : jm_mon C) : ct_keptCut (jm_up L C) := by
  intro N i K n g c σ post hA hg1 hn hc hp
  refine jm_start rfl (Nat.le_of_ble_eq_true rfl) hC fun X hg hw => ?_
  obtain ⟨k1, k2, k3⟩ := hA.2.2.2.1 g hg1
  have eg : (nI g).toNatClampNeg = g := nI_clamp (by omega)
  refine hg [] 30 _ ?_
  refine And.intro (vp_in_nI (by omega) (by omega)) ?_
  unfold kpI at hp
  refine br_c (fun h => ?_) (fun h => ?_)
  · have h : σ.1 21 i (nI g).toNatClampNeg ≤ nI c := h
    rw [eg, k2, nI_leI (by omega) (by omega)] at h
    rw [if_neg (by omega)] at hp
    exact And.intro trivial hp
  · have h : ¬ σ.1 21 i (nI g).toNatClampNeg ≤ nI c := h
    rw [eg, k2, nI_leI (by omega) (by omega)] at h
    rw [if_pos (by omega)] at hp
    have e8 : nI g * nI 8 + nI c = nI (g * 8 + c) := by rw [pk_mul, nI_add]
    refine And.intro (show vp_in (nI g * nI 8 + nI c) 320 by rw [e8]; exact vp_in_nI (by omega) (by omega)) ?_
    refine And.intro trivial ?_
    show post (some (jJ (σ.2 20 i (nI g * nI 8 + nI c).toNatClampNeg))) σ
    rw [e8, nI_clamp (by omega), k3 c (by omega)]
    exact hp
abbrev ct_cutsOfK (C : jm_C) : Prop := ∀ (N : nw) (K n : Nat) (σ : jm_G) (post : Option jm_V → jm_G → Prop), nw_ok N → cN N σ → 3 ≤ K → K ≤ 6 → σ.1 0 0 7 = nI K → cA N (K - 3) K n σ → σ.1 17 (K - 3) 8 = nI n → n ≤ nN N →
  (∀ σ', offC (K - 3) σ σ' → cA N (K - 3) K (nN N) σ' → σ'.1 17 (K - 3) 8 = nI (nN N) → post (some (jR 17 (K - 3))) σ') → C kX9_cutsOfK [jR 0 0] σ post
theorem T_cutsOfK (L : Nat) {C : jm_C} (hC : jm_mon C) (h1 : ct_learn C) : ct_cutsOfK (jm_up L C) := by
  intro N K n σ post hok hN hK hK6 h7 hA h8 hn hp
  refine jm_start rfl (Nat.le_of_ble_eq_true rfl) hC fun X hg hw => ?_
  have h40 := hok.1
  have e3 : σ.1 0 0 7 - nI 3 = nI (K - 3) := by rw [h7, pk_sub hK]
  refine hg [17] 30 _ ?_
  refine And.intro (show vp_in (σ.1 0 0 7 - nI 3) 4 by rw [e3]; exact vp_in_nI (by omega) (by omega)) ?_
  show X (σ, 17, [some (jR 0 0), some (jR 17 (σ.1 0 0 7 - nI 3).toNatClampNeg), some (jI (σ.1 17 (σ.1 0 0 7 - nI 3).toNatClampNeg 8))], [])
  rw [e3, nI_clamp (by omega), h8]
  have gen : ∀ (m j : Nat), j + m = nN N → ∀ (τ : jm_G), offC (K - 3) σ τ → cA N (K - 3) K j τ → τ.1 17 (K - 3) 8 = nI j → X (τ, 17, [some (jR 0 0), some (jR 17 (K - 3)), some (jI (nI j))], []) := by
    intro m
    induction m with
    | zero =>
      intro j hjm τ ho hA h8
      have e : j = nN N := by omega
      have hNt := cN_off hN ho.1 (by omega) (by omega)
      refine hg [17] 30 _ ?_
      refine br_c (fun h => ?_) (fun h => ?_)
      · refine And.intro trivial (hp τ ho ?_ ?_)
        · rw [← e]; exact hA
        · rw [← e]; exact h8
      · have h : ¬ τ.1 2 0 9 ≤ nI j := h
        rw [hNt.1, nI_leI (by omega) (by omega)] at h
        omega
    | succ m ih =>
      intro j hjm τ ho hA h8
      have hNt := cN_off hN ho.1 (by omega) (by omega)
      refine hg [17] 30 _ ?_
      refine br_c (fun h => ?_) (fun h => ?_)
      · have h : τ.1 2 0 9 ≤ nI j := h
        rw [hNt.1, nI_leI (by omega) (by omega)] at h
        omega
      · refine h1 N (K - 3) K j τ _ hok hNt hK hK6 (by omega) hA fun υ o1 o2 o3 => ?_
        show X (υ, 17, [some (jR 0 0), some (jR 17 (K - 3)), some (jI (nI j + nI 1))], [])
        rw [nI_add]
        exact ih (j + 1) (by omega) υ (offC_trans ho o1) o2 o3
  exact gen (nN N - n) n (by omega) σ (offC_refl _ _) hA h8
