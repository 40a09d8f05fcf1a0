/-! the model's node -/
abbrev ct_mnode (C : jm_C) : Prop := ∀ (N : nw) (K : Nat) (x w : Int32) (σ : jm_G) (post : Option jm_V → jm_G → Prop), nw_ok N → mN N σ → 3 ≤ K → K ≤ 6 → σ.1 38 0 7 = nI K → mLd N K σ → (∀ σ', mf lyA (0 :: lyB) σ σ' → σ'.1 38 0 0 = nI 0 → mL N K (nN N) σ' → σ'.1 38 0 9 = bI true → post (some (jI (ndA N K x w))) σ') → C kX10_node [jR 38 0, jI x, jI w] σ post
theorem T_mnode (L : Nat) {C : jm_C} (hC : jm_mon C) (h1 : ct_lays C) (h2 : ct_misNode C) (h3 : ct_mroots C) (h4 : ct_mhas C) (h5 : ct_mmany C) : ct_mnode (jm_up L C) := by
  intro N K x w σ post hok hN hK hK6 h7 hLd hp
  refine jm_start rfl (Nat.le_of_ble_eq_true rfl) hC fun X hg hw => ?_
  have h40 := hok.1
  refine hg [] 60 _ ?_
  obtain ⟨b, b1, b2⟩ := mLd_th hLd (k := 0) (by omega) (nI 0)
  refine h1 N K b (sF σ 0 (nI 0)) _ hok (mN_sF hN (by omega) _) hK hK6 (by rw [sF_1, if_neg (by omega)]; exact h7) b1 b2 fun τ o1 o2 o3 => ?_
  have hf : mf lyA (0 :: lyB) σ τ := mf_trans (mf_sF (mf_refl _ _ _) (by decide)) (mf_wide o1 (by decide) (by decide))
  have hNt : mN N τ := mN_mf hN hf (by decide) (by decide)
  have hp0 := hp τ hf (by rw [(o1.2 0 0 (by decide)).1, sF_1, if_pos rfl]) o2 o3
  unfold ndA at hp0
  refine h2 (nN N) x τ _ hNt.1 ?_
  refine br_c (fun h => ?_) (fun h => ?_)
  · have h := bI_0.mp h
    rw [h, if_neg (fun q => by cases q)] at hp0
    exact And.intro trivial hp0
  · have h := bI_n0.mp h
    rw [h, if_pos rfl] at hp0
    obtain ⟨i, hi, rfl⟩ := inN_t (by omega) h
    have ei : (nI i).toNatClampNeg = i := nI_clamp (by omega)
    rw [ei] at hp0
    have hin : vp_in (nI i) 40 := vp_in_nI (by omega) (by omega)
    have src : ∀ k, k < 3 → nI 3 * nI i + nI (k + 2) - nI 2 = nI (3 * i + k) := fun k hk => by rw [n3I, pk_sub (by omega), show 3 * i + (k + 2) - 2 = 3 * i + k by omega]
    have e41 : ∀ k, k < 3 → τ.1 41 0 (3 * i + k) = sofI N i k := fun k hk => hNt.2.2.2.1 i hi k hk
    refine And.intro (fun h => ?_) (And.intro (fun h => ?_) (And.intro (fun h => ?_) (And.intro (fun h => ?_) (And.intro (fun h => ?_) (And.intro (fun h => ?_) (And.intro (fun h => ?_) (And.intro (fun h => ?_) (And.intro (fun h => ?_) trivial))))))))
    · have h : w.toInt < 0 ∨ 7 < w.toInt := h
      rw [nd9_o h] at hp0
      exact And.intro trivial hp0
    · have h : w = nI 0 := h
      rw [h, nd9_0] at hp0
      refine And.intro hin (And.intro trivial ?_)
      show post (some (jI (τ.1 39 0 (nI i).toNatClampNeg))) τ
      rw [ei, hNt.2.1 i hi]
      exact hp0
    · have h : w = nI 1 := h
      rw [h, nd9_1] at hp0
      refine And.intro hin (And.intro trivial ?_)
      show post (some (jI (τ.1 40 0 (nI i).toNatClampNeg))) τ
      rw [ei, hNt.2.2.1 i hi]
      exact hp0
    · have h : w = nI 2 := h
      subst h
      rw [nd9_2] at hp0
      refine And.intro (show vp_in (nI 3 * nI i + nI 2 - nI 2) 120 by rw [src 0 (by omega)]; exact vp_in_nI (by omega) (by omega)) (And.intro trivial ?_)
      show post (some (jI (τ.1 41 0 (nI 3 * nI i + nI 2 - nI 2).toNatClampNeg))) τ
      rw [src 0 (by omega), nI_clamp (by omega), e41 0 (by omega)]
      exact hp0
    · have h : w = nI 3 := h
      subst h
      rw [nd9_3] at hp0
      refine And.intro (show vp_in (nI 3 * nI i + nI 3 - nI 2) 120 by rw [src 1 (by omega)]; exact vp_in_nI (by omega) (by omega)) (And.intro trivial ?_)
      show post (some (jI (τ.1 41 0 (nI 3 * nI i + nI 3 - nI 2).toNatClampNeg))) τ
      rw [src 1 (by omega), nI_clamp (by omega), e41 1 (by omega)]
      exact hp0
    · have h : w = nI 4 := h
      subst h
      rw [nd9_4] at hp0
      refine And.intro (show vp_in (nI 3 * nI i + nI 4 - nI 2) 120 by rw [src 2 (by omega)]; exact vp_in_nI (by omega) (by omega)) (And.intro trivial ?_)
      show post (some (jI (τ.1 41 0 (nI 3 * nI i + nI 4 - nI 2).toNatClampNeg))) τ
      rw [src 2 (by omega), nI_clamp (by omega), e41 2 (by omega)]
      exact hp0
    · have h : w = nI 5 := h
      rw [h, nd9_5] at hp0
      refine And.intro hin (And.intro trivial ?_)
      show post (some (jI (τ.1 44 0 (nI i).toNatClampNeg))) τ
      rw [ei, (o2.1 i hi).1]
      exact hp0
    · have h : w = nI 6 := h
      rw [h, nd9_6] at hp0
      refine h3 N τ _ hok hNt ?_
      refine h4 (rts N) i τ _ (p40 (rts_lt40 hok)) (by omega) ?_
      refine br_c (fun q => ?_) (fun q => ?_)
      · have q := bI_0.mp q
        rw [q] at hp0
        exact And.intro trivial hp0
      · have q := bI_n0.mp q
        rw [q] at hp0
        exact And.intro trivial hp0
    · have h : w = nI 7 := h
      rw [h, nd9_7] at hp0
      refine And.intro hin ?_
      refine c_mmany h5 (S := nB N i) (show τ.2 42 0 (nI i).toNatClampNeg = lN (nB N i) by rw [ei]; exact hNt.2.2.2.2.1 i hi) (p40 (nB_lt40 hok i)) ?_
      exact And.intro trivial hp0
