/-! near, on both sides -/
noncomputable def neA (N : nw) (K : Nat) (x i : Int32) : Int32 := if atN (nN N) x (isG N) then (if i = -(nI 1) then nI (cnt (nea N K x.toNatClampNeg) 40) else nthI (nea N K x.toNatClampNeg) i) else -(nI 1)
abbrev ct_cnear (C : jm_C) : Prop := ∀ (N : nw) (K : Nat) (x i : Int32) (σ : jm_G) (post : Option jm_V → jm_G → Prop), nw_ok N → cN N σ → 3 ≤ K → K ≤ 6 → σ.1 0 0 7 = nI K → cAll N σ → (∀ σ', off 10 21 σ σ' → cAll N σ' → post (some (jI (neA N K x i))) σ') → C kX9_near [jR 0 0, jI x, jI i] σ post
theorem T_cnear (L : Nat) {C : jm_C} (hC : jm_mon C) (h1 : ct_isSort kX5_isGate isG C) (h2 : ct_cutsOfK C) (h3 : ct_bc C) (h4 : ct_nth C) : ct_cnear (jm_up L C) := by
  intro N K x i σ post hok hN hK hK6 h7 hA hp
  refine jm_start rfl (Nat.le_of_ble_eq_true rfl) hC fun X hg hw => ?_
  have h40 := hok.1
  refine hg [] 60 _ ?_
  unfold neA at hp
  refine h1 N x σ _ hok hN ?_
  refine br_c (fun h => ?_) (fun h => ?_)
  · have h := bI_0.mp h
    rw [h, if_neg (fun q => by cases q)] at hp
    exact And.intro trivial (hp σ (off_refl _ _ _) hA)
  · have h := bI_n0.mp h
    rw [h, if_pos rfl] at hp
    obtain ⟨g, hgn, rfl, hgt⟩ := atN_t (by omega) h
    have eg : (nI g).toNatClampNeg = g := nI_clamp (by omega)
    rw [eg] at hp
    refine c_cutsOfK h2 hok hN hK hK6 h7 hA fun τ o1 o2 o3 => ?_
    refine And.intro (vp_in_nI (by omega) (by omega)) ?_
    have e19 : τ.2 19 (K - 3) (nI g).toNatClampNeg = lN (nea N K g) := by rw [eg]; exact (o3.2.1 g hgn).2
    have hS := Sep_lt hok (o3.2.2.2.2 g hgn hgt).1.1
    refine br_c (fun h5 => ?_) (fun h5 => ?_)
    · have h5 : i = -(nI 1) := h5
      rw [if_pos h5] at hp
      refine c_bc h3 e19 (Nat.lt_trans hS (by omega)) ?_
      rw [cnt64 hS]
      exact And.intro trivial (hp τ o1 o2)
    · have h5 : ¬ i = -(nI 1) := h5
      rw [if_neg h5] at hp
      have call : ∀ {post' : Option jm_V → jm_G → Prop}, (∀ v ω, post' v ω → post' v ω) → C kX9_nthOf [jJ (lN (nea N K g)), jI i] τ post' → C kX9_nthOf [jJ (τ.2 19 (K - 3) (nI g).toNatClampNeg), jI i] τ post' := fun _ h => by rw [e19]; exact h
      refine call (fun _ _ h => h) ?_
      refine h4 (nea N K g) i τ _ (p40 hS) ?_
      exact And.intro trivial (hp τ o1 o2)
abbrev ct_mnear (C : jm_C) : Prop := ∀ (N : nw) (K : Nat) (x i : Int32) (σ : jm_G) (post : Option jm_V → jm_G → Prop), nw_ok N → mN N σ → 3 ≤ K → K ≤ 6 → σ.1 38 0 7 = nI K → mLd N K σ → (∀ σ', mf lyA (0 :: lyB) σ σ' → σ'.1 38 0 0 = nI 0 → mL N K (nN N) σ' → σ'.1 38 0 9 = bI true → post (some (jI (neA N K x i))) σ') → C kX10_near [jR 38 0, jI x, jI i] σ post
theorem T_mnear (L : Nat) {C : jm_C} (hC : jm_mon C) (h1 : ct_lays C) (h2 : ct_misGate C) (h3 : ct_mhas C) : ct_mnear (jm_up L C) := by
  intro N K x i σ post hok hN hK hK6 h7 hLd hp
  refine jm_start rfl (Nat.le_of_ble_eq_true rfl) hC fun X hg hw => ?_
  have h40 := hok.1
  refine hg [29] 60 _ ?_
  obtain ⟨b, b1, b2⟩ := mLd_th hLd (k := 0) (by omega) (nI 0)
  refine h1 N K b (sF σ 0 (nI 0)) _ hok (mN_sF hN (by omega) _) hK hK6 (by rw [sF_1, if_neg (by omega)]; exact h7) b1 b2 fun τ o1 o2 o3 => ?_
  have hf : mf lyA (0 :: lyB) σ τ := mf_trans (mf_sF (mf_refl _ _ _) (by decide)) (mf_wide o1 (by decide) (by decide))
  have hNt : mN N τ := mN_mf hN hf (by decide) (by decide)
  have hp := hp τ hf (by rw [(o1.2 0 0 (by decide)).1, sF_1, if_pos rfl]) o2 o3
  unfold neA at hp
  refine h2 N x τ _ hok hNt ?_
  refine br_c (fun h => ?_) (fun h => ?_)
  · have h := bI_0.mp h
    rw [h, if_neg (fun q => by cases q)] at hp
    exact And.intro trivial hp
  · have h := bI_n0.mp h
    rw [h, if_pos rfl] at hp
    obtain ⟨g, hgn, rfl, hgt⟩ := atN_t (by omega) h
    have eg : (nI g).toNatClampNeg = g := nI_clamp (by omega)
    rw [eg] at hp
    have hSp := (o2.2.2 g hgn hgt).1.1
    have hS := Sep_lt hok hSp
    have hSn : ∀ j, (nea N K g).testBit j = true → j < nN N := fun j hj => nB_lt_n hok (hSp.1 j hj)
    have e45 : τ.2 45 0 (nI g).toNatClampNeg = lN (nea N K g) := by rw [eg]; exact (o2.1 g hgn).2
    have cend : cnt (nea N K g) (nN N) = cnt (nea N K g) 40 := by
      have : ∀ d, cnt (nea N K g) (nN N + d) = cnt (nea N K g) (nN N) := by
        intro d
        induction d with
        | zero => rfl
        | succ d ih =>
          rw [← Nat.add_assoc, cnt_succ, ih]
          have : (nea N K g).testBit (nN N + d) = false := by
            cases q : (nea N K g).testBit (nN N + d) with
            | false => rfl
            | true => have := hSn _ q; omega
          rw [this]; rfl
      have e := this (40 - nN N)
      rw [show nN N + (40 - nN N) = 40 by omega] at e
      exact e.symm
    refine br_c (fun hm1 => ?_) (fun hm1 => ?_)
    · have hm1 : -(nI 1) ≤ i := hm1
      show X (τ, 29, [some (jR 38 0), some (jI (nI g)), some (jI i), some (jI (nI 0)), some (jI (nI 0))], [])
      have gen : ∀ (d n : Nat), n + d = nN N → (∀ j, j < n → (nea N K g).testBit j = true → i ≠ nI (cnt (nea N K g) j)) → X (τ, 29, [some (jR 38 0), some (jI (nI g)), some (jI i), some (jI (nI (cnt (nea N K g) n))), some (jI (nI n))], []) := by
        intro d
        induction d with
        | zero =>
          intro n hnd hno
          have e : n = nN N := by omega
          subst e
          refine hg [29] 40 _ ?_
          refine br_c (fun _ => ?_) (fun h => ?_)
          · refine br_c (fun h5 => ?_) (fun h5 => ?_)
            · have h5 : i = -(nI 1) := h5
              rw [if_pos h5, ← cend] at hp
              exact And.intro trivial hp
            · have h5 : ¬ i = -(nI 1) := h5
              rw [if_neg h5, nthI_none (fun j _ hb => hno j (hSn j hb) hb)] at hp
              exact And.intro trivial hp
          · have h : ¬ τ.1 38 0 1 ≤ nI (nN N) := h
            rw [hNt.1, nI_leI (by omega) (by omega)] at h
            omega
        | succ d ih =>
          intro n hnd hno
          have hcn := cnt_le (nea N K g) n
          refine hg [29] 40 _ ?_
          refine br_c (fun h => ?_) (fun _ => ?_)
          · have h : τ.1 38 0 1 ≤ nI n := h
            rw [hNt.1, nI_leI (by omega) (by omega)] at h
            omega
          · refine And.intro (vp_in_nI (by omega) (by omega)) ?_
            refine c_mhas h3 e45 rfl (p40 hS) (by omega) ?_
            refine br_c (fun h => ?_) (fun h => ?_)
            · have h := bI_0.mp h
              have := ih (n + 1) (by omega) (fun j hj hb => by
                by_cases e : j = n
                · rw [e, h] at hb; cases hb
                · exact hno j (by omega) hb)
              rw [cnt_succ, h] at this
              show X (τ, 29, [some (jR 38 0), some (jI (nI g)), some (jI i), some (jI (nI (cnt (nea N K g) n))), some (jI (nI n + nI 1))], [])
              rw [nI_add]
              exact this
            · have h := bI_n0.mp h
              refine br_c (fun h5 => ?_) (fun h5 => ?_)
              · have h5 : nI (cnt (nea N K g) n) = i := h5
                have hne : ¬ i = -(nI 1) := fun e => by rw [e] at h5; exact oN_none (by omega) h5
                rw [if_neg hne, ← h5, nthI_some (by omega) h rfl] at hp
                exact And.intro trivial hp
              · have h5 : ¬ nI (cnt (nea N K g) n) = i := h5
                have := ih (n + 1) (by omega) (fun j hj hb => by
                  by_cases e : j = n
                  · rw [e]; exact fun q => h5 q.symm
                  · exact hno j (by omega) hb)
                rw [cnt_succ, h] at this
                show X (τ, 29, [some (jR 38 0), some (jI (nI g)), some (jI i), some (jI (nI (cnt (nea N K g) n) + nI 1)), some (jI (nI n + nI 1))], [])
                rw [nI_add, nI_add]
                exact this
      exact gen (nN N) 0 (by omega) fun j hj => absurd hj (by omega)
    · have hm1 : ¬ -(nI 1) ≤ i := hm1
      have hne : ¬ i = -(nI 1) := fun e => hm1 (by rw [e]; exact Int32.le_refl _)
      rw [if_neg hne, nthI_none (fun j hj hb e => hm1 ?_)] at hp
      · exact And.intro trivial hp
      · rw [e]
        have := cnt_le (nea N K g) j
        exact Int32.le_of_lt (Int32.lt_of_lt_of_le m1_neg (Int32.not_lt.mp (nI_pos (by omega))))
