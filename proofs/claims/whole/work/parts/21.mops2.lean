/-! THE MODEL: feed, output, inputs -/
abbrev ct_mfeed (C : jm_C) : Prop := ∀ (N : nw) (K on : Nat) (md : Bool) (x y : Int32) (σ : jm_G) (post : Option jm_V → jm_G → Prop), nw_ok N → mB N K md on σ →
  ((atN (nN N) x (isR N) && inN (nN N) y) = false → post (some (jI (nI 0))) (sF σ 0 (nI 0))) → (∀ r v, isR N r = true → v < nN N → x = nI r → y = nI v → ∀ σ', mB (setF N r v) K false on σ' → σ'.1 38 0 9 = nI 0 → off 38 43 σ σ' → post (some (jI (nI 1))) σ') → C kX10_feed [jR 38 0, jI x, jI y] σ post
theorem T_mfeed (L : Nat) {C : jm_C} (hC : jm_mon C) (h1 : ct_misReg C) (h2 : ct_misNode C) (h3 : ct_changes C) : ct_mfeed (jm_up L C) := by
  intro N K on md x y σ post hok hB hp1 hp2
  refine jm_start rfl (Nat.le_of_ble_eq_true rfl) hC fun X hg hw => ?_
  have hn := hok.1
  have hB0 := mB_th hB (nI 0)
  refine hg [] 60 _ ?_
  refine h1 N x (sF σ 0 (nI 0)) _ hok hB0.1 ?_
  refine br_c (fun h => ?_) (fun h => ?_)
  · refine And.intro (Or.inl rfl) (hp1 ?_)
    rw [bI_0.mp h]; rfl
  · refine h2 (nN N) y (sF σ 0 (nI 0)) _ hB0.1.1 ?_
    refine br_c (fun h4 => ?_) (fun h4 => ?_)
    · refine And.intro (Or.inl rfl) (hp1 ?_)
      rw [bI_0.mp h4, Bool.and_false]
    · obtain ⟨r, hr, rfl, hrr⟩ := atN_t (by omega) (bI_n0.mp h)
      obtain ⟨v, hv, rfl⟩ := inN_t (by omega) (bI_n0.mp h4)
      refine And.intro (show vp_in (nI 3 * nI r) 120 by rw [n3]; exact vp_in_nI (by omega) (by omega)) ?_
      refine h3 _ _ ?_
      refine And.intro (Or.inr rfl) ?_
      show post (some (jI (nI 1))) (sF (sF (wI (sF σ 0 (nI 0)) 41 0 (upd (σ.1 41 0) (nI 3 * nI r).toNatClampNeg (nI v))) 8 (nI 0)) 9 (nI 0))
      rw [n3, nI_clamp (by omega)]
      obtain ⟨⟨a1, a2, a3, a4, a5, a6⟩, b1, b2, b3⟩ := hB
      refine hp2 r v hrr hv rfl rfl _ ⟨⟨a1, a2, a3, ?_, a5, a6⟩, b1, rfl, b3⟩ rfl (off_wI (off_wI (off_wI (off_wI (off_refl _ _ _) (by omega) (by omega)) (by omega) (by omega)) (by omega) (by omega)) (by omega) (by omega))
      intro i hi k hk
      show upd (σ.1 41 0) (3 * r) (nI v) (3 * i + k) = _
      rw [upd_at]
      have hgr : isG N r = false := by
        have := hrr; simp [isR] at this; simp [isG, this]
      by_cases e : i = r
      · subst e
        by_cases ek : k = 0
        · subst ek
          rw [if_pos (by omega)]
          have e1 : isG (setF N i v) i = false := hgr
          have e2 : isR (setF N i v) i = true := hrr
          have e3 : nF (setF N i v) i = v := if_pos rfl
          unfold sofI
          rw [e1, e2, e3]
          rfl
        · rw [if_neg (by omega), a4 i hi k hk]
          have e1 : isG (setF N i v) i = false := hgr
          unfold sofI
          rw [e1, hgr]
          simp [ek]
      · rw [if_neg (by omega), a4 i hi k hk]
        exact (sofI_eq (N := N) (M := setF N r v) k rfl rfl rfl rfl (if_neg e)).symm
abbrev ct_moutput (C : jm_C) : Prop := ∀ (N : nw) (K on : Nat) (md : Bool) (x : Int32) (σ : jm_G) (post : Option jm_V → jm_G → Prop), nw_ok N → mB N K md on σ →
  ((atN (nN N) x (fun i => !(nO N).testBit i) && decide (cnt (nO N) 40 < 12)) = false → post (some (jI (-(nI 1)))) (sF σ 0 (nI 0))) → (∀ i, i < nN N → (nO N).testBit i = false → cnt (nO N) 40 < 12 → x = nI i → ∀ σ', mB (addO N i) K false on σ' → σ'.1 38 0 9 = nI 0 → off 38 43 σ σ' → post (some (jI (nI (cnt (nO N ||| 2 ^ i) 40)))) σ') → C kX10_output [jR 38 0, jI x] σ post
theorem c_mhas {C : jm_C} (h : ct_mhas C) {S n : Nat} {v : Int64} {x : Int32} {σ : jm_G} {post : Option jm_V → jm_G → Prop} (hv : v = lN S) (hx : x = nI n) (hS : S < 2 ^ 63) (hn : n < 64) (hp : post (some (jI (bI (S.testBit n)))) σ) : C kX10_has [jJ v, jI x] σ post := by subst hv; subst hx; exact h S n σ post hS hn hp
theorem c_mmany {C : jm_C} (h : ct_mmany C) {S : Nat} {v : Int64} {σ : jm_G} {post : Option jm_V → jm_G → Prop} (hv : v = lN S) (hS : S < 2 ^ 63) (hp : post (some (jI (nI (cnt S 40)))) σ) : C kX10_manyOf [jJ v] σ post := by subst hv; exact h S σ post hS hp
theorem T_moutput (L : Nat) {C : jm_C} (hC : jm_mon C) (h1 : ct_misNode C) (h2 : ct_mhas C) (h3 : ct_mmany C) (h4 : ct_changes C) : ct_moutput (jm_up L C) := by
  intro N K on md x σ post hok hB hp1 hp2
  refine jm_start rfl (Nat.le_of_ble_eq_true rfl) hC fun X hg hw => ?_
  have hn := hok.1
  have hB0 := mB_th hB (nI 0)
  have hO := nO_lt hok
  refine hg [] 60 _ ?_
  refine h1 (nN N) x (sF σ 0 (nI 0)) _ hB0.1.1 ?_
  refine br_c (fun h => ?_) (fun h => ?_)
  · refine And.intro trivial (hp1 ?_)
    simp only [atN, bI_0.mp h, Bool.false_and]
  · obtain ⟨i, hi, rfl⟩ := inN_t (by omega) (bI_n0.mp h)
    have hat : atN (nN N) (nI i) (fun i => !(nO N).testBit i) = !(nO N).testBit i := by rw [atN_nI (by omega) (by omega)]; simp [hi]
    rw [hat] at hp1
    refine c_mhas h2 (S := nO N) (n := i) hB.1.2.2.2.2.2 rfl (p40 hO) (by omega) ?_
    refine br_c (fun h5 => ?_) (fun h5 => ?_)
    · have h5 := bI_0.mp h5
      rw [h5] at hp1
      refine c_mmany h3 (S := nO N) hB.1.2.2.2.2.2 (p40 hO) ?_
      have hc12 := hok.2.2.2.2.2.1
      refine br_c (fun h6 => ?_) (fun h6 => ?_)
      · have h6 : nI (cnt (nO N) 40) = nI 12 := h6
        rw [nI_eq (by omega) (by omega)] at h6
        refine And.intro trivial (hp1 ?_)
        simp [h6]
      · have h6 : ¬ nI (cnt (nO N) 40) = nI 12 := h6
        rw [nI_eq (by omega) (by omega)] at h6
        refine h4 _ _ ?_
        have eo : σ.2 38 0 6 ||| (lN 1 <<< ((nI i).toInt64 &&& 63)) = lN (nO N ||| 2 ^ i) := by rw [hB.1.2.2.2.2.2, lN_shl1 (by omega), fb_orL]
        refine c_mmany h3 (S := nO N ||| 2 ^ i) (show vp_updL (σ.2 38 0) 6 (σ.2 38 0 6 ||| (lN 1 <<< ((nI i).toInt64 &&& 63))) 6 = _ by rw [pk_uLs, eo]) (p40 (or_lt hO (pw_lt (by omega)))) ?_
        refine And.intro trivial ?_
        show post (some (jI (nI (cnt (nO N ||| 2 ^ i) 40)))) (sF (sF (wJ (sF σ 0 (nI 0)) 38 0 (vp_updL (σ.2 38 0) 6 (σ.2 38 0 6 ||| (lN 1 <<< ((nI i).toInt64 &&& 63))))) 8 (nI 0)) 9 (nI 0))
        rw [eo]
        obtain ⟨⟨a1, a2, a3, a4, a5, a6⟩, b1, b2, b3⟩ := hB
        refine hp2 i hi h5 (by omega) rfl _ ⟨⟨a1, a2, a3, a4, a5, ?_⟩, b1, rfl, b3⟩ rfl (off_wI (off_wI (off_wJ (off_wI (off_refl _ _ _) (by omega) (by omega)) (by omega) (by omega)) (by omega) (by omega)) (by omega) (by omega))
        show vp_updL (σ.2 38 0) 6 (lN (nO N ||| 2 ^ i)) 6 = lN (nO N ||| 2 ^ i)
        rw [pk_uLs]
    · refine And.intro trivial (hp1 ?_)
      rw [bI_n0.mp h5]
      rfl
abbrev ct_minputs (C : jm_C) : Prop := ∀ (N : nw) (K on : Nat) (md : Bool) (x : Int32) (σ : jm_G) (post : Option jm_V → jm_G → Prop), mB N K md on σ → K < 7 →
  ((decide (¬ x < nI 3) && decide (¬ nI 6 < x)) = false → post (some (jI (-(nI 1)))) (sF σ 0 (nI 0))) → (∀ k, 3 ≤ k → k ≤ 6 → x = nI k → k = K → post (some (jI (nI K))) (sF (sF σ 0 (nI 0)) 7 (nI K))) → (∀ k, 3 ≤ k → k ≤ 6 → x = nI k → k ≠ K → ∀ σ', mB N k false on σ' → σ'.1 38 0 9 = nI 0 → off 38 43 σ σ' → post (some (jI (nI K))) σ') → C kX10_inputs [jR 38 0, jI x] σ post
theorem T_minputs (L : Nat) {C : jm_C} (hC : jm_mon C) (h1 : ct_within C) (h2 : ct_changes C) : ct_minputs (jm_up L C) := by
  intro N K on md x σ post hB hK hp1 hp2 hp3
  refine jm_start rfl (Nat.le_of_ble_eq_true rfl) hC fun X hg hw => ?_
  have hB0 := mB_th hB (nI 0)
  refine hg [] 60 _ ?_
  refine h1 x (nI 3) (nI 6) (sF σ 0 (nI 0)) _ ?_
  refine br_c (fun h => ?_) (fun h => ?_)
  · exact And.intro trivial (hp1 (bI_0.mp h))
  · obtain ⟨k, k3, k6, rfl⟩ := wi_nI (by omega) (by omega) (bI_n0.mp h)
    refine br_c (fun h3 => ?_) (fun h3 => ?_)
    · have h3 : σ.1 38 0 7 = nI k := h3
      rw [hB.2.1, nI_eq (by omega) (by omega)] at h3
      refine And.intro trivial ?_
      show post (some (jI (σ.1 38 0 7))) (sF (sF σ 0 (nI 0)) 7 (nI k))
      subst h3
      rw [hB.2.1]
      exact hp2 K k3 k6 rfl rfl
    · have h3 : ¬ σ.1 38 0 7 = nI k := h3
      rw [hB.2.1, nI_eq (by omega) (by omega)] at h3
      refine h2 _ _ ?_
      refine And.intro trivial ?_
      show post (some (jI (σ.1 38 0 7))) (sF (sF (sF (sF σ 0 (nI 0)) 7 (nI k)) 8 (nI 0)) 9 (nI 0))
      rw [hB.2.1]
      obtain ⟨⟨a1, a2, a3, a4, a5, a6⟩, b1, b2, b3⟩ := hB
      exact hp3 k k3 k6 rfl (fun e => h3 e.symm) _ ⟨⟨a1, a2, a3, a4, a5, a6⟩, rfl, rfl, b3⟩ rfl (off_wI (off_wI (off_wI (off_wI (off_refl _ _ _) (by omega) (by omega)) (by omega) (by omega)) (by omega) (by omega)) (by omega) (by omega))
