/-! the model's search: spreadsIn, spreads -/
def inS (N : nw) (g : Nat) : Nat := nB N g ||| 2 ^ g
theorem inS_bit (N : nw) (g v : Nat) : (inS N g).testBit v = true ↔ iN N g v := by
  unfold inS iN
  rw [or_bit, Bool.or_eq_true, decide_eq_true_eq]
  exact Or.comm
abbrev ct_sprIn (C : jm_C) : Prop := ∀ (N : nw) (g m x q : Nat) (l t : Nat → Nat) (a : Nat → Nat → Nat) (Q : Nat → Nat) (cf : Nat → Option Nat) (σ : jm_G) (post : Option jm_V → jm_G → Prop), nw_ok N → mN N σ → g < 40 → x < 40 → m < 2 ^ 31 → σ.1 44 0 x = nI (l x) → l x < 2 ^ 31 → fR σ t a → (∀ v, t v < 2 ^ 31) → (∀ p k, a p k < 2 ^ 31) → mQ σ q Q cf →
  (∀ σ' q' Q' cf', mf [48, 49] [17] σ σ' → mQ σ' q' Q' cf' → sX q Q cf q' Q' cf' (some x) (rmI N g m l t a x) → post none σ') → C kX10_spreadsIn [jR 38 0, jI (nI x), jJ (lN (inS N g)), jI (nI m)] σ post
theorem T_sprIn (L : Nat) {C : jm_C} (hC : jm_mon C) (h1 : ct_mcomes C) (h2 : ct_mroom C) (h3 : ct_mhas C) : ct_sprIn (jm_up L C) := by
  intro N g m x q l t a Q cf σ post hok hN hg4 hx4 hm h44 hlx hR ht ha hQ hp
  refine jm_start rfl (Nat.le_of_ble_eq_true rfl) hC fun X hg hw => ?_
  have h40 := hok.1
  have ex : (nI x).toNatClampNeg = x := nI_clamp (by omega)
  have hfr : ∀ z, some x = some z → z < 80 := fun z e => by have := Option.some.inj e; omega
  have hSl : inS N g < 2 ^ 40 := or_lt (nB_lt40 hok g) (pw_lt hg4)
  -- all nodes, and of one node so many sources
  have gen : ∀ (d p : Nat), p + d = nN N → ∀ (τ : jm_G) (q' : Nat) (Q' : Nat → Nat) (cf' : Nat → Option Nat), mf [48, 49] [17] σ τ → mQ τ q' Q' cf' → sX q Q cf q' Q' cf' (some x) (fun y => (y = 40 + x ∧ t x < rmV m l x) ∨ ∃ p' k, p' < p ∧ y = 40 + p' ∧ iN N g p' ∧ slB N p' k = true ∧ nR N p' k = x ∧ 0 < a p' k) →
      X (τ, 28, [some (jR 38 0), some (jI (nI x)), some (jJ (lN (inS N g))), none, some (jI (nI m)), some (jI (nI p)), none], []) := by
    intro d
    induction d with
    | zero =>
      intro p hpd τ q' Q' cf' hm9 hQ' hx
      have hNt := mN_mf hN hm9 (by decide) (by decide)
      refine hg [28, 40] 40 _ ?_
      refine br_c (fun _ => ?_) (fun h => ?_)
      · refine And.intro trivial (hp τ q' Q' cf' hm9 hQ' (sX_iff hx fun y => ⟨?_, ?_⟩))
        · rintro (h | ⟨p', k, -, h⟩)
          · exact Or.inl h
          · exact Or.inr ⟨p', k, h⟩
        · rintro (h | ⟨p', k, h⟩)
          · exact Or.inl h
          · exact Or.inr ⟨p', k, by have := isG_lt (slB_iff.mp h.2.2.1).1; omega, h⟩
      · have h : ¬ τ.1 38 0 1 ≤ nI p := h
        rw [hNt.1, nI_leI (by omega) (by omega)] at h
        omega
    | succ d ih =>
      intro p hpd τ q' Q' cf' hm9 hQ' hx
      have hNt := mN_mf hN hm9 (by decide) (by decide)
      refine hg [28, 40] 40 _ ?_
      refine br_c (fun h => ?_) (fun _ => ?_)
      · have h : τ.1 38 0 1 ≤ nI p := h
        rw [hNt.1, nI_leI (by omega) (by omega)] at h
        omega
      · show X (τ, 40, [some (jR 38 0), some (jI (nI x)), some (jJ (lN (inS N g))), none, some (jI (nI m)), some (jI (nI p)), some (jI (nI 0))], [])
        -- the next node
        have nx : ∀ (k : Nat) (υ : jm_G) (q' : Nat) (Q' : Nat → Nat) (cf' : Nat → Option Nat), mf [48, 49] [17] σ υ → mQ υ q' Q' cf' → sX q Q cf q' Q' cf' (some x) (fun y => (y = 40 + x ∧ t x < rmV m l x) ∨ ∃ p' k, p' < p + 1 ∧ y = 40 + p' ∧ iN N g p' ∧ slB N p' k = true ∧ nR N p' k = x ∧ 0 < a p' k) →
            X (υ, 28, [some (jR 38 0), some (jI (nI x)), some (jJ (lN (inS N g))), none, some (jI (nI m)), some (jI (nI p + nI 1)), some (jI (nI k))], []) := by
          intro k υ q' Q' cf' q1 q2 q3
          refine hw _ _ _ [some (jR 38 0), some (jI (nI x)), some (jJ (lN (inS N g))), none, some (jI (nI m)), some (jI (nI p + nI 1)), none] _ (by repeat' first | exact trivial | exact rfl | apply And.intro) ?_
          rw [nI_add]
          exact ih (p + 1) (by omega) υ q' Q' cf' q1 q2 q3
        have inner : ∀ (e k : Nat), k + e = 3 → ∀ (υ : jm_G) (q' : Nat) (Q' : Nat → Nat) (cf' : Nat → Option Nat), mf [48, 49] [17] σ υ → mQ υ q' Q' cf' → sX q Q cf q' Q' cf' (some x) (fun y => (y = 40 + x ∧ t x < rmV m l x) ∨ ∃ p' k', (p' < p ∨ (p' = p ∧ k' < k)) ∧ y = 40 + p' ∧ iN N g p' ∧ slB N p' k' = true ∧ nR N p' k' = x ∧ 0 < a p' k') →
            X (υ, 40, [some (jR 38 0), some (jI (nI x)), some (jJ (lN (inS N g))), none, some (jI (nI m)), some (jI (nI p)), some (jI (nI k))], []) := by
          intro e
          induction e with
          | zero =>
            intro k hke υ q' Q' cf' q1 q2 q3
            refine hg [28, 40] 40 _ ?_
            refine br_c (fun _ => ?_) (fun h => ?_)
            · refine nx k υ q' Q' cf' q1 q2 (sX_iff q3 fun y => ⟨?_, ?_⟩)
              · rintro (h | ⟨p', k', h0, h⟩)
                · exact Or.inl h
                · exact Or.inr ⟨p', k', by omega, h⟩
              · rintro (h | ⟨p', k', h0, h⟩)
                · exact Or.inl h
                · exact Or.inr ⟨p', k', by have := (slB_lt hok h.2.2.1).2.2; omega, h⟩
            · have h : ¬ nI 3 ≤ nI k := h
              rw [nI_leI (by omega) (by omega)] at h
              omega
          | succ e ihe =>
            intro k hke υ q' Q' cf' q1 q2 q3
            have hNu := mN_mf hN q1 (by decide) (by decide)
            have hRu := fR_mf hR q1 (by decide)
            have ep : (nI p).toNatClampNeg = p := nI_clamp (by omega)
            refine hg [28, 40] 60 _ ?_
            refine br_c (fun h => ?_) (fun _ => ?_)
            · have h : nI 3 ≤ nI k := h
              rw [nI_leI (by omega) (by omega)] at h
              omega
            · refine h3 (inS N g) p υ _ (p40 hSl) (by omega) ?_
              -- a node without such sources
              have skip : (¬ (iN N g p ∧ isG N p = true)) → X (υ, 28, [some (jR 38 0), some (jI (nI x)), some (jJ (lN (inS N g))), none, some (jI (nI m)), some (jI (nI p + nI 1)), some (jI (nI k))], []) := by
                intro hno
                refine nx k υ q' Q' cf' q1 q2 (sX_iff q3 fun y => ⟨?_, ?_⟩)
                · rintro (h | ⟨p', k', h0, h⟩)
                  · exact Or.inl h
                  · exact Or.inr ⟨p', k', by omega, h⟩
                · rintro (h | ⟨p', k', h0, h⟩)
                  · exact Or.inl h
                  · refine Or.inr ⟨p', k', ?_, h⟩
                    by_cases e2 : p' = p
                    · subst e2; exact absurd ⟨h.2.1, (slB_iff.mp h.2.2.1).1⟩ hno
                    · exact Or.inl (by omega)
              refine br_c (fun h => ?_) (fun h => ?_)
              · have h := bI_0.mp h
                exact skip fun q => by rw [(inS_bit N g p).mpr q.1] at h; cases h
              · have h := bI_n0.mp h
                have hpI := (inS_bit N g p).mp h
                refine And.intro (vp_in_nI (by omega) (by omega)) ?_
                refine br_c (fun h4 => ?_) (fun h4 => ?_)
                · have h4 : υ.1 39 0 (nI p).toNatClampNeg = nI 1 := h4
                  rw [ep, mN_gate hok hNu (by omega)] at h4
                  have hin : vp_in (nI 3 * nI p + nI k) 120 := by rw [n3I]; exact vp_in_nI (by omega) (by omega)
                  have es : υ.1 41 0 (nI 3 * nI p + nI k).toNatClampNeg = srcI N p k := by rw [n3I, nI_clamp (by omega)]; exact mN_src hNu h4 (by omega)
                  have ea : υ.1 47 0 (nI 3 * nI p + nI k).toNatClampNeg = nI (a p k) := by rw [n3I, nI_clamp (by omega)]; exact hRu.2 p k (by omega) (by omega)
                  have hsrc : srcI N p k = nI x ↔ (slB N p k = true ∧ nR N p k = x) := by
                    unfold srcI
                    by_cases hk : k < ar (nK N p)
                    · have := nR_lt hok h4 hk
                      rw [if_pos hk, nI_eq (by omega) (by omega)]
                      exact ⟨fun q => ⟨slB_iff.mpr ⟨h4, hk⟩, q⟩, fun q => q.2⟩
                    · rw [if_neg hk]
                      exact ⟨fun q => absurd q.symm (oN_none (by omega)), fun q => absurd (slB_iff.mp q.1).2 hk⟩
                  have stay : ¬ (slB N p k = true ∧ nR N p k = x ∧ 0 < a p k) → X (υ, 40, [some (jR 38 0), some (jI (nI x)), some (jJ (lN (inS N g))), none, some (jI (nI m)), some (jI (nI p)), some (jI (nI k + nI 1))], []) := by
                    intro hno
                    rw [nI_add]
                    refine ihe (k + 1) (by omega) υ q' Q' cf' q1 q2 (sX_iff q3 fun y => ⟨?_, ?_⟩)
                    · rintro (h | ⟨p', k', h0, h⟩)
                      · exact Or.inl h
                      · exact Or.inr ⟨p', k', by omega, h⟩
                    · rintro (h | ⟨p', k', h0, hh⟩)
                      · exact Or.inl h
                      · refine Or.inr ⟨p', k', ?_, hh⟩
                        by_cases e2 : p' = p ∧ k' = k
                        · rw [e2.1, e2.2] at hh; exact absurd hh.2.2 hno
                        · omega
                  refine And.intro hin ?_
                  refine br_c (fun h5 => ?_) (fun h5 => ?_)
                  · have h5 : υ.1 41 0 (nI 3 * nI p + nI k).toNatClampNeg = nI x := h5
                    rw [es, hsrc] at h5
                    refine And.intro hin ?_
                    refine br_c (fun h6 => ?_) (fun h6 => ?_)
                    · have h6 : υ.1 47 0 (nI 3 * nI p + nI k).toNatClampNeg ≤ 0 := h6
                      rw [ea, pos_0 (ha p k)] at h6
                      exact stay fun q => by omega
                    · have h6 : ¬ υ.1 47 0 (nI 3 * nI p + nI k).toNatClampNeg ≤ 0 := h6
                      rw [ea, pos_0 (ha p k)] at h6
                      refine c_mcomes h1 (y := 40 + p) (nI_add 40 p) (show nI x = fN (some x) from rfl) (by omega) hfr q2 fun σ' q3' Q3 cf3 o1 o2 o3 => ?_
                      show X (σ', 40, [some (jR 38 0), some (jI (nI x)), some (jJ (lN (inS N g))), none, some (jI (nI m)), some (jI (nI p)), some (jI (nI k + nI 1))], [])
                      rw [nI_add]
                      refine ihe (k + 1) (by omega) σ' q3' Q3 cf3 (mf_trans q1 o1) o2 (sX_iff (sX_comp q3 o3) fun y => ⟨?_, ?_⟩)
                      · rintro ((h | ⟨p', k', h0, h⟩) | h)
                        · exact Or.inl h
                        · exact Or.inr ⟨p', k', by omega, h⟩
                        · exact Or.inr ⟨p, k, Or.inr ⟨rfl, by omega⟩, h, hpI, h5.1, h5.2, by omega⟩
                      · rintro (h | ⟨p', k', h0, hh⟩)
                        · exact Or.inl (Or.inl h)
                        · by_cases e2 : p' = p ∧ k' = k
                          · rw [e2.1, e2.2] at hh; exact Or.inr hh.1
                          · exact Or.inl (Or.inr ⟨p', k', by omega, hh⟩)
                  · have h5 : ¬ υ.1 41 0 (nI 3 * nI p + nI k).toNatClampNeg = nI x := h5
                    rw [es, hsrc] at h5
                    exact stay fun q => h5 ⟨q.1, q.2.1⟩
                · have h4 : ¬ υ.1 39 0 (nI p).toNatClampNeg = nI 1 := h4
                  rw [ep, mN_gate hok hNu (by omega)] at h4
                  exact skip fun q => h4 q.2
        refine inner 3 0 (by omega) τ q' Q' cf' hm9 hQ' (sX_iff hx fun y => ⟨?_, ?_⟩)
        · rintro (h | ⟨p', k, h0, h⟩)
          · exact Or.inl h
          · exact Or.inr ⟨p', k, Or.inl h0, h⟩
        · rintro (h | ⟨p', k, h0, h⟩)
          · exact Or.inl h
          · exact Or.inr ⟨p', k, by omega, h⟩
  have start : ∀ (τ : jm_G) (q' : Nat) (Q' : Nat → Nat) (cf' : Nat → Option Nat), mf [48, 49] [17] σ τ → mQ τ q' Q' cf' → sX q Q cf q' Q' cf' (some x) (fun y => y = 40 + x ∧ t x < rmV m l x) → X (τ, 28, [some (jR 38 0), some (jI (nI x)), some (jJ (lN (inS N g))), none, some (jI (nI m)), some (jI (nI 0)), none], []) := by
    intro τ q' Q' cf' q1 q2 q3
    refine gen (nN N) 0 (by omega) τ q' Q' cf' q1 q2 (sX_iff q3 fun y => ⟨Or.inl, ?_⟩)
    rintro (h | ⟨p', k, h0, -⟩)
    · exact h
    · omega
  refine hg [28, 40] 40 _ ?_
  refine And.intro (vp_in_nI hx4 (by omega)) ?_
  refine h2 x m l σ _ hx4 hm h44 hlx ?_
  have hrm : rmV m l x < 2 ^ 31 := by unfold rmV; split <;> omega
  have et : σ.1 46 0 (nI x).toNatClampNeg = nI (t x) := by rw [ex]; exact hR.1 x hx4
  refine br_c (fun h => ?_) (fun h => ?_)
  · have h : nI (rmV m l x) ≤ σ.1 46 0 (nI x).toNatClampNeg := h
    rw [et, nI_leI hrm (ht x)] at h
    exact start σ q Q cf (mf_refl _ _ _) hQ (sX_iff (sX_refl q Q cf _) fun y => ⟨fun h => h.elim, fun h => by omega⟩)
  · have h : ¬ nI (rmV m l x) ≤ σ.1 46 0 (nI x).toNatClampNeg := h
    rw [et, nI_leI hrm (ht x)] at h
    refine c_mcomes h1 (y := 40 + x) (nI_add 40 x) (show nI x = fN (some x) from rfl) (by omega) hfr hQ fun σ' q3' Q3 cf3 o1 o2 o3 => ?_
    exact start σ' q3' Q3 cf3 o1 o2 (sX_iff o3 fun y => ⟨fun e => ⟨e, by omega⟩, fun e => e.1⟩)
