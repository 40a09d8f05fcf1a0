/-! the model's isCut -/
abbrev ct_misCut (C : jm_C) : Prop := ∀ (N : nw) (K S : Nat) (x : Int32) (σ : jm_G) (post : Option jm_V → jm_G → Prop), nw_ok N → mN N σ → K ≤ 6 → σ.1 38 0 7 = nI K → S < 2 ^ 64 → post (some (jI (bI (icA N K x S)))) (sF σ 0 (nI 0)) → C kX10_isCut [jR 38 0, jI x, jJ (lN S)] σ post
theorem T_misCut (L : Nat) {C : jm_C} (hC : jm_mon C) (h1 : ct_misGate C) (h2 : ct_mmany C) (h3 : ct_coneOf C) (h4 : ct_mhas C) : ct_misCut (jm_up L C) := by
  intro N K S x σ post hok hN hK6 h7 hS hp
  refine jm_start rfl (Nat.le_of_ble_eq_true rfl) hC fun X hg hw => ?_
  have h40 := hok.1
  have hNt := mN_sF hN (k := 0) (by omega) (nI 0)
  have h7t : (sF σ 0 (nI 0)).1 38 0 7 = nI K := by rw [sF_1, if_neg (by omega)]; exact h7
  refine hg [57] 60 _ ?_
  show C kX10_isGate [jR 38 0, jI x] (sF σ 0 (nI 0)) _
  generalize sF σ 0 (nI 0) = τ at hNt h7t hp ⊢
  unfold icA at hp
  refine h1 N x τ _ hok hNt ?_
  refine br_c (fun h => ?_) (fun h => ?_)
  · have h := bI_0.mp h
    rw [h] at hp
    exact And.intro (Or.inl rfl) hp
  · have h := bI_n0.mp h
    rw [h] at hp
    obtain ⟨g, hgn, rfl, hgt⟩ := atN_t (by omega) h
    have eg : (nI g).toNatClampNeg = g := nI_clamp (by omega)
    rw [eg] at hp
    refine And.intro (vp_in_nI (by omega) (by omega)) ?_
    have e42 : lN S &&& (τ.2 42 0 (nI g).toNatClampNeg ^^^ (-1)) = lN (sD S (nB N g)) := by rw [eg, hNt.2.2.2.2.1 g hgn, lN_andn]
    have l1 : sD S (nB N g) < 2 ^ 64 := sD_lt hS
    refine br_c (fun h5 => ?_) (fun h5 => ?_)
    · have h5 : lg_cmp (lN S &&& (τ.2 42 0 (nI g).toNatClampNeg ^^^ (-1))) (lN 0) = 0 := h5
      rw [e42, cmp_0, lN_inj l1 (by omega), sD_0] at h5
      have hS40 : S < 2 ^ 40 := lt40 (g := 40) (by omega) fun j hj => bit_lt (nB_lt40 hok g) (h5 j hj)
      rw [cnt64 hS40] at hp
      have hcS := cnt_le S 40
      refine h2 S τ _ (p40 hS40) ?_
      refine br_c (fun h6 => ?_) (fun h6 => ?_)
      · have h6 : nI (cnt S 40) ≤ τ.1 38 0 7 := h6
        rw [h7t, nI_leI (by omega) (by omega)] at h6
        rw [show decide (cnt S 40 ≤ K) = true by simp; omega] at hp
        refine h3 N g S τ _ hok hNt hgt hS40 ?_
        have hcone : cne N g S < 2 ^ 40 := set_lt fun j hj => by
          cases q : (cne N g S).testBit j with
          | false => rfl
          | true => have := cne_le hok g S j q; omega
        show X (τ, 57, [some (jR 38 0), some (jI (nI g)), some (jJ (lN S)), none, some (jJ (lN (cne N g S))), none, some (jI (bI true)), some (jI (nI 0)), none, none], [])
        have gen : ∀ (d n : Nat), n + d = nN N → ∀ b : Bool, (b = true ↔ ∀ i k, i < n → (cne N g S).testBit i = true → slB N i k = true → isG N (nR N i k) = false → S.testBit (nR N i k) = true) →
            X (τ, 57, [some (jR 38 0), some (jI (nI g)), some (jJ (lN S)), none, some (jJ (lN (cne N g S))), none, some (jI (bI b)), some (jI (nI n)), none, none], []) := by
          intro d
          induction d with
          | zero =>
            intro n hnd b hb
            have e : n = nN N := by omega
            subst e
            refine hg [57] 40 _ ?_
            refine br_c (fun _ => ?_) (fun h => ?_)
            · have eb : seps N g S = b := by
                apply Bool.eq_iff_iff.mpr
                rw [seps_iff, ← cne_sepi hok hgt h5, hb]
                constructor
                · intro q i k hi hc hs hl
                  exact q i _ hc (nR_src (slB_iff.mp hs).1 (slB_iff.mp hs).2) hl
                · intro q i j hc hs hl
                  obtain ⟨hgi, k, hk, e⟩ := src_of hs
                  rw [← e] at hl ⊢
                  exact q i k (isG_lt hgi) hc (slB_iff.mpr ⟨hgi, hk⟩) hl
              rw [eb] at hp
              have hp : post (some (jI (bI b))) τ := hp
              exact And.intro (bI_01 b) hp
            · have h : ¬ τ.1 38 0 1 ≤ nI (nN N) := h
              rw [hNt.1, nI_leI (by omega) (by omega)] at h
              omega
          | succ d ih =>
            intro n hnd b hb
            refine hg [57, 69] 40 _ ?_
            refine br_c (fun h => ?_) (fun _ => ?_)
            · have h : τ.1 38 0 1 ≤ nI n := h
              rw [hNt.1, nI_leI (by omega) (by omega)] at h
              omega
            · have nx : ∀ (k : Nat) (b : Bool), (b = true ↔ ∀ i k, i < n + 1 → (cne N g S).testBit i = true → slB N i k = true → isG N (nR N i k) = false → S.testBit (nR N i k) = true) → X (τ, 57, [some (jR 38 0), some (jI (nI g)), some (jJ (lN S)), none, some (jJ (lN (cne N g S))), none, some (jI (bI b)), some (jI (nI n + nI 1)), some (jI (nI k)), none], []) := by
                intro k b hb
                refine hw _ _ _ [some (jR 38 0), some (jI (nI g)), some (jJ (lN S)), none, some (jJ (lN (cne N g S))), none, some (jI (bI b)), some (jI (nI n + nI 1)), none, none] _ (by repeat' first | exact trivial | exact rfl | apply And.intro) ?_
                rw [nI_add]
                exact ih (n + 1) (by omega) b hb
              have inner : ∀ (e k : Nat), k + e = 3 → ∀ b : Bool, (b = true ↔ ∀ i k', (i < n ∨ (i = n ∧ k' < k)) → (cne N g S).testBit i = true → slB N i k' = true → isG N (nR N i k') = false → S.testBit (nR N i k') = true) →
                  X (τ, 69, [some (jR 38 0), some (jI (nI g)), some (jJ (lN S)), none, some (jJ (lN (cne N g S))), none, some (jI (bI b)), some (jI (nI n)), some (jI (nI k)), none], []) := by
                intro e
                induction e with
                | zero =>
                  intro k hke b hb
                  refine hg [57, 69] 40 _ ?_
                  refine br_c (fun _ => ?_) (fun h => ?_)
                  · refine nx k b (hb.trans ⟨fun q i k' hi => ?_, fun q i k' hi => q i k' (by omega)⟩)
                    intro hc hs
                    have := (slB_lt hok hs).2.2
                    exact q i k' (by omega) hc hs
                  · have h : ¬ nI 3 ≤ nI k := h
                    rw [nI_leI (by omega) (by omega)] at h
                    omega
                | succ e ihe =>
                  intro k hke b hb
                  refine hg [57, 69] 60 _ ?_
                  refine br_c (fun h => ?_) (fun _ => ?_)
                  · have h : nI 3 ≤ nI k := h
                    rw [nI_leI (by omega) (by omega)] at h
                    omega
                  · refine h4 (cne N g S) n τ _ (p40 hcone) (by omega) ?_
                    refine br_c (fun h => ?_) (fun h => ?_)
                    · have h := bI_0.mp h
                      refine nx k b (hb.trans ⟨fun q i k' hi hc => ?_, fun q i k' hi => q i k' (by omega)⟩)
                      by_cases e2 : i = n
                      · rw [e2, h] at hc; cases hc
                      · exact q i k' (Or.inl (by omega)) hc
                    · have hcn := bI_n0.mp h
                      have hgi : isG N n = true := cdn_gate (cut := S) (g + 1) (2 ^ g) (fun i hi => by
                        rw [Nat.testBit_two_pow, decide_eq_true_eq] at hi
                        rw [← hi]; exact hgt) n hcn
                      have es : τ.1 41 0 (nI 3 * nI n + nI k).toNatClampNeg = srcI N n k := by rw [n3I, nI_clamp (by omega)]; exact mN_src hNt hgi (by omega)
                      have go : ∀ (b' : Bool) (w : Int32), (b' = true ↔ b = true ∧ (slB N n k = true → isG N (nR N n k) = false → S.testBit (nR N n k) = true)) → X (τ, 69, [some (jR 38 0), some (jI (nI g)), some (jJ (lN S)), none, some (jJ (lN (cne N g S))), none, some (jI (bI b')), some (jI (nI n)), some (jI (nI k + nI 1)), some (jI w)], []) := by
                        intro b' w hb'
                        refine hw _ _ _ [some (jR 38 0), some (jI (nI g)), some (jJ (lN S)), none, some (jJ (lN (cne N g S))), none, some (jI (bI b')), some (jI (nI n)), some (jI (nI k + nI 1)), none] _ (by repeat' first | exact trivial | exact rfl | apply And.intro) ?_
                        rw [nI_add]
                        refine ihe (k + 1) (by omega) b' (hb'.trans ⟨fun q i k' hi hc hs => ?_, fun q => ⟨hb.mpr fun i k' hi => q i k' (by omega), fun hs => q n k (Or.inr ⟨rfl, by omega⟩) hcn hs⟩⟩)
                        by_cases e2 : i = n ∧ k' = k
                        · rw [e2.1, e2.2] at hs ⊢; exact q.2 hs
                        · exact hb.mp q.1 i k' (by omega) hc hs
                      refine And.intro (show vp_in (nI 3 * nI n + nI k) 120 by rw [n3I]; exact vp_in_nI (by omega) (by omega)) ?_
                      refine br_c (fun h9 => ?_) (fun h9 => ?_)
                      · have h9 := bI_0.mp h9
                        exact go false _ ⟨fun q => (by cases q), fun q => by rw [h9] at q; exact absurd q.1 (fun q => by cases q)⟩
                      · have h9 := bI_n0.mp h9
                        unfold srcI at es
                        by_cases hk : k < ar (nK N n)
                        · rw [if_pos hk] at es
                          have hr := nR_lt hok hgi hk
                          have er : (τ.1 41 0 (nI 3 * nI n + nI k).toNatClampNeg).toNatClampNeg = nR N n k := by rw [es, nI_clamp (by omega)]
                          refine br_c (fun h => ?_) (fun _ => ?_)
                          · have h : τ.1 41 0 (nI 3 * nI n + nI k).toNatClampNeg < 0 := h
                            rw [es] at h
                            exact absurd h (nI_pos (by omega))
                          · refine And.intro (show vp_in (τ.1 41 0 (nI 3 * nI n + nI k).toNatClampNeg) 40 by rw [es]; exact vp_in_nI (by omega) (by omega)) ?_
                            refine br_c (fun h => ?_) (fun h => ?_)
                            · have h : τ.1 39 0 (τ.1 41 0 (nI 3 * nI n + nI k).toNatClampNeg).toNatClampNeg = nI 1 := h
                              rw [er, mN_gate hok hNt (by omega)] at h
                              exact go true _ ⟨fun _ => ⟨h9, fun _ q => by rw [h] at q; cases q⟩, fun _ => rfl⟩
                            · refine c_mhas h4 rfl es (p40 hS40) (by omega) ?_
                              have h : ¬ τ.1 39 0 (τ.1 41 0 (nI 3 * nI n + nI k).toNatClampNeg).toNatClampNeg = nI 1 := h
                              rw [er, mN_gate hok hNt (by omega)] at h
                              have hl : isG N (nR N n k) = false := by simpa using h
                              refine br_c (fun q => ?_) (fun q => ?_)
                              · have q := bI_0.mp q
                                exact go false _ ⟨fun w => (by cases w), fun w => by have := w.2 (slB_iff.mpr ⟨hgi, hk⟩) hl; rw [q] at this; cases this⟩
                              · have q := bI_n0.mp q
                                exact go true _ ⟨fun _ => ⟨h9, fun _ _ => q⟩, fun _ => rfl⟩
                        · rw [if_neg hk] at es
                          refine br_c (fun _ => ?_) (fun h => ?_)
                          · exact go true _ ⟨fun _ => ⟨h9, fun q => absurd (slB_iff.mp q).2 hk⟩, fun _ => rfl⟩
                          · have h : ¬ τ.1 41 0 (nI 3 * nI n + nI k).toNatClampNeg < 0 := h
                            rw [es] at h
                            exact absurd m1_neg h
              exact inner 3 0 (by omega) b (hb.trans ⟨fun q i k' hi => q i k' (by omega), fun q i k' hi => q i k' (Or.inl hi)⟩)
        exact gen (nN N) 0 (by omega) true ⟨fun _ i k hi => absurd hi (by omega), fun _ => rfl⟩
      · have h6 : ¬ nI (cnt S 40) ≤ τ.1 38 0 7 := h6
        rw [h7t, nI_leI (by omega) (by omega)] at h6
        rw [show decide (cnt S 40 ≤ K) = false by simp; omega] at hp
        exact And.intro (Or.inl rfl) hp
    · have h5 : ¬ lg_cmp (lN S &&& (τ.2 42 0 (nI g).toNatClampNeg ^^^ (-1))) (lN 0) = 0 := h5
      rw [e42, cmp_0, lN_inj l1 (by omega)] at h5
      have es : seps N g S = false := by unfold seps; simp [h5]
      rw [es, Bool.and_false] at hp
      exact And.intro (Or.inl rfl) hp
