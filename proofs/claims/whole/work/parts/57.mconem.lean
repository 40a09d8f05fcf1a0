/-! the model's coneOf, walked; rootDepth -/
theorem cpt_lt {N : nw} (hok : nw_ok N) (cut i n : Nat) : cpt N cut i n < 2 ^ 40 := set_lt fun j hj => by
  cases hb : (cpt N cut i n).testBit j with
  | false => rfl
  | true =>
    obtain ⟨k, -, -, -, h4, -⟩ := (cpt_bit N cut i j n).mp hb
    have := isG_lt h4
    have := hok.1
    omega
abbrev ct_coneOf (C : jm_C) : Prop := ∀ (N : nw) (g cut : Nat) (σ : jm_G) (post : Option jm_V → jm_G → Prop), nw_ok N → mN N σ → isG N g = true → cut < 2 ^ 40 → post (some (jJ (lN (cne N g cut)))) σ → C kX10_coneOf [jR 38 0, jI (nI g), jJ (lN cut)] σ post
theorem T_coneOf (L : Nat) {C : jm_C} (hC : jm_mon C) (h1 : ct_mhas C) : ct_coneOf (jm_up L C) := by
  intro N g cut σ post hok hN hgt hcut hp
  refine jm_start rfl (Nat.le_of_ble_eq_true rfl) hC fun X hg hw => ?_
  have h40 := hok.1
  have hgn := isG_lt hgt
  refine hg [8] 30 _ ?_
  show X (σ, 8, [some (jR 38 0), some (jI (nI g)), some (jJ (lN cut)), none, some (jJ (lN 1 <<< ((nI g).toInt64 &&& 63))), none, some (jI (nI g)), none, none], [])
  rw [lN_shl1 (by omega)]
  have gen : ∀ (j R : Nat) (x : Int32), j ≤ nN N → x = nI j + -(nI 1) → R < 2 ^ 40 → (∀ i, R.testBit i = true → isG N i = true) → cdn N cut j R = cne N g cut →
      X (σ, 8, [some (jR 38 0), some (jI (nI g)), some (jJ (lN cut)), none, some (jJ (lN R)), none, some (jI x), none, none], []) := by
    intro j
    induction j with
    | zero =>
      intro R x _ hx hR hgR hrd
      rw [nI_0m1] at hx
      subst hx
      refine hg [8] 30 _ ?_
      refine br_c (fun _ => ?_) (fun h => absurd m1_neg h)
      refine And.intro trivial ?_
      have hrd : R = cne N g cut := hrd
      rw [← hrd] at hp
      exact hp
    | succ j ih =>
      intro R x hj hx hR hgR hrd
      rw [nI_m1] at hx
      subst hx
      rw [cdn] at hrd
      refine hg [8, 16] 30 _ ?_
      refine br_c (fun h => absurd h (nI_pos (by omega))) (fun _ => ?_)
      show X (σ, 16, [some (jR 38 0), some (jI (nI g)), some (jJ (lN cut)), none, some (jJ (lN R)), none, some (jI (nI j)), some (jI (nI 0)), none], [])
      cases hb : R.testBit j with
      | false =>
        rw [hb, if_neg (fun q => by cases q)] at hrd
        refine hg [8, 16] 40 _ ?_
        refine br_c (fun h => ?_) (fun _ => ?_)
        · have h : nI 3 ≤ nI 0 := h
          rw [nI_leI (by omega) (by omega)] at h
          omega
        · refine h1 R j σ _ (p40 hR) (by omega) ?_
          refine br_c (fun _ => ?_) (fun h => ?_)
          · refine hw _ _ _ [some (jR 38 0), some (jI (nI g)), some (jJ (lN cut)), none, some (jJ (lN R)), none, some (jI (nI j + -(nI 1))), none, none] _ (by repeat' first | exact trivial | exact rfl | apply And.intro) ?_
            exact ih R _ (by omega) rfl hR hgR hrd
          · have h := bI_n0.mp h
            rw [hb] at h
            cases h
      | true =>
        rw [hb, if_pos rfl, ← cpt_3 hok] at hrd
        have hgj := hgR j hb
        have inner : ∀ (d k : Nat), k + d = 3 → X (σ, 16, [some (jR 38 0), some (jI (nI g)), some (jJ (lN cut)), none, some (jJ (lN (R ||| cpt N cut j k))), none, some (jI (nI j)), some (jI (nI k)), none], []) := by
          intro d
          induction d with
          | zero =>
            intro k hkd
            have e : k = 3 := by omega
            subst e
            refine hg [8, 16] 40 _ ?_
            refine br_c (fun _ => ?_) (fun h => absurd (show nI 3 ≤ nI 3 from (nI_leI (by omega) (by omega)).mpr (Nat.le_refl _)) h)
            refine hw _ _ _ [some (jR 38 0), some (jI (nI g)), some (jJ (lN cut)), none, some (jJ (lN (R ||| cpt N cut j 3))), none, some (jI (nI j + -(nI 1))), none, none] _ (by repeat' first | exact trivial | exact rfl | apply And.intro) ?_
            refine ih _ _ (by omega) rfl (or_lt hR (cpt_lt hok _ _ _)) (fun i hi => ?_) hrd
            rw [Nat.testBit_or, Bool.or_eq_true] at hi
            rcases hi with q | q
            · exact hgR i q
            · obtain ⟨k, -, -, -, h4, -⟩ := (cpt_bit N cut j i 3).mp q
              exact h4
          | succ d ihd =>
            intro k hkd
            have hS : R ||| cpt N cut j k < 2 ^ 40 := or_lt hR (cpt_lt hok _ _ _)
            have es : σ.1 41 0 (nI 3 * nI j + nI k).toNatClampNeg = srcI N j k := by rw [n3I, nI_clamp (by omega)]; exact mN_src hN hgj (by omega)
            -- nothing more
            have stay : (slB N j k && isG N (nR N j k) && !cut.testBit (nR N j k)) = false → ∀ w : Int32, X (σ, 16, [some (jR 38 0), some (jI (nI g)), some (jJ (lN cut)), none, some (jJ (lN (R ||| cpt N cut j k) ||| lN 0)), none, some (jI (nI j)), some (jI (nI k + nI 1)), some (jI w)], []) := by
              intro hno w
              refine hw _ _ _ [some (jR 38 0), some (jI (nI g)), some (jJ (lN cut)), none, some (jJ (lN (R ||| cpt N cut j k) ||| lN 0)), none, some (jI (nI j)), some (jI (nI k + nI 1)), none] _ (by repeat' first | exact trivial | exact rfl | apply And.intro) ?_
              have := ihd (k + 1) (by omega)
              rw [cpt, if_neg (by rw [hno]; exact fun q => by cases q), Nat.or_zero] at this
              rw [fb_orL, Nat.or_zero, nI_add]
              exact this
            refine hg [8, 16] 60 _ ?_
            refine br_c (fun h => ?_) (fun _ => ?_)
            · have h : nI 3 ≤ nI k := h
              rw [nI_leI (by omega) (by omega)] at h
              omega
            · refine h1 (R ||| cpt N cut j k) j σ _ (p40 hS) (by omega) ?_
              refine br_c (fun h => ?_) (fun _ => ?_)
              · have h := bI_0.mp h
                rw [Nat.testBit_or, hb] at h
                cases h
              · refine And.intro (show vp_in (nI 3 * nI j + nI k) 120 by rw [n3I]; exact vp_in_nI (by omega) (by omega)) ?_
                unfold srcI at es
                by_cases hk : k < ar (nK N j)
                · rw [if_pos hk] at es
                  have hr := nR_lt hok hgj hk
                  have hsl : slB N j k = true := slB_iff.mpr ⟨hgj, hk⟩
                  have er : (σ.1 41 0 (nI 3 * nI j + nI k).toNatClampNeg).toNatClampNeg = nR N j k := by rw [es, nI_clamp (by omega)]
                  refine br_c (fun h => ?_) (fun _ => ?_)
                  · have h : σ.1 41 0 (nI 3 * nI j + nI k).toNatClampNeg < 0 := h
                    rw [es] at h
                    exact absurd h (nI_pos (by omega))
                  · refine And.intro (show vp_in (σ.1 41 0 (nI 3 * nI j + nI k).toNatClampNeg) 40 by rw [es]; exact vp_in_nI (by omega) (by omega)) ?_
                    refine br_c (fun h => ?_) (fun h => ?_)
                    · have h : σ.1 39 0 (σ.1 41 0 (nI 3 * nI j + nI k).toNatClampNeg).toNatClampNeg = nI 1 := h
                      rw [er, mN_gate hok hN (by omega)] at h
                      refine c_mhas h1 rfl es (p40 hcut) (by omega) ?_
                      refine br_c (fun h5 => ?_) (fun h5 => ?_)
                      · have h5 := bI_0.mp h5
                        have := ihd (k + 1) (by omega)
                        rw [cpt, if_pos (by rw [hsl, h, h5]; rfl), ← Nat.or_assoc] at this
                        refine hw _ _ _ [some (jR 38 0), some (jI (nI g)), some (jJ (lN cut)), none, some (jJ (lN (R ||| cpt N cut j k) ||| (lN 1 <<< ((σ.1 41 0 (nI 3 * nI j + nI k).toNatClampNeg).toInt64 &&& 63)))), none, some (jI (nI j)), some (jI (nI k + nI 1)), none] _ (by repeat' first | exact trivial | exact rfl | apply And.intro) ?_
                        rw [es, lN_shl1 (by omega), fb_orL, nI_add]
                        exact this
                      · have h5 := bI_n0.mp h5
                        exact stay (by rw [h5]; simp) _
                    · have h : ¬ σ.1 39 0 (σ.1 41 0 (nI 3 * nI j + nI k).toNatClampNeg).toNatClampNeg = nI 1 := h
                      rw [er, mN_gate hok hN (by omega)] at h
                      have h : isG N (nR N j k) = false := by simpa using h
                      exact stay (by rw [h]; simp) _
                · rw [if_neg hk] at es
                  refine br_c (fun _ => ?_) (fun h => ?_)
                  · refine stay ?_ _
                    have : slB N j k = false := by
                      cases q : slB N j k with
                      | false => rfl
                      | true => exact absurd (slB_iff.mp q).2 hk
                    rw [this]; rfl
                  · have h : ¬ σ.1 41 0 (nI 3 * nI j + nI k).toNatClampNeg < 0 := h
                    rw [es] at h
                    exact absurd m1_neg h
        have := inner 3 0 (by omega)
        have this : X (σ, 16, [some (jR 38 0), some (jI (nI g)), some (jJ (lN cut)), none, some (jJ (lN (R ||| 0))), none, some (jI (nI j)), some (jI (nI 0)), none], []) := this
        rw [Nat.or_zero] at this
        exact this
  refine gen (g + 1) (2 ^ g) (nI g) (by omega) (nI_m1 g).symm (pw_lt (by omega)) (fun i hi => ?_) rfl
  rw [Nat.testBit_two_pow, decide_eq_true_eq] at hi
  rw [← hi]; exact hgt
