/-! the model's lays -/
def lyA : List Nat := [44, 45, 46, 47, 48, 49, 50, 51, 52]
def lyB : List Nat := [9, 17, 21]
def mL (N : nw) (K n : Nat) (σ : jm_G) : Prop := (∀ j, j < n → σ.1 44 0 j = nI (lev N K j) ∧ σ.2 45 0 j = lN (nea N K j)) ∧ mkR σ n (kp N K) ∧ nOK N K n
abbrev ct_lays (C : jm_C) : Prop := ∀ (N : nw) (K : Nat) (b : Bool) (σ : jm_G) (post : Option jm_V → jm_G → Prop), nw_ok N → mN N σ → 3 ≤ K → K ≤ 6 → σ.1 38 0 7 = nI K → σ.1 38 0 9 = bI b → (b = true → mL N K (nN N) σ) →
  (∀ σ', mf lyA lyB σ σ' → mL N K (nN N) σ' → σ'.1 38 0 9 = bI true → post none σ') → C kX10_lays [jR 38 0] σ post
theorem T_lays (L : Nat) {C : jm_C} (hC : jm_mon C) (h1 : ct_cutOff C) (h2 : ct_mlayK C) : ct_lays (jm_up L C) := by
  intro N K b σ post hok hN hK hK6 h7 h9 hlaid hp
  refine jm_start rfl (Nat.le_of_ble_eq_true rfl) hC fun X hg hw => ?_
  have h40 := hok.1
  refine hg [15] 30 _ ?_
  refine br_c (fun h => ?_) (fun h => ?_)
  · refine And.intro (Or.inr rfl) ?_
    show X (wI σ 38 0 (upd (σ.1 38 0) 9 (nI 1)), 15, [some (jR 38 0), some (jI (nI 0)), none], [])
    have gen : ∀ (d n : Nat), n + d = nN N → ∀ (τ : jm_G), mf lyA lyB σ τ → τ.1 38 0 9 = nI 1 → mL N K n τ → X (τ, 15, [some (jR 38 0), some (jI (nI n)), none], []) := by
      intro d
      induction d with
      | zero =>
        intro n hnd τ hf e9 hL
        have e : n = nN N := by omega
        subst e
        have hNt := mN_mf hN hf (by decide) (by decide)
        refine hg [15] 30 _ ?_
        refine br_c (fun _ => And.intro trivial (hp τ hf hL e9)) (fun h => ?_)
        have h : ¬ τ.1 38 0 1 ≤ nI (nN N) := h
        rw [hNt.1, nI_leI (by omega) (by omega)] at h
        omega
      | succ d ih =>
        intro n hnd τ hf e9 hL
        have hNt := mN_mf hN hf (by decide) (by decide)
        have en : (nI n).toNatClampNeg = n := nI_clamp (by omega)
        have hin : vp_in (nI n) 40 := vp_in_nI (by omega) (by omega)
        obtain ⟨l1, l2, l3⟩ := hL
        refine hg [15, 65] 60 _ ?_
        refine br_c (fun h => ?_) (fun _ => ?_)
        · have h : τ.1 38 0 1 ≤ nI n := h
          rw [hNt.1, nI_leI (by omega) (by omega)] at h
          omega
        · refine And.intro hin ?_
          refine And.intro hin ?_
          refine And.intro hin ?_
          refine And.intro hin ?_
          have e39 : (wI (wJ (wI τ 44 0 (upd (τ.1 44 0) (nI n).toNatClampNeg (nI 0))) 45 0 (vp_updL (τ.2 45 0) (nI n).toNatClampNeg (lN 0))) 51 0 (upd (τ.1 51 0) (nI n).toNatClampNeg (nI 0))).1 39 0 = τ.1 39 0 := rfl
          refine br_c (fun h => ?_) (fun h => ?_)
          · have h : τ.1 39 0 (nI n).toNatClampNeg = nI 1 := h
            rw [en, mN_gate hok hNt (by omega)] at h
            refine And.intro hin ?_
            show X (wI (wI (wJ (wI τ 44 0 (upd (τ.1 44 0) (nI n).toNatClampNeg (nI 0))) 45 0 (vp_updL (τ.2 45 0) (nI n).toNatClampNeg (lN 0))) 51 0 (upd (τ.1 51 0) (nI n).toNatClampNeg (nI 0))) 44 0 (upd (upd (τ.1 44 0) (nI n).toNatClampNeg (nI 0)) (nI n).toNatClampNeg (nI 1000)), 65, [some (jR 38 0), some (jI (nI n)), some (jI (nI 1))], [])
            rw [en]
            have st0 : ∀ (υ : jm_G), υ = wI (wI (wJ (wI τ 44 0 (upd (τ.1 44 0) n (nI 0))) 45 0 (vp_updL (τ.2 45 0) n (lN 0))) 51 0 (upd (τ.1 51 0) n (nI 0))) 44 0 (upd (upd (τ.1 44 0) n (nI 0)) n (nI 1000)) → mf lyA lyB τ υ ∧ υ.1 38 0 = τ.1 38 0 ∧ (∀ j, j ≠ n → υ.1 44 0 j = τ.1 44 0 j) ∧ (∀ j, j ≠ n → υ.2 45 0 j = τ.2 45 0 j) ∧ (∀ j, j ≠ n → υ.1 51 0 j = τ.1 51 0 j) ∧ υ.2 50 0 = τ.2 50 0 := by
              rintro υ rfl
              refine ⟨mf_wI (mf_wI (mf_wJ (mf_wI (mf_refl _ _ _) (by decide) (by decide)) (by decide) (by decide)) (by decide) (by decide)) (by decide) (by decide), rfl, fun j hj => ?_, fun j hj => ?_, fun j hj => ?_, rfl⟩
              · show upd (upd (τ.1 44 0) n (nI 0)) n (nI 1000) j = _
                rw [upd_at, if_neg hj, upd_at, if_neg hj]
              · show vp_updL (τ.2 45 0) n (lN 0) j = _
                rw [updL_at, if_neg hj]
              · show upd (τ.1 51 0) n (nI 0) j = _
                rw [upd_at, if_neg hj]
            generalize wI (wI (wJ (wI τ 44 0 (upd (τ.1 44 0) n (nI 0))) 45 0 (vp_updL (τ.2 45 0) n (lN 0))) 51 0 (upd (τ.1 51 0) n (nI 0))) 44 0 (upd (upd (τ.1 44 0) n (nI 0)) n (nI 1000)) = υ0 at st0 ⊢
            obtain ⟨s1, s2, s3, s4, s5, s6⟩ := st0 υ0 rfl
            have hlg := lev_bound hok hK (N := N) (K := K) n
            -- one level after another
            have lvl : ∀ (e m : Nat), m + e = lev N K n → 1 ≤ m → ∀ (υ : jm_G), mf lyA lyB τ υ → υ.1 38 0 9 = nI 1 → (∀ j, j ≠ n → υ.1 44 0 j = τ.1 44 0 j) → (∀ j, j ≠ n → υ.2 45 0 j = τ.2 45 0 j) → (∀ j, j ≠ n → υ.1 51 0 j = τ.1 51 0 j) → υ.2 50 0 = τ.2 50 0 →
                X (υ, 65, [some (jR 38 0), some (jI (nI n)), some (jI (nI m))], []) := by
              intro e
              induction e with
              | zero =>
                intro m hme hm1 υ q1 q9 q2 q3 q4 q5
                have hfu := mf_trans hf q1
                have hNu := mN_mf hN hfu (by decide) (by decide)
                have e7 : υ.1 38 0 7 = nI K := by rw [(hfu.2 0 7 (by decide)).1]; exact h7
                have hlv : ∀ v, v < n → υ.1 44 0 v = nI (lev N K v) := fun v hv => by rw [q2 v (by omega)]; exact (l1 v hv).1
                refine hg [15, 65] 60 _ ?_
                refine h1 N n m K υ _ hok hNu h hm1 (by omega) hK hK6 e7 (fun v hv => ⟨hlv v (nB_lt hok _ _ hv), by have := lev_bound hok hK (N := N) (K := K) v; have := nB_lt hok _ _ hv; omega⟩) ?_ ?_
                · intro ω U o1 o2 o3 o4 o5
                  refine br_c (fun h0 => absurd h0 (by decide)) (fun _ => ?_)
                  have hlm : lev N K n = m := by omega
                  have hU : nearC N n (Cm N (lev N K) n (lev N K n)) U := by rw [hlm]; exact o3
                  have hnO : nOK N K (n + 1) := by
                    intro s hs hsg
                    by_cases e : s = n
                    · rw [e, nea_eq hok h hU]; exact ⟨hU, o4⟩
                    · exact l3 s (by omega) hsg
                  have hfw : mf lyA lyB σ ω := mf_trans hfu (mf_wide o1 (by decide) (by decide))
                  have hN2 : mN N (wI ω 44 0 (upd (ω.1 44 0) (nI n).toNatClampNeg (nI m))) := mN_mf hN (mf_wI hfw (by decide) (by decide)) (by decide) (by decide)
                  have f44 : ω.1 44 0 = υ.1 44 0 := (o1.1 44 0 (by omega) (by decide)).1
                  have f51 : ω.1 51 0 = υ.1 51 0 := (o1.1 51 0 (by omega) (by decide)).1
                  have f50 : ω.2 50 0 = υ.2 50 0 := (o1.1 50 0 (by omega) (by decide)).2
                  refine And.intro hin ?_
                  refine h2 N n K (wI ω 44 0 (upd (ω.1 44 0) (nI n).toNatClampNeg (nI m))) _ hok hN2 h hK hK6 ?_ (fun j hj => ?_) ?_ hnO (fun s hs => ?_) fun ψ p1 p2 p3 p4 p5 => ?_
                  · show ω.1 38 0 7 = nI K
                    rw [(hfw.2 0 7 (by decide)).1]; exact h7
                  · rw [wI1, if_pos ⟨rfl, rfl⟩, en, upd_at, if_neg (by omega), f44]
                    exact ⟨hlv j hj, by have := lev_bound hok hK (N := N) (K := K) j; omega⟩
                  · show ω.2 45 0 n = _
                    rw [o5, nea_eq hok h hU]
                  · show _ ∧ ω.1 51 0 s = _ ∧ ∀ c, c < _ → ω.2 50 0 (8 * s + c) = _
                    rw [f51, f50, q4 s (by omega), q5]
                    exact l2 s hs
                  · refine hw _ _ _ [some (jR 38 0), some (jI (nI n + nI 1)), none] _ (by repeat' first | exact trivial | exact rfl | apply And.intro) ?_
                    rw [nI_add]
                    refine ih (n + 1) (by omega) ψ (mf_trans (mf_wI hfw (by decide) (by decide)) (mf_wide p1 (by decide) (by decide))) ?_ ⟨fun j hj => ?_, fun s hs => ?_, hnO⟩
                    · rw [(p1.2 0 9 (by decide)).1]
                      show ω.1 38 0 9 = nI 1
                      rw [(o1.2 0 9 (by decide)).1]; exact q9
                    · rw [(p1.1 44 0 (by omega) (by decide)).1, (p1.1 45 0 (by omega) (by decide)).2, wI1, if_pos ⟨rfl, rfl⟩, en, upd_at, wI2]
                      by_cases e : j = n
                      · rw [e, if_pos rfl, o5, nea_eq hok h hU, hlm]; exact ⟨rfl, rfl⟩
                      · rw [if_neg e, f44, q2 j e, o2 j e, q3 j e]; exact l1 j (by omega)
                    · by_cases e : s = n
                      · rw [e]; exact ⟨kp_le hok, p4, p5⟩
                      · have := l2 s (by omega)
                        rw [p2 s e]
                        show _ ∧ ω.1 51 0 s = _ ∧ _
                        rw [f51, q4 s e]
                        refine ⟨this.1, this.2.1, fun c hc => ?_⟩
                        have h8 := this.1
                        rw [p3 _ (by omega)]
                        show ω.2 50 0 (8 * s + c) = _
                        rw [f50, q5]
                        exact this.2.2 c hc
                · intro hno
                  exfalso
                  apply hno
                  have := (lev_spec hok hK h).1
                  rw [show m = lev N K n by omega]
                  exact this
              | succ e ihe =>
                intro m hme hm1 υ q1 q9 q2 q3 q4 q5
                have hfu := mf_trans hf q1
                have hNu := mN_mf hN hfu (by decide) (by decide)
                have e7 : υ.1 38 0 7 = nI K := by rw [(hfu.2 0 7 (by decide)).1]; exact h7
                have hlv : ∀ v, v < n → υ.1 44 0 v = nI (lev N K v) := fun v hv => by rw [q2 v (by omega)]; exact (l1 v hv).1
                refine hg [15, 65] 60 _ ?_
                refine h1 N n m K υ _ hok hNu h hm1 (by omega) hK hK6 e7 (fun v hv => ⟨hlv v (nB_lt hok _ _ hv), by have := lev_bound hok hK (N := N) (K := K) v; have := nB_lt hok _ _ hv; omega⟩) ?_ ?_
                · intro ω U o1 o2 o3 o4 o5
                  exfalso
                  have := lev_le hok hK h ((near_cutt hok o3).mpr o4)
                  omega
                · intro hno ω o1 o2
                  refine br_c (fun _ => ?_) (fun h0 => absurd rfl h0)
                  show X (ω, 65, [some (jR 38 0), some (jI (nI n)), some (jI (nI m + nI 1))], [])
                  rw [nI_add]
                  refine ihe (m + 1) (by omega) (by omega) ω (mf_trans q1 (mf_wide o1 (by decide) (by decide))) (by rw [(o1.2 0 9 (by decide)).1]; exact q9) (fun j hj => ?_) (fun j hj => ?_) (fun j hj => ?_) ?_
                  · rw [(o1.1 44 0 (by omega) (by decide)).1]; exact q2 j hj
                  · rw [o2 j hj]; exact q3 j hj
                  · rw [(o1.1 51 0 (by omega) (by decide)).1]; exact q4 j hj
                  · rw [(o1.1 50 0 (by omega) (by decide)).2]; exact q5
            exact lvl (lev N K n - 1) 1 (by have := lev_pos hok hK h; omega) (by omega) υ0 s1 (by rw [s2]; exact e9) s3 s4 s5 s6
          · have h : ¬ τ.1 39 0 (nI n).toNatClampNeg = nI 1 := h
            rw [en, mN_gate hok hNt (by omega)] at h
            have h : isG N n = false := by simpa using h
            show X (wI (wJ (wI τ 44 0 (upd (τ.1 44 0) (nI n).toNatClampNeg (nI 0))) 45 0 (vp_updL (τ.2 45 0) (nI n).toNatClampNeg (lN 0))) 51 0 (upd (τ.1 51 0) (nI n).toNatClampNeg (nI 0)), 15, [some (jR 38 0), some (jI (nI n + nI 1)), none], [])
            rw [en, nI_add]
            refine ih (n + 1) (by omega) _ (mf_wI (mf_wJ (mf_wI hf (by decide) (by decide)) (by decide) (by decide)) (by decide) (by decide)) e9 ⟨fun j hj => ?_, fun s hs => ?_, fun s hs hsg => ?_⟩
            · show upd (τ.1 44 0) n (nI 0) j = _ ∧ vp_updL (τ.2 45 0) n (lN 0) j = _
              rw [upd_at, updL_at]
              by_cases e : j = n
              · rw [e, if_pos rfl, if_pos rfl, lev_leaf h, nea_leaf h]; exact ⟨rfl, rfl⟩
              · rw [if_neg e, if_neg e]; exact l1 j (by omega)
            · show _ ∧ upd (τ.1 51 0) n (nI 0) s = _ ∧ ∀ c, c < _ → τ.2 50 0 (8 * s + c) = _
              rw [upd_at]
              by_cases e : s = n
              · rw [e, if_pos rfl, kp_leaf h]
                exact ⟨Nat.zero_le _, rfl, fun c hc => absurd hc (Nat.not_lt_zero _)⟩
              · rw [if_neg e]; exact l2 s (by omega)
            · by_cases e : s = n
              · rw [e, h] at hsg; cases hsg
              · exact l3 s (by omega) hsg
    refine gen (nN N) 0 (by omega) _ (mf_sF (mf_refl _ _ _) (by decide)) ?_ ⟨fun j hj => absurd hj (by omega), fun s hs => absurd hs (by omega), fun s hs => absurd hs (by omega)⟩
    rw [wI1, if_pos ⟨rfl, rfl⟩, upd_at, if_pos rfl]
  · have h : ¬ σ.1 38 0 9 = 0 := h
    rw [h9] at h
    have hb := bI_n0.mp h
    refine And.intro trivial (hp σ (mf_refl _ _ _) (hlaid hb) ?_)
    rw [h9, hb]
