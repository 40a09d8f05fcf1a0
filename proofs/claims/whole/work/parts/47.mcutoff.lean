/-! the model's isCutOff -/
def coA : List Nat := [45, 46, 47, 48, 49]
abbrev ct_cutOff (C : jm_C) : Prop := ∀ (N : nw) (g m K : Nat) (σ : jm_G) (post : Option jm_V → jm_G → Prop), nw_ok N → mN N σ → isG N g = true → 1 ≤ m → m < 2 ^ 31 → 3 ≤ K → K ≤ 6 → σ.1 38 0 7 = nI K → (∀ v, (nB N g).testBit v = true → σ.1 44 0 v = nI (lev N K v) ∧ lev N K v < 2 ^ 31) →
  (∀ σ' U, mf coA [17] σ σ' → (∀ j, j ≠ g → σ'.2 45 0 j = σ.2 45 0 j) → nearC N g (Cm N (lev N K) g m) U → cnt U 40 ≤ K → σ'.2 45 0 g = lN U → post (some (jI (nI 1))) σ') →
  (¬ cutt N K (lev N K) g m → ∀ σ', mf coA [17] σ σ' → (∀ j, j ≠ g → σ'.2 45 0 j = σ.2 45 0 j) → post (some (jI (nI 0))) σ') → C kX10_isCutOff [jR 38 0, jI (nI g), jI (nI m)] σ post
theorem T_cutOff (L : Nat) {C : jm_C} (hC : jm_mon C) (h1 : ct_spreads C) (h2 : ct_flows C) : ct_cutOff (jm_up L C) := by
  intro N g m K σ post hok hN hgt hm1 hm hK hK6 h7 hl hp1 hp0
  refine jm_start rfl (Nat.le_of_ble_eq_true rfl) hC fun X hg hw => ?_
  have h40 := hok.1
  have hgn := isG_lt hgt
  have eg : (nI g).toNatClampNeg = g := nI_clamp (by omega)
  have hing : vp_in (nI g) 40 := vp_in_nI (by omega) (by omega)
  have hCok := Cm_ok (m := m) hok hK hgt hm1
  have hCm : ∀ v, (nB N g).testBit v = true → (Cm N (lev N K) g m).testBit v = false → lev N K v < m := fun v q1 q2 => Nat.lt_of_not_le fun q => by
    have := (Cm_bit hok (lev N K) g m v).mpr (Or.inr ⟨q1, q⟩)
    rw [q2] at this
    cases this
  have w48 : ∀ {υ τ : jm_G}, mf [48, 49] [17] υ τ → mf coA [17] υ τ := fun h => mf_wide h (by decide) (by decide)
  have w46 : ∀ {υ τ : jm_G}, mf [46, 47] [] υ τ → mf coA [17] υ τ := fun h => mf_wide h (by decide) (by decide)
  -- the cut is told
  have tell : ∀ (τ : jm_G) (q F : Nat) (Q : Nat → Nat) (cf : Nat → Option Nat) (z : Int32), F < 900 → mf coA [17] σ τ → mQ τ q Q cf → (∀ j, j ≠ g → τ.2 45 0 j = σ.2 45 0 j) →
      (∀ U, (∀ v, U.testBit v = true ↔ v < 40 ∧ (∃ i, i < q ∧ Q i = v) ∧ ¬ ∃ i, i < q ∧ Q i = 40 + v) → (z < 0 ∧ F ≤ K ∧ nearC N g (Cm N (lev N K) g m) U ∧ cnt U 40 ≤ K) ∨ ((¬ z < 0 ∨ K < F) ∧ ¬ cutt N K (lev N K) g m)) → (∀ i, i < q → ∃ v, v < nN N ∧ (Q i = v ∨ Q i = 40 + v)) →
      ∀ (d j : Nat), j + d = nN N → ∀ (υ : jm_G) (P : Nat → Bool), mf coA [17] τ υ → υ.1 48 0 = τ.1 48 0 → (∀ j, j ≠ g → υ.2 45 0 j = τ.2 45 0 j) → (∀ v, P v = true ↔ (∃ i, i < q ∧ Q i = v) ∧ ¬ ∃ i, i < q ∧ Q i = 40 + v) → υ.2 45 0 g = lN (mk P j) →
      X (υ, 95, [some (jR 38 0), some (jI (nI g)), some (jI (nI m)), some (jI (nI F)), some (jI z), some (jI (nI j))], []) := by
    intro τ q F Q cf z hF hf hQ h45 hend hsm d
    induction d with
    | zero =>
      intro j hjd υ P q1 q2 q3 q4 q5
      have e : j = nN N := by omega
      subst e
      have hfu := mf_trans hf q1
      have hNu := mN_mf hN hfu (by decide) (by decide)
      have e7 : υ.1 38 0 7 = nI K := by rw [(hfu.2 0 7 (by decide)).1]; exact h7
      have hU : ∀ v, (mk P (nN N)).testBit v = true ↔ v < 40 ∧ (∃ i, i < q ∧ Q i = v) ∧ ¬ ∃ i, i < q ∧ Q i = 40 + v := by
        intro v
        rw [mk_bit, Bool.and_eq_true, decide_eq_true_eq, q4]
        refine ⟨fun h => ⟨by omega, h.2⟩, fun h => ⟨?_, h.2⟩⟩
        obtain ⟨hv4, ⟨i, hi, e⟩, hno⟩ := h
        obtain ⟨w, hw9, hq9⟩ := hsm i hi
        rcases hq9 with e2 | e2
        · omega
        · omega
      refine hg [95] 60 _ ?_
      refine br_c (fun _ => ?_) (fun h => ?_)
      · rcases hend _ hU with ⟨z1, z2, z3, z4⟩ | ⟨z1, z2⟩
        · refine br_c (fun h => ?_) (fun _ => ?_)
          · have h : 0 ≤ z := h
            exact absurd z1 (Int32.not_lt.mpr h)
          · refine br_c (fun h => ?_) (fun _ => ?_)
            · have h : υ.1 38 0 7 < nI F := h
              rw [e7, nI_ltI (by omega) (by omega)] at h
              omega
            · exact And.intro (Or.inr rfl) (hp1 υ _ hfu (fun j hj => (q3 j hj).trans (h45 j hj)) z3 z4 q5)
        · refine br_c (fun _ => ?_) (fun h => ?_)
          · exact And.intro (Or.inl rfl) (hp0 z2 υ hfu (fun j hj => (q3 j hj).trans (h45 j hj)))
          · have h : ¬ 0 ≤ z := h
            have h := Int32.not_le.mp h
            refine br_c (fun _ => ?_) (fun h3 => ?_)
            · exact And.intro (Or.inl rfl) (hp0 z2 υ hfu (fun j hj => (q3 j hj).trans (h45 j hj)))
            · have h3 : ¬ υ.1 38 0 7 < nI F := h3
              rw [e7, nI_ltI (by omega) (by omega)] at h3
              rcases z1 with z1 | z1
              · exact absurd h z1
              · omega
      · have h : ¬ υ.1 38 0 1 ≤ nI (nN N) := h
        rw [hNu.1, nI_leI (by omega) (by omega)] at h
        omega
    | succ d ih =>
      intro j hjd υ P q1 q2 q3 q4 q5
      have hfu := mf_trans hf q1
      have hNu := mN_mf hN hfu (by decide) (by decide)
      have ej : (nI j).toNatClampNeg = j := nI_clamp (by omega)
      have e4j : nI 40 + nI j = nI (40 + j) := nI_add 40 j
      have seen : ∀ x, x < 80 → (υ.1 48 0 x = -(nI 1) ↔ ¬ ∃ i, i < q ∧ Q i = x) := by
        intro x hx
        rw [q2]
        constructor
        · rintro h ⟨i, hi, e⟩
          obtain ⟨-, -, h3, h4⟩ := hQ.2.1 i hi
          rw [e] at h3
          rw [h3] at h
          exact fN_ne (by rw [← e]; exact h4) h
        · exact hQ.2.2.2 x hx
      have stay : P j = false → X (wJ υ 45 0 (vp_updL (υ.2 45 0) (nI g).toNatClampNeg (υ.2 45 0 (nI g).toNatClampNeg ||| lN 0)), 95, [some (jR 38 0), some (jI (nI g)), some (jI (nI m)), some (jI (nI F)), some (jI z), some (jI (nI j + nI 1))], []) := by
        intro hPj
        rw [eg, nI_add]
        refine ih (j + 1) (by omega) _ P (mf_wJ q1 (by decide) (by decide)) q2 (fun i hi => ?_) q4 ?_
        · rw [wJ2, if_pos ⟨rfl, rfl⟩, updL_at, if_neg hi]; exact q3 i hi
        · rw [wJ2, if_pos ⟨rfl, rfl⟩, updL_at, if_pos rfl, q5, fb_orL, mk, hPj]
          simp
      refine hg [95] 60 _ ?_
      refine br_c (fun h => ?_) (fun _ => ?_)
      · have h : υ.1 38 0 1 ≤ nI j := h
        rw [hNu.1, nI_leI (by omega) (by omega)] at h
        omega
      · refine And.intro hing ?_
        refine And.intro (vp_in_nI (by omega) (by omega)) ?_
        refine br_c (fun h => ?_) (fun h => ?_)
        · have h : υ.1 48 0 (nI j).toNatClampNeg = -(nI 1) := h
          rw [ej, seen j (by omega)] at h
          refine And.intro hing ?_
          apply stay
          cases hPj : P j with
          | false => rfl
          | true => exact absurd ((q4 j).mp hPj).1 h
        · have h : ¬ υ.1 48 0 (nI j).toNatClampNeg = -(nI 1) := h
          rw [ej, seen j (by omega)] at h
          have h := Classical.not_not.mp h
          refine And.intro (show vp_in (nI 40 + nI j) 80 by rw [e4j]; exact vp_in_nI (by omega) (by omega)) ?_
          refine br_c (fun h5 => ?_) (fun h5 => ?_)
          · have h5 : υ.1 48 0 (nI 40 + nI j).toNatClampNeg = -(nI 1) := h5
            rw [e4j, nI_clamp (by omega), seen (40 + j) (by omega)] at h5
            refine And.intro hing ?_
            have hPj : P j = true := (q4 j).mpr ⟨h, h5⟩
            show X (wJ υ 45 0 (vp_updL (υ.2 45 0) (nI g).toNatClampNeg (υ.2 45 0 (nI g).toNatClampNeg ||| (lN 1 <<< ((nI j).toInt64 &&& 63)))), 95, [some (jR 38 0), some (jI (nI g)), some (jI (nI m)), some (jI (nI F)), some (jI z), some (jI (nI j + nI 1))], [])
            rw [eg, nI_add]
            refine ih (j + 1) (by omega) _ P (mf_wJ q1 (by decide) (by decide)) q2 (fun i hi => ?_) q4 ?_
            · rw [wJ2, if_pos ⟨rfl, rfl⟩, updL_at, if_neg hi]; exact q3 i hi
            · rw [wJ2, if_pos ⟨rfl, rfl⟩, updL_at, if_pos rfl, q5, lN_shl1 (by omega), fb_orL, mk, hPj, if_pos rfl]
          · have h5 : ¬ υ.1 48 0 (nI 40 + nI j).toNatClampNeg = -(nI 1) := h5
            rw [e4j, nI_clamp (by omega), seen (40 + j) (by omega)] at h5
            have h5 := Classical.not_not.mp h5
            refine And.intro hing ?_
            apply stay
            cases hPj : P j with
            | false => rfl
            | true => exact absurd h5 ((q4 j).mp hPj).2
  -- what a search's ends are
  have small : ∀ {t : Nat → Nat} {a : Nat → Nat → Nat} {Q : Nat → Nat} {q p : Nat} {cf : Nat → Option Nat}, bM N g m (lev N K) t a Q q p cf → ∀ i, i < q → ∃ v, v < nN N ∧ (Q i = v ∨ Q i = 40 + v) := by
    intro t a Q q p cf hb i hi
    have hn : ∀ v, iN N g v → v < nN N := fun v h => by
      rcases h with e | e
      · omega
      · exact nB_lt_n hok e
    rcases hb.2.2.2.1 i hi with ⟨-, h⟩ | ⟨h1, -, h2⟩
    · exact ⟨Q i, hn _ h, Or.inl rfl⟩
    · exact ⟨Q i - 40, hn _ h2, Or.inr (by omega)⟩
  have begin9 : ∀ (τ : jm_G) (q F : Nat) (Q : Nat → Nat) (cf : Nat → Option Nat) (z : Int32), F < 900 → mf coA [17] σ τ → mQ τ q Q cf → (∀ j, j ≠ g → τ.2 45 0 j = σ.2 45 0 j) →
      (∀ U, (∀ v, U.testBit v = true ↔ v < 40 ∧ (∃ i, i < q ∧ Q i = v) ∧ ¬ ∃ i, i < q ∧ Q i = 40 + v) → (z < 0 ∧ F ≤ K ∧ nearC N g (Cm N (lev N K) g m) U ∧ cnt U 40 ≤ K) ∨ ((¬ z < 0 ∨ K < F) ∧ ¬ cutt N K (lev N K) g m)) → (∀ i, i < q → ∃ v, v < nN N ∧ (Q i = v ∨ Q i = 40 + v)) →
      X (wJ τ 45 0 (vp_updL (τ.2 45 0) (nI g).toNatClampNeg (lN 0)), 95, [some (jR 38 0), some (jI (nI g)), some (jI (nI m)), some (jI (nI F)), some (jI z), some (jI (nI 0))], []) := by
    intro τ q F Q cf z q1 q2 q3 q4 q5 q6
    obtain ⟨P, hP⟩ : ∃ P : Nat → Bool, ∀ v, P v = true ↔ ((∃ i, i < q ∧ Q i = v) ∧ ¬ ∃ i, i < q ∧ Q i = 40 + v) := pick _
    refine tell τ q F Q cf z q1 q2 q3 q4 q5 q6 (nN N) 0 (by omega) _ P (mf_wJ (mf_refl _ _ _) (by decide) (by decide)) rfl (fun j hj => ?_) hP ?_
    · rw [wJ2, if_pos ⟨rfl, rfl⟩, eg, updL_at, if_neg hj]
    · rw [wJ2, if_pos ⟨rfl, rfl⟩, eg, updL_at, if_pos rfl]
      rfl
  -- one flow after another
  have loop : ∀ (d F : Nat), F + d = K + 1 → ∀ (τ : jm_G) (t : Nat → Nat) (a : Nat → Nat → Nat), mf coA [17] σ τ → (∀ j, j ≠ g → τ.2 45 0 j = σ.2 45 0 j) → fR τ t a → mF N g m (lev N K) t a F →
      (∀ q Q cf, mQ τ q Q cf → bM N g m (lev N K) t a Q q q cf → X (τ, 52, [some (jR 38 0), some (jI (nI g)), some (jI (nI m)), some (jI (nI F)), some (jI (-(nI 1))), none], [])) ∧
      (∀ q p Q cf leaf, mQ τ q Q cf → bM N g m (lev N K) t a Q q p cf → p < q → Q p = 40 + leaf → isG N leaf = false → leaf < 40 → X (τ, 52, [some (jR 38 0), some (jI (nI g)), some (jI (nI m)), some (jI (nI F)), some (jI (nI (40 + leaf))), none], [])) := by
    intro d
    induction d with
    | zero =>
      intro F hFd τ t a hf h45 hRt hF
      have e7 : τ.1 38 0 7 = nI K := by rw [(hf.2 0 7 (by decide)).1]; exact h7
      refine ⟨fun q Q cf hQ hb => ?_, fun q p Q cf leaf hQ hb hpq hQp hlf hl4 => ?_⟩
      · refine hg [95] 60 _ ?_
        refine br_c (fun _ => ?_) (fun h => absurd m1_neg h)
        refine And.intro hing ?_
        refine begin9 τ q F Q cf _ (by omega) hf hQ h45 (fun U hU => ?_) (small hb)
        obtain ⟨r1, r2⟩ := bM_near hok hK hgt hm1 (by omega) hF hb hU
        refine Or.inr ⟨Or.inr (by omega), fun hc => ?_⟩
        have := (near_cutt hok r1).mp hc
        omega
      · refine hg [95] 60 _ ?_
        refine br_c (fun h => absurd h (nI_pos (by omega))) (fun _ => ?_)
        refine br_c (fun _ => ?_) (fun h => ?_)
        · refine And.intro hing ?_
          refine begin9 τ q F Q cf _ (by omega) hf hQ h45 (fun U hU => ?_) (small hb)
          refine Or.inr ⟨Or.inl (nI_pos (by omega)), ?_⟩
          rintro ⟨T, t1, t2, t3⟩
          obtain ⟨f1, f2⟩ := mF_fl hok hCok hCm hF
          have := flow_le hok hCok f1 t1 ((Cm_dis hok t1).mpr t3)
          omega
        · have h : ¬ τ.1 38 0 7 < nI F := h
          rw [e7, nI_ltI (by omega) (by omega)] at h
          omega
    | succ d ih =>
      intro F hFd τ t a hf h45 hRt hF
      have e7 : τ.1 38 0 7 = nI K := by rw [(hf.2 0 7 (by decide)).1]; exact h7
      have hNt := mN_mf hN hf (by decide) (by decide)
      refine ⟨fun q Q cf hQ hb => ?_, fun q p Q cf leaf hQ hb hpq hQp hlf hl4 => ?_⟩
      · refine hg [95] 60 _ ?_
        refine br_c (fun _ => ?_) (fun h => absurd m1_neg h)
        refine And.intro hing ?_
        refine begin9 τ q F Q cf _ (by omega) hf hQ h45 (fun U hU => ?_) (small hb)
        obtain ⟨r1, r2⟩ := bM_near hok hK hgt hm1 (by omega) hF hb hU
        exact Or.inl ⟨m1_neg, by omega, r1, by omega⟩
      · refine hg [52, 95] 60 _ ?_
        refine br_c (fun h => absurd h (nI_pos (by omega))) (fun _ => ?_)
        refine br_c (fun h => ?_) (fun _ => ?_)
        · have h : τ.1 38 0 7 < nI F := h
          rw [e7, nI_ltI (by omega) (by omega)] at h
          omega
        · refine h2 N g m F leaf q p (lev N K) t a Q cf τ _ hok hNt hgt hRt hF (by omega) hQ hb hpq hQp hlf fun υ t' a' o1 o2 o3 => ?_
          have hfu := mf_trans hf (w46 o1)
          have h45u : ∀ j, j ≠ g → υ.2 45 0 j = σ.2 45 0 j := fun j hj => by rw [(o1.1 45 0 (by omega) (by decide)).2]; exact h45 j hj
          refine h1 N g m (F + 1) (lev N K) t' a' υ _ hok (mN_mf hN hfu (by decide) (by decide)) hgt hm (fun v hv => by rw [(hfu.1 44 0 (by omega) (by decide)).1]; exact hl v hv) o2 o3 (by omega) ?_ ?_
          · intro ω q' Q' cf' p1 p2 p3
            show X (ω, 52, [some (jR 38 0), some (jI (nI g)), some (jI (nI m)), some (jI (nI F + nI 1)), some (jI (-(nI 1))), none], [])
            rw [nI_add]
            exact (ih (F + 1) (by omega) ω t' a' (mf_trans hfu (w48 p1)) (fun j hj => by rw [(p1.1 45 0 (by omega) (by decide)).2]; exact h45u j hj) (fR_mf o2 p1 (by decide)) o3).1 q' Q' cf' p2 p3
          · intro ω q' p' Q' cf' leaf' p1 p2 p3 p4 p5 p6 p7
            show X (ω, 52, [some (jR 38 0), some (jI (nI g)), some (jI (nI m)), some (jI (nI F + nI 1)), some (jI (nI (40 + leaf'))), none], [])
            rw [nI_add]
            exact (ih (F + 1) (by omega) ω t' a' (mf_trans hfu (w48 p1)) (fun j hj => by rw [(p1.1 45 0 (by omega) (by decide)).2]; exact h45u j hj) (fR_mf o2 p1 (by decide)) o3).2 q' p' Q' cf' leaf' p2 p3 p4 p5 p6 p7
  -- nothing flows
  refine hg [2] 30 _ ?_
  show X (σ, 2, [some (jR 38 0), some (jI (nI g)), some (jI (nI m)), some (jI (nI 0)), none, none], [])
  have clrT : ∀ (d k : Nat), k + d = 40 → ∀ (τ : jm_G), mf coA [17] σ τ → τ.2 45 0 = σ.2 45 0 → (∀ p k, p < 40 → k < 3 → τ.1 47 0 (3 * p + k) = nI 0) → (∀ v, v < k → τ.1 46 0 v = nI 0) →
      X (τ, 23, [some (jR 38 0), some (jI (nI g)), some (jI (nI m)), some (jI (nI k)), none, none], []) := by
    intro d
    induction d with
    | zero =>
      intro k hkd τ hf h45 ha ht
      have e : k = 40 := by omega
      subst e
      have hR0 : fR τ (fun _ => 0) (fun _ _ => 0) := ⟨ht, ha⟩
      refine hg [52] 60 _ ?_
      refine br_c (fun _ => ?_) (fun h => absurd (show nI 40 ≤ nI 40 from (nI_leI (by omega) (by omega)).mpr (Nat.le_refl _)) h)
      refine h1 N g m 0 (lev N K) _ _ τ _ hok (mN_mf hN hf (by decide) (by decide)) hgt hm (fun v hv => by rw [(hf.1 44 0 (by omega) (by decide)).1]; exact hl v hv) hR0 (mF_0 N g m _) (by omega) ?_ ?_
      · intro ω q' Q' cf' p1 p2 p3
        exact (loop (K + 1) 0 (by omega) ω _ _ (mf_trans hf (w48 p1)) (fun j hj => by rw [(p1.1 45 0 (by omega) (by decide)).2, h45]) (fR_mf hR0 p1 (by decide)) (mF_0 N g m _)).1 q' Q' cf' p2 p3
      · intro ω q' p' Q' cf' leaf' p1 p2 p3 p4 p5 p6 p7
        exact (loop (K + 1) 0 (by omega) ω _ _ (mf_trans hf (w48 p1)) (fun j hj => by rw [(p1.1 45 0 (by omega) (by decide)).2, h45]) (fR_mf hR0 p1 (by decide)) (mF_0 N g m _)).2 q' p' Q' cf' leaf' p2 p3 p4 p5 p6 p7
    | succ d ih =>
      intro k hkd τ hf h45 ha ht
      refine hg [23] 40 _ ?_
      refine br_c (fun h => ?_) (fun _ => ?_)
      · have h : nI 40 ≤ nI k := h
        rw [nI_leI (by omega) (by omega)] at h
        omega
      · refine And.intro (vp_in_nI (by omega) (by omega)) ?_
        show X (wI τ 46 0 (upd (τ.1 46 0) (nI k).toNatClampNeg (nI 0)), 23, [some (jR 38 0), some (jI (nI g)), some (jI (nI m)), some (jI (nI k + nI 1)), none, none], [])
        rw [nI_add, nI_clamp (by omega)]
        refine ih (k + 1) (by omega) _ (mf_wI hf (by decide) (by decide)) h45 (fun p i hp hi => ?_) (fun v hv => ?_)
        · rw [wI1, if_neg (by omega)]; exact ha p i hp hi
        · rw [wI1, if_pos ⟨rfl, rfl⟩, upd_at]
          by_cases e : v = k
          · rw [if_pos e]
          · rw [if_neg e]; exact ht v (by omega)
  have clrA : ∀ (d k : Nat), k + d = 120 → ∀ (τ : jm_G), mf coA [17] σ τ → τ.2 45 0 = σ.2 45 0 → (∀ i, i < k → τ.1 47 0 i = nI 0) →
      X (τ, 2, [some (jR 38 0), some (jI (nI g)), some (jI (nI m)), some (jI (nI k)), none, none], []) := by
    intro d
    induction d with
    | zero =>
      intro k hkd τ hf h45 ha
      have e : k = 120 := by omega
      subst e
      refine hg [23] 40 _ ?_
      refine br_c (fun _ => ?_) (fun h => absurd (show nI 120 ≤ nI 120 from (nI_leI (by omega) (by omega)).mpr (Nat.le_refl _)) h)
      exact clrT 40 0 (by omega) τ hf h45 (fun p i hp hi => ha _ (by omega)) (fun v hv => absurd hv (by omega))
    | succ d ih =>
      intro k hkd τ hf h45 ha
      refine hg [2] 40 _ ?_
      refine br_c (fun h => ?_) (fun _ => ?_)
      · have h : nI 120 ≤ nI k := h
        rw [nI_leI (by omega) (by omega)] at h
        omega
      · refine And.intro (vp_in_nI (by omega) (by omega)) ?_
        show X (wI τ 47 0 (upd (τ.1 47 0) (nI k).toNatClampNeg (nI 0)), 2, [some (jR 38 0), some (jI (nI g)), some (jI (nI m)), some (jI (nI k + nI 1)), none, none], [])
        rw [nI_add, nI_clamp (by omega)]
        refine ih (k + 1) (by omega) _ (mf_wI hf (by decide) (by decide)) h45 (fun i hi => ?_)
        rw [wI1, if_pos ⟨rfl, rfl⟩, upd_at]
        by_cases e : i = k
        · rw [if_pos e]
        · rw [if_neg e]; exact ha i (by omega)
  exact clrA 120 0 (by omega) σ (mf_refl _ _ _) rfl (fun i hi => absurd hi (by omega))
