/-! the component's Ways: seeUppers, seeLower, findWay -/
def sQ (σ : jm_G) (q : Nat) (Q : Nat → Nat) (cf : Nat → Option Nat) : Prop :=
  σ.1 10 0 7 = nI q ∧ (∀ i, i < q → Q i < 80 ∧ σ.1 12 0 i = nI (Q i) ∧ σ.1 11 0 (Q i) = oN (cf (Q i))) ∧ one q Q
def add1 (q : Nat) (Q : Nat → Nat) (y : Nat) : Nat → Nat := fun i => if i = q then y else Q i
def addc (cf : Nat → Option Nat) (y : Nat) (f : Option Nat) : Nat → Option Nat := fun x => if x = y then f else cf x
theorem add1_lt {q i y : Nat} {Q : Nat → Nat} (h : i < q) : add1 q Q y i = Q i := if_neg (by omega)
theorem add1_q (q : Nat) (Q : Nat → Nat) (y : Nat) : add1 q Q y q = y := if_pos rfl
theorem addc_y (cf : Nat → Option Nat) (y : Nat) (f : Option Nat) : addc cf y f y = f := if_pos rfl
theorem addc_n {cf : Nat → Option Nat} {x y : Nat} {f : Option Nat} (h : x ≠ y) : addc cf y f x = cf x := if_neg h
theorem one_add {q y : Nat} {Q : Nat → Nat} (h : one q Q) (hy : ∀ i, i < q → Q i ≠ y) : one (q + 1) (add1 q Q y) := by
  intro i j hi hj e
  by_cases h1 : i = q
  · by_cases h2 : j = q
    · omega
    · rw [h1, add1_q, add1_lt (by omega)] at e
      exact absurd e.symm (hy j (by omega))
  · by_cases h2 : j = q
    · rw [h2, add1_q, add1_lt (by omega)] at e
      exact absurd e (hy i (by omega))
    · rw [add1_lt (by omega), add1_lt (by omega)] at e
      exact h i j (by omega) (by omega) e
theorem sQ_q {σ : jm_G} {q y : Nat} {Q : Nat → Nat} {cf : Nat → Option Nat} (h : sQ σ q Q cf) (hy : y < 80) (hn : ∀ i, i < q → Q i ≠ y) : q < 80 := by
  have := fb_holes 80 (q + 1) (add1 q Q y) (fun i hi => by
    by_cases e : i = q
    · rw [e, add1_q]; exact hy
    · rw [add1_lt (by omega)]; exact (h.2.1 i (by omega)).1) (fun i j hij hj e => by
    have := one_add h.2.2 hn i j (by omega) hj e
    omega)
  omega
theorem sQ_add {σ τ : jm_G} {q y : Nat} {Q : Nat → Nat} {cf : Nat → Option Nat} {f : Option Nat} (h : sQ σ q Q cf) (hy : y < 80) (hn : ∀ i, i < q → Q i ≠ y) (h7 : τ.1 10 0 7 = nI (q + 1)) (h11 : τ.1 11 0 = upd (σ.1 11 0) y (oN f)) (h12 : τ.1 12 0 = upd (σ.1 12 0) q (nI y)) : sQ τ (q + 1) (add1 q Q y) (addc cf y f) := by
  refine ⟨h7, fun i hi => ?_, one_add h.2.2 hn⟩
  rw [h11, h12, upd_at, upd_at]
  by_cases e : i = q
  · subst e
    rw [add1_q, if_pos rfl, if_pos rfl, addc_y]
    exact ⟨hy, rfl, rfl⟩
  · have hi' : i < q := by omega
    have := h.2.1 i hi'
    rw [add1_lt hi', if_neg e, if_neg (hn i hi'), addc_n (hn i hi')]
    exact this
def sUp (S q : Nat) (Q : Nat → Nat) : Prop := ∀ v, v < 40 → (S.testBit v = true ↔ ∃ i, i < q ∧ Q i = v)
def sLo (S q : Nat) (Q : Nat → Nat) : Prop := ∀ v, v < 40 → (S.testBit v = true ↔ ∃ i, i < q ∧ Q i = 40 + v)
abbrev ct_seeU (C : jm_C) : Prop := ∀ (S us q : Nat) (Q : Nat → Nat) (cf : Nat → Option Nat) (fr : Option Nat) (σ : jm_G) (post : Option jm_V → jm_G → Prop), S < 2 ^ 40 → us < 2 ^ 40 → σ.2 10 0 5 = lN us → sUp us q Q → sQ σ q Q cf →
  (∀ σ' q' Q' cf', off 10 12 σ σ' → σ'.2 10 0 4 = σ.2 10 0 4 → σ'.2 10 0 5 = lN (us ||| S) → σ'.2 10 0 6 = σ.2 10 0 6 → sQ σ' q' Q' cf' → sUp (us ||| S) q' Q' → sX q Q cf q' Q' cf' fr (fun y => y < 40 ∧ S.testBit y = true ∧ us.testBit y = false) → post none σ') → C kX8_seeUppers [jR 10 0, jJ (lN S), jI (oN fr)] σ post
theorem T_seeU (L : Nat) {C : jm_C} (hC : jm_mon C) (h1 : ct_low C) : ct_seeU (jm_up L C) := by
  intro S us q Q cf fr σ post hS hus h5 hU hQ hp
  refine jm_start rfl (Nat.le_of_ble_eq_true rfl) hC fun X hg hw => ?_
  refine hg [12] 30 _ ?_
  show X (σ, 12, [some (jR 10 0), some (jJ (lN S)), none, some (jI (oN fr)), some (jJ (lN S &&& (σ.2 10 0 5 ^^^ (-1)))), none, none], [])
  rw [h5, lN_andn]
  have hD : sD S us < 2 ^ 40 := sD_lt hS
  have gen : ∀ (m k : Nat), k + m = 40 → ∀ (τ : jm_G) (q' : Nat) (Q' : Nat → Nat) (cf' : Nat → Option Nat), off 10 12 σ τ → τ.2 = σ.2 → sQ τ q' Q' cf' → sX q Q cf q' Q' cf' fr (fun y => y < k ∧ S.testBit y = true ∧ us.testBit y = false) →
      X (τ, 12, [some (jR 10 0), some (jJ (lN S)), none, some (jI (oN fr)), some (jJ (lN (hi (sD S us) k))), none, none], []) := by
    intro m
    induction m with
    | zero =>
      intro k hk τ q' Q' cf' ho h2 hQ' hx
      have e : k = 40 := by omega
      subst e
      rw [hi_end hD]
      refine hg [] 30 _ ?_
      refine br_c (fun h => ?_) (fun h => ?_)
      · refine And.intro trivial ?_
        refine hp _ q' Q' cf' (off_wJ ho (by omega) (by omega)) ?_ ?_ ?_ hQ' ?_ hx
        · show vp_updL (τ.2 10 0) 5 (τ.2 10 0 5 ||| lN S) 4 = _
          rw [updL_at, if_neg (by omega), h2]
        · show vp_updL (τ.2 10 0) 5 (τ.2 10 0 5 ||| lN S) 5 = _
          rw [updL_at, if_pos rfl, h2, h5, fb_orL]
        · show vp_updL (τ.2 10 0) 5 (τ.2 10 0 5 ||| lN S) 6 = _
          rw [updL_at, if_neg (by omega), h2]
        · intro v hv
          obtain ⟨x1, x2, x3, x4, x5⟩ := hx
          rw [Nat.testBit_or, Bool.or_eq_true]
          constructor
          · intro h
            by_cases hb : us.testBit v = true
            · obtain ⟨i, hi, e⟩ := (hU v hv).mp hb
              exact ⟨i, by omega, by rw [x2 i hi]; exact e⟩
            · exact x5 v ⟨hv, h.resolve_left hb, by simpa using hb⟩
          · rintro ⟨i, hi, e⟩
            by_cases hq : i < q
            · rw [x2 i hq] at e
              exact Or.inl ((hU v hv).mpr ⟨i, hq, e⟩)
            · have := (x4 i (by omega) hi).1.2.1
              rw [e] at this
              exact Or.inr this
      · exact absurd ((cmp_0 _ _).mpr rfl) h
    | succ m ih =>
      intro k hk τ q' Q' cf' ho h2 hQ' hx
      obtain ⟨x1, x2, x3, x4, x5⟩ := id hx
      cases hb : (sD S us).testBit k with
      | false =>
        rw [← hi_skip hb]
        have hb' : ¬ (S.testBit k = true ∧ us.testBit k = false) := by
          rintro ⟨a, b⟩
          rw [sD_bit, a, b] at hb
          cases hb
        refine ih (k + 1) (by omega) τ q' Q' cf' ho h2 hQ' ⟨x1, x2, x3, fun i h3 h4 => ?_, fun y hy => ?_⟩
        · obtain ⟨⟨a, b⟩, c⟩ := x4 i h3 h4
          exact ⟨⟨by omega, b⟩, c⟩
        · by_cases e : y = k
          · subst e; exact absurd hy.2 hb'
          · exact x5 y ⟨by omega, hy.2⟩
      | true =>
        have hb2 := hb
        rw [sD_bit, Bool.and_eq_true, Bool.not_eq_true'] at hb2
        have hn : ∀ i, i < q' → Q' i ≠ k := by
          intro i hi e
          by_cases hq : i < q
          · rw [x2 i hq] at e
            have := (hU k (by omega)).mpr ⟨i, hq, e⟩
            rw [hb2.2] at this
            cases this
          · have := (x4 i (by omega) hi).1.1
            omega
        have hq80 := sQ_q hQ' (show k < 80 by omega) hn
        refine hg [12] 40 _ ?_
        refine br_c (fun h => ?_) (fun h => ?_)
        · exact absurd h (hi_n0 hD hb)
        · refine h1 (sD S us) k τ _ (p40 hD) hb ?_
          refine And.intro (vp_in_nI (by omega) (by omega)) ?_
          refine And.intro (show vp_in (τ.1 10 0 7) 80 by rw [hQ'.1]; exact vp_in_nI hq80 (by omega)) ?_
          refine hw _ _ _ [some (jR 10 0), some (jJ (lN S)), none, some (jI (oN fr)), some (jJ (lN (hi (sD S us) k) &&& (lN (hi (sD S us) k) - lN 1))), none, none] _ (by repeat' first | exact trivial | exact rfl | apply And.intro) ?_
          rw [nxt hb]
          refine ih (k + 1) (by omega) _ (q' + 1) (add1 q' Q' k) (addc cf' k fr) (off_wI (off_wI (off_wI ho (by omega) (by omega)) (by omega) (by omega)) (by omega) (by omega)) h2 (sQ_add hQ' (by omega) hn ?_ ?_ ?_) ⟨by omega, fun i hi => ?_, fun i hi => ?_, fun i h3 h4 => ?_, fun y hy => ?_⟩
          · show upd (τ.1 10 0) 7 (τ.1 10 0 7 + nI 1) 7 = _
            rw [upd_at, if_pos rfl, hQ'.1, nI_add]
          · show upd (τ.1 11 0) (nI k).toNatClampNeg (oN fr) = _
            rw [nI_clamp (by omega)]
          · show upd (τ.1 12 0) (τ.1 10 0 7).toNatClampNeg (nI k) = _
            rw [hQ'.1, nI_clamp (by omega)]
          · rw [add1_lt (by omega)]; exact x2 i hi
          · rw [addc_n (by rw [← x2 i hi]; exact hn i (by omega))]; exact x3 i hi
          · by_cases e : i = q'
            · subst e
              rw [add1_q, addc_y]
              exact ⟨⟨by omega, hb2⟩, rfl⟩
            · obtain ⟨⟨a, b⟩, c⟩ := x4 i h3 (by omega)
              rw [add1_lt (by omega), addc_n (by omega)]
              exact ⟨⟨by omega, b⟩, c⟩
          · by_cases e : y = k
            · exact ⟨q', by omega, by rw [add1_q, e]⟩
            · obtain ⟨j, hj, e2⟩ := x5 y ⟨by omega, hy.2⟩
              exact ⟨j, by omega, by rw [add1_lt hj]; exact e2⟩
  have main := gen 40 0 (by omega) σ q Q cf (off_refl _ _ _) rfl hQ ⟨Nat.le_refl _, fun _ _ => rfl, fun _ _ => rfl, fun i h1 h2 => absurd h2 (by omega), fun y hy => absurd hy.1 (by omega)⟩
  rw [hi_0] at main
  exact main
abbrev ct_seeL (C : jm_C) : Prop := ∀ (o : Option Nat) (ls q : Nat) (Q : Nat → Nat) (cf : Nat → Option Nat) (fr : Option Nat) (σ : jm_G) (post : Option jm_V → jm_G → Prop), (∀ u, o = some u → u < 40) → ls < 2 ^ 40 → σ.2 10 0 6 = lN ls → sLo ls q Q → sQ σ q Q cf →
  (∀ σ' ls' q' Q' cf', off 10 12 σ σ' → σ'.2 10 0 4 = σ.2 10 0 4 → σ'.2 10 0 5 = σ.2 10 0 5 → σ'.2 10 0 6 = lN ls' → ls' < 2 ^ 40 → sQ σ' q' Q' cf' → sLo ls' q' Q' → sX q Q cf q' Q' cf' fr (fun y => (∃ u, o = some u ∧ y = 40 + u) ∧ ¬ ∃ i, i < q ∧ Q i = y) → post none σ') → C kX8_seeLower [jR 10 0, jI (oN o), jI (oN fr)] σ post
theorem T_seeL (L : Nat) {C : jm_C} (hC : jm_mon C) (h1 : ct_has C) (h2 : ct_bit C) : ct_seeL (jm_up L C) := by
  intro o ls q Q cf fr σ post ho hls h6 hL hQ hp
  refine jm_start rfl (Nat.le_of_ble_eq_true rfl) hC fun X hg hw => ?_
  refine hg [] 60 _ ?_
  have stay : (¬ ∃ u, o = some u ∧ ¬ ∃ i, i < q ∧ Q i = 40 + u) → post none σ := fun hno =>
    hp σ ls q Q cf (off_refl _ _ _) rfl rfl h6 hls hQ hL ⟨Nat.le_refl _, fun _ _ => rfl, fun _ _ => rfl, fun i h1 h2 => absurd h2 (by omega), fun y hy => by
      obtain ⟨⟨u, e, e2⟩, h⟩ := hy
      exact absurd ⟨u, e, by rw [← e2]; exact h⟩ hno⟩
  cases o with
  | none =>
    refine br_c (fun h => ?_) (fun h => ?_)
    · exact And.intro trivial (stay fun ⟨u, e, _⟩ => by cases e)
    · exact absurd rfl h
  | some u =>
    have hu := ho u rfl
    refine br_c (fun h => ?_) (fun h => ?_)
    · exact absurd h (oN_none (by omega))
    · refine c_has h1 h6 rfl (p40 hls) (by omega) ?_
      refine br_c (fun h => ?_) (fun h => ?_)
      · have h := bI_0.mp h
        have hno : ∀ i, i < q → Q i ≠ 40 + u := fun i hi e => by
          have := (hL u hu).mpr ⟨i, hi, e⟩
          rw [h] at this
          cases this
        have hq80 := sQ_q hQ (show 40 + u < 80 by omega) hno
        refine c_bit h2 rfl (show u < 63 by omega) ?_
        have e4 : nI u + nI 40 = nI (40 + u) := by rw [nI_add, Nat.add_comm]
        refine And.intro (show vp_in (nI u + nI 40) 80 by rw [e4]; exact vp_in_nI (by omega) (by omega)) ?_
        refine And.intro (show vp_in (σ.1 10 0 7) 80 by rw [hQ.1]; exact vp_in_nI hq80 (by omega)) ?_
        refine And.intro trivial ?_
        refine hp _ (ls ||| 2 ^ u) (q + 1) (add1 q Q (40 + u)) (addc cf (40 + u) fr) (off_wI (off_wI (off_wI (off_wJ (off_refl _ _ _) (by omega) (by omega)) (by omega) (by omega)) (by omega) (by omega)) (by omega) (by omega)) ?_ ?_ ?_ (or_lt hls (pw_lt hu)) (sQ_add hQ (by omega) hno ?_ ?_ ?_) ?_ ?_
        · show vp_updL (σ.2 10 0) 6 (σ.2 10 0 6 ||| lN (2 ^ u)) 4 = _
          rw [updL_at, if_neg (by omega)]
        · show vp_updL (σ.2 10 0) 6 (σ.2 10 0 6 ||| lN (2 ^ u)) 5 = _
          rw [updL_at, if_neg (by omega)]
        · show vp_updL (σ.2 10 0) 6 (σ.2 10 0 6 ||| lN (2 ^ u)) 6 = _
          rw [updL_at, if_pos rfl, h6, fb_orL]
        · show upd (σ.1 10 0) 7 (σ.1 10 0 7 + nI 1) 7 = _
          rw [upd_at, if_pos rfl, hQ.1, nI_add]
        · show upd (σ.1 11 0) (nI u + nI 40).toNatClampNeg (oN fr) = _
          rw [e4, nI_clamp (by omega)]
        · show upd (σ.1 12 0) (σ.1 10 0 7).toNatClampNeg (nI u + nI 40) = _
          rw [e4, hQ.1, nI_clamp (by omega)]
        · intro v hv
          rw [or_bit, Bool.or_eq_true, decide_eq_true_eq]
          constructor
          · rintro (h | e)
            · obtain ⟨i, hi, e⟩ := (hL v hv).mp h
              exact ⟨i, by omega, by rw [add1_lt hi]; exact e⟩
            · exact ⟨q, by omega, by rw [add1_q, e]⟩
          · rintro ⟨i, hi, e⟩
            by_cases hq : i = q
            · rw [hq, add1_q] at e
              exact Or.inr (by omega)
            · rw [add1_lt (by omega)] at e
              exact Or.inl ((hL v hv).mpr ⟨i, by omega, e⟩)
        · refine ⟨by omega, fun i hi => add1_lt hi, fun i hi => addc_n (hno i hi), fun i h3 h4 => ?_, fun y hy => ?_⟩
          · have e : i = q := by omega
            subst e
            rw [add1_q, addc_y]
            exact ⟨⟨⟨u, rfl, rfl⟩, fun ⟨i, hi, e⟩ => hno i hi e⟩, rfl⟩
          · obtain ⟨⟨w, e, e2⟩, -⟩ := hy
            have e := Option.some.inj e
            exact ⟨q, by omega, by rw [add1_q]; omega⟩
      · have h := bI_n0.mp h
        exact And.intro trivial (stay fun ⟨w, e, hn⟩ => by
          have e := Option.some.inj e
          subst e
          exact hn ((hL u hu).mp h))
