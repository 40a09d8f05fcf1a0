/-! the component's Cells: findMates, pairTables -/
def mtS (T K : Nat) (ch : Nat → Nat) (a : Nat) : Nat := mk (fun b => T.testBit a && T.testBit b && !decide (b = a) && prB K ch a b) 40
def mtP (T K : Nat) (ch : Nat → Nat) (k j a : Nat) : Nat := mk (fun b => T.testBit a && T.testBit b && !decide (b = a) && prB K ch a b && (decide (min a b < k) || (decide (min a b = k) && decide (max a b < j)))) 40
theorem mtP_lt (T K : Nat) (ch : Nat → Nat) (k j a : Nat) : mtP T K ch k j a < 2 ^ 40 := mk_lt _ _
def cMt (N : nw) (f : Nat → Nat) (σ : jm_G) : Prop := ∀ a, a < nN N → σ.2 30 0 a = lN (f a)
theorem mk_congr {p q : Nat → Bool} {n : Nat} (h : ∀ i, i < n → p i = q i) : mk p n = mk q n := set_eq fun i => by
  rw [mk_bit, mk_bit]
  by_cases c : i < n
  · rw [h i c]
  · simp [c]
theorem mtP_next (T K : Nat) (ch : Nat → Nat) (k : Nat) {a : Nat} (ha : a < 40) : mtP T K ch (k + 1) 0 a = mtP T K ch k 40 a := by
  refine mk_congr fun b hb => ?_
  congr 1
  apply Bool.eq_iff_iff.mpr
  simp only [Bool.or_eq_true, Bool.and_eq_true, decide_eq_true_eq]
  omega
theorem mtP_end (T K : Nat) (ch : Nat → Nat) {a : Nat} (ha : a < 40) : mtP T K ch 40 0 a = mtS T K ch a := by
  refine mk_congr fun b hb => ?_
  have : (decide (min a b < 40) || (decide (min a b = 40) && decide (max a b < 0))) = true := by
    simp only [Bool.or_eq_true, Bool.and_eq_true, decide_eq_true_eq]
    omega
  rw [this, Bool.and_true]
theorem mtP_0 (T K : Nat) (ch : Nat → Nat) (a : Nat) : mtP T K ch 0 0 a = 0 := set_eq fun i => by
  unfold mtP
  rw [mk_bit, Nat.zero_testBit]
  have : (decide (min a i < 0) || (decide (min a i = 0) && decide (max a i < 0))) = false := by simp
  rw [this, Bool.and_false, Bool.and_false]
theorem mtP_no {T K : Nat} {ch : Nat → Nat} {k j : Nat} (h : (T.testBit k && T.testBit j && decide (k < j) && prB K ch k j) = false) (a : Nat) : mtP T K ch k (j + 1) a = mtP T K ch k j a := by
  refine mk_congr fun b hb => ?_
  by_cases c : min a b = k ∧ max a b = j ∧ a ≠ b
  · have c2 : (a = k ∧ b = j) ∨ (a = j ∧ b = k) := by omega
    have hkj : k < j := by omega
    have e : (T.testBit a && T.testBit b && !decide (b = a) && prB K ch a b) = false := by
      simp only [hkj, decide_true, Bool.and_true] at h
      rcases c2 with ⟨rfl, rfl⟩ | ⟨rfl, rfl⟩
      · rw [show (T.testBit a && T.testBit b && !decide (b = a) && prB K ch a b) = ((T.testBit a && T.testBit b && prB K ch a b) && !decide (b = a)) by
          cases T.testBit a <;> cases T.testBit b <;> cases decide (b = a) <;> cases prB K ch a b <;> rfl, h]
        rfl
      · rw [prB_symm] at h
        rw [show (T.testBit a && T.testBit b && !decide (b = a) && prB K ch a b) = ((T.testBit b && T.testBit a && prB K ch a b) && !decide (b = a)) by
          cases T.testBit a <;> cases T.testBit b <;> cases decide (b = a) <;> cases prB K ch a b <;> rfl, h]
        rfl
    rw [e, Bool.false_and, Bool.false_and]
  · by_cases e : b = a
    · simp [e]
    · congr 1
      apply Bool.eq_iff_iff.mpr
      simp only [Bool.or_eq_true, Bool.and_eq_true, decide_eq_true_eq]
      omega
theorem mtP_yes {T K : Nat} {ch : Nat → Nat} {k j : Nat} (hk : T.testBit k = true) (hj : T.testBit j = true) (hkj : k < j) (hj4 : j < 40) (h : prB K ch k j = true) (a : Nat) : mtP T K ch k (j + 1) a = if a = k then mtP T K ch k j a ||| 2 ^ j else if a = j then mtP T K ch k j a ||| 2 ^ k else mtP T K ch k j a := by
  have hbit : ∀ a b, (mtP T K ch k (j + 1) a).testBit b = ((mtP T K ch k j a).testBit b || decide ((a = k ∧ b = j) ∨ (a = j ∧ b = k))) := by
    intro a b
    unfold mtP
    rw [mk_bit, mk_bit]
    by_cases hb : b < 40
    · by_cases c : (a = k ∧ b = j) ∨ (a = j ∧ b = k)
      · have e1 : decide ((a = k ∧ b = j) ∨ (a = j ∧ b = k)) = true := by simpa using c
        have e2 : (decide (min a b < k) || (decide (min a b = k) && decide (max a b < j + 1))) = true := by
          simp only [Bool.or_eq_true, Bool.and_eq_true, decide_eq_true_eq]
          omega
        have e3 : (T.testBit a && T.testBit b && !decide (b = a) && prB K ch a b) = true := by
          rcases c with ⟨rfl, rfl⟩ | ⟨rfl, rfl⟩
          · rw [hk, hj, h]; simp; omega
          · rw [hk, hj, prB_symm, h]; simp; omega
        rw [e1, e2, e3]
        simp [hb]
      · have e1 : decide ((a = k ∧ b = j) ∨ (a = j ∧ b = k)) = false := by simpa using c
        rw [e1, Bool.or_false]
        congr 1
        by_cases e : b = a
        · simp [e]
        · congr 1
          apply Bool.eq_iff_iff.mpr
          simp only [Bool.or_eq_true, Bool.and_eq_true, decide_eq_true_eq]
          omega
    · have : decide ((a = k ∧ b = j) ∨ (a = j ∧ b = k)) = false := by
        simp only [decide_eq_false_iff_not]
        omega
      rw [this]
      simp [hb]
  apply set_eq
  intro b
  rw [hbit]
  by_cases e1 : a = k
  · rw [if_pos e1, or_bit]
    congr 1
    simp only [decide_eq_decide]
    omega
  · rw [if_neg e1]
    by_cases e2 : a = j
    · rw [if_pos e2, or_bit]
      congr 1
      simp only [decide_eq_decide]
      omega
    · rw [if_neg e2]
      have : decide ((a = k ∧ b = j) ∨ (a = j ∧ b = k)) = false := by
        simp only [decide_eq_false_iff_not]
        omega
      rw [this, Bool.or_false]
abbrev ct_findMates (C : jm_C) : Prop := ∀ (N : nw) (K T : Nat) (ch : Nat → Nat) (σ : jm_G) (x : Int32) (post : Option jm_V → jm_G → Prop), nw_ok N → cN N σ → cCh N ch σ → chL N ch → (∀ g, isG N g = true → ch g < 2 ^ 40) → allG N T → σ.2 22 0 4 = lN T → 1 ≤ K → K ≤ 6 → x = nI (K - 1) → (∀ σ', off 30 30 σ σ' → cMt N (mtS T K ch) σ' → post none σ') → C kX0_findMates [jR 29 0, jI x] σ post
theorem T_findMates (L : Nat) {C : jm_C} (hC : jm_mon C) (h1 : ct_low C) (h2 : ct_has C) (h3 : ct_bc C) (h4 : ct_bit C) : ct_findMates (jm_up L C) := by
  intro N K T ch σ x post hok hN hch hl hlt hT h22 hK1 hK6 hx hp
  subst hx
  refine jm_start rfl (Nat.le_of_ble_eq_true rfl) hC fun X hg hw => ?_
  have h40 := hok.1
  have hT4 := allG_lt hok hT
  -- the second loop
  have outer : ∀ (m k : Nat), k + m = 40 → ∀ (τ : jm_G), off 30 30 σ τ → cMt N (mtP T K ch k 0) τ → X (τ, 34, [some (jR 29 0), some (jI (nI (K - 1))), some (jJ (lN (hi T k))), none, none, none, none, none], []) := by
    intro m
    induction m with
    | zero =>
      intro k hk τ ho hm
      have ek : k = 40 := by omega
      subst ek
      rw [hi_end hT4]
      refine hg [34] 40 _ ?_
      refine br_c (fun _ => And.intro trivial (hp τ ho fun a ha => ?_)) (fun h => absurd ((cmp_0 _ _).mpr rfl) h)
      rw [hm a ha, mtP_end T K ch (by omega)]
    | succ m ih =>
      intro k hk τ ho hm
      cases hb : T.testBit k with
      | false =>
        have nx : ∀ j a, mtP T K ch k j a = mtP T K ch k 0 a := fun j a => by
          induction j with
          | zero => rfl
          | succ j ihj => rw [mtP_no (by rw [hb]; rfl), ihj]
        have := ih (k + 1) (by omega) τ ho (fun a ha => by rw [hm a ha, mtP_next T K ch k (show a < 40 by omega), nx 40 a])
        rw [hi_skip hb] at this
        exact this
      | true =>
        have hgk := hT k hb
        have hkn := isG_lt hgk
        have ek : (nI k).toNatClampNeg = k := nI_clamp (by omega)
        have hink : vp_in (nI k) 40 := vp_in_nI (by omega) (by omega)
        refine hg [34, 53] 60 _ ?_
        refine br_c (fun h => absurd h (hi_n0 hT4 hb)) (fun _ => ?_)
        refine h1 T k τ _ (p40 hT4) hb ?_
        show X (τ, 53, [some (jR 29 0), some (jI (nI (K - 1))), some (jJ (lN (hi T k))), none, some (jI (nI k)), some (jJ (lN (hi T k) &&& (lN (hi T k) - lN 1))), none, none], [])
        rw [nxt hb]
        have inner : ∀ (e j : Nat), j + e = 40 → k < j → ∀ (υ : jm_G), off 30 30 σ υ → cMt N (mtP T K ch k j) υ → X (υ, 53, [some (jR 29 0), some (jI (nI (K - 1))), some (jJ (lN (hi T k))), none, some (jI (nI k)), some (jJ (lN (hi T j))), none, none], []) := by
          intro e
          induction e with
          | zero =>
            intro j hj hkj υ hu hmu
            have ej : j = 40 := by omega
            subst ej
            rw [hi_end hT4]
            refine hg [34, 53] 60 _ ?_
            refine br_c (fun _ => ?_) (fun h => absurd ((cmp_0 _ _).mpr rfl) h)
            refine hw _ _ _ [some (jR 29 0), some (jI (nI (K - 1))), some (jJ (lN (hi T k) &&& (lN (hi T k) - lN 1))), none, none, none, none, none] _ (by repeat' first | exact trivial | exact rfl | apply And.intro) ?_
            rw [nxt hb]
            exact ih (k + 1) (by omega) υ hu (fun a ha => by rw [hmu a ha, mtP_next T K ch k (by omega)])
          | succ e ihe =>
            intro j hj hkj υ hu hmu
            cases hbj : T.testBit j with
            | false =>
              have := ihe (j + 1) (by omega) (by omega) υ hu (fun a ha => by rw [hmu a ha, mtP_no (by rw [hbj, Bool.and_false]; rfl)])
              rw [hi_skip hbj] at this
              exact this
            | true =>
              have hgj := hT j hbj
              have hjn := isG_lt hgj
              have ej : (nI j).toNatClampNeg = j := nI_clamp (by omega)
              have hinj : vp_in (nI j) 40 := vp_in_nI (by omega) (by omega)
              have hcu : cCh N ch υ := fun g hgg => by rw [(hu 24 0 (by omega)).2]; exact hch g hgg
              have ekj : (ch k).testBit j = false := by
                cases q : (ch k).testBit j with
                | false => rfl
                | true => have := hl k hgk j q; omega
              have stay : prB K ch k j = false → ∀ c : Int32, X (υ, 53, [some (jR 29 0), some (jI (nI (K - 1))), some (jJ (lN (hi T k))), none, some (jI (nI k)), some (jJ (lN (hi T j) &&& (lN (hi T j) - lN 1))), none, some (jI c)], []) := by
                intro hq c
                refine hw _ _ _ [some (jR 29 0), some (jI (nI (K - 1))), some (jJ (lN (hi T k))), none, some (jI (nI k)), some (jJ (lN (hi T j) &&& (lN (hi T j) - lN 1))), none, none] _ (by repeat' first | exact trivial | exact rfl | apply And.intro) ?_
                rw [nxt hbj]
                exact ihe (j + 1) (by omega) (by omega) υ hu (fun a ha => by rw [hmu a ha, mtP_no (by rw [hq, Bool.and_false])])
              have hor : ch k ||| ch j < 2 ^ 40 := or_lt (hlt k hgk) (hlt j hgj)
              refine hg [34, 53] 90 _ ?_
              refine br_c (fun h => absurd h (hi_n0 hT4 hbj)) (fun _ => ?_)
              refine h1 T j υ _ (p40 hT4) hbj ?_
              refine And.intro hinj ?_
              refine c_has h2 (S := ch j) (n := k) (show υ.2 24 0 (nI j).toNatClampNeg = lN (ch j) by rw [ej]; exact hcu j hgj) rfl (p40 (hlt j hgj)) (by omega) ?_
              refine br_c (fun h => ?_) (fun h => ?_)
              · have hjk := bI_0.mp h
                refine And.intro hink ?_
                refine And.intro hinj ?_
                refine c_bc h3 (S := ch k ||| ch j) (show υ.2 24 0 (nI k).toNatClampNeg ||| υ.2 24 0 (nI j).toNatClampNeg = _ by rw [ek, ej, hcu k hgk, hcu j hgj, fb_orL]) (Nat.lt_trans hor (by omega)) ?_
                rw [cnt64 hor]
                have hc40 := cnt_le (ch k ||| ch j) 40
                refine br_c (fun z => ?_) (fun z => ?_)
                · have z : nI (K - 1) < nI (cnt (ch k ||| ch j) 40) := z
                  rw [nI_ltI (by omega) (by omega)] at z
                  refine stay ?_ _
                  unfold prB
                  rw [show decide (cnt (ch k ||| ch j) 40 ≤ K - 1) = false by simp; omega, Bool.and_false]
                · have z : ¬ nI (K - 1) < nI (cnt (ch k ||| ch j) 40) := z
                  rw [nI_ltI (by omega) (by omega)] at z
                  have hpr : prB K ch k j = true := by
                    unfold prB
                    rw [ekj, hjk, show decide (cnt (ch k ||| ch j) 40 ≤ K - 1) = true by simp; omega]
                    rfl
                  refine And.intro hink ?_
                  refine h4 j υ _ (by omega) ?_
                  refine And.intro hink ?_
                  refine And.intro hinj ?_
                  refine h4 k _ _ (by omega) ?_
                  refine And.intro hinj ?_
                  refine hw _ _ _ [some (jR 29 0), some (jI (nI (K - 1))), some (jJ (lN (hi T k))), none, some (jI (nI k)), some (jJ (lN (hi T j) &&& (lN (hi T j) - lN 1))), none, none] _ (by repeat' first | exact trivial | exact rfl | apply And.intro) ?_
                  show X (wJ (wJ υ 30 0 (vp_updL (υ.2 30 0) (nI k).toNatClampNeg (υ.2 30 0 (nI k).toNatClampNeg ||| lN (2 ^ j)))) 30 0 (vp_updL (vp_updL (υ.2 30 0) (nI k).toNatClampNeg (υ.2 30 0 (nI k).toNatClampNeg ||| lN (2 ^ j))) (nI j).toNatClampNeg (vp_updL (υ.2 30 0) (nI k).toNatClampNeg (υ.2 30 0 (nI k).toNatClampNeg ||| lN (2 ^ j)) (nI j).toNatClampNeg ||| lN (2 ^ k))), 53, [some (jR 29 0), some (jI (nI (K - 1))), some (jJ (lN (hi T k))), none, some (jI (nI k)), some (jJ (lN (hi T j) &&& (lN (hi T j) - lN 1))), none, none], [])
                  rw [ek, ej, nxt hbj]
                  refine ihe (j + 1) (by omega) (by omega) _ (off_wJ (off_wJ hu (by omega) (by omega)) (by omega) (by omega)) fun a ha => ?_
                  rw [wJ2, if_pos ⟨rfl, rfl⟩, updL_at, updL_at, updL_at, mtP_yes hb hbj hkj (by omega) hpr]
                  by_cases e1 : a = k
                  · rw [if_neg (by omega), if_pos e1, if_pos e1, hmu k hkn, fb_orL, e1]
                  · rw [if_neg e1]
                    by_cases e2 : a = j
                    · rw [if_pos e2, if_neg (by omega), if_neg e1, if_pos e2, hmu j hjn, fb_orL, e2]
                    · rw [if_neg e2, if_neg e1, if_neg e2]
                      exact hmu a ha
              · have hjk := bI_n0.mp h
                refine stay ?_ _
                unfold prB
                rw [hjk]
                simp
        exact inner (39 - k) (k + 1) (by omega) (by omega) τ ho (fun a ha => by
          rw [hm a ha]
          have nx : ∀ j, j ≤ k + 1 → mtP T K ch k j a = mtP T K ch k 0 a := fun j => by
            induction j with
            | zero => intro _; rfl
            | succ j ihj =>
              intro hj
              rw [mtP_no (by rw [show decide (k < j) = false by simp; omega]; simp), ihj (by omega)]
          rw [nx (k + 1) (Nat.le_refl _)])
  refine hg [2] 30 _ ?_
  show X (σ, 2, [some (jR 29 0), some (jI (nI (K - 1))), some (jI (nI 0)), none, none, none, none, none], [])
  have first : ∀ (m k : Nat), k + m = nN N → ∀ (τ : jm_G), off 30 30 σ τ → (∀ j, j < k → τ.2 30 0 j = lN 0) → X (τ, 2, [some (jR 29 0), some (jI (nI (K - 1))), some (jI (nI k)), none, none, none, none, none], []) := by
    intro m
    induction m with
    | zero =>
      intro k hk τ ho hr
      have e : k = nN N := by omega
      subst e
      have hNt := cN_off hN ho (by omega) (by omega)
      refine hg [2, 34] 30 _ ?_
      refine br_c (fun _ => ?_) (fun h => ?_)
      · show X (τ, 34, [some (jR 29 0), some (jI (nI (K - 1))), some (jJ (τ.2 22 0 4)), none, none, none, none, none], [])
        rw [(ho 22 0 (by omega)).2, h22]
        have := outer 40 0 (by omega) τ ho (fun a ha => by rw [hr a ha, mtP_0])
        rw [hi_0] at this
        exact this
      · have h : ¬ τ.1 2 0 9 ≤ nI (nN N) := h
        rw [hNt.1, nI_leI (by omega) (by omega)] at h
        omega
    | succ m ih =>
      intro k hk τ ho hr
      have hNt := cN_off hN ho (by omega) (by omega)
      refine hg [2, 34] 30 _ ?_
      refine br_c (fun h => ?_) (fun _ => ?_)
      · have h : τ.1 2 0 9 ≤ nI k := h
        rw [hNt.1, nI_leI (by omega) (by omega)] at h
        omega
      · refine And.intro (vp_in_nI (by omega) (by omega)) ?_
        show X (wJ τ 30 0 (vp_updL (τ.2 30 0) (nI k).toNatClampNeg (lN 0)), 2, [some (jR 29 0), some (jI (nI (K - 1))), some (jI (nI k + nI 1)), none, none, none, none, none], [])
        rw [nI_clamp (by omega), nI_add]
        refine ih (k + 1) (by omega) _ (off_wJ ho (by omega) (by omega)) fun j hj => ?_
        rw [wJ2, if_pos ⟨rfl, rfl⟩, updL_at]
        by_cases e : j = k
        · rw [if_pos e]
        · rw [if_neg e]; exact hr j (by omega)
  exact first (nN N) 0 (by omega) σ (off_refl _ _ _) fun j hj => absurd hj (by omega)
