/-! the component's Cells: layTables, layRegisters, fillAnew -/
def ceO (T : Nat) (p : Nat → Option Nat) (k i : Nat) : Int32 := if T.testBit i && decide (low2 p i < k) then nI (ceI T p i) else -(nI 1)
theorem low2_k {T n : Nat} {p : Nat → Option Nat} (hp : prI T n p) {k i : Nat} (hk : low2 p k = k) (hi : low2 p i = k) : i = k ∨ p k = some i := by
  cases ci : p i with
  | none => rw [low2_n ci] at hi; exact Or.inl hi
  | some q =>
    obtain ⟨-, -, -, a4, -⟩ := hp i q ci
    rw [low2_s ci] at hi
    rcases (show i = k ∨ q = k by omega) with e | e
    · exact Or.inl e
    · rw [e] at a4; exact Or.inr a4
theorem low2_p {T n : Nat} {p : Nat → Option Nat} (hp : prI T n p) {k q : Nat} (h : p k = some q) : low2 p q = low2 p k := by
  obtain ⟨-, -, -, a4, -⟩ := hp k q h
  rw [low2_s h, low2_s a4, Nat.min_comm]
abbrev ct_layT (C : jm_C) : Prop := ∀ (N : nw) (T : Nat) (ch : Nat → Nat) (p : Nat → Option Nat) (σ : jm_G) (post : Option jm_V → jm_G → Prop), nw_ok N → cN N σ → allG N T → σ.2 22 0 4 = lN T → cCh N ch σ → prI T 40 p → (∀ i, i < nN N → σ.1 31 0 i = oN (p i)) → (∀ σ', off 29 35 σ σ' → σ'.2 30 0 = σ.2 30 0 → σ'.1 31 0 = σ.1 31 0 → σ'.1 29 0 9 = σ.1 29 0 9 → (∀ i, i < nN N → σ'.1 32 0 i = if T.testBit i then nI (ceI T p i) else -(nI 1)) → clC (clT T ch p 40) σ' → post none σ') → C kX0_layTables [jR 29 0] σ post
theorem T_layT (L : Nat) {C : jm_C} (hC : jm_mon C) (h1 : ct_low C) (h2 : ct_bit C) (h3 : ct_addCell C) (h4 : ct_join C) : ct_layT (jm_up L C) := by
  intro N T ch p σ post hok hN hT h22 hch hpI h31 hp
  refine jm_start rfl (Nat.le_of_ble_eq_true rfl) hC fun X hg hw => ?_
  have h40 := hok.1
  have hT4 := allG_lt hok hT
  have hrm := cl_room (N := N) (p := p) hT
  have outer : ∀ (m k : Nat), k + m = 40 → ∀ (τ : jm_G), off 29 35 σ τ → τ.2 30 0 = σ.2 30 0 → τ.1 31 0 = σ.1 31 0 → τ.1 29 0 9 = σ.1 29 0 9 → (∀ i, i < nN N → τ.1 32 0 i = ceO T p k i) → clC (clT T ch p k) τ → X (τ, 39, [some (jR 29 0), some (jJ (lN (hi T k))), none, none], []) := by
    intro m
    induction m with
    | zero =>
      intro k hk τ ho e30 e31 e9 r1 r2
      have ek : k = 40 := by omega
      subst ek
      rw [hi_end hT4]
      refine hg [39] 40 _ ?_
      refine br_c (fun _ => And.intro trivial (hp τ ho e30 e31 e9 (fun i hi => ?_) r2)) (fun h => absurd ((cmp_0 _ _).mpr rfl) h)
      rw [r1 i hi]
      unfold ceO
      cases hb : T.testBit i with
      | false => rfl
      | true =>
        have := (low2_in hT4 hpI hb).2
        rw [show decide (low2 p i < 40) = true by simp; omega]
        rfl
    | succ m ih =>
      intro k hk τ ho e30 e31 e9 r1 r2
      cases hb : T.testBit k with
      | false =>
        have hn : (nwT T p).testBit k = false := by rw [nwT_bit hT4, hb]; rfl
        have e : clT T ch p (k + 1) = clT T ch p k := by rw [clT, hn]; rfl
        have := ih (k + 1) (by omega) τ ho e30 e31 e9 (fun i hi => by
          rw [r1 i hi]
          unfold ceO
          cases hbi : T.testBit i with
          | false => rfl
          | true =>
            have h5 := (low2_in hT4 hpI hbi).1
            have : low2 p i ≠ k := fun z => by rw [z, hn] at h5; cases h5
            rw [show decide (low2 p i < k + 1) = decide (low2 p i < k) by simp; omega]) (by rw [e]; exact r2)
        rw [hi_skip hb] at this
        exact this
      | true =>
        have hkn := isG_lt (hT k hb)
        have hgk := hT k hb
        have ek : (nI k).toNatClampNeg = k := nI_clamp (by omega)
        have hink : vp_in (nI k) 40 := vp_in_nI (by omega) (by omega)
        have hl := low2_in hT4 hpI hb
        have hcl := ceI_lt hT4 hpI hb
        have t32 : τ.1 32 0 (nI k).toNatClampNeg = ceO T p k k := by rw [ek]; exact r1 k hkn
        have t31 : ∀ υ : jm_G, υ.1 31 0 = τ.1 31 0 → υ.1 31 0 (nI k).toNatClampNeg = oN (p k) := fun υ hu => by rw [ek, hu, e31]; exact h31 k hkn
        refine hg [39] 90 _ ?_
        refine br_c (fun h => absurd h (hi_n0 hT4 hb)) (fun _ => ?_)
        refine h1 T k τ _ (p40 hT4) hb ?_
        refine And.intro hink ?_
        refine br_c (fun z => ?_) (fun z => ?_)
        · have z : τ.1 32 0 (nI k).toNatClampNeg = -(nI 1) := z
          rw [t32] at z
          have hlk : low2 p k = k := by
            rcases Nat.lt_or_ge (low2 p k) k with c | c
            · unfold ceO at z
              rw [hb, show decide (low2 p k < k) = true by simpa using c] at z
              exact absurd z (oN_none (by omega))
            · omega
          have hnw : (nwT T p).testBit k = true := by rw [nwT_bit hT4, hb, hlk]; simp
          have es : (clT T ch p k).1 = cnt (nwT T p) k := clT_1 T ch p k
          have hs40 : (clT T ch p k).1 < 40 := by
            have := cnt_mono (nwT T p) (show k + 1 ≤ 40 by omega)
            rw [cnt_succ, hnw] at this
            have this : cnt (nwT T p) k + 1 ≤ cnt (nwT T p) 40 := this
            omega
          have ece : ceI T p k = (clT T ch p k).1 := by unfold ceI; rw [hlk, es]
          refine h2 k τ _ (by omega) ?_
          refine And.intro hink ?_
          refine h3 (clT T ch p k) (2 ^ k) 0 (ch k) τ _ _ _ _ r2 hs40 rfl rfl (show τ.2 24 0 (nI k).toNatClampNeg = lN (ch k) by rw [ek, (ho 24 0 (by omega)).2]; exact hch k hgk) fun υ u1 u2 => ?_
          have hou := cF_off ho u1 (by omega) (by omega)
          have u31 : υ.1 31 0 = τ.1 31 0 := (u1.1 31 0 (by decide)).1
          have u32 : υ.1 32 0 = τ.1 32 0 := (u1.1 32 0 (by decide)).1
          have u30 : υ.2 30 0 = τ.2 30 0 := (u1.1 30 0 (by decide)).2
          have esz : υ.1 29 0 10 - nI 1 = nI (clT T ch p k).1 := by
            rw [u2.1]
            show nI ((clT T ch p k).1 + 1) - nI 1 = _
            rw [pk_sub (by omega)]
            rfl
          refine And.intro hink ?_
          refine And.intro hink ?_
          cases hpk : p k with
          | none =>
            refine br_c (fun _ => ?_) (fun y => ?_)
            · refine hw _ _ _ [some (jR 29 0), some (jJ (lN (hi T k) &&& (lN (hi T k) - lN 1))), none, none] _ (by repeat' first | exact trivial | exact rfl | apply And.intro) ?_
              show X (wI υ 32 0 (upd (υ.1 32 0) (nI k).toNatClampNeg (υ.1 29 0 10 - nI 1)), 39, [some (jR 29 0), some (jJ (lN (hi T k) &&& (lN (hi T k) - lN 1))), none, none], [])
              rw [esz, ek, nxt hb]
              refine ih (k + 1) (by omega) _ (off_wI hou (by omega) (by omega)) (u30.trans e30) (u31.trans e31) ((u1.2.1 9 (by omega)).trans e9) (fun i hi => ?_) ?_
              · show upd (υ.1 32 0) k (nI (clT T ch p k).1) i = _
                rw [upd_at]
                by_cases e : i = k
                · rw [if_pos e, e]
                  unfold ceO
                  rw [hb, hlk, show decide (k < k + 1) = true by simp, ece]
                  rfl
                · rw [if_neg e, u32, r1 i hi]
                  unfold ceO
                  have : low2 p i ≠ k := fun z => by
                    rcases low2_k hpI hlk z with q | q
                    · exact e q
                    · rw [hpk] at q; cases q
                  rw [show decide (low2 p i < k + 1) = decide (low2 p i < k) by simp; omega]
              · have e : clT T ch p (k + 1) = clN (2 ^ k) 0 (ch k) (clT T ch p k) := by rw [clT, if_pos hnw, teS_n hpk, neS_n hpk]
                rw [e]
                exact u2
            · have y : ¬ υ.1 31 0 (nI k).toNatClampNeg = -(nI 1) := y
              rw [t31 υ u31, hpk] at y
              exact absurd rfl y
          | some q =>
            obtain ⟨-, hTq, hkq, hpq, -, -, hq4⟩ := hpI k q hpk
            have hgq := hT q hTq
            have hqk : k < q := by
              rw [low2_s hpk] at hlk
              omega
            refine br_c (fun y => ?_) (fun _ => ?_)
            · have y : υ.1 31 0 (nI k).toNatClampNeg = -(nI 1) := y
              rw [t31 υ u31, hpk] at y
              exact absurd y (oN_none (by omega))
            · refine And.intro hink ?_
              refine h4 q (clT T ch p k).1 _ _ _ _ hq4 hs40 (by
                show υ.1 31 0 (nI k).toNatClampNeg = nI q
                rw [t31 υ u31, hpk]; rfl) esz ?_
              refine hw _ _ _ [some (jR 29 0), some (jJ (lN (hi T k) &&& (lN (hi T k) - lN 1))), none, none] _ (by repeat' first | exact trivial | exact rfl | apply And.intro) ?_
              show X (wI (wJ (wJ (wI υ 32 0 (upd (υ.1 32 0) (nI k).toNatClampNeg (υ.1 29 0 10 - nI 1))) 33 0 (vp_updL (υ.2 33 0) (clT T ch p k).1 (υ.2 33 0 (clT T ch p k).1 ||| lN (2 ^ q)))) 35 0 (vp_updL (υ.2 35 0) (clT T ch p k).1 (υ.2 35 0 (clT T ch p k).1 ||| υ.2 24 0 q))) 32 0 (upd (upd (υ.1 32 0) (nI k).toNatClampNeg (υ.1 29 0 10 - nI 1)) q (nI (clT T ch p k).1)), 39, [some (jR 29 0), some (jJ (lN (hi T k) &&& (lN (hi T k) - lN 1))), none, none], [])
              rw [esz, ek, nxt hb]
              refine ih (k + 1) (by omega) _ (off_wI (off_wJ (off_wJ (off_wI hou (by omega) (by omega)) (by omega) (by omega)) (by omega) (by omega)) (by omega) (by omega)) (u30.trans e30) (u31.trans e31) ((u1.2.1 9 (by omega)).trans e9) (fun i hi => ?_) ?_
              · show upd (upd (υ.1 32 0) k (nI (clT T ch p k).1)) q (nI (clT T ch p k).1) i = _
                rw [upd_at, upd_at]
                have elq : low2 p q = k := by rw [low2_p hpI hpk, hlk]
                by_cases e : i = q
                · rw [if_pos e, e]
                  unfold ceO
                  rw [hTq, elq, show decide (k < k + 1) = true by simp, ← ece]
                  unfold ceI
                  rw [elq, hlk]
                  rfl
                · rw [if_neg e]
                  by_cases e2 : i = k
                  · rw [if_pos e2, e2]
                    unfold ceO
                    rw [hb, hlk, show decide (k < k + 1) = true by simp, ece]
                    rfl
                  · rw [if_neg e2, u32, r1 i hi]
                    unfold ceO
                    have : low2 p i ≠ k := fun z => by
                      rcases low2_k hpI hlk z with w | w
                      · exact e2 w
                      · rw [hpk] at w; exact e (Option.some.inj w).symm
                    rw [show decide (low2 p i < k + 1) = decide (low2 p i < k) by simp; omega]
              · have e : clT T ch p (k + 1) = clN (2 ^ k ||| 2 ^ q) 0 (ch k ||| ch q) (clT T ch p k) := by rw [clT, if_pos hnw, teS_s hpk, neS_s hpk]
                rw [e]
                refine ⟨u2.1, fun c hc => ?_⟩
                have hc : c < (clT T ch p k).1 + 1 := hc
                have hu := u2.2 c hc
                have hu : υ.2 33 0 c = lN (if c = (clT T ch p k).1 then 2 ^ k else (clT T ch p k).2.1 c) ∧ υ.2 34 0 c = lN (if c = (clT T ch p k).1 then 0 else (clT T ch p k).2.2.1 c) ∧ υ.2 35 0 c = lN (if c = (clT T ch p k).1 then ch k else (clT T ch p k).2.2.2.1 c) := hu
                show vp_updL (υ.2 33 0) (clT T ch p k).1 (υ.2 33 0 (clT T ch p k).1 ||| lN (2 ^ q)) c = lN (if c = (clT T ch p k).1 then 2 ^ k ||| 2 ^ q else (clT T ch p k).2.1 c) ∧ υ.2 34 0 c = lN (if c = (clT T ch p k).1 then 0 else (clT T ch p k).2.2.1 c) ∧ vp_updL (υ.2 35 0) (clT T ch p k).1 (υ.2 35 0 (clT T ch p k).1 ||| υ.2 24 0 q) c = lN (if c = (clT T ch p k).1 then ch k ||| ch q else (clT T ch p k).2.2.2.1 c)
                rw [updL_at, updL_at]
                by_cases e3 : c = (clT T ch p k).1
                · rw [if_pos e3, if_pos e3, if_pos e3] at hu
                  rw [← e3, if_pos rfl, if_pos rfl, if_pos rfl, if_pos rfl, if_pos rfl, hu.1, hu.2.2, fb_orL, (hou 24 0 (by omega)).2, hch q hgq, fb_orL]
                  exact ⟨rfl, hu.2.1, rfl⟩
                · rw [if_neg e3, if_neg e3, if_neg e3] at hu
                  rw [if_neg e3, if_neg e3, if_neg e3, if_neg e3, if_neg e3]
                  exact hu
        · have z : ¬ τ.1 32 0 (nI k).toNatClampNeg = -(nI 1) := z
          rw [t32] at z
          have hlk : low2 p k ≠ k := fun q => by
            unfold ceO at z
            rw [q, show decide (k < k) = false by simp, Bool.and_false] at z
            exact z rfl
          have hn : (nwT T p).testBit k = false := by rw [nwT_bit hT4, show decide (low2 p k = k) = false by simpa using hlk, Bool.and_false]
          have e : clT T ch p (k + 1) = clT T ch p k := by rw [clT, hn]; rfl
          refine hw _ _ _ [some (jR 29 0), some (jJ (lN (hi T k) &&& (lN (hi T k) - lN 1))), none, none] _ (by repeat' first | exact trivial | exact rfl | apply And.intro) ?_
          rw [nxt hb]
          refine ih (k + 1) (by omega) τ ho e30 e31 e9 (fun i hi => ?_) (by rw [e]; exact r2)
          rw [r1 i hi]
          unfold ceO
          cases hbi : T.testBit i with
          | false => rfl
          | true =>
            have h5 := (low2_in hT4 hpI hbi).1
            have : low2 p i ≠ k := fun z => by rw [z, hn] at h5; cases h5
            rw [show decide (low2 p i < k + 1) = decide (low2 p i < k) by simp; omega]
  refine hg [7] 30 _ ?_
  show X (wI σ 29 0 (upd (σ.1 29 0) 10 (nI 0)), 7, [some (jR 29 0), some (jI (nI 0)), none, none], [])
  have first : ∀ (m k : Nat), k + m = nN N → ∀ (τ : jm_G), off 29 35 σ τ → τ.2 30 0 = σ.2 30 0 → τ.1 31 0 = σ.1 31 0 → τ.1 29 0 9 = σ.1 29 0 9 → τ.1 29 0 10 = nI 0 → (∀ j, j < k → τ.1 32 0 j = -(nI 1)) → X (τ, 7, [some (jR 29 0), some (jI (nI k)), none, none], []) := by
    intro m
    induction m with
    | zero =>
      intro k hk τ ho e30 e31 e9 e10 hr
      have e : k = nN N := by omega
      subst e
      have hNt := cN_off hN ho (by omega) (by omega)
      refine hg [7, 39] 30 _ ?_
      refine br_c (fun _ => ?_) (fun h => ?_)
      · show X (τ, 39, [some (jR 29 0), some (jJ (τ.2 22 0 4)), none, none], [])
        rw [(ho 22 0 (by omega)).2, h22]
        have := outer 40 0 (by omega) τ ho e30 e31 e9 (fun a ha => by
          rw [hr a ha]
          unfold ceO
          rw [show decide (low2 p a < 0) = false by simp, Bool.and_false]
          rfl) ⟨e10, fun c hc => absurd hc (Nat.not_lt_zero _)⟩
        rw [hi_0] at this
        exact this
      · have h : ¬ τ.1 2 0 9 ≤ nI (nN N) := h
        rw [hNt.1, nI_leI (by omega) (by omega)] at h
        omega
    | succ m ih =>
      intro k hk τ ho e30 e31 e9 e10 hr
      have hNt := cN_off hN ho (by omega) (by omega)
      refine hg [7, 39] 30 _ ?_
      refine br_c (fun h => ?_) (fun _ => ?_)
      · have h : τ.1 2 0 9 ≤ nI k := h
        rw [hNt.1, nI_leI (by omega) (by omega)] at h
        omega
      · refine And.intro (vp_in_nI (by omega) (by omega)) ?_
        show X (wI τ 32 0 (upd (τ.1 32 0) (nI k).toNatClampNeg (-(nI 1))), 7, [some (jR 29 0), some (jI (nI k + nI 1)), none, none], [])
        rw [nI_clamp (by omega), nI_add]
        refine ih (k + 1) (by omega) _ (off_wI ho (by omega) (by omega)) e30 e31 e9 e10 fun j hj => ?_
        rw [wI1, if_pos ⟨rfl, rfl⟩, upd_at]
        by_cases e : j = k
        · rw [if_pos e]
        · rw [if_neg e]; exact hr j (by omega)
  exact first (nN N) 0 (by omega) _ (off_wI (off_refl _ _ _) (by omega) (by omega)) rfl rfl rfl rfl fun j hj => absurd hj (by omega)
abbrev ct_usedBy (C : jm_C) : Prop := ∀ (N : nw) (T : Nat) (ch : Nat → Nat) (σ : jm_G) (post : Option jm_V → jm_G → Prop), nw_ok N → allG N T → σ.2 22 0 4 = lN T → cCh N ch σ → post (some (jJ (lN (usM T ch 40)))) σ → C kX0_usedByTables [jR 29 0] σ post
theorem T_usedBy (L : Nat) {C : jm_C} (hC : jm_mon C) (h1 : ct_low C) : ct_usedBy (jm_up L C) := by
  intro N T ch σ post hok hT h22 hch hp
  refine jm_start rfl (Nat.le_of_ble_eq_true rfl) hC fun X hg hw => ?_
  have hT4 := allG_lt hok hT
  refine hg [10] 30 _ ?_
  show X (σ, 10, [some (jR 29 0), some (jJ (lN 0)), none, some (jJ (σ.2 22 0 4)), none], [])
  rw [h22]
  have main := jm_bits (X := X) T (fun k => (σ, 10, [some (jR 29 0), some (jJ (lN (usM T ch k))), none, some (jJ (lN (hi T k))), none], [])) 40 ?_ ?_ ?_ 0 (by omega)
  · have main : X (σ, 10, [some (jR 29 0), some (jJ (lN 0)), none, some (jJ (lN (hi T 0))), none], []) := main
    rw [hi_0] at main
    exact main
  · show X (σ, 10, [some (jR 29 0), some (jJ (lN (usM T ch 40))), none, some (jJ (lN (hi T 40))), none], [])
    rw [hi_end hT4]
    refine hg [] 30 _ ?_
    exact br_c (fun _ => And.intro trivial hp) (fun h => absurd ((cmp_0 _ _).mpr rfl) h)
  · intro k hk hb
    have e : usM T ch (k + 1) = usM T ch k := by rw [usM, hb]; exact Nat.or_zero _
    simp only [e, hi_skip hb]
  · intro k hk hb ih
    have ih : X (σ, 10, [some (jR 29 0), some (jJ (lN (usM T ch (k + 1)))), none, some (jJ (lN (hi T (k + 1)))), none], []) := ih
    rw [usM, if_pos hb] at ih
    refine hg [10] 30 _ ?_
    refine br_c (fun h => absurd h (hi_n0 hT4 hb)) (fun _ => ?_)
    refine h1 T k σ _ (p40 hT4) hb ?_
    refine And.intro (vp_in_nI (by omega) (by omega)) ?_
    show X (σ, 10, [some (jR 29 0), some (jJ (lN (usM T ch k) ||| σ.2 24 0 (nI k).toNatClampNeg)), none, some (jJ (lN (hi T k) &&& (lN (hi T k) - lN 1))), none], [])
    rw [nI_clamp (by omega), hch k (hT k hb), fb_orL, nxt hb]
    exact ih
abbrev ct_fedSev (C : jm_C) : Prop := ∀ (N : nw) (σ : jm_G) (post : Option jm_V → jm_G → Prop), nw_ok N → cN N σ → post (some (jJ (lN (svM N 40)))) σ → C kX0_fedToSeveral [jR 29 0] σ post
theorem T_fedSev (L : Nat) {C : jm_C} (hC : jm_mon C) (h1 : ct_low C) (h2 : ct_feedOf C) (h3 : ct_bit C) : ct_fedSev (jm_up L C) := by
  intro N σ post hok hN hp
  refine jm_start rfl (Nat.le_of_ble_eq_true rfl) hC fun X hg hw => ?_
  have h40 := hok.1
  have hr := rM_lt hok
  refine hg [13] 30 _ ?_
  show X (σ, 13, [some (jR 29 0), some (jJ (lN 0)), none, some (jJ (lN 0)), none, some (jJ (σ.2 2 0 7)), none, none, none], [])
  rw [hN.2.2.2.1]
  have main := jm_bits (X := X) (rM N) (fun k => (σ, 13, [some (jR 29 0), some (jJ (lN (fdM N k))), none, some (jJ (lN (svM N k))), none, some (jJ (lN (hi (rM N) k))), none, none, none], [])) 40 ?_ ?_ ?_ 0 (by omega)
  · have main : X (σ, 13, [some (jR 29 0), some (jJ (lN 0)), none, some (jJ (lN 0)), none, some (jJ (lN (hi (rM N) 0))), none, none, none], []) := main
    rw [hi_0] at main
    exact main
  · show X (σ, 13, [some (jR 29 0), some (jJ (lN (fdM N 40))), none, some (jJ (lN (svM N 40))), none, some (jJ (lN (hi (rM N) 40))), none, none, none], [])
    rw [hi_end hr]
    refine hg [] 30 _ ?_
    exact br_c (fun _ => And.intro trivial hp) (fun h => absurd ((cmp_0 _ _).mpr rfl) h)
  · intro k hk hb
    have hb2 : isR N k = false := by rw [← rM_bit]; exact hb
    have e : svM N (k + 1) = svM N k := by rw [svM, hb2]; exact Nat.or_zero _
    have e2 : fdM N (k + 1) = fdM N k := by rw [fdM, hb2]; exact Nat.or_zero _
    simp only [e, e2, hi_skip hb]
  · intro k hk hb ih
    have hr2 : isR N k = true := by rw [← rM_bit]; exact hb
    have hf := hok.2.2.2.1 k hr2
    have ih : X (σ, 13, [some (jR 29 0), some (jJ (lN (fdM N (k + 1)))), none, some (jJ (lN (svM N (k + 1)))), none, some (jJ (lN (hi (rM N) (k + 1)))), none, none, none], []) := ih
    rw [svM, fdM, if_pos hr2, if_pos hr2] at ih
    refine hg [13] 60 _ ?_
    refine br_c (fun h => absurd h (hi_n0 hr hb)) (fun _ => ?_)
    refine h1 (rM N) k σ _ (p40 hr) hb ?_
    refine h2 N k σ _ hok hN hr2 ?_
    refine h3 (nF N k) σ _ (by omega) ?_
    refine hw _ _ _ [some (jR 29 0), some (jJ (lN (fdM N k) ||| lN (2 ^ nF N k))), none, some (jJ (lN (svM N k) ||| (lN (fdM N k) &&& lN (2 ^ nF N k)))), none, some (jJ (lN (hi (rM N) k) &&& (lN (hi (rM N) k) - lN 1))), none, none, none] _ (by repeat' first | exact trivial | exact rfl | apply And.intro) ?_
    rw [fb_andL, fb_orL, fb_orL, nxt hb]
    exact ih
