/-! the model's isPair, laysPairs, isPacked -/
abbrev ct_misPair (C : jm_C) : Prop := ∀ (N : nw) (K a b : Nat) (ch : Nat → Nat) (σ : jm_G) (x y : Int32) (post : Option jm_V → jm_G → Prop), nw_ok N → mCh N ch σ → (∀ g, isG N g = true → ch g < 2 ^ 40) → 1 ≤ K → K ≤ 6 → σ.1 38 0 7 = nI K → isG N a = true → isG N b = true → x = nI a → y = nI b → post (some (jI (bI (prB K ch a b)))) σ → C kX10_isPair [jR 38 0, jI x, jI y] σ post
theorem T_misPair (L : Nat) {C : jm_C} (hC : jm_mon C) (h1 : ct_mhas C) (h2 : ct_mmany C) : ct_misPair (jm_up L C) := by
  intro N K a b ch σ x y post hok hch hlt hK1 hK6 h7 ha hb hx hy hp
  subst hx
  subst hy
  refine jm_start rfl (Nat.le_of_ble_eq_true rfl) hC fun X hg hw => ?_
  have h40 := hok.1
  have la := isG_lt ha
  have lb := isG_lt hb
  have ea : (nI a).toNatClampNeg = a := nI_clamp (by omega)
  have eb : (nI b).toNatClampNeg = b := nI_clamp (by omega)
  have ina : vp_in (nI a) 40 := vp_in_nI (by omega) (by omega)
  have inb : vp_in (nI b) 40 := vp_in_nI (by omega) (by omega)
  have ca : σ.2 53 0 (nI a).toNatClampNeg = lN (ch a) := by rw [ea]; exact hch a ha
  have cb : σ.2 53 0 (nI b).toNatClampNeg = lN (ch b) := by rw [eb]; exact hch b hb
  unfold prB at hp
  refine hg [] 60 _ ?_
  refine And.intro ina ?_
  refine c_mhas h1 ca rfl (p40 (hlt a ha)) (by omega) ?_
  refine br_c (fun h => ?_) (fun h => ?_)
  · rw [bI_0.mp h] at hp
    refine And.intro inb ?_
    refine c_mhas h1 cb rfl (p40 (hlt b hb)) (by omega) ?_
    refine br_c (fun h => ?_) (fun h => ?_)
    · rw [bI_0.mp h] at hp
      refine And.intro ina ?_
      refine And.intro inb ?_
      have hor : ch a ||| ch b < 2 ^ 40 := or_lt (hlt a ha) (hlt b hb)
      have hc := cnt_le (ch a ||| ch b) 40
      refine c_mmany h2 (S := ch a ||| ch b) (show σ.2 53 0 (nI a).toNatClampNeg ||| σ.2 53 0 (nI b).toNatClampNeg = _ by rw [ca, cb, fb_orL]) (p40 hor) ?_
      refine br_c (fun z => ?_) (fun z => ?_)
      · have z : σ.1 38 0 7 - nI 1 < nI (cnt (ch a ||| ch b) 40) := z
        rw [h7, pk_sub (by omega), nI_ltI (by omega) (by omega)] at z
        rw [show decide (cnt (ch a ||| ch b) 40 ≤ K - 1) = false by simp; omega] at hp
        exact And.intro (Or.inl rfl) hp
      · have z : ¬ σ.1 38 0 7 - nI 1 < nI (cnt (ch a ||| ch b) 40) := z
        rw [h7, pk_sub (by omega), nI_ltI (by omega) (by omega)] at z
        rw [show decide (cnt (ch a ||| ch b) 40 ≤ K - 1) = true by simp; omega] at hp
        exact And.intro (Or.inr rfl) hp
    · rw [bI_n0.mp h] at hp
      exact And.intro (Or.inl rfl) hp
  · rw [bI_n0.mp h] at hp
    exact And.intro (Or.inl rfl) hp
theorem oN_ge {o : Option Nat} (h : ∀ z, o = some z → z < 2 ^ 31) : 0 ≤ oN o ↔ isN o = false := by
  cases o with
  | none => exact ⟨fun q => absurd m1_neg (Int32.not_lt.mpr q), fun q => by cases q⟩
  | some z => exact ⟨fun _ => rfl, fun _ => nI_pos' (h z rfl)⟩
abbrev ct_laysP (C : jm_C) : Prop := ∀ (N : nw) (K T : Nat) (ch : Nat → Nat) (σ : jm_G) (post : Option jm_V → jm_G → Prop), nw_ok N → mN N σ → mCh N ch σ → (∀ g, isG N g = true → ch g < 2 ^ 40) → 1 ≤ K → K ≤ 6 → σ.1 38 0 7 = nI K → allG N T → σ.2 38 0 25 = lN T → (∀ σ', mf [58] [38] σ σ' → (∀ i, i < nN N → σ'.1 58 0 i = oN (prT T K ch 40 i)) → σ'.1 38 0 38 = nI (prN T K ch 40) → post none σ') → C kX10_laysPairs [jR 38 0] σ post
theorem T_laysP (L : Nat) {C : jm_C} (hC : jm_mon C) (h1 : ct_mhas C) (h2 : ct_misPair C) : ct_laysP (jm_up L C) := by
  intro N K T ch σ post hok hN hch hlt hK1 hK6 h7 hT h25 hp
  refine jm_start rfl (Nat.le_of_ble_eq_true rfl) hC fun X hg hw => ?_
  have h40 := hok.1
  have hT4 := allG_lt hok hT
  have hend := prT_end (K := K) (ch := ch) (fun j hj => isG_lt (hT j hj)) (40 - nN N)
  rw [show nN N + (40 - nN N) = 40 by omega] at hend
  have outer : ∀ (m a : Nat), a + m = nN N → ∀ (τ : jm_G), mf [58] [38] σ τ → (∀ i, i < nN N → τ.1 58 0 i = oN (prT T K ch a i)) → τ.1 38 0 38 = nI (prN T K ch a) → X (τ, 30, [some (jR 38 0), some (jI (nI a)), none], []) := by
    intro m
    induction m with
    | zero =>
      intro a ha τ ho r1 r2
      have e : a = nN N := by omega
      subst e
      have hNt := mN_mf hN ho (by decide) (by decide)
      refine hg [30] 40 _ ?_
      refine br_c (fun _ => And.intro trivial (hp τ ho (fun i hi => ?_) ?_)) (fun h => ?_)
      · rw [hend.1]; exact r1 i hi
      · rw [hend.2]; exact r2
      · have h : ¬ τ.1 38 0 1 ≤ nI (nN N) := h
        rw [hNt.1, nI_leI (by omega) (by omega)] at h
        omega
    | succ m ih =>
      intro a ha τ ho r1 r2
      have hNt := mN_mf hN ho (by decide) (by decide)
      have hpI := prI_T (K := K) (ch := ch) hT4 a (by omega)
      have psm : ∀ i z, prT T K ch a i = some z → z < 2 ^ 31 := fun i z h => by have := (hpI i z h).2.2.2.2.2.2; omega
      have ea : (nI a).toNatClampNeg = a := nI_clamp (by omega)
      have ina : vp_in (nI a) 40 := vp_in_nI (by omega) (by omega)
      have done : ∀ (υ : jm_G) (c : Int32), mf [58] [38] σ υ → (∀ i, i < nN N → υ.1 58 0 i = oN (prT T K ch (a + 1) i)) → υ.1 38 0 38 = nI (prN T K ch (a + 1)) → X (υ, 30, [some (jR 38 0), some (jI (nI a + nI 1)), some (jI c)], []) := by
        intro υ c u1 u2 u3
        refine hw _ _ _ [some (jR 38 0), some (jI (nI a + nI 1)), none] _ (by repeat' first | exact trivial | exact rfl | apply And.intro) ?_
        rw [nI_add]
        exact ih (a + 1) (by omega) υ u1 u2 u3
      have same : prT T K ch (a + 1) = prT T K ch a ∧ prN T K ch (a + 1) = prN T K ch a → ∀ c : Int32, X (τ, 30, [some (jR 38 0), some (jI (nI a + nI 1)), some (jI c)], []) := fun hf c => done τ c ho (fun i hi => by rw [hf.1]; exact r1 i hi) (by rw [hf.2]; exact r2)
      refine hg [30, 42] 40 _ ?_
      refine br_c (fun h => ?_) (fun _ => ?_)
      · have h : τ.1 38 0 1 ≤ nI a := h
        rw [hNt.1, nI_leI (by omega) (by omega)] at h
        omega
      · show X (τ, 42, [some (jR 38 0), some (jI (nI a)), some (jI (nI a + nI 1))], [])
        rw [nI_add]
        cases hc : (T.testBit a && isN (prT T K ch a a)) with
        | false =>
          have hf := prT_f hc
          refine hg [30, 42] 60 _ ?_
          refine br_c (fun _ => same hf _) (fun _ => ?_)
          refine c_mhas h1 (show τ.2 38 0 25 = lN T by rw [(ho.2 0 25 (by decide)).2]; exact h25) rfl (p40 hT4) (by omega) ?_
          refine br_c (fun _ => same hf _) (fun z => ?_)
          rw [bI_n0.mp z, Bool.true_and] at hc
          refine And.intro ina ?_
          refine br_c (fun _ => same hf _) (fun y => ?_)
          have y : ¬ 0 ≤ τ.1 58 0 (nI a).toNatClampNeg := y
          rw [ea, r1 a (by omega), oN_ge (psm a)] at y
          exact absurd hc y
        | true =>
          have hTa : T.testBit a = true := by rw [Bool.and_eq_true] at hc; exact hc.1
          have hpa : prT T K ch a a = none := by rw [Bool.and_eq_true] at hc; exact isN_t.mp hc.2
          have hga := hT a hTa
          have inner : ∀ (e b : Nat), b + e = nN N → a < b → (∀ j, j < b → prq T K ch (prT T K ch a) a j = false) → X (τ, 42, [some (jR 38 0), some (jI (nI a)), some (jI (nI b))], []) := by
            intro e
            induction e with
            | zero =>
              intro b hb hab hno
              have eb : b = nN N := by omega
              subst eb
              have hn : frs (prq T K ch (prT T K ch a) a) 40 = none := frs_none fun j hj => by
                by_cases c : j < nN N
                · exact hno j c
                · unfold prq
                  have : T.testBit j = false := by
                    cases q : T.testBit j with
                    | false => rfl
                    | true => have := isG_lt (hT j q); omega
                  rw [this]
                  simp
              refine hg [30, 42] 60 _ ?_
              refine br_c (fun _ => same (prT_n hc hn) _) (fun h => ?_)
              have h : ¬ τ.1 38 0 1 ≤ nI (nN N) := h
              rw [hNt.1, nI_leI (by omega) (by omega)] at h
              omega
            | succ e ihe =>
              intro b hb hab hno
              have eb : (nI b).toNatClampNeg = b := nI_clamp (by omega)
              have inb : vp_in (nI b) 40 := vp_in_nI (by omega) (by omega)
              have next : prq T K ch (prT T K ch a) a b = false → X (τ, 42, [some (jR 38 0), some (jI (nI a)), some (jI (nI b + nI 1))], []) := by
                intro hq
                rw [nI_add]
                refine ihe (b + 1) (by omega) (by omega) fun j hj => ?_
                by_cases c : j = b
                · rw [c]; exact hq
                · exact hno j (by omega)
              refine hg [30, 42] 80 _ ?_
              refine br_c (fun h => ?_) (fun _ => ?_)
              · have h : τ.1 38 0 1 ≤ nI b := h
                rw [hNt.1, nI_leI (by omega) (by omega)] at h
                omega
              · refine c_mhas h1 (show τ.2 38 0 25 = lN T by rw [(ho.2 0 25 (by decide)).2]; exact h25) rfl (p40 hT4) (by omega) ?_
                rw [hTa]
                refine br_c (fun h => absurd h (by decide)) (fun _ => ?_)
                refine And.intro ina ?_
                refine br_c (fun y => ?_) (fun _ => ?_)
                · have y : 0 ≤ τ.1 58 0 (nI a).toNatClampNeg := y
                  rw [ea, r1 a (by omega), oN_ge (psm a), hpa] at y
                  cases y
                · refine c_mhas h1 (show τ.2 38 0 25 = lN T by rw [(ho.2 0 25 (by decide)).2]; exact h25) rfl (p40 hT4) (by omega) ?_
                  refine br_c (fun z => ?_) (fun z => ?_)
                  · refine next ?_
                    unfold prq
                    rw [bI_0.mp z]
                    simp
                  · have hTb := bI_n0.mp z
                    have hgb := hT b hTb
                    refine And.intro inb ?_
                    refine br_c (fun y => ?_) (fun y => ?_)
                    · have y : 0 ≤ τ.1 58 0 (nI b).toNatClampNeg := y
                      rw [eb, r1 b (by omega), oN_ge (psm b)] at y
                      refine next ?_
                      unfold prq
                      rw [y]
                      simp
                    · have y : ¬ 0 ≤ τ.1 58 0 (nI b).toNatClampNeg := y
                      rw [eb, r1 b (by omega), oN_ge (psm b)] at y
                      have y : isN (prT T K ch a b) = true := by simpa using y
                      refine h2 N K a b ch τ _ _ _ hok (mCh_mf hch ho (by decide)) hlt hK1 hK6 (by rw [(ho.2 0 7 (by decide)).1]; exact h7) hga hgb rfl rfl ?_
                      refine br_c (fun w => ?_) (fun w => ?_)
                      · refine next ?_
                        unfold prq
                        rw [bI_0.mp w]
                        simp
                      · have hq : prq T K ch (prT T K ch a) a b = true := by
                          unfold prq
                          rw [hTb, y, bI_n0.mp w, show decide (a < b) = true by simpa using hab]
                          rfl
                        have hs := frs_is (show b < 40 by omega) hq hno
                        have hst := prT_s hc hs
                        refine And.intro ina ?_
                        refine And.intro inb ?_
                        show X (wI (wI (wI τ 58 0 (upd (τ.1 58 0) (nI a).toNatClampNeg (nI b))) 58 0 (upd (upd (τ.1 58 0) (nI a).toNatClampNeg (nI b)) (nI b).toNatClampNeg (nI a))) 38 0 (upd (τ.1 38 0) 38 (τ.1 38 0 38 + nI 1)), 42, [some (jR 38 0), some (jI (nI a)), some (jI (nI b + nI 1))], [])
                        rw [ea, eb, nI_add, r2, nI_add]
                        have fu : mf [58] [38] σ (wI (wI (wI τ 58 0 (upd (τ.1 58 0) a (nI b))) 58 0 (upd (upd (τ.1 58 0) a (nI b)) b (nI a))) 38 0 (upd (τ.1 38 0) 38 (nI (prN T K ch a + 1)))) := mf_sF (mf_wI (mf_wI ho (by decide) (by decide)) (by decide) (by decide)) (by decide)
                        have u1 : ∀ i, i < nN N → upd (upd (τ.1 58 0) a (nI b)) b (nI a) i = oN (prT T K ch (a + 1) i) := fun i hi => by
                          rw [upd_at, upd_at, hst.1]
                          show _ = oN (if i = a then some b else if i = b then some a else prT T K ch a i)
                          by_cases e1 : i = a
                          · rw [if_neg (by omega), if_pos e1, if_pos e1]; rfl
                          · by_cases e2 : i = b
                            · rw [if_pos e2, if_neg e1, if_pos e2]; rfl
                            · rw [if_neg e2, if_neg e1, if_neg e1, if_neg e2]; exact r1 i hi
                        have u2 : upd (τ.1 38 0) 38 (nI (prN T K ch a + 1)) 38 = nI (prN T K ch (a + 1)) := by rw [upd_at, if_pos rfl, hst.2]
                        have fin := fun c => done _ c fu u1 u2
                        have hNu := mN_mf hN fu (by decide) (by decide)
                        refine hg [30, 42] 60 _ ?_
                        refine br_c (fun _ => fin _) (fun _ => ?_)
                        refine c_mhas h1 (S := T) (n := a) (show τ.2 38 0 25 = lN T by rw [(ho.2 0 25 (by decide)).2]; exact h25) rfl (p40 hT4) (by omega) ?_
                        refine br_c (fun _ => fin _) (fun _ => ?_)
                        refine And.intro ina ?_
                        refine br_c (fun _ => fin _) (fun q => ?_)
                        have q : ¬ 0 ≤ upd (upd (τ.1 58 0) a (nI b)) b (nI a) (nI a).toNatClampNeg := q
                        rw [ea, u1 a (by omega), hst.1] at q
                        have q : ¬ 0 ≤ oN (if a = a then some b else if a = b then some a else prT T K ch a a) := q
                        rw [if_pos rfl] at q
                        exact absurd (nI_pos' (by omega)) q
          exact inner (nN N - (a + 1)) (a + 1) (by omega) (by omega) fun j hj => by
            unfold prq
            rw [show decide (a < j) = false by simp; omega]
            simp
  refine hg [7] 30 _ ?_
  show X (wI σ 38 0 (upd (σ.1 38 0) 38 (nI 0)), 7, [some (jR 38 0), some (jI (nI 0)), none], [])
  have first : ∀ (m k : Nat), k + m = nN N → ∀ (τ : jm_G), mf [58] [38] σ τ → τ.1 38 0 38 = nI 0 → (∀ j, j < k → τ.1 58 0 j = -(nI 1)) → X (τ, 7, [some (jR 38 0), some (jI (nI k)), none], []) := by
    intro m
    induction m with
    | zero =>
      intro k hk τ ho e38 hr
      have e : k = nN N := by omega
      subst e
      have hNt := mN_mf hN ho (by decide) (by decide)
      refine hg [7, 30] 30 _ ?_
      refine br_c (fun _ => ?_) (fun h => ?_)
      · exact outer (nN N) 0 (by omega) τ ho (fun a ha => hr a ha) e38
      · have h : ¬ τ.1 38 0 1 ≤ nI (nN N) := h
        rw [hNt.1, nI_leI (by omega) (by omega)] at h
        omega
    | succ m ih =>
      intro k hk τ ho e38 hr
      have hNt := mN_mf hN ho (by decide) (by decide)
      refine hg [7, 30] 30 _ ?_
      refine br_c (fun h => ?_) (fun _ => ?_)
      · have h : τ.1 38 0 1 ≤ nI k := h
        rw [hNt.1, nI_leI (by omega) (by omega)] at h
        omega
      · refine And.intro (vp_in_nI (by omega) (by omega)) ?_
        show X (wI τ 58 0 (upd (τ.1 58 0) (nI k).toNatClampNeg (-(nI 1))), 7, [some (jR 38 0), some (jI (nI k + nI 1)), none], [])
        rw [nI_clamp (by omega), nI_add]
        refine ih (k + 1) (by omega) _ (mf_wI ho (by decide) (by decide)) e38 fun j hj => ?_
        rw [wI1, if_pos ⟨rfl, rfl⟩, upd_at]
        by_cases e : j = k
        · rw [if_pos e]
        · rw [if_neg e]; exact hr j (by omega)
  exact first (nN N) 0 (by omega) _ (mf_sF (mf_refl _ _ _) (by decide)) (by rw [wI1, if_pos ⟨rfl, rfl⟩, upd_at, if_pos rfl]) fun j hj => absurd hj (by omega)
theorem feeds_one {N : nw} {f r : Nat} (hok : nw_ok N) (hr : isR N r = true) (hf : nF N r = f) : fb_ct (fun k => isR N k && decide (nF N k = f)) (nN N) = 1 ↔ (svM N 40).testBit f = false := by
  have h40 := hok.1
  have hrn := isR_lt hr
  have h0 : 0 < fb_ct (fun k => isR N k && decide (nF N k = f)) (nN N) := fb_ct_pos.mpr ⟨r, hrn, by rw [hr, hf]; simp⟩
  constructor
  · intro h1
    cases hb : (svM N 40).testBit f with
    | false => rfl
    | true =>
      obtain ⟨a, b, h2, h3, h4, h5, h6, h7⟩ := (svM_bit N f 40).mp hb
      have hbn := isR_lt h5
      have m1 := fb_ct_mono (fun k => isR N k && decide (nF N k = f)) (show a + 1 ≤ b by omega)
      have m2 := fb_ct_mono (fun k => isR N k && decide (nF N k = f)) (show b + 1 ≤ nN N by omega)
      rw [fb_ct_succ, h4, h6] at m1
      rw [fb_ct_succ, h5, h7] at m2
      simp at m1 m2
      omega
  · intro hb
    rcases Nat.lt_or_ge 1 (fb_ct (fun k => isR N k && decide (nF N k = f)) (nN N)) with c | c
    · obtain ⟨a, a1, a2, a3⟩ := fb_ct_kth (k := 0) h0
      obtain ⟨b, b1, b2, b3⟩ := fb_ct_kth (k := 1) c
      rw [Bool.and_eq_true, decide_eq_true_eq] at a2 b2
      have hne : a ≠ b := fun e => by rw [e, b3] at a3; cases a3
      have : (svM N 40).testBit f = true := by
        rw [svM_bit]
        rcases Nat.lt_or_ge a b with q | q
        · exact ⟨a, b, q, by omega, a2.1, b2.1, a2.2, b2.2⟩
        · exact ⟨b, a, by omega, by omega, b2.1, a2.1, b2.2, a2.2⟩
      rw [hb] at this
      cases this
    · omega
theorem uses_0 (T : Nat) (ch : Nat → Nat) (f : Nat) : cnt (mk (fun g => T.testBit g && (ch g).testBit f) 40) 40 = 0 ↔ (usM T ch 40).testBit f = false := by
  rw [cnt_mk _ (Nat.le_refl 40), fb_ct_zero]
  constructor
  · intro h
    cases hb : (usM T ch 40).testBit f with
    | false => rfl
    | true =>
      obtain ⟨g, h1, h2, h3⟩ := (usM_bit T ch f 40).mp hb
      have := h g h1
      rw [h2, h3] at this
      cases this
  · intro h k hk
    cases hb : (T.testBit k && (ch k).testBit f) with
    | false => rfl
    | true =>
      rw [Bool.and_eq_true] at hb
      have := (usM_bit T ch f 40).mpr ⟨k, hk, hb.1, hb.2⟩
      rw [h] at this
      cases this
theorem mN_feed {N : nw} {σ : jm_G} (hok : nw_ok N) (hN : mN N σ) {r : Nat} (hr : isR N r = true) : σ.1 41 0 (nI 3 * nI r).toNatClampNeg = nI (nF N r) := by
  have h40 := hok.1
  have hrn := isR_lt hr
  have hgf : isG N r = false := by
    have := hr
    rw [isR_of hrn] at this
    rw [isG_of hrn]
    simp at this ⊢
    omega
  rw [n3, nI_clamp (by omega)]
  have := hN.2.2.2.1 r hrn 0 (by omega)
  rw [show 3 * r + 0 = 3 * r from rfl] at this
  rw [this]
  unfold sofI
  simp [hgf, hr]
abbrev ct_misPacked (C : jm_C) : Prop := ∀ (N : nw) (T r : Nat) (ch : Nat → Nat) (σ : jm_G) (post : Option jm_V → jm_G → Prop), nw_ok N → mN N σ → mCh N ch σ → (∀ g, isG N g = true → ch g < 2 ^ 40) → allG N T → σ.2 38 0 25 = lN T → isR N r = true → post (some (jI (bI ((frM N T ch).testBit (nF N r))))) σ → C kX10_isPacked [jR 38 0, jI (nI r)] σ post
theorem T_misPacked (L : Nat) {C : jm_C} (hC : jm_mon C) (h1 : ct_mhas C) (h2 : ct_muses C) : ct_misPacked (jm_up L C) := by
  intro N T r ch σ post hok hN hch hlt hT h25 hr hp
  refine jm_start rfl (Nat.le_of_ble_eq_true rfl) hC fun X hg hw => ?_
  have h40 := hok.1
  have hT4 := allG_lt hok hT
  have hrn := isR_lt hr
  have hf := hok.2.2.2.1 r hr
  rw [frM_bit] at hp
  refine hg [14] 40 _ ?_
  refine And.intro (show vp_in (nI 3 * nI r) 120 by rw [n3]; exact vp_in_nI (by omega) (by omega)) ?_
  show X (σ, 14, [some (jR 38 0), some (jI (nI r)), some (jI (σ.1 41 0 (nI 3 * nI r).toNatClampNeg)), some (jI (nI 0)), some (jI (nI 0))], [])
  rw [mN_feed hok hN hr]
  have hfo := feeds_one hok hr rfl
  have huo := uses_0 T ch (nF N r)
  generalize hfeq : nF N r = f at hp hf hfo huo ⊢
  have hcl : ∀ n, fb_ct (fun k => isR N k && decide (nF N k = f)) n ≤ n := fun n => fb_ct_le _ _
  refine jm_for (X := X) (fun k => (σ, 14, [some (jR 38 0), some (jI (nI r)), some (jI (nI f)), some (jI (nI (fb_ct (fun k => isR N k && decide (nF N k = f)) k))), some (jI (nI k))], [])) (nN N) ?_ ?_ 0 (by omega)
  · have hcn := hcl (nN N)
    refine hg [14] 60 _ ?_
    refine br_c (fun _ => ?_) (fun h => ?_)
    · refine c_mhas h1 h25 rfl (p40 hT4) (by omega) ?_
      refine br_c (fun z => ?_) (fun z => ?_)
      · rw [bI_0.mp z] at hp
        exact And.intro (Or.inl rfl) hp
      · have hTf := bI_n0.mp z
        rw [hTf, Bool.true_and] at hp
        refine c_mhas h1 hN.2.2.2.2.2 rfl (p40 (nO_lt hok)) (by omega) ?_
        refine br_c (fun y => ?_) (fun y => ?_)
        · rw [bI_0.mp y, Bool.not_false, Bool.true_and] at hp
          refine br_c (fun w => ?_) (fun w => ?_)
          · have w : nI (fb_ct (fun k => isR N k && decide (nF N k = f)) (nN N)) = nI 1 := w
            rw [nI_eq (by omega) (by omega), hfo] at w
            rw [w, Bool.not_false, Bool.and_true] at hp
            refine h2 N ch T f σ _ hok hN hT hch hlt h25 (by omega) ?_
            have hc40 := cnt_le (mk (fun g => T.testBit g && (ch g).testBit f) 40) 40
            refine br_c (fun v => ?_) (fun v => ?_)
            · have v : nI (cnt (mk (fun g => T.testBit g && (ch g).testBit f) 40) 40) = nI 0 := v
              rw [nI_eq (by omega) (by omega), huo] at v
              rw [v] at hp
              exact And.intro (Or.inr rfl) hp
            · have v : ¬ nI (cnt (mk (fun g => T.testBit g && (ch g).testBit f) 40) 40) = nI 0 := v
              rw [nI_eq (by omega) (by omega), huo] at v
              have v : (usM T ch 40).testBit f = true := by simpa using v
              rw [v] at hp
              exact And.intro (Or.inl rfl) hp
          · have w : ¬ nI (fb_ct (fun k => isR N k && decide (nF N k = f)) (nN N)) = nI 1 := w
            rw [nI_eq (by omega) (by omega), hfo] at w
            have w : (svM N 40).testBit f = true := by simpa using w
            rw [w, Bool.not_true, Bool.and_false] at hp
            exact And.intro (Or.inl rfl) hp
        · rw [bI_n0.mp y] at hp
          exact And.intro (Or.inl rfl) hp
    · have h : ¬ σ.1 38 0 1 ≤ nI (nN N) := h
      rw [hN.1, nI_leI (by omega) (by omega)] at h
      omega
  · intro k hk ih
    have ih : X (σ, 14, [some (jR 38 0), some (jI (nI r)), some (jI (nI f)), some (jI (nI (fb_ct (fun k => isR N k && decide (nF N k = f)) (k + 1)))), some (jI (nI (k + 1)))], []) := ih
    rw [fb_ct_succ] at ih
    have ek : (nI k).toNatClampNeg = k := nI_clamp (by omega)
    have no : (isR N k && decide (nF N k = f)) = false → X (σ, 14, [some (jR 38 0), some (jI (nI r)), some (jI (nI f)), some (jI (nI (fb_ct (fun k => isR N k && decide (nF N k = f)) k) + nI 0)), some (jI (nI k + nI 1))], []) := by
      intro q
      rw [q] at ih
      rw [nI_add, nI_add]
      exact ih
    refine hg [14] 60 _ ?_
    refine br_c (fun h => ?_) (fun _ => ?_)
    · have h : σ.1 38 0 1 ≤ nI k := h
      rw [hN.1, nI_leI (by omega) (by omega)] at h
      omega
    · refine And.intro (vp_in_nI (by omega) (by omega)) ?_
      refine br_c (fun z => ?_) (fun z => ?_)
      · have z : σ.1 39 0 (nI k).toNatClampNeg = nI 2 := z
        rw [ek, hN.2.1 k hk, nS_eq hok hk (by omega)] at z
        have hrk : isR N k = true := by rw [isR_of hk]; simpa using z
        have hfk := hok.2.2.2.1 k hrk
        refine And.intro (show vp_in (nI 3 * nI k) 120 by rw [n3]; exact vp_in_nI (by omega) (by omega)) ?_
        refine br_c (fun y => ?_) (fun y => ?_)
        · have y : σ.1 41 0 (nI 3 * nI k).toNatClampNeg = nI f := y
          rw [mN_feed hok hN hrk, nI_eq (by omega) (by omega)] at y
          rw [hrk, show decide (nF N k = f) = true by simpa using y] at ih
          show X (σ, 14, [some (jR 38 0), some (jI (nI r)), some (jI (nI f)), some (jI (nI (fb_ct (fun k => isR N k && decide (nF N k = f)) k) + nI 1)), some (jI (nI k + nI 1))], [])
          rw [nI_add, nI_add]
          exact ih
        · have y : ¬ σ.1 41 0 (nI 3 * nI k).toNatClampNeg = nI f := y
          rw [mN_feed hok hN hrk, nI_eq (by omega) (by omega)] at y
          exact no (by rw [show decide (nF N k = f) = false by simpa using y, Bool.and_false])
      · have z : ¬ σ.1 39 0 (nI k).toNatClampNeg = nI 2 := z
        rw [ek, hN.2.1 k hk, nS_eq hok hk (by omega)] at z
        exact no (by rw [isR_of hk, show decide (nS N k = 2) = false by simpa using z]; rfl)
