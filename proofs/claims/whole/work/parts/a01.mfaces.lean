/-! the model's cross, count; all the model's faces against one abstract state -/
theorem crX_eq {s : clS} {nets most : Nat} (hB : clB s) (hs4 : s.1 ≤ 40) (hm : 1 ≤ most) : clB ((ouF s nets most).1, (fun b => if b < (ouF s nets most).1 then (ouF s nets most).2.2.2.2 b else 0), (fun _ => 0), (fun b => if b < (ouF s nets most).1 then (ouF s nets most).2.2.2.1 b else 0), 0) ∧ crX ((ouF s nets most).1, (fun b => if b < (ouF s nets most).1 then (ouF s nets most).2.2.2.2 b else 0), (fun _ => 0), (fun b => if b < (ouF s nets most).1 then (ouF s nets most).2.2.2.1 b else 0), 0) (fun b => b) = crX s (ouF s nets most).2.2.1 := by
  obtain ⟨hI, h0⟩ := ouF_ok (nets := nets) (most := most) hB hs4 hm
  generalize ouF s nets most = w at hI h0
  obtain ⟨-, a2, a3, a4, a5, -⟩ := hI
  rw [h0] at a2 a3 a4
  simp only [Nat.zero_testBit, true_implies, true_and] at a2 a3 a4
  have B2 : clB (w.1, (fun b => if b < w.1 then w.2.2.2.2 b else 0), (fun _ => 0), (fun b => if b < w.1 then w.2.2.2.1 b else 0), 0) := fun c => by
    show (if c < w.1 then w.2.2.2.2 c else 0) < 2 ^ 40 ∧ 0 < 2 ^ 40 ∧ (if c < w.1 then w.2.2.2.1 c else 0) < 2 ^ 40
    by_cases h : c < w.1
    · rw [if_pos h, if_pos h]; exact ⟨(a5 c h).2, by omega, (a5 c h).1⟩
    · rw [if_neg h, if_neg h]; exact ⟨by omega, by omega, by omega⟩
  refine ⟨B2, set_eq fun z => ?_⟩
  rw [Bool.eq_iff_iff, crX_bit B2, crX_bit hB]
  constructor
  · rintro ⟨f, t, h1, h2, h3, h4, h5⟩
    have h1 : f < w.1 := h1
    have h2 : t < w.1 := h2
    have h3 : f ≠ t := h3
    have h4 : ((if f < w.1 then w.2.2.2.2 f else 0) ||| 0).testBit z = true := h4
    have h5 : (if t < w.1 then w.2.2.2.1 t else 0).testBit z = true := h5
    rw [if_pos h1, Nat.or_zero, a4 f h1] at h4
    rw [if_pos h2, a3 t h2] at h5
    obtain ⟨c, c1, c2, c3⟩ := h4
    obtain ⟨d, d1, d2, d3⟩ := h5
    exact ⟨c, d, c1, d1, by rw [c2, d2]; exact h3, c3, d3⟩
  · rintro ⟨c, d, c1, d1, hne, c3, d3⟩
    have h1 := a2 c c1
    have h2 := a2 d d1
    refine ⟨w.2.2.1 c, w.2.2.1 d, h1, h2, hne, ?_, ?_⟩
    · show ((if w.2.2.1 c < w.1 then w.2.2.2.2 (w.2.2.1 c) else 0) ||| 0).testBit z = true
      rw [if_pos h1, Nat.or_zero, a4 _ h1]
      exact ⟨c, c1, rfl, c3⟩
    · show (if w.2.2.1 d < w.1 then w.2.2.2.1 (w.2.2.1 d) else 0).testBit z = true
      rw [if_pos h2, a3 _ h2]
      exact ⟨d, d1, rfl, d3⟩
abbrev ct_mcross (C : jm_C) : Prop := ∀ (N : nw) (K : Nat) (md : Bool) (ch : Nat → Nat) (on : Nat) (x y : Int32) (σ : jm_G) (post : Option jm_V → jm_G → Prop), aOK N K md ch on → mR N K md ch on σ → (∀ σ', mR N K md ch on σ' → off 38 70 σ σ' → post (some (jI (cuC N K md ch x y))) σ') → C kX10_cross [jR 38 0, jI x, jI y] σ post
theorem T_mcross (L : Nat) {C : jm_C} (hC : jm_mon C) (h1 : ct_laysClu C) (h2 : ct_mmany C) : ct_mcross (jm_up L C) := by
  intro N K md ch on x y σ post hA hR hp
  refine jm_start rfl (Nat.le_of_ble_eq_true rfl) hC fun X hg hw => ?_
  have hR0 := mR_th hR (nI 0)
  unfold cuC at hp
  refine hg [21, 33] 60 _ ?_
  refine h1 N K md ch on x y (sF σ 0 (nI 0)) _ hA hR0 (fun e => ?_) (fun em a b hx hy ha1 ha hb1 hb τ o1 hc hm => ?_)
  · rw [e, if_neg (fun q => by cases q)] at hp
    exact br_c (fun _ => And.intro trivial (hp _ hR0 (off_th _ _))) (fun h => absurd rfl h)
  · have hp0 := hp τ (mR_mf hR0 o1 (by decide) (by decide)) (off_trans (off_th σ (nI 0)) (mf_off o1 (by decide)))
    rw [em, hx, hy, isLm_n ha1 ha hb1 hb, Bool.true_and, if_pos rfl, cuF_n rfl rfl ha hb] at hp0
    obtain ⟨hB, hs4⟩ := clX_B hA.1 (hA.2.2.2.2 em)
    obtain ⟨B2, eX⟩ := crX_eq (nets := b) (most := a) hB hs4 ha1
    have hw40 : (ouF (clX N K ch) b a).1 ≤ 40 := by have := (ouF_ok (nets := b) (most := a) hB hs4 ha1).1.2.2.2.2.2; omega
    rw [← eX] at hp0
    generalize ouF (clX N K ch) b a = w at hp0 hm B2 hw40
    refine br_c (fun h => absurd (show nI 1 = 0 from h) (by decide)) (fun _ => ?_)
    generalize hs : ((w.1, (fun b => if b < w.1 then w.2.2.2.2 b else 0), (fun _ => 0), (fun b => if b < w.1 then w.2.2.2.1 b else 0), 0) : clS) = s at hp0 B2
    have es : s.1 = w.1 := by rw [← hs]
    have eI : ∀ j, j < w.1 → cuI s j = w.2.2.2.1 j := fun j hj => by rw [← hs]; exact if_pos hj
    have eO : ∀ j, j < w.1 → cuO s j = w.2.2.2.2 j := fun j hj => by
      rw [← hs]
      show (if j < w.1 then w.2.2.2.2 j else 0) ||| 0 = _
      rw [if_pos hj, Nat.or_zero]
    show X (τ, 21, [some (jR 38 0), some (jI x), some (jI y), some (jJ (lN 0)), none, some (jI (nI 0)), none], [])
    have outer : ∀ (d i V : Nat), i + d = w.1 → V < 2 ^ 40 → crI s (fun b => b) i 0 V → X (τ, 21, [some (jR 38 0), some (jI x), some (jI y), some (jJ (lN V)), none, some (jI (nI i)), none], []) := by
      intro d
      induction d with
      | zero =>
        intro i V hid hV hI
        have ei : i = w.1 := by omega
        rw [ei, ← es] at hI
        rw [← crI_end B2 hI] at hp0
        refine hg [21, 33] 30 _ ?_
        refine br_c (fun _ => ?_) (fun h => ?_)
        · refine h2 V τ _ (p40 hV) ?_
          exact And.intro trivial hp0
        · have h : ¬ τ.1 38 0 44 ≤ nI i := h
          rw [hm.1] at h
          exact absurd (nI_le (by omega) (by omega)) h
      | succ d ih =>
        intro i V hid hV hI
        have ei : (nI i).toNatClampNeg = i := nI_clamp (by omega)
        refine hg [21, 33] 30 _ ?_
        refine br_c (fun h => ?_) (fun _ => ?_)
        · have h : τ.1 38 0 44 ≤ nI i := h
          rw [hm.1, nI_leI (by omega) (by omega)] at h
          omega
        have inner : ∀ (e j V : Nat), j + e = w.1 → V < 2 ^ 40 → crI s (fun b => b) i j V → X (τ, 33, [some (jR 38 0), some (jI x), some (jI y), some (jJ (lN V)), none, some (jI (nI i)), some (jI (nI j))], []) := by
          intro e
          induction e with
          | zero =>
            intro j V hje hV hI
            have ej : j = w.1 := by omega
            rw [ej, ← es] at hI
            refine hg [21, 33] 30 _ ?_
            refine br_c (fun _ => ?_) (fun h => ?_)
            · show X (τ, 21, [some (jR 38 0), some (jI x), some (jI y), some (jJ (lN V)), none, some (jI (nI i + nI 1)), some (jI (nI j))], [])
              refine hw _ _ _ [some (jR 38 0), some (jI x), some (jI y), some (jJ (lN V)), none, some (jI (nI i + nI 1)), none] _ (by repeat' first | exact trivial | exact rfl | apply And.intro) ?_
              rw [nI_add]
              exact ih (i + 1) V (by omega) hV (crI_row hI)
            · have h : ¬ τ.1 38 0 44 ≤ nI j := h
              rw [hm.1] at h
              exact absurd (nI_le (by omega) (by omega)) h
          | succ e ih2 =>
            intro j V hje hV hI
            have ej : (nI j).toNatClampNeg = j := nI_clamp (by omega)
            refine hg [21, 33] 60 _ ?_
            refine br_c (fun h => ?_) (fun _ => ?_)
            · have h : τ.1 38 0 44 ≤ nI j := h
              rw [hm.1, nI_leI (by omega) (by omega)] at h
              omega
            refine br_c (fun z => ?_) (fun z => ?_)
            · have z : nI i = nI j := z
              rw [nI_eq (by omega) (by omega)] at z
              show X (τ, 33, [some (jR 38 0), some (jI x), some (jI y), some (jJ (lN V ||| lN 0)), none, some (jI (nI i)), some (jI (nI j + nI 1))], [])
              rw [nI_add, fb_orL, Nat.or_zero]
              exact ih2 (j + 1) V (by omega) hV (crI_same hI z)
            · have z : ¬ nI i = nI j := z
              rw [nI_eq (by omega) (by omega)] at z
              refine And.intro (vp_in_nI (by omega) (by omega)) ?_
              refine And.intro (vp_in_nI (by omega) (by omega)) ?_
              show X (τ, 33, [some (jR 38 0), some (jI x), some (jI y), some (jJ (lN V ||| (τ.2 70 0 (nI i).toNatClampNeg &&& τ.2 69 0 (nI j).toNatClampNeg))), none, some (jI (nI i)), some (jI (nI j + nI 1))], [])
              have hi : i < w.1 := by omega
              have hj : j < w.1 := by omega
              rw [nI_add, ei, ej, (hm.2.2 i hi).2, (hm.2.2 j hj).1, fb_andL, fb_orL, ← eO i hi, ← eI j hj]
              exact ih2 (j + 1) _ (by omega) (or_lt hV (Nat.lt_of_le_of_lt Nat.and_le_left (cuO_lt B2 i))) (crI_new hI (by omega) (by omega) z)
        exact inner w.1 0 V (by omega) hV hI
    exact outer w.1 0 0 (by omega) (Nat.two_pow_pos 40) fun z => by
      rw [Nat.zero_testBit]
      exact ⟨fun h => (by cases h), fun ⟨f, t, h, _⟩ => by omega⟩
def cnA (N : nw) (K : Nat) (md : Bool) (w : Int32) : Int32 := swA w [nI (nN N), nI (cnt (iM N) 40), nI (cnt (gM N) 40), nI (cnt (rM N) 40), nI (cnt (nO N) 40), nI K, bI md, nI (cnt (rts N) 40)] (-(nI 1))
theorem cnt_upto {S n : Nat} (hn : n ≤ 40) (h : ∀ j, S.testBit j = true → j < n) : cnt S n = cnt S 40 := by
  have e : ∀ d, cnt S (n + d) = cnt S n := by
    intro d
    induction d with
    | zero => rfl
    | succ d ih =>
      rw [← Nat.add_assoc, cnt_succ, ih]
      cases hb : S.testBit (n + d) with
      | false => rfl
      | true => have := h _ hb; omega
  have := e (40 - n)
  rw [show n + (40 - n) = 40 by omega] at this
  exact this.symm
abbrev ct_mcount (C : jm_C) : Prop := ∀ (N : nw) (K : Nat) (md : Bool) (ch : Nat → Nat) (on : Nat) (w : Int32) (σ : jm_G) (post : Option jm_V → jm_G → Prop), aOK N K md ch on → mR N K md ch on σ → (∀ σ', mR N K md ch on σ' → off 38 70 σ σ' → post (some (jI (cnA N K md w))) σ') → C kX10_count [jR 38 0, jI w] σ post
theorem T_mcount (L : Nat) {C : jm_C} (hC : jm_mon C) (h1 : ct_mmany C) (h2 : ct_mroots C) : ct_mcount (jm_up L C) := by
  intro N K md ch on w σ post hA hR hp
  refine jm_start rfl (Nat.le_of_ble_eq_true rfl) hC fun X hg hw => ?_
  obtain ⟨hok, hK, hK6, -, hmd⟩ := hA
  have h40 := hok.1
  have hR0 := mR_th hR (nI 0)
  have hp0 := hp _ hR0 (off_th _ _)
  unfold cnA at hp0
  have hN0 := hR0.1.1
  have loop : ∀ (v S : Nat), v < 3 → w = nI (v + 1) → (∀ i, i < nN N → S.testBit i = decide (nS N i = v)) → (∀ j, S.testBit j = true → j < nN N) → post (some (jI (nI (cnt S 40)))) (sF σ 0 (nI 0)) → ∀ (d k : Nat), k + d = nN N → X (sF σ 0 (nI 0), 63, [some (jR 38 0), some (jI w), some (jI (nI (cnt S k))), some (jI (nI k))], []) := by
    intro v S hv ew hS hSn hpS d
    have ev : w - nI 1 = nI v := by rw [ew]; exact pk_sub (by omega)
    induction d with
    | zero =>
      intro k hk
      have e : k = nN N := by omega
      rw [← cnt_upto h40 hSn, ← e] at hpS
      refine hg [63] 30 _ ?_
      refine br_c (fun _ => And.intro trivial hpS) (fun h => ?_)
      have h : ¬ (sF σ 0 (nI 0)).1 38 0 1 ≤ nI k := h
      rw [hN0.1] at h
      exact absurd (nI_le (by omega) (by omega)) h
    | succ d ih =>
      intro k hk
      have ek : (nI k).toNatClampNeg = k := nI_clamp (by omega)
      have ih := ih (k + 1) (by omega)
      rw [cnt_succ, hS k (by omega), ← nI_add, ← nI_add] at ih
      refine hg [63] 40 _ ?_
      refine br_c (fun h => ?_) (fun _ => ?_)
      · have h : (sF σ 0 (nI 0)).1 38 0 1 ≤ nI k := h
        rw [hN0.1, nI_leI (by omega) (by omega)] at h
        omega
      refine And.intro (vp_in_nI (by omega) (by omega)) ?_
      refine br_c (fun z => ?_) (fun z => ?_)
      · have z : (sF σ 0 (nI 0)).1 39 0 (nI k).toNatClampNeg = w - nI 1 := z
        rw [ek, hN0.2.1 k (by omega), ev, nS_eq hok (by omega) (by omega)] at z
        rw [show decide (nS N k = v) = true by simpa using z] at ih
        exact ih
      · have z : ¬ (sF σ 0 (nI 0)).1 39 0 (nI k).toNatClampNeg = w - nI 1 := z
        rw [ek, hN0.2.1 k (by omega), ev, nS_eq hok (by omega) (by omega)] at z
        rw [show decide (nS N k = v) = false by simpa using z] at ih
        exact ih
  refine hg [63] 60 _ ?_
  refine And.intro (fun h => ?_) (And.intro (fun h => ?_) (And.intro (fun h => ?_) (And.intro (fun h => ?_) (And.intro (fun h => ?_) (And.intro (fun h => ?_) (And.intro (fun h => ?_) (And.intro (fun h => ?_) (And.intro (fun h => ?_) trivial))))))))
  · have h : w.toInt < 0 ∨ 7 < w.toInt := h
    rw [swA_o h rfl] at hp0
    exact And.intro trivial hp0
  · have h : w = nI 0 := h
    rw [h, swA_n (by omega)] at hp0
    refine And.intro trivial ?_
    show post (some (jI ((sF σ 0 (nI 0)).1 38 0 1))) (sF σ 0 (nI 0))
    rw [hN0.1]
    exact hp0
  · have h : w = nI 1 := h
    have hq := hp0
    rw [h, swA_n (by omega)] at hq
    exact loop 0 (iM N) (by omega) h (fun i hi => by rw [iM_bit, isI_of hi]) (fun j hj => by rw [iM_bit] at hj; exact isI_lt hj) hq (nN N) 0 (by omega)
  · have h : w = nI 2 := h
    have hq := hp0
    rw [h, swA_n (by omega)] at hq
    exact loop 1 (gM N) (by omega) h (fun i hi => by rw [gM_bit, isG_of hi]) (fun j hj => by rw [gM_bit] at hj; exact isG_lt hj) hq (nN N) 0 (by omega)
  · have h : w = nI 3 := h
    have hq := hp0
    rw [h, swA_n (by omega)] at hq
    exact loop 2 (rM N) (by omega) h (fun i hi => by rw [rM_bit, isR_of hi]) (fun j hj => by rw [rM_bit] at hj; exact isR_lt hj) hq (nN N) 0 (by omega)
  · have h : w = nI 4 := h
    rw [h, swA_n (by omega)] at hp0
    refine c_mmany h1 (S := nO N) hN0.2.2.2.2.2 (p40 (nO_lt hok)) ?_
    exact And.intro trivial hp0
  · have h : w = nI 5 := h
    rw [h, swA_n (by omega)] at hp0
    refine And.intro trivial ?_
    show post (some (jI ((sF σ 0 (nI 0)).1 38 0 7))) (sF σ 0 (nI 0))
    rw [hR0.1.2.1]
    exact hp0
  · have h : w = nI 6 := h
    rw [h, swA_n (by omega)] at hp0
    have hp0 : post (some (jI (bI md))) (sF σ 0 (nI 0)) := hp0
    refine br_c (fun z => ?_) (fun z => ?_)
    · have z : (sF σ 0 (nI 0)).1 38 0 8 = 0 := z
      rw [hR0.1.2.2.1] at z
      have z := bI_0.mp z
      rw [z] at hp0
      exact And.intro trivial hp0
    · have z : ¬ (sF σ 0 (nI 0)).1 38 0 8 = 0 := z
      rw [hR0.1.2.2.1] at z
      have z := bI_n0.mp z
      rw [z] at hp0
      exact And.intro trivial hp0
  · have h : w = nI 7 := h
    rw [h, swA_n (by omega)] at hp0
    refine h2 N (sF σ 0 (nI 0)) _ hok hN0 ?_
    refine h1 (rts N) _ _ (p40 (rts_lt40 hok)) ?_
    exact And.intro trivial hp0
