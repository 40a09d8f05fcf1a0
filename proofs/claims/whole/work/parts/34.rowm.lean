/-! the component's Row, and placeInRow -/
theorem plc_lt {l : Nat → Nat} {c : Nat} (hl : ∀ j, c.testBit j = true → l j < 100) : plc l c < 2 ^ 62 := by
  have h1 : mxL l c 40 ≤ 99 := mxL_le (fun j hj => by have := hl j hj; omega) 40
  have h2 := cnt_le c 40
  have h3 := dg_lt c 40 (by omega) 6
  unfold plc
  omega
def rR (σ : jm_G) (n : Nat) (R : Nat → Nat) (l : Nat → Nat) : Prop :=
  σ.1 14 0 2 = nI n ∧ n ≤ 730 ∧ ∀ i, i < n → R i < 2 ^ 40 ∧ plc l (R i) < 2 ^ 62 ∧ σ.2 15 0 i = lN (R i) ∧ σ.2 16 0 i = lN (plc l (R i))
abbrev ct_rclear (C : jm_C) : Prop := ∀ (l : Nat → Nat) (σ : jm_G) (post : Option jm_V → jm_G → Prop), (∀ σ', off 14 16 σ σ' → rR σ' 0 (fun _ => 0) l → post none σ') → C kX6_clear [jR 14 0] σ post
theorem T_rclear (L : Nat) {C : jm_C} (hC : jm_mon C) : ct_rclear (jm_up L C) := by
  intro l σ post hp
  refine jm_start rfl (Nat.le_of_ble_eq_true rfl) hC fun X hg hw => ?_
  refine hg [] 20 _ ?_
  refine And.intro trivial (hp _ (off_wI (off_refl _ _ _) (by omega) (by omega)) ⟨?_, by omega, fun i hi => absurd hi (by omega)⟩)
  show upd (σ.1 14 0) 2 (nI 0) 2 = _
  rw [upd_at, if_pos rfl]
abbrev ct_radd (C : jm_C) : Prop := ∀ (l : Nat → Nat) (n c : Nat) (R : Nat → Nat) (σ : jm_G) (post : Option jm_V → jm_G → Prop), rR σ n R l → n < 730 → c < 2 ^ 40 → plc l c < 2 ^ 62 → (∀ σ', off 14 16 σ σ' → rR σ' (n + 1) (add1 n R c) l → post none σ') → C kX6_add [jR 14 0, jJ (lN c), jJ (lN (plc l c))] σ post
theorem T_radd (L : Nat) {C : jm_C} (hC : jm_mon C) : ct_radd (jm_up L C) := by
  intro l n c R σ post hR hn hc hpl hp
  refine jm_start rfl (Nat.le_of_ble_eq_true rfl) hC fun X hg hw => ?_
  refine hg [] 40 _ ?_
  have hin : vp_in (σ.1 14 0 2) 730 := by rw [hR.1]; exact vp_in_nI hn (by omega)
  refine br_c (fun h => ?_) (fun h => ?_)
  · have h : nI 730 ≤ σ.1 14 0 2 := h
    rw [hR.1, nI_leI (by omega) (by omega)] at h
    omega
  · refine And.intro hin ?_
    refine And.intro hin ?_
    refine And.intro trivial ?_
    refine hp _ (off_wI (off_wJ (off_wJ (off_refl _ _ _) (by omega) (by omega)) (by omega) (by omega)) (by omega) (by omega)) ⟨?_, by omega, fun i hi => ?_⟩
    · show upd (σ.1 14 0) 2 (σ.1 14 0 2 + nI 1) 2 = _
      rw [upd_at, if_pos rfl, hR.1, nI_add]
    · have e1 : (σ.1 14 0 2).toNatClampNeg = n := by rw [hR.1, nI_clamp (by omega)]
      by_cases e : i = n
      · subst e
        rw [add1_q]
        refine ⟨hc, hpl, ?_, ?_⟩
        · show vp_updL (σ.2 15 0) (σ.1 14 0 2).toNatClampNeg (lN c) i = _
          rw [e1, updL_at, if_pos rfl]
        · show vp_updL (σ.2 16 0) (σ.1 14 0 2).toNatClampNeg (lN (plc l c)) i = _
          rw [e1, updL_at, if_pos rfl]
      · rw [add1_lt (by omega)]
        obtain ⟨a1, a2, a3, a4⟩ := hR.2.2 i (by omega)
        refine ⟨a1, a2, ?_, ?_⟩
        · show vp_updL (σ.2 15 0) (σ.1 14 0 2).toNatClampNeg (lN c) i = _
          rw [e1, updL_at, if_neg e]; exact a3
        · show vp_updL (σ.2 16 0) (σ.1 14 0 2).toNatClampNeg (lN (plc l c)) i = _
          rw [e1, updL_at, if_neg e]; exact a4
def dropped (n : Nat) (R : Nat → Nat) (c n' : Nat) (R' : Nat → Nat) : Prop := (∀ j, j < n' → ∃ k, k < n ∧ R' j = R k ∧ ¬ sub c (R k)) ∧ ∀ k, k < n → ¬ sub c (R k) → ∃ j, j < n' ∧ R' j = R k
abbrev ct_rdrop (C : jm_C) : Prop := ∀ (l : Nat → Nat) (n c : Nat) (R : Nat → Nat) (σ : jm_G) (post : Option jm_V → jm_G → Prop), rR σ n R l → c < 2 ^ 40 → (∀ σ' n' R', off 14 16 σ σ' → rR σ' n' R' l → dropped n R c n' R' → post none σ') → C kX6_dropAllWith [jR 14 0, jJ (lN c)] σ post
theorem T_rdrop (L : Nat) {C : jm_C} (hC : jm_mon C) : ct_rdrop (jm_up L C) := by
  intro l n c R σ post hR hc hp
  refine jm_start rfl (Nat.le_of_ble_eq_true rfl) hC fun X hg hw => ?_
  obtain ⟨hR1, hn, hR3⟩ := hR
  refine hg [5] 30 _ ?_
  show X (σ, 5, [some (jR 14 0), some (jJ (lN c)), none, some (jI (nI 0)), some (jI (nI 0))], [])
  have gen : ∀ (m i : Nat), i + m = n → ∀ (τ : jm_G) (n' : Nat) (R' : Nat → Nat), off 14 16 σ τ → τ.1 = σ.1 → n' ≤ i → (∀ j, i ≤ j → j < n → τ.2 15 0 j = lN (R j) ∧ τ.2 16 0 j = lN (plc l (R j))) → (∀ j, j < n' → R' j < 2 ^ 40 ∧ plc l (R' j) < 2 ^ 62 ∧ τ.2 15 0 j = lN (R' j) ∧ τ.2 16 0 j = lN (plc l (R' j))) → dropped i R c n' R' →
      X (τ, 5, [some (jR 14 0), some (jJ (lN c)), none, some (jI (nI n')), some (jI (nI i))], []) := by
    intro m
    induction m with
    | zero =>
      intro i him τ n' R' ho e1 hni hold hnew hd
      have e : i = n := by omega
      subst e
      refine hg [5] 40 _ ?_
      refine br_c (fun h => ?_) (fun h => ?_)
      · refine And.intro trivial (hp _ n' R' (off_wI ho (by omega) (by omega)) ⟨?_, by omega, hnew⟩ hd)
        show upd (τ.1 14 0) 2 (nI n') 2 = _
        rw [upd_at, if_pos rfl]
      · have h : ¬ τ.1 14 0 2 ≤ nI i := h
        rw [e1, hR1, nI_leI (by omega) (by omega)] at h
        omega
    | succ m ih =>
      intro i him τ n' R' ho e1 hni hold hnew hd
      have hin : vp_in (nI i) 730 := vp_in_nI (by omega) (by omega)
      have hin' : vp_in (nI n') 730 := vp_in_nI (by omega) (by omega)
      refine hg [5] 60 _ ?_
      refine br_c (fun h => ?_) (fun h => ?_)
      · have h : τ.1 14 0 2 ≤ nI i := h
        rw [e1, hR1, nI_leI (by omega) (by omega)] at h
        omega
      · refine And.intro hin ?_
        obtain ⟨o1, o2⟩ := hold i (Nat.le_refl _) (by omega)
        obtain ⟨r1, r2, -, -⟩ := hR3 i (by omega)
        have esD : lN c &&& (τ.2 15 0 (nI i).toNatClampNeg ^^^ (-1)) = lN (sD c (R i)) := by rw [nI_clamp (by omega), o1, lN_andn]
        have lsD : sD c (R i) < 2 ^ 64 := Nat.lt_trans (sD_lt hc) (by omega)
        refine br_c (fun h => ?_) (fun h => ?_)
        · have h : lg_cmp (lN c &&& (τ.2 15 0 (nI i).toNatClampNeg ^^^ (-1))) (lN 0) = 0 := h
          rw [esD, cmp_0, lN_inj lsD (by omega), sD_0] at h
          show X (τ, 5, [some (jR 14 0), some (jJ (lN c)), none, some (jI (nI n')), some (jI (nI i + nI 1))], [])
          rw [nI_add]
          refine ih (i + 1) (by omega) τ n' R' ho e1 (by omega) (fun j h1 h2 => hold j (by omega) h2) hnew ⟨fun j hj => ?_, fun k hk hs => ?_⟩
          · obtain ⟨k, h1, h2⟩ := hd.1 j hj
            exact ⟨k, by omega, h2⟩
          · by_cases e : k = i
            · subst e; exact absurd h hs
            · exact hd.2 k (by omega) hs
        · have h : ¬ lg_cmp (lN c &&& (τ.2 15 0 (nI i).toNatClampNeg ^^^ (-1))) (lN 0) = 0 := h
          rw [esD, cmp_0, lN_inj lsD (by omega), sD_0] at h
          refine And.intro hin ?_
          refine And.intro hin' ?_
          refine And.intro hin ?_
          refine And.intro hin' ?_
          show X (wJ (wJ τ 15 0 (vp_updL (τ.2 15 0) (nI n').toNatClampNeg (τ.2 15 0 (nI i).toNatClampNeg))) 16 0 (vp_updL (τ.2 16 0) (nI n').toNatClampNeg (τ.2 16 0 (nI i).toNatClampNeg)), 5, [some (jR 14 0), some (jJ (lN c)), none, some (jI (nI n' + nI 1)), some (jI (nI i + nI 1))], [])
          rw [nI_add, nI_add, nI_clamp (by omega), nI_clamp (by omega), o1, o2]
          refine ih (i + 1) (by omega) _ (n' + 1) (add1 n' R' (R i)) (off_wJ (off_wJ ho (by omega) (by omega)) (by omega) (by omega)) e1 (by omega) (fun j h1 h2 => ?_) (fun j hj => ?_) ⟨fun j hj => ?_, fun k hk hs => ?_⟩
          · show vp_updL (τ.2 15 0) n' (lN (R i)) j = _ ∧ vp_updL (τ.2 16 0) n' (lN (plc l (R i))) j = _
            rw [updL_at, updL_at, if_neg (by omega), if_neg (by omega)]
            exact hold j (by omega) h2
          · show _ ∧ _ ∧ vp_updL (τ.2 15 0) n' (lN (R i)) j = _ ∧ vp_updL (τ.2 16 0) n' (lN (plc l (R i))) j = _
            rw [updL_at, updL_at]
            by_cases e : j = n'
            · subst e
              rw [add1_q, if_pos rfl, if_pos rfl]
              exact ⟨r1, r2, rfl, rfl⟩
            · rw [add1_lt (by omega), if_neg e, if_neg e]
              exact hnew j (by omega)
          · by_cases e : j = n'
            · subst e
              rw [add1_q]
              exact ⟨i, by omega, rfl, h⟩
            · rw [add1_lt (by omega)]
              obtain ⟨k, h1, h2⟩ := hd.1 j (by omega)
              exact ⟨k, by omega, h2⟩
          · by_cases e : k = i
            · subst e; exact ⟨n', by omega, add1_q _ _ _⟩
            · obtain ⟨j, h1, h2⟩ := hd.2 k (by omega) hs
              exact ⟨j, by omega, by rw [add1_lt h1]; exact h2⟩
  exact gen n 0 (by omega) σ 0 (fun _ => 0) (off_refl _ _ _) rfl (by omega) (fun j _ h2 => (hR3 j h2).2.2) (fun j hj => absurd hj (by omega)) ⟨fun j hj => absurd hj (by omega), fun k hk => absurd hk (by omega)⟩
abbrev ct_rtake (C : jm_C) : Prop := ∀ (l : Nat → Nat) (n : Nat) (R : Nat → Nat) (σ : jm_G) (post : Option jm_V → jm_G → Prop), rR σ n R l → (n = 0 → post (some (jJ (lN 0))) σ) →
  (∀ σ' f n' R', f < n → (∀ i, i < n → plc l (R f) ≤ plc l (R i)) → off 14 16 σ σ' → rR σ' n' R' l → dropped n R (R f) n' R' → post (some (jJ (lN (R f)))) σ') → C kX6_takeFirst [jR 14 0] σ post
theorem T_rtake (L : Nat) {C : jm_C} (hC : jm_mon C) (h1 : ct_rdrop C) : ct_rtake (jm_up L C) := by
  intro l n R σ post hR hp0 hp
  refine jm_start rfl (Nat.le_of_ble_eq_true rfl) hC fun X hg hw => ?_
  obtain ⟨hR1, hn, hR3⟩ := id hR
  refine hg [13] 30 _ ?_
  refine br_c (fun h => ?_) (fun h => ?_)
  · have h : σ.1 14 0 2 = nI 0 := h
    rw [hR1, nI_eq (by omega) (by omega)] at h
    exact And.intro trivial (hp0 h)
  · have h : ¬ σ.1 14 0 2 = nI 0 := h
    rw [hR1, nI_eq (by omega) (by omega)] at h
    show X (σ, 13, [some (jR 14 0), some (jI (nI 0)), some (jI (nI 1)), none], [])
    have gen : ∀ (m i : Nat), i + m = n → 1 ≤ i → ∀ f, f < i → (∀ j, j < i → plc l (R f) ≤ plc l (R j)) → X (σ, 13, [some (jR 14 0), some (jI (nI f)), some (jI (nI i)), none], []) := by
      intro m
      induction m with
      | zero =>
        intro i him hi f hf hall
        have e : i = n := by omega
        subst e
        obtain ⟨r1, r2, r3, r4⟩ := hR3 f hf
        refine hg [13] 40 _ ?_
        refine br_c (fun h => ?_) (fun h => ?_)
        · refine And.intro (vp_in_nI (by omega) (by omega)) ?_
          have ev : σ.2 15 0 (nI f).toNatClampNeg = lN (R f) := by rw [nI_clamp (by omega)]; exact r3
          have call : ∀ {post' : Option jm_V → jm_G → Prop}, (∀ τ, post' none τ → post' none τ) → C kX6_dropAllWith [jR 14 0, jJ (lN (R f))] σ post' → C kX6_dropAllWith [jR 14 0, jJ (σ.2 15 0 (nI f).toNatClampNeg)] σ post' := fun _ h => by rw [ev]; exact h
          refine call (fun _ h => h) ?_
          refine h1 l i (R f) R σ _ hR r1 fun σ' n' R' o1 o2 o3 => ?_
          refine And.intro trivial ?_
          show post (some (jJ (σ.2 15 0 (nI f).toNatClampNeg))) σ'
          rw [ev]
          exact hp σ' f n' R' hf hall o1 o2 o3
        · have h : ¬ σ.1 14 0 2 ≤ nI i := h
          rw [hR1, nI_leI (by omega) (by omega)] at h
          omega
      | succ m ih =>
        intro i him hi f hf hall
        obtain ⟨-, f2, -, f4⟩ := hR3 f (by omega)
        obtain ⟨-, i2, -, i4⟩ := hR3 i (by omega)
        refine hg [13] 40 _ ?_
        refine br_c (fun h => ?_) (fun h => ?_)
        · have h : σ.1 14 0 2 ≤ nI i := h
          rw [hR1, nI_leI (by omega) (by omega)] at h
          omega
        · refine And.intro (vp_in_nI (by omega) (by omega)) ?_
          refine And.intro (vp_in_nI (by omega) (by omega)) ?_
          refine br_c (fun h => ?_) (fun h => ?_)
          · have h : 0 ≤ lg_cmp (σ.2 16 0 (nI i).toNatClampNeg) (σ.2 16 0 (nI f).toNatClampNeg) := h
            rw [nI_clamp (by omega), nI_clamp (by omega), f4, i4, cmp_ge, pk_lLT (by omega) (by omega)] at h
            show X (σ, 13, [some (jR 14 0), some (jI (nI f)), some (jI (nI i + nI 1)), none], [])
            rw [nI_add]
            refine ih (i + 1) (by omega) (by omega) f (by omega) fun j hj => ?_
            by_cases e : j = i
            · subst e; omega
            · exact hall j (by omega)
          · have h : ¬ 0 ≤ lg_cmp (σ.2 16 0 (nI i).toNatClampNeg) (σ.2 16 0 (nI f).toNatClampNeg) := h
            rw [nI_clamp (by omega), nI_clamp (by omega), f4, i4, cmp_ge, pk_lLT (by omega) (by omega)] at h
            have h := Classical.not_not.mp h
            show X (σ, 13, [some (jR 14 0), some (jI (nI i)), some (jI (nI i + nI 1)), none], [])
            rw [nI_add]
            refine ih (i + 1) (by omega) (by omega) i (by omega) fun j hj => ?_
            by_cases e : j = i
            · subst e; omega
            · have := hall j (by omega); omega
    exact gen (n - 1) 1 (by omega) (by omega) 0 (by omega) fun j hj => by rw [show j = 0 by omega]; exact Nat.le_refl _
/-! a cut's place -/
def nd (c : Nat) : Nat → Nat
  | 0 => 0
  | k + 1 => if c.testBit k then nd c k * 64 + k else nd c k
theorem nd_lt (c : Nat) : ∀ k, k ≤ 40 → nd c k < 64 ^ cnt c k
  | 0, _ => by show 0 < 64 ^ 0; omega
  | k + 1, h => by
    have ih := nd_lt c k (by omega)
    rw [nd, cnt_succ]
    cases hb : c.testBit k with
    | true =>
      rw [if_pos rfl]
      show _ < 64 ^ (cnt c k + 1)
      rw [Nat.pow_succ]
      omega
    | false =>
      rw [if_neg (fun q => by cases q)]
      exact ih
theorem nd_dg (c : Nat) (h6 : cnt c 40 ≤ 6) : ∀ k, k ≤ 40 → dg c 40 6 = nd c k * 64 ^ (6 - cnt c k) + dg c (40 - k) (6 - cnt c k)
  | 0, _ => by
    show _ = 0 * _ + dg c 40 (6 - 0)
    rw [Nat.zero_mul, Nat.zero_add]
  | k + 1, h => by
    have ih := nd_dg c h6 k (by omega)
    have hm : cnt c (k + 1) ≤ cnt c 40 := fb_ct_mono _ h
    rw [ih, nd]
    rw [cnt_succ] at hm ⊢
    rw [show 40 - k = (40 - (k + 1)) + 1 by omega]
    cases hb : c.testBit k with
    | true =>
      rw [hb] at hm
      have hm : cnt c k + 1 ≤ cnt c 40 := hm
      obtain ⟨r, hr⟩ : ∃ r, 6 - cnt c k = r + 1 := ⟨5 - cnt c k, by omega⟩
      show _ = (if true = true then _ else _) * 64 ^ (6 - (cnt c k + 1)) + dg c _ (6 - (cnt c k + 1))
      rw [show 6 - (cnt c k + 1) = r by omega, hr, if_pos rfl, dg_t r (by rw [show 39 - (40 - (k + 1)) = k by omega]; exact hb), show 39 - (40 - (k + 1)) = k by omega, Nat.pow_succ, Nat.add_mul]
      have : nd c k * (64 ^ r * 64) = nd c k * 64 * 64 ^ r := by rw [Nat.mul_comm (64 ^ r) 64, Nat.mul_assoc]
      omega
    | false =>
      show _ = (if false = true then _ else _) * 64 ^ (6 - (cnt c k + 0)) + dg c _ (6 - (cnt c k + 0))
      rw [if_neg (fun q => by cases q), dg_f _ (by rw [show 39 - (40 - (k + 1)) = k by omega]; exact hb)]
      rfl
theorem nd_end {c : Nat} (h6 : cnt c 40 ≤ 6) : dg c 40 6 = nd c 40 * 64 ^ (6 - cnt c 40) := by
  rw [nd_dg c h6 40 (Nat.le_refl _)]
  show _ + dg c 0 _ = _
  rfl
theorem or_sumL {a b k : Nat} (h : a < 2 ^ k) : lN (b * 2 ^ k) ||| lN a = lN (b * 2 ^ k + a) := by
  rw [Nat.mul_comm b, fb_or_sumL b h]
abbrev ct_place (C : jm_C) : Prop := ∀ (i c : Nat) (l : Nat → Nat) (σ : jm_G) (post : Option jm_V → jm_G → Prop), c < 2 ^ 40 → cnt c 40 ≤ 6 → (∀ j, c.testBit j = true → σ.1 18 i j = nI (l j) ∧ l j < 100) → post (some (jJ (lN (plc l c)))) σ → C kX4_placeInRow [jR 17 i, jJ (lN c)] σ post
theorem T_place (L : Nat) {C : jm_C} (hC : jm_mon C) (h1 : ct_low C) : ct_place (jm_up L C) := by
  intro i c l σ post hc h6 hl hp
  refine jm_start rfl (Nat.le_of_ble_eq_true rfl) hC fun X hg hw => ?_
  refine hg [11] 30 _ ?_
  show X (σ, 11, [some (jR 17 i), some (jJ (lN c)), none, some (jJ (lN 0)), none, some (jI (nI 0)), some (jI (nI 0)), some (jJ (lN c)), none, none], [])
  have hb9 : ∀ n, mxL l c n < 100 := fun n => Nat.lt_of_le_of_lt (mxL_le (m := 99) (fun j hj => by have := (hl j hj).2; omega) n) (by omega)
  have main := jm_bits (X := X) c (fun k => (σ, 11, [some (jR 17 i), some (jJ (lN c)), none, some (jJ (lN (nd c k))), none, some (jI (nI (cnt c k))), some (jI (nI (mxL l c k))), some (jJ (lN (hi c k))), none, none], [])) 40 ?_ ?_ ?_ 0 (by omega)
  · have main : X (σ, 11, [some (jR 17 i), some (jJ (lN c)), none, some (jJ (lN 0)), none, some (jI (nI 0)), some (jI (nI 0)), some (jJ (lN (hi c 0))), none, none], []) := main
    rw [hi_0] at main
    exact main
  · show X (σ, 11, [some (jR 17 i), some (jJ (lN c)), none, some (jJ (lN (nd c 40))), none, some (jI (nI (cnt c 40))), some (jI (nI (mxL l c 40))), some (jJ (lN (hi c 40))), none, none], [])
    rw [hi_end hc]
    refine hg [] 60 _ ?_
    refine br_c (fun h => ?_) (fun h => ?_)
    · refine And.intro trivial ?_
      show post (some (jJ (((((nI (mxL l c 40)).toInt64 <<< ((nI 3).toInt64 &&& 63)) ||| (nI (cnt c 40)).toInt64) <<< ((nI 36).toInt64 &&& 63)) ||| (lN (nd c 40) <<< ((nI 6 * (nI 6 - nI (cnt c 40))).toInt64 &&& 63))))) σ
      have h9 := hb9 40
      have hd := dg_lt c 40 (by omega) 6
      rw [nI_l (n := mxL l c 40) (by omega), nI_l (n := cnt c 40) (by omega), wb_shl (mxL l c 40) (k := 3) (by omega), or_sumL (k := 3) (by omega), wb_shl _ (k := 36) (by omega), pk_sub h6, pk_mul, wb_shl (nd c 40) (by omega)]
      have e1 : nd c 40 * 2 ^ (6 * (6 - cnt c 40)) = dg c 40 6 := by rw [nd_end h6, Nat.pow_mul]
      rw [e1, or_sumL (by omega)]
      exact hp
    · exact absurd ((cmp_0 _ _).mpr rfl) h
  · intro k hk hb
    have e : mxL l c (k + 1) = mxL l c k := by rw [mxL, hb]; simp
    have e2 : nd c (k + 1) = nd c k := by rw [nd, hb]; simp
    have e3 : cnt c (k + 1) = cnt c k := by rw [cnt_succ, hb]; rfl
    simp only [e, e2, e3, hi_skip hb]
  · intro k hk hb ih
    have e3 : cnt c (k + 1) = cnt c k + 1 := by rw [cnt_succ, hb]; rfl
    have hm : cnt c (k + 1) ≤ cnt c 40 := fb_ct_mono _ (by omega)
    refine hg [11] 60 _ ?_
    refine br_c (fun h => ?_) (fun h => ?_)
    · exact absurd h (hi_n0 hc hb)
    · refine br_c (fun h => ?_) (fun h => ?_)
      · have h : nI 6 ≤ nI (cnt c k) := h
        rw [nI_leI (by omega) (by omega)] at h
        omega
      · refine h1 c k σ _ (p40 hc) hb ?_
        refine And.intro (vp_in_nI (by omega) (by omega)) ?_
        refine hw _ _ _ [some (jR 17 i), some (jJ (lN c)), none, some (jJ ((lN (nd c k) <<< ((nI 6).toInt64 &&& 63)) ||| (nI k).toInt64)), none, some (jI (nI (cnt c k) + nI 1)), some (jI (if nI (mxL l c k) < σ.1 18 i (nI k).toNatClampNeg then σ.1 18 i (nI k).toNatClampNeg else nI (mxL l c k))), some (jJ (lN (hi c k) &&& (lN (hi c k) - lN 1))), none, none] _ (by repeat' first | exact trivial | exact rfl | apply And.intro) ?_
        refine jm_eqv (X := X) ih rfl rfl ?_ rfl
        have h9 := hb9 k
        have := (hl k hb).2
        rw [nxt hb, nI_clamp (by omega), (hl k hb).1, maxI (by omega) (by omega), mxL, if_pos hb, nI_add, e3, wb_shl _ (k := 6) (by omega), nI_l (n := k) (by omega), or_sumL (by omega), nd, if_pos hb]
