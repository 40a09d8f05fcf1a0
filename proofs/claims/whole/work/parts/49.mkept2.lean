/-! the model's kept cuts: isAhead, makes, setOf -/
theorem T_ahead (L : Nat) {C : jm_C} (hC : jm_mon C) (h1 : ct_grIn C) (h2 : ct_mmany C) (h3 : ct_mlow C) (h4 : ct_mhas C) : ct_ahead (jm_up L C) := by
  intro N x y l σ post hok hN hx hy hx6 hy6 hl hp
  refine jm_start rfl (Nat.le_of_ble_eq_true rfl) hC fun X hg hw => ?_
  have hbx : mxL l x 40 < 100 := Nat.lt_of_le_of_lt (mxL_le (m := 99) (fun j hj => by have := (hl j (Or.inl hj)).2.2; omega) 40) (by omega)
  have hby : mxL l y 40 < 100 := Nat.lt_of_le_of_lt (mxL_le (m := 99) (fun j hj => by have := (hl j (Or.inr hj)).2.2; omega) 40) (by omega)
  have yes : ahd l x y → post (some (jI (nI 1))) σ := fun h => by
    rw [decide_eq_true ((plc_iff hx hy hx6 hy6).mpr h)] at hp
    exact hp
  have no : ¬ ahd l x y → post (some (jI (nI 0))) σ := fun h => by
    rw [decide_eq_false (fun q => h ((plc_iff hx hy hx6 hy6).mp q))] at hp
    exact hp
  refine hg [] 120 _ ?_
  refine h1 N x l σ _ hok hN hx (fun j hj => hl j (Or.inl hj)) ?_
  refine h1 N y l σ _ hok hN hy (fun j hj => hl j (Or.inr hj)) ?_
  refine br_c (fun h => ?_) (fun h => ?_)
  · have h : nI (mxL l x 40) = nI (mxL l y 40) := h
    have hne := h
    rw [nI_eq (by omega) (by omega)] at h
    refine h2 x σ _ (p40 hx) ?_
    refine h2 y σ _ (p40 hy) ?_
    refine br_c (fun h5 => ?_) (fun h5 => ?_)
    · have h5 : nI (cnt x 40) = nI (cnt y 40) := h5
      rw [nI_eq (by omega) (by omega)] at h5
      refine br_c (fun h6 => ?_) (fun h6 => ?_)
      · have h6 : lg_cmp (lN x) (lN y) = 0 := h6
        rw [cmp_0, lN_inj (Nat.lt_trans hx (by omega)) (Nat.lt_trans hy (by omega))] at h6
        refine And.intro (Or.inl rfl) (no ?_)
        subst h6
        rintro (q | ⟨-, q | ⟨-, j, q1, q2, -⟩⟩)
        · omega
        · omega
        · rw [q1] at q2; cases q2
      · have h6 : ¬ lg_cmp (lN x) (lN y) = 0 := h6
        rw [cmp_0, lN_inj (Nat.lt_trans hx (by omega)) (Nat.lt_trans hy (by omega))] at h6
        obtain ⟨j, j1, j2, j3⟩ := dif_bit hx hy h6
        obtain ⟨k1, k2⟩ := xor_low j2 j3
        have call : ∀ {post' : Option jm_V → jm_G → Prop}, (∀ v υ, post' v υ → post' v υ) → C kX10_lowest [jJ (lN (x ^^^ y))] σ post' → C kX10_lowest [jJ (lN x ^^^ lN y)] σ post' := fun _ h => by rw [fb_xorL]; exact h
        refine call (fun _ _ h => h) ?_
        refine h3 (x ^^^ y) j σ _ (p40 (Nat.xor_lt_two_pow hx hy)) k1 k2 ?_
        refine h4 x j σ _ (p40 hx) (by omega) ?_
        refine br_c (fun h7 => ?_) (fun h7 => ?_)
        · have h7 := bI_0.mp h7
          refine And.intro (Or.inl rfl) (no ?_)
          rintro (q | ⟨-, q | ⟨-, i, q1, q2, q3⟩⟩)
          · omega
          · omega
          · rcases Nat.lt_trichotomy i j with e | e | e
            · have := j3 i e; rw [q1, q2] at this; cases this
            · rw [e, h7] at q1; cases q1
            · exact j2 (q3 j e)
        · have h7 := bI_n0.mp h7
          refine And.intro (Or.inr rfl) (yes (Or.inr ⟨h, Or.inr ⟨h5, j, h7, ?_, j3⟩⟩))
          cases hq : y.testBit j with
          | false => rfl
          | true => exact absurd (h7.trans hq.symm) j2
    · have h5 : ¬ nI (cnt x 40) = nI (cnt y 40) := h5
      rw [nI_eq (by omega) (by omega)] at h5
      refine br_c (fun _ => ?_) (fun h => absurd hne h)
      refine h2 x σ _ (p40 hx) ?_
      refine h2 y σ _ (p40 hy) ?_
      refine br_c (fun h6 => ?_) (fun h6 => ?_)
      · have h6 : nI (cnt y 40) ≤ nI (cnt x 40) := h6
        rw [nI_leI (by omega) (by omega)] at h6
        refine And.intro (Or.inl rfl) (no ?_)
        rintro (q | ⟨-, q | ⟨q, -⟩⟩) <;> omega
      · have h6 : ¬ nI (cnt y 40) ≤ nI (cnt x 40) := h6
        rw [nI_leI (by omega) (by omega)] at h6
        exact And.intro (Or.inr rfl) (yes (Or.inr ⟨h, Or.inl (by omega)⟩))
  · have hne : ¬ nI (mxL l x 40) = nI (mxL l y 40) := h
    have h := hne
    rw [nI_eq (by omega) (by omega)] at h
    refine br_c (fun h5 => absurd h5 hne) (fun _ => ?_)
    refine br_c (fun h6 => ?_) (fun h6 => ?_)
    · have h6 : nI (mxL l y 40) ≤ nI (mxL l x 40) := h6
      rw [nI_leI (by omega) (by omega)] at h6
      refine And.intro (Or.inl rfl) (no ?_)
      rintro (q | ⟨q, -⟩) <;> omega
    · have h6 : ¬ nI (mxL l y 40) ≤ nI (mxL l x 40) := h6
      rw [nI_leI (by omega) (by omega)] at h6
      exact And.intro (Or.inr rfl) (yes (Or.inl (by omega)))
/-- the sets made so far: none twice -/
def dR (σ : jm_G) (n : Nat) (R : Nat → Nat) : Prop := σ.1 38 0 21 = nI n ∧ n ≤ 730 ∧ (∀ i, i < n → R i < 2 ^ 40 ∧ σ.2 52 0 i = lN (R i)) ∧ one n R
abbrev ct_makes (C : jm_C) : Prop := ∀ (n x K : Nat) (R : Nat → Nat) (σ : jm_G) (post : Option jm_V → jm_G → Prop), dR σ n R → n < 730 → x < 2 ^ 40 → K ≤ 6 → σ.1 38 0 7 = nI K →
  (∀ σ' n' R', mf [52] [21] σ σ' → dR σ' n' R' → n' ≤ n + 1 → rMore n R n' R' (fun y => cnt y 40 ≤ K ∧ y = x) → post none σ') → C kX10_makes [jR 38 0, jJ (lN x)] σ post
theorem T_makes (L : Nat) {C : jm_C} (hC : jm_mon C) (h1 : ct_mmany C) : ct_makes (jm_up L C) := by
  intro n x K R σ post hR hn hx hK h7 hp
  refine jm_start rfl (Nat.le_of_ble_eq_true rfl) hC fun X hg hw => ?_
  obtain ⟨r1, r2, r3, r4⟩ := id hR
  have hcx := cnt_le x 40
  refine hg [20] 40 _ ?_
  refine h1 x σ _ (p40 hx) ?_
  have gen : ∀ (d j : Nat), j + d = n → ∀ b : Bool, (b = true ↔ cnt x 40 ≤ K ∧ ∀ i, i < j → R i ≠ x) → X (σ, 20, [some (jR 38 0), some (jJ (lN x)), none, some (jI (bI b)), some (jI (nI j))], []) := by
    intro d
    induction d with
    | zero =>
      intro j hjd b hb
      have e : j = n := by omega
      subst e
      refine hg [20] 40 _ ?_
      refine br_c (fun _ => ?_) (fun h => ?_)
      · refine br_c (fun h => ?_) (fun h => ?_)
        · have h := bI_0.mp h
          refine And.intro trivial (hp σ j R (mf_refl _ _ _) hR (by omega) ⟨Nat.le_refl _, fun _ _ => rfl, fun i a b => absurd b (by omega), fun y hy => ?_⟩)
          apply Classical.byContradiction
          intro hno
          have : b = true := hb.mpr ⟨by rw [← hy.2]; exact hy.1, fun i hi e => hno ⟨i, hi, by rw [e, hy.2]⟩⟩
          rw [h] at this
          cases this
        · have h := bI_n0.mp h
          obtain ⟨hc, hno⟩ := hb.mp h
          refine And.intro (show vp_in (σ.1 38 0 21) 800 by rw [r1]; exact vp_in_nI (by omega) (by omega)) ?_
          have e1 : (σ.1 38 0 21).toNatClampNeg = j := by rw [r1, nI_clamp (by omega)]
          refine And.intro trivial (hp _ (j + 1) (add1 j R x) (mf_sF (mf_wJ (mf_refl _ _ _) (by decide) (by decide)) (by decide)) ⟨?_, by omega, fun i hi => ?_, one_add r4 hno⟩ (by omega) ⟨by omega, fun i hi => add1_lt hi, fun i a b => ?_, fun y hy => ⟨j, by omega, by rw [add1_q, hy.2]⟩⟩)
          · show upd (σ.1 38 0) 21 (σ.1 38 0 21 + nI 1) 21 = _
            rw [upd_at, if_pos rfl, r1, nI_add]
          · show _ ∧ vp_updL (σ.2 52 0) (σ.1 38 0 21).toNatClampNeg (lN x) i = _
            rw [e1, updL_at]
            by_cases e : i = j
            · rw [e, add1_q, if_pos rfl]; exact ⟨hx, rfl⟩
            · rw [add1_lt (by omega), if_neg e]; exact r3 i (by omega)
          · have e : i = j := by omega
            rw [e, add1_q]
            exact ⟨hc, rfl⟩
      · have h : ¬ σ.1 38 0 21 ≤ nI j := h
        rw [r1, nI_leI (by omega) (by omega)] at h
        omega
    | succ d ih =>
      intro j hjd b hb
      refine hg [20] 40 _ ?_
      refine br_c (fun h => ?_) (fun _ => ?_)
      · have h : σ.1 38 0 21 ≤ nI j := h
        rw [r1, nI_leI (by omega) (by omega)] at h
        omega
      · refine br_c (fun h => ?_) (fun h => ?_)
        · have h := bI_0.mp h
          show X (σ, 20, [some (jR 38 0), some (jJ (lN x)), none, some (jI (bI false)), some (jI (nI j + nI 1))], [])
          rw [nI_add]
          refine ih (j + 1) (by omega) false ⟨fun q => (by cases q), fun q => ?_⟩
          rw [← h]
          exact hb.mpr ⟨q.1, fun i hi => q.2 i (by omega)⟩
        · have h := bI_n0.mp h
          obtain ⟨hc, hno⟩ := hb.mp h
          obtain ⟨s1, s2⟩ := r3 j (by omega)
          refine And.intro (vp_in_nI (by omega) (by omega)) ?_
          refine br_c (fun h5 => ?_) (fun h5 => ?_)
          · have h5 : lg_cmp (σ.2 52 0 (nI j).toNatClampNeg) (lN x) = 0 := h5
            rw [nI_clamp (by omega), s2, cmp_0, lN_inj (Nat.lt_trans s1 (by omega)) (Nat.lt_trans hx (by omega))] at h5
            show X (σ, 20, [some (jR 38 0), some (jJ (lN x)), none, some (jI (bI false)), some (jI (nI j + nI 1))], [])
            rw [nI_add]
            exact ih (j + 1) (by omega) false ⟨fun q => (by cases q), fun q => absurd h5 (q.2 j (by omega))⟩
          · have h5 : ¬ lg_cmp (σ.2 52 0 (nI j).toNatClampNeg) (lN x) = 0 := h5
            rw [nI_clamp (by omega), s2, cmp_0, lN_inj (Nat.lt_trans s1 (by omega)) (Nat.lt_trans hx (by omega))] at h5
            show X (σ, 20, [some (jR 38 0), some (jJ (lN x)), none, some (jI (bI true)), some (jI (nI j + nI 1))], [])
            rw [nI_add]
            refine ih (j + 1) (by omega) true ⟨fun _ => ⟨hc, fun i hi => ?_⟩, fun _ => rfl⟩
            by_cases e : i = j
            · rw [e]; exact h5
            · exact hno i (by omega)
  refine br_c (fun h => ?_) (fun h => ?_)
  · have h : σ.1 38 0 7 < nI (cnt x 40) := h
    rw [h7, nI_ltI (by omega) (by omega)] at h
    exact gen n 0 (by omega) false ⟨fun q => (by cases q), fun q => by omega⟩
  · have h : ¬ σ.1 38 0 7 < nI (cnt x 40) := h
    rw [h7, nI_ltI (by omega) (by omega)] at h
    exact gen n 0 (by omega) true ⟨fun _ => ⟨by omega, fun i hi => absurd hi (by omega)⟩, fun _ => rfl⟩
/-- the kept cuts in the model -/
def mkR (σ : jm_G) (n : Nat) (kp : Nat → Nat × (Nat → Nat)) : Prop := ∀ s, s < n → (kp s).1 ≤ 8 ∧ σ.1 51 0 s = nI (kp s).1 ∧ ∀ c, c < (kp s).1 → σ.2 50 0 (8 * s + c) = lN ((kp s).2 c)
/-- the i-th set of a source, 0 if none -/
def stO (kp : Nat → Nat × (Nat → Nat)) (s i : Nat) : Nat := if i = 0 then 2 ^ s else if i ≤ (kp s).1 then (kp s).2 (i - 1) else 0
abbrev ct_setOf (C : jm_C) : Prop := ∀ (N : nw) (s i n : Nat) (kp : Nat → Nat × (Nat → Nat)) (σ : jm_G) (post : Option jm_V → jm_G → Prop), nw_ok N → mN N σ → s < n → n ≤ nN N → i < 9 → mkR σ n kp → (isG N s = false → (kp s).1 = 0) → post (some (jJ (lN (stO kp s i)))) σ → C kX10_setOf [jR 38 0, jI (nI s), jI (nI i)] σ post
theorem T_setOf (L : Nat) {C : jm_C} (hC : jm_mon C) : ct_setOf (jm_up L C) := by
  intro N s i n kp σ post hok hN hs hn hi hk hleaf hp
  refine jm_start rfl (Nat.le_of_ble_eq_true rfl) hC fun X hg hw => ?_
  have h40 := hok.1
  obtain ⟨k1, k2, k3⟩ := hk s hs
  have es : (nI s).toNatClampNeg = s := nI_clamp (by omega)
  have hins : vp_in (nI s) 40 := vp_in_nI (by omega) (by omega)
  unfold stO at hp
  refine hg [] 60 _ ?_
  refine br_c (fun h => ?_) (fun h => ?_)
  · have h : nI i = nI 0 := h
    rw [nI_eq (by omega) (by omega)] at h
    rw [if_pos h] at hp
    refine And.intro trivial ?_
    show post (some (jJ (lN 1 <<< ((nI s).toInt64 &&& 63)))) σ
    rw [lN_shl1 (by omega)]
    exact hp
  · have h : ¬ nI i = nI 0 := h
    rw [nI_eq (by omega) (by omega)] at h
    rw [if_neg h] at hp
    refine And.intro hins ?_
    refine br_c (fun h2 => ?_) (fun h2 => ?_)
    · refine And.intro hins ?_
      refine br_c (fun h3 => ?_) (fun h3 => ?_)
      · have h3 : σ.1 51 0 (nI s).toNatClampNeg < nI i := h3
        rw [es, k2, nI_ltI (by omega) (by omega)] at h3
        rw [if_neg (by omega)] at hp
        exact And.intro trivial hp
      · have h3 : ¬ σ.1 51 0 (nI s).toNatClampNeg < nI i := h3
        rw [es, k2, nI_ltI (by omega) (by omega)] at h3
        rw [if_pos (by omega)] at hp
        have e : nI 8 * nI s + nI i - nI 1 = nI (8 * s + (i - 1)) := by rw [pk_mul, nI_add, pk_sub (by omega), show 8 * s + i - 1 = 8 * s + (i - 1) by omega]
        refine And.intro (show vp_in (nI 8 * nI s + nI i - nI 1) 320 by rw [e]; exact vp_in_nI (by omega) (by omega)) ?_
        refine And.intro trivial ?_
        show post (some (jJ (σ.2 50 0 (nI 8 * nI s + nI i - nI 1).toNatClampNeg))) σ
        rw [e, nI_clamp (by omega), k3 (i - 1) (by omega)]
        exact hp
    · have h2 : ¬ σ.1 39 0 (nI s).toNatClampNeg = nI 1 := h2
      rw [es, mN_gate hok hN (by omega)] at h2
      have := hleaf (by simpa using h2)
      rw [if_neg (by omega)] at hp
      exact And.intro trivial hp
