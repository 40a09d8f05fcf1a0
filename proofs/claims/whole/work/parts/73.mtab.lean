/-! the model's laysTables, arrivalBy, laysArrival, looks -/
theorem mf_sJ {A B : List Nat} {σ τ : jm_G} {k : Nat} {x : Int64} (h : mf A B σ τ) (h1 : k ∈ B) : mf A B σ (wJ τ 38 0 (vp_updL (τ.2 38 0) k x)) := ⟨fun a b q1 q2 => ⟨by rw [wJ1]; exact (h.1 a b q1 q2).1, by rw [wJ2, if_neg (fun e => q1 e.1)]; exact (h.1 a b q1 q2).2⟩, fun a b q => ⟨by rw [wJ1]; exact (h.2 a b q).1, by
  rw [wJ2]
  by_cases e : a = 0
  · rw [if_pos ⟨rfl, e⟩, updL_at, if_neg (fun e2 => q (by rw [e2]; exact h1)), ← (h.2 a b q).2, e]
  · rw [if_neg (fun e2 => e e2.2)]; exact (h.2 a b q).2⟩⟩
def mCh (N : nw) (ch : Nat → Nat) (σ : jm_G) : Prop := ∀ g, isG N g = true → σ.2 53 0 g = lN (ch g)
theorem mCh_mf {N : nw} {ch : Nat → Nat} {A B : List Nat} {σ τ : jm_G} (h : mCh N ch σ) (hm : mf A B σ τ) (h1 : ¬ 53 ∈ A) : mCh N ch τ := fun g hg => by rw [(hm.1 53 0 (by omega) h1).2]; exact h g hg
def mArr (N : nw) (ch : Nat → Nat) (σ : jm_G) : Prop := ∀ j, j < nN N → σ.1 54 0 j = nI (arv N ch j)
theorem mArr_mf {N : nw} {ch : Nat → Nat} {A B : List Nat} {σ τ : jm_G} (h : mArr N ch σ) (hm : mf A B σ τ) (h1 : ¬ 54 ∈ A) : mArr N ch τ := fun g hg => by rw [(hm.1 54 0 (by omega) h1).1]; exact h g hg
theorem mL_mf {N : nw} {K n : Nat} {A B : List Nat} {σ τ : jm_G} (h : mL N K n σ) (hm : mf A B σ τ) (h1 : ∀ t, t ∈ A → ¬ t ∈ [44, 45, 50, 51]) : mL N K n τ := by
  have e44 := (hm.1 44 0 (by omega) (fun q => h1 44 q (by decide))).1
  have e45 := (hm.1 45 0 (by omega) (fun q => h1 45 q (by decide))).2
  have e50 := (hm.1 50 0 (by omega) (fun q => h1 50 q (by decide))).2
  have e51 := (hm.1 51 0 (by omega) (fun q => h1 51 q (by decide))).1
  unfold mL mkR
  rw [e44, e45, e50, e51]
  exact h
abbrev ct_laysT (C : jm_C) : Prop := ∀ (N : nw) (ch : Nat → Nat) (σ : jm_G) (post : Option jm_V → jm_G → Prop), nw_ok N → mN N σ → mCh N ch σ → (∀ σ', mf [] [25] σ σ' → σ'.2 38 0 25 = lN (tbs N ch) → post none σ') → C kX10_laysTables [jR 38 0] σ post
theorem T_laysT (L : Nat) {C : jm_C} (hC : jm_mon C) (h1 : ct_mroots C) (h2 : ct_mgates C) (h3 : ct_mhas C) : ct_laysT (jm_up L C) := by
  intro N ch σ post hok hN hch hp
  refine jm_start rfl (Nat.le_of_ble_eq_true rfl) hC fun X hg hw => ?_
  have h40 := hok.1
  have gen : ∀ (k R : Nat) (x : Int32) (τ : jm_G), k ≤ nN N → x = nI k + -(nI 1) → allG N R → mf [] [25] σ τ → τ.2 38 0 25 = lN R → tdr N ch 0 k R = tbs N ch → X (τ, 20, [some (jR 38 0), some (jI x)], []) := by
    intro k
    induction k with
    | zero =>
      intro R x τ _ hx hR hf ht he
      rw [nI_0m1] at hx
      subst hx
      refine hg [20] 30 _ ?_
      refine br_c (fun _ => ?_) (fun h => absurd m1_neg h)
      refine And.intro trivial (hp τ hf ?_)
      rw [ht, ← he]
      rfl
    | succ k ih =>
      intro R x τ hk hx hR hf ht he
      rw [nI_m1] at hx
      subst hx
      rw [tdr, if_neg (by omega)] at he
      have hNt := mN_mf hN hf (by decide) (by decide)
      have hR4 := allG_lt hok hR
      refine hg [20] 40 _ ?_
      refine br_c (fun h => absurd h (nI_pos (by omega))) (fun _ => ?_)
      refine c_mhas h3 ht rfl (p40 hR4) (by omega) ?_
      refine br_c (fun h => ?_) (fun h => ?_)
      · have e : tst N ch k R = R := by unfold tst; rw [bI_0.mp h]; rfl
        rw [e] at he
        refine ih R _ _ (by omega) rfl hR (mf_sJ hf (by decide)) ?_ he
        show vp_updL (τ.2 38 0) 25 (τ.2 38 0 25 ||| lN 0) 25 = _
        rw [pk_uLs, ht, fb_orL, Nat.or_zero]
      · have hb := bI_n0.mp h
        have e : tst N ch k R = R ||| (ch k &&& gM N) := by unfold tst; rw [if_pos hb]
        rw [e] at he
        refine And.intro (vp_in_nI (by omega) (by omega)) ?_
        refine h2 N τ _ hok hNt ?_
        refine ih (R ||| (ch k &&& gM N)) _ _ (by omega) rfl (allG_or hR (allG_and N _)) (mf_sJ hf (by decide)) ?_ he
        show vp_updL (τ.2 38 0) 25 (τ.2 38 0 25 ||| (τ.2 53 0 (nI k).toNatClampNeg &&& lN (gM N))) 25 = _
        rw [pk_uLs, ht, nI_clamp (by omega), mCh_mf hch hf (by decide) k (hR k hb), fb_andL, fb_orL]
  refine hg [20] 40 _ ?_
  refine h1 N σ _ hok hN ?_
  refine h2 N σ _ hok hN ?_
  show X (wJ σ 38 0 (vp_updL (σ.2 38 0) 25 (lN (rts N) &&& lN (gM N))), 20, [some (jR 38 0), some (jI (σ.1 38 0 1 - nI 1))], [])
  rw [hN.1, fb_andL]
  refine gen (nN N) (rts N &&& gM N) _ _ (Nat.le_refl _) (sub1 _) (allG_and N _) (mf_sJ (mf_refl _ _ _) (by decide)) ?_ rfl
  show vp_updL (σ.2 38 0) 25 (lN (rts N &&& gM N)) 25 = _
  rw [pk_uLs]
abbrev ct_marrBy (C : jm_C) : Prop := ∀ (N : nw) (S : Nat) (l : Nat → Nat) (σ : jm_G) (v : Int64) (post : Option jm_V → jm_G → Prop), nw_ok N → mN N σ → v = lN S → S < 2 ^ 40 → (∀ j, S.testBit j = true → j < nN N ∧ σ.1 54 0 j = nI (l j) ∧ l j < 100) → post (some (jI (nI (1 + mxL l S 40)))) σ → C kX10_arrivalBy [jR 38 0, jJ v] σ post
theorem T_marrBy (L : Nat) {C : jm_C} (hC : jm_mon C) (h1 : ct_mhas C) : ct_marrBy (jm_up L C) := by
  intro N S l σ v post hok hN hv hS hl hp
  subst hv
  refine jm_start rfl (Nat.le_of_ble_eq_true rfl) hC fun X hg hw => ?_
  have h40 := hok.1
  have hb9 : ∀ n, mxL l S n < 100 := fun n => Nat.lt_of_le_of_lt (mxL_le (m := 99) (fun j hj => by have := (hl j hj).2.2; omega) n) (by omega)
  have eend : mxL l S (nN N) = mxL l S 40 := by
    have := mxL_end (l := l) (S := S) (n := nN N) (fun j hj => (hl j hj).1) (40 - nN N)
    rw [show nN N + (40 - nN N) = 40 by omega] at this
    exact this.symm
  refine hg [5] 20 _ ?_
  refine jm_for (X := X) (fun k => (σ, 5, [some (jR 38 0), some (jJ (lN S)), none, some (jI (nI (mxL l S k))), some (jI (nI k))], [])) (nN N) ?_ ?_ 0 (by omega)
  · refine hg [5] 30 _ ?_
    refine br_c (fun h => ?_) (fun h => ?_)
    · refine And.intro trivial ?_
      show post (some (jI (nI (mxL l S (nN N)) + nI 1))) σ
      rw [nI_add, eend, Nat.add_comm]
      exact hp
    · have h : ¬ σ.1 38 0 1 ≤ nI (nN N) := h
      rw [hN.1, nI_leI (by omega) (by omega)] at h
      omega
  · intro k hk ih
    have h9 := hb9 k
    refine hg [5] 40 _ ?_
    refine br_c (fun h => ?_) (fun h => ?_)
    · have h : σ.1 38 0 1 ≤ nI k := h
      rw [hN.1, nI_leI (by omega) (by omega)] at h
      omega
    · refine h1 S k σ _ (p40 hS) (by omega) ?_
      have go : ∀ z, z = mxL l S (k + 1) → X (σ, 5, [some (jR 38 0), some (jJ (lN S)), none, some (jI (nI z)), some (jI (nI k + nI 1))], []) := by
        intro z hz
        rw [hz, nI_add]
        exact ih
      refine br_c (fun h3 => ?_) (fun h3 => ?_)
      · refine go (mxL l S k) ?_
        rw [mxL, bI_0.mp h3]
        rfl
      · have hb := bI_n0.mp h3
        have lk := hl k hb
        have e54 : σ.1 54 0 (nI k).toNatClampNeg = nI (l k) := by rw [nI_clamp (by omega)]; exact lk.2.1
        refine And.intro (vp_in_nI (by omega) (by omega)) ?_
        refine br_c (fun h5 => ?_) (fun h5 => ?_)
        · have h5 : σ.1 54 0 (nI k).toNatClampNeg ≤ nI (mxL l S k) := h5
          rw [e54, nI_leI (by omega) (by omega)] at h5
          refine go (mxL l S k) ?_
          rw [mxL, if_pos hb, Nat.max_eq_left h5]
        · have h5 : ¬ σ.1 54 0 (nI k).toNatClampNeg ≤ nI (mxL l S k) := h5
          rw [e54, nI_leI (by omega) (by omega)] at h5
          refine And.intro (vp_in_nI (by omega) (by omega)) ?_
          have := go (l k) (by rw [mxL, if_pos hb, Nat.max_eq_right (by omega)])
          show X (σ, 5, [some (jR 38 0), some (jJ (lN S)), none, some (jI (σ.1 54 0 (nI k).toNatClampNeg)), some (jI (nI k + nI 1))], [])
          rw [e54]
          exact this
abbrev ct_laysA (C : jm_C) : Prop := ∀ (N : nw) (ch : Nat → Nat) (σ : jm_G) (post : Option jm_V → jm_G → Prop), nw_ok N → mN N σ → mCh N ch σ → chL N ch → (∀ σ', mf [54] [] σ σ' → mArr N ch σ' → post none σ') → C kX10_laysArrival [jR 38 0] σ post
theorem T_laysA (L : Nat) {C : jm_C} (hC : jm_mon C) (h1 : ct_marrBy C) : ct_laysA (jm_up L C) := by
  intro N ch σ post hok hN hch hl hp
  refine jm_start rfl (Nat.le_of_ble_eq_true rfl) hC fun X hg hw => ?_
  have h40 := hok.1
  refine hg [2] 20 _ ?_
  show X (σ, 2, [some (jR 38 0), some (jI (nI 0))], [])
  have gen : ∀ (d n : Nat), n + d = nN N → ∀ (τ : jm_G), mf [54] [] σ τ → (∀ j, j < n → τ.1 54 0 j = nI (arv N ch j)) → X (τ, 2, [some (jR 38 0), some (jI (nI n))], []) := by
    intro d
    induction d with
    | zero =>
      intro n hnd τ hf hr
      have e : n = nN N := by omega
      subst e
      have hNt := mN_mf hN hf (by decide) (by decide)
      refine hg [2] 30 _ ?_
      refine br_c (fun _ => And.intro trivial (hp τ hf hr)) (fun h => ?_)
      have h : ¬ τ.1 38 0 1 ≤ nI (nN N) := h
      rw [hNt.1, nI_leI (by omega) (by omega)] at h
      omega
    | succ d ih =>
      intro n hnd τ hf hr
      have hNt := mN_mf hN hf (by decide) (by decide)
      have en : (nI n).toNatClampNeg = n := nI_clamp (by omega)
      have hin : vp_in (nI n) 40 := vp_in_nI (by omega) (by omega)
      have go : ∀ z : Int32, z = nI (arv N ch n) → X (wI τ 54 0 (upd (τ.1 54 0) (nI n).toNatClampNeg z), 2, [some (jR 38 0), some (jI (nI n + nI 1))], []) := by
        intro z hz
        rw [en, nI_add]
        refine ih (n + 1) (by omega) _ (mf_wI hf (by decide) (by decide)) fun j hj => ?_
        rw [wI1, if_pos ⟨rfl, rfl⟩, upd_at]
        by_cases e : j = n
        · rw [if_pos e, e, hz]
        · rw [if_neg e]; exact hr j (by omega)
      refine hg [2] 40 _ ?_
      refine br_c (fun h => ?_) (fun _ => ?_)
      · have h : τ.1 38 0 1 ≤ nI n := h
        rw [hNt.1, nI_leI (by omega) (by omega)] at h
        omega
      · refine And.intro hin ?_
        refine br_c (fun h => ?_) (fun h => ?_)
        · have h : τ.1 39 0 (nI n).toNatClampNeg = nI 1 := h
          rw [en, mN_gate hok hNt (by omega)] at h
          have hcn := hl n h
          refine And.intro hin ?_
          refine h1 N (ch n) (arv N ch) τ _ _ hok hNt (by rw [en]; exact mCh_mf hch hf (by decide) n h) (lt40 (g := n) (by omega) hcn) (fun j hj => ?_) ?_
          · have := hcn j hj
            exact ⟨by omega, hr j this, by have := arv_le hl j; omega⟩
          · refine And.intro hin ?_
            exact go _ (by rw [arv_gate hcn h])
        · have h : ¬ τ.1 39 0 (nI n).toNatClampNeg = nI 1 := h
          rw [en, mN_gate hok hNt (by omega)] at h
          refine And.intro hin ?_
          exact go (nI 0) (by rw [arv_leaf (by simpa using h)])
  exact gen (nN N) 0 (by omega) σ (mf_refl _ _ _) fun j hj => absurd hj (by omega)
abbrev ct_looks (C : jm_C) : Prop := ∀ (N : nw) (ch : Nat → Nat) (σ : jm_G) (post : Option jm_V → jm_G → Prop), nw_ok N → mN N σ → mCh N ch σ → chL N ch → (∀ σ', mf [54] [25] σ σ' → σ'.2 38 0 25 = lN (tbs N ch) → mArr N ch σ' → post none σ') → C kX10_looks [jR 38 0] σ post
theorem T_looks (L : Nat) {C : jm_C} (hC : jm_mon C) (h1 : ct_laysT C) (h2 : ct_laysA C) : ct_looks (jm_up L C) := by
  intro N ch σ post hok hN hch hl hp
  refine jm_start rfl (Nat.le_of_ble_eq_true rfl) hC fun X hg hw => ?_
  refine hg [] 20 _ ?_
  refine h1 N ch σ _ hok hN hch fun τ o1 o2 => ?_
  refine h2 N ch τ _ hok (mN_mf hN o1 (by decide) (by decide)) (mCh_mf hch o1 (by decide)) hl fun υ q1 q2 => ?_
  refine And.intro trivial (hp υ (mf_trans (mf_wide o1 (by decide) (by decide)) (mf_wide q1 (by decide) (by decide))) ?_ q2)
  rw [(q1.2 0 25 (by decide)).2]
  exact o2
