/-! the component's Cover: greatestArrival, arrivalBy, withChosen, tablesWith -/
theorem m1_ltI {n : Nat} (h : n < 2 ^ 31) : -(nI 1) < nI n := Int32.lt_of_lt_of_le m1_neg (nI_pos' h)
theorem sub1 (x : Int32) : x - nI 1 = x + -(nI 1) := Int32.sub_eq_add_neg x (nI 1)
def cCh (N : nw) (ch : Nat → Nat) (σ : jm_G) : Prop := ∀ g, isG N g = true → σ.2 24 0 g = lN (ch g)
abbrev ct_grArr (C : jm_C) : Prop := ∀ (S : Nat) (l : Nat → Nat) (σ : jm_G) (v : Int64) (post : Option jm_V → jm_G → Prop), v = lN S → S < 2 ^ 40 → (∀ j, S.testBit j = true → σ.1 25 0 j = nI (l j) ∧ l j < 100) → post (some (jI (nI (mxL l S 40)))) σ → C kX3_greatestArrival [jR 22 0, jJ v] σ post
theorem T_grArr (L : Nat) {C : jm_C} (hC : jm_mon C) (h1 : ct_low C) : ct_grArr (jm_up L C) := by
  intro S l σ v post hv hS hl hp
  subst hv
  refine jm_start rfl (Nat.le_of_ble_eq_true rfl) hC fun X hg hw => ?_
  refine hg [5] 20 _ ?_
  show X (σ, 5, [some (jR 22 0), some (jJ (lN S)), none, some (jI (nI 0)), some (jJ (lN S)), none], [])
  have hb9 : ∀ n, mxL l S n < 100 := fun n => Nat.lt_of_le_of_lt (mxL_le (m := 99) (fun j hj => by have := (hl j hj).2; omega) n) (by omega)
  have main := jm_bits (X := X) S (fun k => (σ, 5, [some (jR 22 0), some (jJ (lN S)), none, some (jI (nI (mxL l S k))), some (jJ (lN (hi S k))), none], [])) 40 ?_ ?_ ?_ 0 (by omega)
  · have main : X (σ, 5, [some (jR 22 0), some (jJ (lN S)), none, some (jI (nI 0)), some (jJ (lN (hi S 0))), none], []) := main
    rw [hi_0] at main
    exact main
  · show X (σ, 5, [some (jR 22 0), some (jJ (lN S)), none, some (jI (nI (mxL l S 40))), some (jJ (lN (hi S 40))), none], [])
    rw [hi_end hS]
    refine hg [] 30 _ ?_
    refine br_c (fun h => ?_) (fun h => ?_)
    · exact And.intro trivial hp
    · exact absurd ((cmp_0 _ _).mpr rfl) h
  · intro k hk hb
    have e : mxL l S (k + 1) = mxL l S k := by rw [mxL, hb]; simp
    simp only [e, hi_skip hb]
  · intro k hk hb ih
    refine hg [5] 30 _ ?_
    refine br_c (fun h => ?_) (fun h => ?_)
    · exact absurd h (hi_n0 hS hb)
    · refine h1 S k σ _ (p40 hS) hb ?_
      refine And.intro (vp_in_nI (by omega) (by omega)) ?_
      refine jm_eqv (X := X) ih rfl rfl ?_ rfl
      show [some (jR 22 0), some (jJ (lN S)), none, some (jI (if nI (mxL l S k) < σ.1 25 0 (nI k).toNatClampNeg then σ.1 25 0 (nI k).toNatClampNeg else nI (mxL l S k))), some (jJ (lN (hi S k) &&& (lN (hi S k) - lN 1))), none] = _
      have h9 := hb9 k
      have := (hl k hb).2
      rw [nxt hb, nI_clamp (by omega), (hl k hb).1, maxI (by omega) (by omega), mxL, if_pos hb]
abbrev ct_arrBy (C : jm_C) : Prop := ∀ (S : Nat) (l : Nat → Nat) (σ : jm_G) (v : Int64) (post : Option jm_V → jm_G → Prop), v = lN S → S < 2 ^ 40 → (∀ j, S.testBit j = true → σ.1 25 0 j = nI (l j) ∧ l j < 100) → post (some (jI (nI (1 + mxL l S 40)))) σ → C kX3_arrivalBy [jR 22 0, jJ v] σ post
theorem T_arrBy (L : Nat) {C : jm_C} (hC : jm_mon C) (h1 : ct_grArr C) : ct_arrBy (jm_up L C) := by
  intro S l σ v post hv hS hl hp
  refine jm_start rfl (Nat.le_of_ble_eq_true rfl) hC fun X hg hw => ?_
  refine hg [] 20 _ ?_
  refine h1 S l σ v _ hv hS hl ?_
  refine And.intro trivial ?_
  show post (some (jI (nI 1 + nI (mxL l S 40)))) σ
  rw [nI_add]
  exact hp
abbrev ct_withCh (C : jm_C) : Prop := ∀ (N : nw) (ch : Nat → Nat) (R k lo : Nat) (σ : jm_G) (v : Int64) (x y : Int32) (post : Option jm_V → jm_G → Prop), nw_ok N → cN N σ → cCh N ch σ → allG N R → k ≤ nN N → lo ≤ 40 → v = lN R → x = nI k + -(nI 1) → y = nI lo → post (some (jJ (lN (tdr N ch lo k R)))) σ → C kX3_withChosen [jR 22 0, jJ v, jI x, jI y] σ post
theorem T_withCh (L : Nat) {C : jm_C} (hC : jm_mon C) (h1 : ct_has C) : ct_withCh (jm_up L C) := by
  intro N ch R0 k0 lo σ v x0 y post hok hN hch hR0 hk0 hlo hv hx0 hy hp
  subst hv
  subst hy
  refine jm_start rfl (Nat.le_of_ble_eq_true rfl) hC fun X hg hw => ?_
  have hn := hok.1
  refine hg [6] 30 _ ?_
  show X (σ, 6, [some (jR 22 0), some (jJ (lN R0)), none, some (jI x0), some (jI (nI lo)), some (jJ (lN R0)), none, some (jI x0)], [])
  have gen : ∀ (k R : Nat) (x : Int32), k ≤ nN N → x = nI k + -(nI 1) → allG N R → tdr N ch lo k R = tdr N ch lo k0 R0 → X (σ, 6, [some (jR 22 0), some (jJ (lN R0)), none, some (jI x0), some (jI (nI lo)), some (jJ (lN R)), none, some (jI x)], []) := by
    intro k
    induction k with
    | zero =>
      intro R x _ hx hR hrd
      rw [nI_0m1] at hx
      subst hx
      refine hg [6] 30 _ ?_
      refine br_c (fun h => ?_) (fun h => ?_)
      · refine And.intro trivial ?_
        have hrd : R = tdr N ch lo k0 R0 := hrd
        rw [← hrd] at hp
        exact hp
      · exact absurd (m1_ltI (by omega)) h
    | succ k ih =>
      intro R x hk hx hR hrd
      rw [nI_m1] at hx
      subst hx
      rw [tdr] at hrd
      refine hg [6] 30 _ ?_
      refine br_c (fun h => ?_) (fun h => ?_)
      · have h : nI k < nI lo := h
        rw [nI_ltI (by omega) (by omega)] at h
        rw [if_pos h] at hrd
        refine And.intro trivial ?_
        rw [← hrd] at hp
        exact hp
      · have h : ¬ nI k < nI lo := h
        rw [nI_ltI (by omega) (by omega)] at h
        rw [if_neg h] at hrd
        have hR4 := allG_lt hok hR
        refine h1 R k σ _ (p40 hR4) (by omega) ?_
        refine br_c (fun h3 => ?_) (fun h3 => ?_)
        · have e : tst N ch k R = R := by unfold tst; rw [bI_0.mp h3]; simp
          rw [e] at hrd
          exact ih R _ (by omega) rfl hR hrd
        · have hb := bI_n0.mp h3
          have e : tst N ch k R = R ||| (ch k &&& gM N) := by unfold tst; rw [if_pos hb]
          rw [e] at hrd
          refine And.intro (vp_in_nI (by omega) (by omega)) ?_
          refine jm_eqv (X := X) (ih (R ||| (ch k &&& gM N)) (nI k + -(nI 1)) (by omega) rfl (allG_or hR (allG_and N _)) hrd) rfl rfl ?_ rfl
          show [some (jR 22 0), some (jJ (lN R0)), none, some (jI x0), some (jI (nI lo)), some (jJ (lN R ||| (σ.2 24 0 (nI k).toNatClampNeg &&& σ.2 2 0 6))), none, some (jI (nI k + -(nI 1)))] = _
          rw [nI_clamp (by omega), hch k (hR k hb), hN.2.2.1, fb_andL, fb_orL]
  exact gen k0 R0 x0 hk0 hx0 hR0 rfl
abbrev ct_tabWith (C : jm_C) : Prop := ∀ (N : nw) (ch : Nat → Nat) (c H g : Nat) (σ : jm_G) (v w : Int64) (x : Int32) (post : Option jm_V → jm_G → Prop), nw_ok N → cN N σ → cCh N ch σ → allG N H → g ≤ nN N → v = lN c → w = lN H → x = nI g → post (some (jJ (lN (tdr N ch 0 g (H ||| (c &&& gM N)))))) σ → C kX3_tablesWith [jR 22 0, jJ v, jJ w, jI x] σ post
theorem T_tabWith (L : Nat) {C : jm_C} (hC : jm_mon C) (h1 : ct_withCh C) : ct_tabWith (jm_up L C) := by
  intro N ch c H g σ v w x post hok hN hch hH hgn hv hw2 hx hp
  subst hv
  subst hw2
  subst hx
  refine jm_start rfl (Nat.le_of_ble_eq_true rfl) hC fun X hg hw => ?_
  refine hg [] 30 _ ?_
  refine h1 N ch (H ||| (c &&& gM N)) g 0 σ _ _ _ _ hok hN hch (allG_or hH (allG_and N _)) hgn (by omega) ?_ (sub1 _) rfl ?_
  · show lN H ||| (lN c &&& σ.2 2 0 6) = _
    rw [hN.2.2.1, fb_andL, fb_orL]
  · exact And.intro trivial hp
