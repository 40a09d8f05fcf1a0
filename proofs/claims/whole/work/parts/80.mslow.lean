/-! THE MODEL'S FACE: slow, count; usesOf, slowest -/
abbrev ct_muses (C : jm_C) : Prop := ∀ (N : nw) (ch : Nat → Nat) (T i : Nat) (σ : jm_G) (post : Option jm_V → jm_G → Prop), nw_ok N → mN N σ → allG N T → mCh N ch σ → (∀ g, isG N g = true → ch g < 2 ^ 40) → σ.2 38 0 25 = lN T → i < 40 → post (some (jI (nI (cnt (mk (fun g => T.testBit g && (ch g).testBit i) 40) 40)))) σ → C kX10_usesOf [jR 38 0, jI (nI i)] σ post
theorem T_muses (L : Nat) {C : jm_C} (hC : jm_mon C) (h1 : ct_mhas C) : ct_muses (jm_up L C) := by
  intro N ch T i σ post hok hN hT hch hlt h25 hi4 hp
  refine jm_start rfl (Nat.le_of_ble_eq_true rfl) hC fun X hg hw => ?_
  have h40 := hok.1
  have hT4 := allG_lt hok hT
  rw [cnt_mk _ (Nat.le_refl 40)] at hp
  have eend : fb_ct (fun g => T.testBit g && (ch g).testBit i) (nN N) = fb_ct (fun g => T.testBit g && (ch g).testBit i) 40 := by
    have : ∀ d, fb_ct (fun g => T.testBit g && (ch g).testBit i) (nN N + d) = fb_ct (fun g => T.testBit g && (ch g).testBit i) (nN N) := by
      intro d
      induction d with
      | zero => rfl
      | succ d ih =>
        rw [← Nat.add_assoc, fb_ct_succ, ih]
        have : T.testBit (nN N + d) = false := by
          cases q : T.testBit (nN N + d) with
          | false => rfl
          | true => have := isG_lt (hT _ q); omega
        rw [this]
        rfl
    have e := this (40 - nN N)
    rw [show nN N + (40 - nN N) = 40 by omega] at e
    exact e.symm
  refine hg [4] 20 _ ?_
  refine jm_for (X := X) (fun k => (σ, 4, [some (jR 38 0), some (jI (nI i)), some (jI (nI (fb_ct (fun g => T.testBit g && (ch g).testBit i) k))), some (jI (nI k))], [])) (nN N) ?_ ?_ 0 (by omega)
  · refine hg [4] 30 _ ?_
    refine br_c (fun h => ?_) (fun h => ?_)
    · rw [eend]
      exact And.intro trivial hp
    · have h : ¬ σ.1 38 0 1 ≤ nI (nN N) := h
      rw [hN.1, nI_leI (by omega) (by omega)] at h
      omega
  · intro k hk ih
    have ih : X (σ, 4, [some (jR 38 0), some (jI (nI i)), some (jI (nI (fb_ct (fun g => T.testBit g && (ch g).testBit i) (k + 1)))), some (jI (nI (k + 1)))], []) := ih
    rw [fb_ct_succ] at ih
    refine hg [4] 40 _ ?_
    refine br_c (fun h => ?_) (fun h => ?_)
    · have h : σ.1 38 0 1 ≤ nI k := h
      rw [hN.1, nI_leI (by omega) (by omega)] at h
      omega
    · refine c_mhas h1 h25 rfl (p40 hT4) (by omega) ?_
      refine br_c (fun z => ?_) (fun z => ?_)
      · rw [bI_0.mp z, Bool.false_and, if_neg (fun q => by cases q)] at ih
        show X (σ, 4, [some (jR 38 0), some (jI (nI i)), some (jI (nI (fb_ct (fun g => T.testBit g && (ch g).testBit i) k) + nI 0)), some (jI (nI k + nI 1))], [])
        rw [nI_add, nI_add]
        exact ih
      · have hb := bI_n0.mp z
        rw [hb, Bool.true_and] at ih
        refine And.intro (vp_in_nI (by omega) (by omega)) ?_
        refine c_mhas h1 (S := ch k) (n := i) (show σ.2 53 0 (nI k).toNatClampNeg = lN (ch k) by rw [nI_clamp (by omega)]; exact hch k (hT k hb)) rfl (p40 (hlt k (hT k hb))) (by omega) ?_
        refine br_c (fun y => ?_) (fun y => ?_)
        · rw [bI_0.mp y, if_neg (fun q => by cases q)] at ih
          show X (σ, 4, [some (jR 38 0), some (jI (nI i)), some (jI (nI (fb_ct (fun g => T.testBit g && (ch g).testBit i) k) + nI 0)), some (jI (nI k + nI 1))], [])
          rw [nI_add, nI_add]
          exact ih
        · rw [bI_n0.mp y, if_pos rfl] at ih
          show X (σ, 4, [some (jR 38 0), some (jI (nI i)), some (jI (nI (fb_ct (fun g => T.testBit g && (ch g).testBit i) k) + nI 1)), some (jI (nI k + nI 1))], [])
          rw [nI_add, nI_add]
          exact ih
abbrev ct_slowest (C : jm_C) : Prop := ∀ (N : nw) (ch : Nat → Nat) (σ : jm_G) (post : Option jm_V → jm_G → Prop), nw_ok N → mN N σ → chL N ch → mArr N ch σ → post (some (jI (nI (mxL (arv N ch) (rts N) 40)))) σ → C kX10_slowest [jR 38 0] σ post
theorem T_slowest (L : Nat) {C : jm_C} (hC : jm_mon C) (h1 : ct_mroots C) (h2 : ct_mhas C) : ct_slowest (jm_up L C) := by
  intro N ch σ post hok hN hl har hp
  refine jm_start rfl (Nat.le_of_ble_eq_true rfl) hC fun X hg hw => ?_
  have h40 := hok.1
  have hS := rts_lt40 hok
  have hb9 : ∀ n, mxL (arv N ch) (rts N) n < 100 := fun n => Nat.lt_of_le_of_lt (mxL_le (m := 99) (fun j hj => by have := arv_le hl j; have := rts_lt hok hj; omega) n) (by omega)
  have eend : mxL (arv N ch) (rts N) (nN N) = mxL (arv N ch) (rts N) 40 := by
    have := mxL_end (l := arv N ch) (S := rts N) (n := nN N) (fun j hj => rts_lt hok hj) (40 - nN N)
    rw [show nN N + (40 - nN N) = 40 by omega] at this
    exact this.symm
  refine hg [4] 20 _ ?_
  refine jm_for (X := X) (fun k => (σ, 4, [some (jR 38 0), some (jI (nI (mxL (arv N ch) (rts N) k))), some (jI (nI k))], [])) (nN N) ?_ ?_ 0 (by omega)
  · refine hg [4] 30 _ ?_
    refine br_c (fun h => ?_) (fun h => ?_)
    · rw [eend]
      exact And.intro trivial hp
    · have h : ¬ σ.1 38 0 1 ≤ nI (nN N) := h
      rw [hN.1, nI_leI (by omega) (by omega)] at h
      omega
  · intro k hk ih
    have h9 := hb9 k
    refine hg [4] 40 _ ?_
    refine br_c (fun h => ?_) (fun h => ?_)
    · have h : σ.1 38 0 1 ≤ nI k := h
      rw [hN.1, nI_leI (by omega) (by omega)] at h
      omega
    · refine h1 N σ _ hok hN ?_
      refine h2 (rts N) k σ _ (p40 hS) (by omega) ?_
      have go : ∀ z, z = mxL (arv N ch) (rts N) (k + 1) → X (σ, 4, [some (jR 38 0), some (jI (nI z)), some (jI (nI k + nI 1))], []) := by
        intro z hz
        rw [hz, nI_add]
        exact ih
      refine br_c (fun h3 => ?_) (fun h3 => ?_)
      · refine go (mxL (arv N ch) (rts N) k) ?_
        rw [mxL, bI_0.mp h3]
        rfl
      · have hb := bI_n0.mp h3
        have e54 : σ.1 54 0 (nI k).toNatClampNeg = nI (arv N ch k) := by rw [nI_clamp (by omega)]; exact har k hk
        have ha := arv_le hl k
        refine And.intro (vp_in_nI (by omega) (by omega)) ?_
        refine br_c (fun h5 => ?_) (fun h5 => ?_)
        · have h5 : σ.1 54 0 (nI k).toNatClampNeg ≤ nI (mxL (arv N ch) (rts N) k) := h5
          rw [e54, nI_leI (by omega) (by omega)] at h5
          refine go (mxL (arv N ch) (rts N) k) ?_
          rw [mxL, if_pos hb, Nat.max_eq_left h5]
        · have h5 : ¬ σ.1 54 0 (nI k).toNatClampNeg ≤ nI (mxL (arv N ch) (rts N) k) := h5
          rw [e54, nI_leI (by omega) (by omega)] at h5
          refine And.intro (vp_in_nI (by omega) (by omega)) ?_
          have := go (arv N ch k) (by rw [mxL, if_pos hb, Nat.max_eq_right (by omega)])
          show X (σ, 4, [some (jR 38 0), some (jI (σ.1 54 0 (nI k).toNatClampNeg)), some (jI (nI k + nI 1))], [])
          rw [e54]
          exact this
def slA (N : nw) (md : Bool) (ch : Nat → Nat) (x : Int32) : Int32 := if md && decide (¬ x < 0) then oN (slw N ch x.toNatClampNeg) else -(nI 1)
theorem oN_neg {o : Option Nat} (h : ∀ z, o = some z → z < 2 ^ 31) : oN o < 0 ↔ o = none := by
  cases o with
  | none => exact ⟨fun _ => rfl, fun _ => m1_neg⟩
  | some z => exact ⟨fun q => absurd q (nI_pos (h z rfl)), fun q => by cases q⟩
/-- one step of amx, as the model walks it -/
theorem amu_none (v : Nat → Nat) (n : Nat) : amu v n none = some n := rfl
theorem amu_some (v : Nat → Nat) (n m : Nat) : amu v n (some m) = if v m < v n then some n else some m := rfl
abbrev ct_mslow (C : jm_C) : Prop := ∀ (N : nw) (K : Nat) (md : Bool) (ch : Nat → Nat) (on : Nat) (x : Int32) (σ : jm_G) (post : Option jm_V → jm_G → Prop), aOK N K md ch on → mR N K md ch on σ → (∀ σ', mR N K md ch on σ' → off 38 70 σ σ' → post (some (jI (slA N md ch x))) σ') → C kX10_slow [jR 38 0, jI x] σ post
theorem T_mslow (L : Nat) {C : jm_C} (hC : jm_mon C) (h1 : ct_looks C) (h2 : ct_mroots C) (h3 : ct_mhas C) : ct_mslow (jm_up L C) := by
  intro N K md ch on x σ post hA hR hp
  refine jm_start rfl (Nat.le_of_ble_eq_true rfl) hC fun X hg hw => ?_
  obtain ⟨hok, -, hK6, -, hmd⟩ := hA
  have h40 := hok.1
  have hR0 := mR_th hR (nI 0)
  unfold slA at hp
  refine hg [26] 40 _ ?_
  refine br_c (fun q => ?_) (fun q => ?_)
  · have q : σ.1 38 0 8 = 0 := q
    rw [hR.1.2.2.1] at q
    have q := bI_0.mp q
    subst q
    rw [Bool.false_and, if_neg (fun q => by cases q)] at hp
    exact And.intro trivial (hp _ hR0 (off_th _ _))
  · have q : ¬ σ.1 38 0 8 = 0 := q
    rw [hR.1.2.2.1] at q
    have q := bI_n0.mp q
    subst q
    rw [Bool.true_and] at hp
    have hcO := hmd rfl
    have hl := chOK_L hcO
    refine br_c (fun z => ?_) (fun z => ?_)
    · have z : 0 ≤ x := z
      have z2 : ¬ x < 0 := Int32.not_lt.mpr z
      rw [show decide (¬ x < 0) = true by simpa using z2, if_pos rfl] at hp
      obtain ⟨i, hi, rfl⟩ := nI_of z2
      rw [nI_clamp hi] at hp
      refine h1 N ch (sF σ 0 (nI 0)) _ hok hR0.1.1 (hR0.2.2 rfl) hl fun τ o1 o2 o3 => ?_
      have hRt := mR_mf hR0 o1 (by decide) (by decide)
      have hNt := hRt.1.1
      have hp := hp τ hRt (off_trans (off_th σ (nI 0)) (mf_off o1 (by decide)))
      have hsl : ∀ s m, slw N ch s = some m → m < nN N := fun s m h => by have := slw_lt hl hok s m h; omega
      show X (τ, 26, [some (jR 38 0), some (jI (nI i)), some (jI (-(nI 1))), some (jI (nI 0)), none, none, none], [])
      -- one further
      have further : ∀ (d s : Nat), s + d = i → X (τ, 90, [some (jR 38 0), some (jI (nI i)), some (jI (oN (slw N ch s))), some (jI (nI s)), none, none, none], []) := by
        intro d
        induction d with
        | zero =>
          intro s hs
          have e : s = i := by omega
          subst e
          refine hg [90, 105] 40 _ ?_
          refine br_c (fun _ => And.intro trivial hp) (fun h => absurd (show nI s ≤ nI s from nI_le (Nat.le_refl _) hi) h)
        | succ d ih =>
          intro s hs
          refine hg [90, 105] 40 _ ?_
          refine br_c (fun h => ?_) (fun _ => ?_)
          · have h : nI i ≤ nI s := h
            rw [nI_leI hi (by omega)] at h
            omega
          · refine br_c (fun h => ?_) (fun h => ?_)
            · have h : oN (slw N ch s) < 0 := h
              rw [oN_neg (fun z hz => by have := hsl s z hz; omega)] at h
              have e := slw_none h (i - s)
              rw [show s + (i - s) = i by omega] at e
              rw [h, ← e]
              exact And.intro trivial hp
            · have h : ¬ oN (slw N ch s) < 0 := h
              rw [oN_neg (fun z hz => by have := hsl s z hz; omega)] at h
              cases hm : slw N ch s with
              | none => exact absurd hm h
              | some m =>
                have hmn := hsl s m hm
                have em : (nI m).toNatClampNeg = m := nI_clamp (by omega)
                have hinm : vp_in (nI m) 40 := vp_in_nI (by omega) (by omega)
                have nx := slw_some hm
                show X (τ, 105, [some (jR 38 0), some (jI (nI i)), some (jI (nI m)), some (jI (nI s)), some (jI (oN none)), some (jI (nI 0)), none], [])
                have done : ∀ (o : Option Nat) (c e : Int32), o = slw N ch (s + 1) → X (τ, 90, [some (jR 38 0), some (jI (nI i)), some (jI (oN o)), some (jI (nI s + nI 1)), some (jI c), some (jI e), none], []) := by
                  intro o c e ho
                  refine hw _ _ _ [some (jR 38 0), some (jI (nI i)), some (jI (oN o)), some (jI (nI s + nI 1)), none, none, none] _ (by repeat' first | exact trivial | exact rfl | apply And.intro) ?_
                  rw [ho, nI_add]
                  exact ih (s + 1) (by omega)
                cases hgt : isG N m with
                | false =>
                  have es : slw N ch (s + 1) = none := by
                    rw [nx, amx_none]
                    intro j _
                    unfold slx
                    rw [hgt]
                    exact Nat.zero_testBit j
                  refine hg [90, 105] 60 _ ?_
                  refine br_c (fun h => ?_) (fun _ => ?_)
                  · have h : τ.1 38 0 1 ≤ nI 0 := h
                    rw [hNt.1, nI_leI (by omega) (by omega)] at h
                    omega
                  · refine And.intro hinm ?_
                    refine br_c (fun h => ?_) (fun _ => ?_)
                    · have h : τ.1 39 0 (nI m).toNatClampNeg = nI 1 := h
                      rw [em, mN_gate hok hNt hmn, hgt] at h
                      cases h
                    · exact done none _ _ es.symm
                | true =>
                  have hcm := (hcO m hgt).1
                  have e53 : τ.2 53 0 (nI m).toNatClampNeg = lN (ch m) := by rw [em]; exact hRt.2.2 rfl m hgt
                  have esx : slx N ch m = ch m := by unfold slx; rw [hgt]; rfl
                  rw [esx] at nx
                  have inner : ∀ (e k : Nat), k + e = nN N → X (τ, 105, [some (jR 38 0), some (jI (nI i)), some (jI (nI m)), some (jI (nI s)), some (jI (oN (amx (arv N ch) (ch m) k))), some (jI (nI k)), none], []) := by
                    intro e
                    induction e with
                    | zero =>
                      intro k hk
                      have ek : k = nN N := by omega
                      subst ek
                      refine hg [90, 105] 60 _ ?_
                      refine br_c (fun _ => ?_) (fun h => ?_)
                      · refine done _ _ _ ?_
                        rw [nx]
                        exact amx_40 h40 fun j hj => by have := hcm.2.2.1 j hj; omega
                      · have h : ¬ τ.1 38 0 1 ≤ nI (nN N) := h
                        rw [hNt.1, nI_leI (by omega) (by omega)] at h
                        omega
                    | succ e ihe =>
                      intro k hk
                      have ihk := ihe (k + 1) (by omega)
                      have go : ∀ (o : Option Nat) (c : Int32), o = amx (arv N ch) (ch m) (k + 1) → X (τ, 105, [some (jR 38 0), some (jI (nI i)), some (jI (nI m)), some (jI (nI s)), some (jI (oN o)), some (jI (nI k + nI 1)), some (jI c)], []) := by
                        intro o c ho
                        refine hw _ _ _ [some (jR 38 0), some (jI (nI i)), some (jI (nI m)), some (jI (nI s)), some (jI (oN o)), some (jI (nI k + nI 1)), none] _ (by repeat' first | exact trivial | exact rfl | apply And.intro) ?_
                        rw [ho, nI_add]
                        exact ihk
                      refine hg [90, 105] 80 _ ?_
                      refine br_c (fun h => ?_) (fun _ => ?_)
                      · have h : τ.1 38 0 1 ≤ nI k := h
                        rw [hNt.1, nI_leI (by omega) (by omega)] at h
                        omega
                      · refine And.intro hinm ?_
                        refine br_c (fun _ => ?_) (fun h => ?_)
                        · refine And.intro hinm ?_
                          refine c_mhas h3 e53 rfl (p40 hcm.1) (by omega) ?_
                          refine br_c (fun y => ?_) (fun y => ?_)
                          · refine br_c (fun _ => ?_) (fun h => absurd rfl h)
                            exact go _ _ (amx_f (bI_0.mp y)).symm
                          · have hb := bI_n0.mp y
                            have ht := amx_t (v := arv N ch) hb
                            cases ho : amx (arv N ch) (ch m) k with
                            | none =>
                              rw [ho] at ht
                              refine br_c (fun _ => ?_) (fun h => absurd m1_neg h)
                              refine br_c (fun h => absurd h (by decide)) (fun _ => ?_)
                              exact go (some k) _ ht.symm
                            | some r =>
                              rw [ho, amu_some] at ht
                              have hr := amx_in k r ho
                              have er : (nI r).toNatClampNeg = r := nI_clamp (by omega)
                              refine br_c (fun h => absurd h (nI_pos (show r < 2 ^ 31 by omega))) (fun _ => ?_)
                              refine And.intro (vp_in_nI (by omega) (by omega)) ?_
                              refine And.intro (vp_in_nI (show r < 40 by omega) (by omega)) ?_
                              have a1 := arv_le hl k
                              have a2 := arv_le hl r
                              have e1 : τ.1 54 0 (nI k).toNatClampNeg = nI (arv N ch k) := by rw [nI_clamp (by omega)]; exact o3 k (by omega)
                              have e2 : τ.1 54 0 (nI r).toNatClampNeg = nI (arv N ch r) := by rw [er]; exact o3 r (by omega)
                              refine br_c (fun h => ?_) (fun h => ?_)
                              · have h : τ.1 54 0 (nI k).toNatClampNeg ≤ τ.1 54 0 (nI r).toNatClampNeg := h
                                rw [e1, e2, nI_leI (by omega) (by omega)] at h
                                rw [if_neg (by omega)] at ht
                                refine br_c (fun _ => ?_) (fun h => absurd rfl h)
                                exact go (some r) _ ht.symm
                              · have h : ¬ τ.1 54 0 (nI k).toNatClampNeg ≤ τ.1 54 0 (nI r).toNatClampNeg := h
                                rw [e1, e2, nI_leI (by omega) (by omega)] at h
                                rw [if_pos (by omega)] at ht
                                refine br_c (fun h => absurd h (by decide)) (fun _ => ?_)
                                exact go (some k) _ ht.symm
                        · have h : ¬ τ.1 39 0 (nI m).toNatClampNeg = nI 1 := h
                          rw [em, mN_gate hok hNt hmn, hgt] at h
                          exact absurd rfl h
                  exact inner (nN N) 0 (by omega)
      have first : ∀ (e k : Nat), k + e = nN N → X (τ, 26, [some (jR 38 0), some (jI (nI i)), some (jI (oN (amx (arv N ch) (rts N) k))), some (jI (nI k)), none, none, none], []) := by
        intro e
        induction e with
        | zero =>
          intro k hk
          have ek : k = nN N := by omega
          subst ek
          refine hg [26, 90] 60 _ ?_
          refine br_c (fun _ => ?_) (fun h => ?_)
          · have := further i 0 (by omega)
            show X (τ, 90, [some (jR 38 0), some (jI (nI i)), some (jI (oN (amx (arv N ch) (rts N) (nN N)))), some (jI (nI 0)), none, none, none], [])
            rw [amx_40 h40 fun j hj => rts_lt hok hj]
            exact this
          · have h : ¬ τ.1 38 0 1 ≤ nI (nN N) := h
            rw [hNt.1, nI_leI (by omega) (by omega)] at h
            omega
        | succ e ihe =>
          intro k hk
          have ihk := ihe (k + 1) (by omega)
          have go : ∀ (o : Option Nat) (c : Int32), o = amx (arv N ch) (rts N) (k + 1) → X (τ, 26, [some (jR 38 0), some (jI (nI i)), some (jI (oN o)), some (jI (nI k + nI 1)), some (jI c), none, none], []) := by
            intro o c ho
            refine hw _ _ _ [some (jR 38 0), some (jI (nI i)), some (jI (oN o)), some (jI (nI k + nI 1)), none, none, none] _ (by repeat' first | exact trivial | exact rfl | apply And.intro) ?_
            rw [ho, nI_add]
            exact ihk
          refine hg [26, 90] 80 _ ?_
          refine br_c (fun h => ?_) (fun _ => ?_)
          · have h : τ.1 38 0 1 ≤ nI k := h
            rw [hNt.1, nI_leI (by omega) (by omega)] at h
            omega
          · refine h2 N τ _ hok hNt ?_
            refine h3 (rts N) k τ _ (p40 (rts_lt40 hok)) (by omega) ?_
            refine br_c (fun y => ?_) (fun y => ?_)
            · refine br_c (fun _ => ?_) (fun h => absurd rfl h)
              exact go _ _ (amx_f (bI_0.mp y)).symm
            · have hb := bI_n0.mp y
              have ht := amx_t (v := arv N ch) hb
              cases ho : amx (arv N ch) (rts N) k with
              | none =>
                rw [ho] at ht
                refine br_c (fun _ => ?_) (fun h => absurd m1_neg h)
                refine br_c (fun h => absurd h (by decide)) (fun _ => ?_)
                exact go (some k) _ ht.symm
              | some r =>
                rw [ho, amu_some] at ht
                have hr := amx_in k r ho
                have er : (nI r).toNatClampNeg = r := nI_clamp (by omega)
                refine br_c (fun h => absurd h (nI_pos (show r < 2 ^ 31 by omega))) (fun _ => ?_)
                refine And.intro (vp_in_nI (by omega) (by omega)) ?_
                refine And.intro (vp_in_nI (show r < 40 by omega) (by omega)) ?_
                have a1 := arv_le hl k
                have a2 := arv_le hl r
                have e1 : τ.1 54 0 (nI k).toNatClampNeg = nI (arv N ch k) := by rw [nI_clamp (by omega)]; exact o3 k (by omega)
                have e2 : τ.1 54 0 (nI r).toNatClampNeg = nI (arv N ch r) := by rw [er]; exact o3 r (by omega)
                refine br_c (fun h => ?_) (fun h => ?_)
                · have h : τ.1 54 0 (nI k).toNatClampNeg ≤ τ.1 54 0 (nI r).toNatClampNeg := h
                  rw [e1, e2, nI_leI (by omega) (by omega)] at h
                  rw [if_neg (by omega)] at ht
                  refine br_c (fun _ => ?_) (fun h => absurd rfl h)
                  exact go (some r) _ ht.symm
                · have h : ¬ τ.1 54 0 (nI k).toNatClampNeg ≤ τ.1 54 0 (nI r).toNatClampNeg := h
                  rw [e1, e2, nI_leI (by omega) (by omega)] at h
                  rw [if_pos (by omega)] at ht
                  refine br_c (fun h => absurd h (by decide)) (fun _ => ?_)
                  exact go (some k) _ ht.symm
      exact first (nN N) 0 (by omega)
    · have z : ¬ 0 ≤ x := z
      have z2 : x < 0 := Int32.not_le.mp z
      rw [show decide (¬ x < 0) = false by simpa using z2, if_neg (fun q => by cases q)] at hp
      exact And.intro trivial (hp _ hR0 (off_th _ _))
