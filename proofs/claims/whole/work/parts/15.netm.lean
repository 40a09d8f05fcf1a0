/-! the component's Network: its methods -/
theorem cN_off {N : nw} {σ τ : jm_G} {lo hi : Nat} (h : cN N σ) (ho : off lo hi σ τ) (h1 : 7 < lo) (h2 : hi < 100) : cN N τ := by
  obtain ⟨a1, a2, a3, a4, a5, a6, a7, a8, a9, a10⟩ := h
  have e2 := ho 2 0 (by omega); have e3 := ho 3 0 (by omega); have e4 := ho 4 0 (by omega); have e5 := ho 5 0 (by omega)
  have e6 := ho 6 0 (by omega); have e7 := ho 7 0 (by omega); have e8 := ho 100 0 (by omega)
  unfold cN
  rw [e2.1, e2.2, e3.1, e4.1, e5.1, e6.2, e7.2, e8.1]
  exact ⟨a1, a2, a3, a4, a5, a6, a7, a8, a9, a10⟩
theorem in40 {N : nw} (h : nw_ok N) {i n : Nat} (hi : i < nN N) (hn : 40 ≤ n := by omega) (hn2 : n < 2 ^ 31 := by omega) : vp_in (nI i) n := vp_in_nI (by have := h.1; omega) hn2
theorem cl40 {N : nw} (h : nw_ok N) {i : Nat} (hi : i < nN N) : (nI i).toNatClampNeg = i := nI_clamp (by have := h.1; omega)
abbrev ct_isFull (C : jm_C) : Prop := ∀ (N : nw) (σ : jm_G) (post : Option jm_V → jm_G → Prop), nw_ok N → cN N σ → post (some (jI (bI (decide (40 ≤ nN N))))) σ → C kX5_isFull [jR 2 0] σ post
theorem T_isFull (L : Nat) {C : jm_C} (hC : jm_mon C) : ct_isFull (jm_up L C) := by
  intro N σ post hok hN hp
  refine jm_start rfl (Nat.le_of_ble_eq_true rfl) hC fun X hg hw => ?_
  refine hg [] 20 _ ?_
  have hn := hok.1
  refine br_c (fun h => ?_) (fun h => ?_)
  · have h : σ.1 2 0 9 < nI 40 := h
    rw [hN.1, nI_ltI (by omega) (by omega)] at h
    refine And.intro (Or.inl rfl) ?_
    rw [show decide (40 ≤ nN N) = false by simp; omega] at hp
    exact hp
  · have h : ¬ σ.1 2 0 9 < nI 40 := h
    rw [hN.1, nI_ltI (by omega) (by omega)] at h
    refine And.intro (Or.inr rfl) ?_
    rw [show decide (40 ≤ nN N) = true by simp; omega] at hp
    exact hp
abbrev ct_isKind (C : jm_C) : Prop := ∀ (x : Int32) (σ : jm_G) (post : Option jm_V → jm_G → Prop), post (some (jI (bI (inN 7 x)))) σ → C kX5_isKind [jI x] σ post
theorem T_isKind (L : Nat) {C : jm_C} (hC : jm_mon C) : ct_isKind (jm_up L C) := by
  intro x σ post hp
  refine jm_start rfl (Nat.le_of_ble_eq_true rfl) hC fun X hg hw => ?_
  refine hg [] 20 _ ?_
  refine br_c (fun h => ?_) (fun h => ?_)
  · refine And.intro (Or.inl rfl) ?_
    have e : inN 7 x = false := by simp only [inN, h]; simp
    rw [e] at hp
    exact hp
  · refine br_c (fun h2 => ?_) (fun h2 => ?_)
    · have h2 : nI 7 ≤ x := h2
      refine And.intro (Or.inl rfl) ?_
      have e : inN 7 x = false := by simp only [inN, h2]; simp
      rw [e] at hp
      exact hp
    · have h2 : ¬ nI 7 ≤ x := h2
      refine And.intro (Or.inr rfl) ?_
      have e : inN 7 x = true := by simp only [inN, h, h2]; simp
      rw [e] at hp
      exact hp
abbrev ct_srcOf (C : jm_C) : Prop := ∀ (k : Nat) (σ : jm_G) (post : Option jm_V → jm_G → Prop), k < 7 → (∀ j, j < 7 → σ.1 100 0 j = nI (ar j)) → post (some (jI (nI (ar k)))) σ → C kX5_sourcesOf [jI (nI k)] σ post
theorem T_srcOf (L : Nat) {C : jm_C} (hC : jm_mon C) : ct_srcOf (jm_up L C) := by
  intro k σ post hk hs hp
  refine jm_start rfl (Nat.le_of_ble_eq_true rfl) hC fun X hg hw => ?_
  refine hg [] 20 _ ?_
  refine And.intro (vp_in_nI hk (by omega)) ?_
  refine And.intro trivial ?_
  show post (some (jI (σ.1 100 0 (nI k).toNatClampNeg))) σ
  rw [nI_clamp (by omega), hs k hk]
  exact hp
abbrev ct_kindOf (C : jm_C) : Prop := ∀ (N : nw) (i : Nat) (σ : jm_G) (post : Option jm_V → jm_G → Prop), nw_ok N → cN N σ → isG N i = true → post (some (jI (nI (nK N i)))) σ → C kX5_kindOf [jR 2 0, jI (nI i)] σ post
theorem T_kindOf (L : Nat) {C : jm_C} (hC : jm_mon C) : ct_kindOf (jm_up L C) := by
  intro N i σ post hok hN hi hp
  refine jm_start rfl (Nat.le_of_ble_eq_true rfl) hC fun X hg hw => ?_
  refine hg [] 20 _ ?_
  refine And.intro (in40 hok (isG_lt hi)) ?_
  refine And.intro trivial ?_
  show post (some (jI (σ.1 3 0 (nI i).toNatClampNeg))) σ
  rw [cl40 hok (isG_lt hi), (hN.2.2.2.2.2.1 i hi).1]
  exact hp
abbrev ct_feedOf (C : jm_C) : Prop := ∀ (N : nw) (i : Nat) (σ : jm_G) (post : Option jm_V → jm_G → Prop), nw_ok N → cN N σ → isR N i = true → post (some (jI (nI (nF N i)))) σ → C kX5_feedOf [jR 2 0, jI (nI i)] σ post
theorem T_feedOf (L : Nat) {C : jm_C} (hC : jm_mon C) : ct_feedOf (jm_up L C) := by
  intro N i σ post hok hN hi hp
  refine jm_start rfl (Nat.le_of_ble_eq_true rfl) hC fun X hg hw => ?_
  refine hg [] 20 _ ?_
  refine And.intro (in40 hok (isR_lt hi)) ?_
  refine And.intro trivial ?_
  show post (some (jI (σ.1 5 0 (nI i).toNatClampNeg))) σ
  rw [cl40 hok (isR_lt hi), hN.2.2.2.2.2.2.1 i hi]
  exact hp
/-- a source by its place, or none: -1 -/
def srcI (N : nw) (i k : Nat) : Int32 := if k < ar (nK N i) then nI (nR N i k) else -(nI 1)
abbrev ct_sourceOf (C : jm_C) : Prop := ∀ (N : nw) (i k : Nat) (σ : jm_G) (post : Option jm_V → jm_G → Prop), nw_ok N → cN N σ → isG N i = true → k < 3 → post (some (jI (srcI N i k))) σ → C kX5_sourceOf [jR 2 0, jI (nI i), jI (nI k)] σ post
theorem T_sourceOf (L : Nat) {C : jm_C} (hC : jm_mon C) : ct_sourceOf (jm_up L C) := by
  intro N i k σ post hok hN hi hk hp
  refine jm_start rfl (Nat.le_of_ble_eq_true rfl) hC fun X hg hw => ?_
  refine hg [] 30 _ ?_
  have hlt := isG_lt hi
  have hn := hok.1
  have h7 := (hok.2.2.1 i hi).1
  have hk3 := (hN.2.2.2.2.2.1 i hi).1
  have har := ar_pos (nK N i)
  refine And.intro (in40 hok hlt) ?_
  refine And.intro (show vp_in (σ.1 3 0 (nI i).toNatClampNeg) 7 by rw [cl40 hok hlt, hk3]; exact vp_in_nI h7 (by omega)) ?_
  have e1 : σ.1 100 0 (σ.1 3 0 (nI i).toNatClampNeg).toNatClampNeg = nI (ar (nK N i)) := by rw [cl40 hok hlt, hk3, nI_clamp (by omega), hN.2.2.2.2.2.2.2.2.2 _ h7]
  refine br_c (fun h => ?_) (fun h => ?_)
  · have h : σ.1 100 0 (σ.1 3 0 (nI i).toNatClampNeg).toNatClampNeg ≤ nI k := h
    rw [e1, nI_leI (by omega) (by omega)] at h
    refine And.intro trivial ?_
    unfold srcI at hp
    rw [if_neg (by omega)] at hp
    exact hp
  · have h : ¬ σ.1 100 0 (σ.1 3 0 (nI i).toNatClampNeg).toNatClampNeg ≤ nI k := h
    rw [e1, nI_leI (by omega) (by omega)] at h
    refine And.intro (show vp_in (nI i * nI 3 + nI k) 120 by rw [nI3]; exact vp_in_nI (by omega) (by omega)) ?_
    refine And.intro trivial ?_
    show post (some (jI (σ.1 4 0 (nI i * nI 3 + nI k).toNatClampNeg))) σ
    rw [nI3, nI_clamp (by omega), (hN.2.2.2.2.2.1 i hi).2 k hk, if_pos (by omega)]
    unfold srcI at hp
    rw [if_pos (by omega)] at hp
    exact hp
/-- what node(.., 2 to 4) tells -/
def sofI (N : nw) (i k : Nat) : Int32 := if isG N i then srcI N i k else if isR N i && k == 0 then nI (nF N i) else -(nI 1)
abbrev ct_sof (C : jm_C) : Prop := ∀ (N : nw) (i k : Nat) (σ : jm_G) (post : Option jm_V → jm_G → Prop), nw_ok N → cN N σ → i < nN N → k < 3 → post (some (jI (sofI N i k))) σ → C kX5_sourceOrFeed [jR 2 0, jI (nI i), jI (nI k)] σ post
theorem T_sof (L : Nat) {C : jm_C} (hC : jm_mon C) (h1 : ct_isSort kX5_isGate isG C) (h2 : ct_isSort kX5_isRegister isR C) (h3 : ct_sourceOf C) : ct_sof (jm_up L C) := by
  intro N i k σ post hok hN hi hk hp
  refine jm_start rfl (Nat.le_of_ble_eq_true rfl) hC fun X hg hw => ?_
  have hn := hok.1
  have hat : ∀ p : Nat → Bool, atN (nN N) (nI i) p = p i := fun p => by rw [atN_nI (by omega) (by omega)]; simp [hi]
  refine hg [] 30 _ ?_
  refine h1 N (nI i) σ _ hok hN ?_
  rw [hat]
  refine br_c (fun h => ?_) (fun h => ?_)
  · have hg0 := bI_0.mp h
    refine h2 N (nI i) σ _ hok hN ?_
    rw [hat]
    refine br_c (fun h4 => ?_) (fun h4 => ?_)
    · refine And.intro trivial ?_
      unfold sofI at hp
      simp only [hg0, bI_0.mp h4, Bool.false_and, Bool.false_eq_true, if_false] at hp
      exact hp
    · have hr0 := bI_n0.mp h4
      refine br_c (fun h5 => ?_) (fun h5 => ?_)
      · have h5 : nI k = nI 0 := h5
        rw [nI_eq (by omega) (by omega)] at h5
        refine And.intro (in40 hok hi) ?_
        refine And.intro trivial ?_
        show post (some (jI (σ.1 5 0 (nI i).toNatClampNeg))) σ
        rw [cl40 hok hi, hN.2.2.2.2.2.2.1 i hr0]
        unfold sofI at hp
        simp only [hg0, hr0, h5, Bool.false_eq_true, if_false] at hp
        exact hp
      · have h5 : ¬ nI k = nI 0 := h5
        rw [nI_eq (by omega) (by omega)] at h5
        refine And.intro trivial ?_
        unfold sofI at hp
        simp only [hg0, hr0, h5, Bool.false_eq_true, if_false, Bool.true_and, beq_iff_eq] at hp
        exact hp
  · have hg1 := bI_n0.mp h
    refine h3 N i k σ _ hok hN hg1 hk ?_
    refine And.intro trivial ?_
    unfold sofI at hp
    simp only [hg1, if_true] at hp
    exact hp
/-- feeds of the registers below a number -/
def fdM (N : nw) : Nat → Nat
  | 0 => 0
  | r + 1 => fdM N r ||| (if isR N r then 2 ^ nF N r else 0)
def rts (N : nw) : Nat := nO N ||| fdM N 40
theorem fdM_bit (N : nw) (j : Nat) : ∀ n, (fdM N n).testBit j = decide (∃ r, r < n ∧ isR N r = true ∧ nF N r = j)
  | 0 => by simp [fdM]
  | n + 1 => by
    rw [fdM, Nat.testBit_or, fdM_bit N j n]
    by_cases h : isR N n = true ∧ nF N n = j
    · have h2 : ∃ r, r < n + 1 ∧ isR N r = true ∧ nF N r = j := ⟨n, by omega, h⟩
      rw [if_pos h.1, Nat.testBit_two_pow]
      simp [h.2, h2]
    · have h2 : (∃ r, r < n + 1 ∧ isR N r = true ∧ nF N r = j) ↔ ∃ r, r < n ∧ isR N r = true ∧ nF N r = j :=
        ⟨fun ⟨k, a, b⟩ => ⟨k, by rcases Nat.lt_succ_iff_lt_or_eq.mp a with q | q; exact q; subst q; exact absurd b h, b⟩, fun ⟨k, a, b⟩ => ⟨k, by omega, b⟩⟩
      have h3 : (if isR N n then 2 ^ nF N n else 0).testBit j = false := by
        cases hr : isR N n with
        | false => simp
        | true => simp only [if_true, Nat.testBit_two_pow]; simp; intro e; exact h ⟨hr, e⟩
      rw [h3]
      simp [h2]
theorem rts_bit (N : nw) (h : nw_ok N) (j : Nat) : (rts N).testBit j = true ↔ ((nO N).testBit j = true ∨ ∃ r, isR N r = true ∧ nF N r = j) := by
  rw [rts, Nat.testBit_or, fdM_bit, Bool.or_eq_true, decide_eq_true_eq]
  exact or_congr Iff.rfl ⟨fun ⟨r, _, q⟩ => ⟨r, q⟩, fun ⟨r, q⟩ => ⟨r, by have := isR_lt q.1; have := h.1; omega, q⟩⟩
theorem rts_lt {N : nw} (h : nw_ok N) {j : Nat} (hb : (rts N).testBit j = true) : j < nN N := by
  rcases (rts_bit N h j).mp hb with hb | ⟨r, hr, rfl⟩
  · exact h.2.2.2.2.1 j hb
  · exact h.2.2.2.1 r hr
theorem rts_lt40 {N : nw} (h : nw_ok N) : rts N < 2 ^ 40 := set_lt fun j hj => by
  cases hb : (rts N).testBit j with
  | false => rfl
  | true => have := rts_lt h hb; have := h.1; omega
abbrev ct_roots (C : jm_C) : Prop := ∀ (N : nw) (σ : jm_G) (post : Option jm_V → jm_G → Prop), nw_ok N → cN N σ → post (some (jJ (lN (rts N)))) σ → C kX5_roots [jR 2 0] σ post
theorem nxt {S k : Nat} (h : S.testBit k = true) : lN (hi S k) &&& (lN (hi S k) - lN 1) = lN (hi S (k + 1)) := by
  rw [lN_sub (Nat.pos_of_ne_zero (hi_ne h)), fb_andL, hi_and h]
theorem hi_z {S k n : Nat} (h : S < 2 ^ 40) (hk : 40 ≤ k) : hi S k = 0 := hi_end (Nat.lt_of_lt_of_le h (Nat.pow_le_pow_right (by omega) hk))
theorem hi_n0 {S k : Nat} (hS : S < 2 ^ 40) (h : S.testBit k = true) : ¬ lg_cmp (lN (hi S k)) (lN 0) = 0 := fun e => hi_ne h ((lN_inj (by have := hi_le S k; omega) (by omega)).mp ((cmp_0 _ _).mp e))
theorem T_roots (L : Nat) {C : jm_C} (hC : jm_mon C) (h1 : ct_low C) (h2 : ct_bit C) : ct_roots (jm_up L C) := by
  intro N σ post hok hN hp
  refine jm_start rfl (Nat.le_of_ble_eq_true rfl) hC fun X hg hw => ?_
  refine hg [10] 30 _ ?_
  show X (σ, 10, [some (jR 2 0), some (jJ (σ.2 2 0 8)), none, some (jJ (σ.2 2 0 7)), none], [])
  rw [hN.2.2.2.2.1, hN.2.2.2.1]
  have hn := hok.1
  have hr := rM_lt hok
  have main := jm_bits (X := X) (rM N) (fun k => (σ, 10, [some (jR 2 0), some (jJ (lN (nO N ||| fdM N k))), none, some (jJ (lN (hi (rM N) k))), none], [])) 40 ?_ ?_ ?_ 0 (by omega)
  · have main : X (σ, 10, [some (jR 2 0), some (jJ (lN (nO N ||| 0))), none, some (jJ (lN (hi (rM N) 0))), none], []) := main
    rw [hi_0, Nat.or_zero] at main
    exact main
  · show X (σ, 10, [some (jR 2 0), some (jJ (lN (nO N ||| fdM N 40))), none, some (jJ (lN (hi (rM N) 40))), none], [])
    rw [hi_end hr]
    refine hg [] 30 _ ?_
    refine br_c (fun h => ?_) (fun h => ?_)
    · exact And.intro trivial hp
    · exact absurd ((cmp_0 _ _).mpr rfl) h
  · intro k hk hb
    rw [rM_bit] at hb
    have e : fdM N (k + 1) = fdM N k := by rw [fdM, hb]; simp
    have hb2 : (rM N).testBit k = false := by rw [rM_bit]; exact hb
    simp only [e, hi_skip hb2]
  · intro k hk hb ih
    have hr2 : isR N k = true := by rw [← rM_bit]; exact hb
    have hlt := isR_lt hr2
    refine hg [10] 30 _ ?_
    refine br_c (fun h => ?_) (fun h => ?_)
    · exact absurd h (hi_n0 hr hb)
    · refine h1 (rM N) k σ _ (p40 hr) hb ?_
      refine And.intro (in40 hok hlt) ?_
      have hf := hok.2.2.2.1 k hr2
      refine c_bit h2 (n := nF N k) (show σ.1 5 0 (nI k).toNatClampNeg = nI (nF N k) by rw [cl40 hok hlt]; exact hN.2.2.2.2.2.2.1 k hr2) (by omega) ?_
      refine jm_eqv (X := X) ih rfl rfl ?_ rfl
      show [some (jR 2 0), some (jJ (lN (nO N ||| fdM N k) ||| lN (2 ^ nF N k))), none, some (jJ (lN (hi (rM N) k) &&& (lN (hi (rM N) k) - lN 1))), none] = _
      rw [nxt hb, fb_orL, fdM, hr2, if_pos rfl, Nat.or_assoc]
/-- what one comes to from a set of nodes, those below a number looked at from above, without the nodes of a cut -/
def rdn (N : nw) (cut : Nat) : Nat → Nat → Nat
  | 0, R => R
  | k + 1, R => rdn N cut k (if R.testBit k then R ||| sD (sM N k) cut else R)
def rch (N : nw) (g cut : Nat) : Nat := rdn N cut (g + 1) (2 ^ g)
theorem sD_lt {a b n : Nat} (h : a < 2 ^ n) : sD a b < 2 ^ n := set_lt fun i hi => by
  rw [sD_bit]
  cases hb : a.testBit i with
  | false => rfl
  | true => have := bit_lt h hb; omega
theorem or_lt {a b n : Nat} (h1 : a < 2 ^ n) (h2 : b < 2 ^ n) : a ||| b < 2 ^ n := Nat.or_lt_two_pow h1 h2
theorem pw_lt {i n : Nat} (h : i < n) : 2 ^ i < 2 ^ n := Nat.pow_lt_pow_right (by omega) h
theorem rdn_lt {N : nw} (h : nw_ok N) (cut : Nat) : ∀ (k R : Nat), R < 2 ^ 40 → rdn N cut k R < 2 ^ 40
  | 0, R, hR => hR
  | k + 1, R, hR => by
    rw [rdn]
    apply rdn_lt h cut k
    split
    · exact or_lt hR (sD_lt (sM_lt40 h k))
    · exact hR
abbrev ct_reached (C : jm_C) : Prop := ∀ (N : nw) (g cut : Nat) (σ : jm_G) (post : Option jm_V → jm_G → Prop), nw_ok N → cN N σ → g < nN N → post (some (jJ (lN (rch N g cut)))) σ → C kX5_reached [jR 2 0, jI (nI g), jJ (lN cut)] σ post
theorem nI_m1 (k : Nat) : nI (k + 1) + -(nI 1) = nI k := pk_m1 k
theorem nI_0m1 : nI 0 + -(nI 1) = -(nI 1) := by decide
theorem m1_neg : -(nI 1) < 0 := by decide
theorem T_reached (L : Nat) {C : jm_C} (hC : jm_mon C) (h1 : ct_bit C) (h2 : ct_has C) : ct_reached (jm_up L C) := by
  intro N g cut σ post hok hN hgn hp
  refine jm_start rfl (Nat.le_of_ble_eq_true rfl) hC fun X hg hw => ?_
  have hn := hok.1
  refine hg [9] 30 _ ?_
  refine h1 g σ _ (by omega) ?_
  show X (σ, 9, [some (jR 2 0), some (jI (nI g)), some (jJ (lN cut)), none, some (jJ (lN (2 ^ g))), none, some (jI (nI g))], [])
  have gen : ∀ (k R : Nat) (x : Int32), k ≤ 40 → x = nI k + -(nI 1) → R < 2 ^ 40 → rdn N cut k R = rch N g cut → X (σ, 9, [some (jR 2 0), some (jI (nI g)), some (jJ (lN cut)), none, some (jJ (lN R)), none, some (jI x)], []) := by
    intro k
    induction k with
    | zero =>
      intro R x _ hx hR hrd
      rw [nI_0m1] at hx
      subst hx
      refine hg [9] 30 _ ?_
      refine br_c (fun h => ?_) (fun h => ?_)
      · refine And.intro trivial ?_
        have hrd : R = rch N g cut := hrd
        rw [← hrd] at hp
        exact hp
      · exact absurd m1_neg h
    | succ k ih =>
      intro R x hk hx hR hrd
      rw [nI_m1] at hx
      subst hx
      refine hg [9] 30 _ ?_
      refine br_c (fun h => ?_) (fun h => ?_)
      · exact absurd h (nI_pos (by omega))
      · refine h2 R k σ _ (p40 hR) (by omega) ?_
        rw [rdn] at hrd
        refine br_c (fun h3 => ?_) (fun h3 => ?_)
        · rw [bI_0.mp h3] at hrd
          exact ih R _ (by omega) rfl hR hrd
        · rw [bI_n0.mp h3] at hrd
          refine And.intro (vp_in_nI (by omega) (by omega)) ?_
          refine jm_eqv (X := X) (ih (R ||| sD (sM N k) cut) (nI k + -(nI 1)) (by omega) rfl (or_lt hR (sD_lt (sM_lt40 hok k))) hrd) rfl rfl ?_ rfl
          show [some (jR 2 0), some (jI (nI g)), some (jJ (lN cut)), none, some (jJ (lN R ||| (σ.2 6 0 (nI k).toNatClampNeg &&& (lN cut ^^^ (-1))))), none, some (jI (nI k + -(nI 1)))] = _
          rw [nI_clamp (by omega), hN.2.2.2.2.2.2.2.1 k (by omega), lN_andn, fb_orL]
  exact gen (g + 1) (2 ^ g) (nI g) (by omega) (nI_m1 g).symm (pw_lt (by omega)) rfl
/-- whether these nodes, as bits of any long, cut a gate off -/
def seps (N : nw) (g cut : Nat) : Bool := (sD cut (nB N g) == 0) && (sD (rch N g cut) (gM N) == 0)
abbrev ct_seps (C : jm_C) : Prop := ∀ (N : nw) (g cut : Nat) (σ : jm_G) (post : Option jm_V → jm_G → Prop), nw_ok N → cN N σ → g < nN N → cut < 2 ^ 64 → post (some (jI (bI (seps N g cut)))) σ → C kX5_separates [jR 2 0, jI (nI g), jJ (lN cut)] σ post
theorem rch_lt {N : nw} (h : nw_ok N) (g cut : Nat) (hg : g < nN N) : rch N g cut < 2 ^ 40 := rdn_lt h cut _ _ (pw_lt (by have := h.1; omega))
theorem T_seps (L : Nat) {C : jm_C} (hC : jm_mon C) (h1 : ct_reached C) : ct_seps (jm_up L C) := by
  intro N g cut σ post hok hN hgn hc hp
  refine jm_start rfl (Nat.le_of_ble_eq_true rfl) hC fun X hg hw => ?_
  have hn := hok.1
  refine hg [] 40 _ ?_
  refine And.intro (in40 hok hgn) ?_
  have e1 : lN cut &&& (σ.2 7 0 (nI g).toNatClampNeg ^^^ (-1)) = lN (sD cut (nB N g)) := by rw [cl40 hok hgn, hN.2.2.2.2.2.2.2.2.1 g (by omega), lN_andn]
  have l1 : sD cut (nB N g) < 2 ^ 64 := sD_lt hc
  refine br_c (fun h => ?_) (fun h => ?_)
  · have h : lg_cmp (lN cut &&& (σ.2 7 0 (nI g).toNatClampNeg ^^^ (-1))) (lN 0) = 0 := h
    rw [e1, cmp_0, lN_inj l1 (by omega)] at h
    refine h1 N g cut σ _ hok hN hgn ?_
    have e2 : lN (rch N g cut) &&& (σ.2 2 0 6 ^^^ (-1)) = lN (sD (rch N g cut) (gM N)) := by rw [hN.2.2.1, lN_andn]
    have l2 : sD (rch N g cut) (gM N) < 2 ^ 64 := sD_lt (Nat.lt_trans (rch_lt hok g cut hgn) (by omega))
    refine br_c (fun h3 => ?_) (fun h3 => ?_)
    · have h3 : lg_cmp (lN (rch N g cut) &&& (σ.2 2 0 6 ^^^ (-1))) (lN 0) = 0 := h3
      rw [e2, cmp_0, lN_inj l2 (by omega)] at h3
      refine And.intro (Or.inr rfl) ?_
      rw [show seps N g cut = true by simp [seps, h, h3]] at hp
      exact hp
    · have h3 : ¬ lg_cmp (lN (rch N g cut) &&& (σ.2 2 0 6 ^^^ (-1))) (lN 0) = 0 := h3
      rw [e2, cmp_0, lN_inj l2 (by omega)] at h3
      refine And.intro (Or.inl rfl) ?_
      rw [show seps N g cut = false by simp [seps, h3]] at hp
      exact hp
  · have h : ¬ lg_cmp (lN cut &&& (σ.2 7 0 (nI g).toNatClampNeg ^^^ (-1))) (lN 0) = 0 := h
    rw [e1, cmp_0, lN_inj l1 (by omega)] at h
    refine And.intro (Or.inl rfl) ?_
    rw [show seps N g cut = false by simp [seps, h]] at hp
    exact hp
