/-! the component's Cuts: learn, keptCut, cutsOfK -/
def cA (N : nw) (i K n : Nat) (σ : jm_G) : Prop :=
  σ.1 17 i 3 = nI K ∧ (∀ j, j < n → σ.1 18 i j = nI (lev N K j) ∧ σ.2 19 i j = lN (nea N K j)) ∧ (∀ j, n ≤ j → j < 40 → σ.1 18 i j = nI 0 ∧ σ.2 19 i j = lN 0 ∧ σ.1 21 i j = nI 0) ∧ kR σ i n (kp N K) ∧ nOK N K n
/-- what a search for the nearest cut answers, for the gates at one level or above -/
theorem learn_lev {N : nw} {K g m : Nat} (hok : nw_ok N) (hK : 3 ≤ K) (hg : isG N g = true) (hm : m = mxL (lev N K) (sM N g) 40) : (∀ j, (nB N g).testBit j = true → lev N K j ≤ m) ∧ m ≤ lev N K g ∧ lev N K g ≤ m + 1 := by
  have hs : ∀ s, (sM N g).testBit s = true → lev N K s ≤ m := fun s q => by
    rw [hm]; exact mxL_ge q 40 (bit_lt (sM_lt40 hok g) q)
  refine ⟨fun j hj => lev_below hok hK hs hj, ?_, lev_le hok hK hg (cutt_src hok hK hg fun j hj => by have := hs j hj; omega)⟩
  rw [hm]
  exact mxL_le (fun s q => lev_src hok hK q) 40
theorem Cm_top {N : nw} {K g m : Nat} (hok : nw_ok N) (h : ∀ j, (nB N g).testBit j = true → lev N K j ≤ m) : Cm N (lev N K) g (m + 1) = 2 ^ g := set_eq fun j => by
  rw [Nat.testBit_two_pow]
  apply Bool.eq_iff_iff.mpr
  rw [Cm_bit hok, decide_eq_true_eq]
  constructor
  · rintro (e | ⟨h1, h2⟩)
    · exact e.symm
    · have := h j h1; omega
  · exact fun e => Or.inl e.symm
theorem Cm_at {N : nw} {K g m : Nat} (hok : nw_ok N) (h : ∀ j, (nB N g).testBit j = true → lev N K j ≤ m) : 2 ^ g ||| mk (fun j => (nB N g).testBit j && decide (lev N K j = m)) 40 = Cm N (lev N K) g m := set_eq fun j => by
  apply Bool.eq_iff_iff.mpr
  rw [Cm_bit hok, Nat.testBit_or, Nat.testBit_two_pow, mk_bit, Bool.or_eq_true, decide_eq_true_eq, Bool.and_eq_true, Bool.and_eq_true, decide_eq_true_eq, decide_eq_true_eq]
  constructor
  · rintro (e | ⟨-, h1, h2⟩)
    · exact Or.inl e.symm
    · exact Or.inr ⟨h1, by omega⟩
  · rintro (e | ⟨h1, h2⟩)
    · exact Or.inl e.symm
    · exact Or.inr ⟨bit_lt (nB_lt40 hok g) h1, h1, Nat.le_antisymm (h j h1) h2⟩
theorem c_nearest {C : jm_C} (h : ct_nearest C) {N : nw} {g Cs k : Nat} {v : Int64} {x : Int32} {σ : jm_G} {post : Option jm_V → jm_G → Prop} (hv : v = lN Cs) (hx : x = nI k) (hok : nw_ok N) (hN : cN N σ) (hC : C_ok N g Cs) (hl : Cs < 2 ^ 40) (hk : k < 100)
  (hp1 : ∀ σ' U, off 10 13 σ σ' → nearC N g Cs U → cnt U 40 ≤ k → U < 2 ^ 40 → post (some (jJ (lN U))) σ')
  (hp2 : (∀ T, Sep N g T → (∀ j, T.testBit j = true → Cs.testBit j = false) → k < cnt T 40) → ∀ σ', off 10 13 σ σ' → post (some (jJ (lN 0))) σ') : C kX8_nearestCut [jR 10 0, jJ v, jI x] σ post := by
  subst hv; subst hx; exact h N g Cs k σ post hok hN hC hl hk hp1 hp2
def lT0 (i K g : Nat) (σ τ : jm_G) : Prop := offC i σ τ ∧ τ.1 17 i 3 = nI K ∧ τ.1 17 i 8 = nI (g + 1) ∧ (∀ j, j ≠ g → τ.1 18 i j = σ.1 18 i j) ∧ (∀ j, j ≠ g → τ.2 19 i j = σ.2 19 i j) ∧ τ.1 21 i = σ.1 21 i ∧ τ.2 20 i = σ.2 20 i
theorem lT0_off {i K g : Nat} {σ τ υ : jm_G} (h : lT0 i K g σ τ) (ho : off 10 13 τ υ) : lT0 i K g σ υ := by
  obtain ⟨h1, h2, h3, h4, h5, h6, h7⟩ := h
  have e17 := (ho 17 i (by omega)).1
  have e18 := (ho 18 i (by omega)).1
  have e19 := (ho 19 i (by omega)).2
  refine ⟨offC_trans h1 (offC_off ho (by omega) (by omega)), by rw [e17]; exact h2, by rw [e17]; exact h3, by rw [e18]; exact h4, by rw [e19]; exact h5, by rw [(ho 21 i (by omega)).1]; exact h6, by rw [(ho 20 i (by omega)).2]; exact h7⟩
theorem lT0_wI {i K g : Nat} {σ τ : jm_G} (x : Int32) (h : lT0 i K g σ τ) : lT0 i K g σ (wI τ 18 i (upd (τ.1 18 i) g x)) := by
  obtain ⟨h1, h2, h3, h4, h5, h6, h7⟩ := h
  refine ⟨offC_wI h1 (by omega) (by omega), ?_, ?_, fun j hj => ?_, h5, ?_, h7⟩
  · rw [wI1, if_neg (by omega)]; exact h2
  · rw [wI1, if_neg (by omega)]; exact h3
  · rw [wI1, if_pos ⟨rfl, rfl⟩, upd_at, if_neg hj]; exact h4 j hj
  · rw [wI1, if_neg (by omega)]; exact h6
theorem lT0_wJ {i K g : Nat} {σ τ : jm_G} (x : Int64) (h : lT0 i K g σ τ) : lT0 i K g σ (wJ τ 19 i (vp_updL (τ.2 19 i) g x)) := by
  obtain ⟨h1, h2, h3, h4, h5, h6, h7⟩ := h
  refine ⟨offC_wJ h1 (by omega) (by omega), h2, h3, h4, fun j hj => ?_, h6, ?_⟩
  · rw [wJ2, if_pos ⟨rfl, rfl⟩, updL_at, if_neg hj]; exact h5 j hj
  · rw [wJ2, if_neg (by omega)]; exact h7
theorem lT_fin {N : nw} {i K g : Nat} {σ τ υ : jm_G} (hA : cA N i K g σ) (h : lT0 i K g σ τ) (h18 : τ.1 18 i g = nI (lev N K g)) (h19 : τ.2 19 i g = lN (nea N K g)) (hn : nOK N K (g + 1)) (hk8 : (kp N K g).1 ≤ 8) (hf : tkF i g τ υ) (h21 : υ.1 21 i g = nI (kp N K g).1) (h20 : ∀ c, c < (kp N K g).1 → υ.2 20 i (g * 8 + c) = lN ((kp N K g).2 c)) : offC i σ υ ∧ cA N i K (g + 1) υ ∧ υ.1 17 i 8 = nI (g + 1) := by
  obtain ⟨a1, a2, a3, a4, a5⟩ := hA
  obtain ⟨t1, t2, t3, t4, t5, t6, t7⟩ := h
  obtain ⟨f1, f2, f3, f4, f5, f6⟩ := hf
  refine ⟨offC_trans t1 f1, ⟨by rw [f2]; exact t2, fun j hj => ?_, fun j h1 h2 => ?_, fun s hs => ?_, hn⟩, by rw [f2]; exact t3⟩
  · rw [f3, f4]
    by_cases e : j = g
    · subst e; exact ⟨h18, h19⟩
    · rw [t4 j e, t5 j e]; exact a2 j (by omega)
  · rw [f3, f4, t4 j (by omega), t5 j (by omega), f5 j (by omega), t6]
    exact a3 j (by omega) h2
  · by_cases e : s = g
    · subst e; exact ⟨hk8, h21, h20⟩
    · obtain ⟨k1, k2, k3⟩ := a4 s (by omega)
      refine ⟨k1, ?_, fun c hc => ?_⟩
      · rw [f5 s e, t6]; exact k2
      · rw [f6 _ (by omega), t7]; exact k3 c hc
abbrev ct_learn (C : jm_C) : Prop := ∀ (N : nw) (i K g : Nat) (σ : jm_G) (post : Option jm_V → jm_G → Prop), nw_ok N → cN N σ → 3 ≤ K → K ≤ 6 → g < nN N → cA N i K g σ → (∀ σ', offC i σ σ' → cA N i K (g + 1) σ' → σ'.1 17 i 8 = nI (g + 1) → post none σ') → C kX4_learn [jR 17 i, jI (nI g)] σ post
theorem T_learn (L : Nat) {C : jm_C} (hC : jm_mon C) (h1 : ct_has C) (h2 : ct_greatest C) (h3 : ct_bit C) (h4 : ct_belowAt C) (h5 : ct_nearest C) (h6 : ct_learnKept C) : ct_learn (jm_up L C) := by
  intro N i K g σ post hok hN hK hK6 hgn hA hp
  refine jm_start rfl (Nat.le_of_ble_eq_true rfl) hC fun X hg hw => ?_
  have h40 := hok.1
  have eg : (nI g).toNatClampNeg = g := nI_clamp (by omega)
  obtain ⟨a1, a2, a3, a4, a5⟩ := id hA
  refine hg [7] 20 _ ?_
  show X (wI σ 17 i (upd (σ.1 17 i) 8 (nI g + nI 1)), 7, [some (jR 17 i), some (jI (nI g)), none, none, none], [])
  have lt0 : lT0 i K g σ (wI σ 17 i (upd (σ.1 17 i) 8 (nI g + nI 1))) := by
    refine ⟨offC_wI (offC_refl _ _) (by omega) (by omega), ?_, ?_, fun j _ => ?_, fun _ _ => rfl, ?_, rfl⟩
    · rw [wI1, if_pos ⟨rfl, rfl⟩, upd_at, if_neg (by omega)]; exact a1
    · rw [wI1, if_pos ⟨rfl, rfl⟩, upd_at, if_pos rfl, nI_add]
    · rw [wI1, if_neg (by omega)]
    · rw [wI1, if_neg (by omega)]
  have b18 : (wI σ 17 i (upd (σ.1 17 i) 8 (nI g + nI 1))).1 18 i = σ.1 18 i := by rw [wI1, if_neg (by omega)]
  have b19 : (wI σ 17 i (upd (σ.1 17 i) 8 (nI g + nI 1))).2 19 i = σ.2 19 i := rfl
  generalize (wI σ 17 i (upd (σ.1 17 i) 8 (nI g + nI 1))) = τ at lt0 b18 b19 ⊢
  have eN : ∀ υ, lT0 i K g σ υ → cN N υ := fun υ h => cN_off hN h.1.1 (by omega) (by omega)
  have hNt := eN τ lt0
  refine hg [] 120 _ ?_
  refine c_has h1 hNt.2.2.1 rfl (p40 (gM_lt hok)) (by omega) ?_
  rw [gM_bit]
  refine br_c (fun h => ?_) (fun h => ?_)
  · -- not a gate
    have h := bI_0.mp h
    refine And.intro trivial ?_
    obtain ⟨t1, t2, t3, t4, t5, t6, t7⟩ := lt0
    obtain ⟨z1, z2, z3⟩ := a3 g (Nat.le_refl _) (by omega)
    refine hp τ t1 ⟨t2, fun j hj => ?_, fun j q1 q2 => ?_, fun s hs => ?_, fun s hs hsg => ?_⟩ t3
    · rw [b18, b19]
      by_cases e : j = g
      · rw [e, lev_leaf h, nea_leaf h]; exact ⟨z1, z2⟩
      · exact a2 j (by omega)
    · rw [b18, b19, t6]; exact a3 j (by omega) q2
    · rw [t6, t7]
      by_cases e : s = g
      · rw [e, kp_leaf h]; exact ⟨Nat.zero_le _, z3, fun c hc => absurd hc (Nat.not_lt_zero _)⟩
      · exact a4 s (by omega)
    · by_cases e : s = g
      · rw [e, h] at hsg; cases hsg
      · exact a5 s (by omega) hsg
  · have hgt := bI_n0.mp h
    have hb40 : ∀ j, lev N K j < 100 ∨ 40 ≤ j := fun j => by have := lev_bound hok hK (N := N) (K := K) j; omega
    have hlv : ∀ j, j < g → σ.1 18 i j = nI (lev N K j) ∧ lev N K j < 100 := fun j hj => ⟨(a2 j hj).1, by have := hb40 j; omega⟩
    obtain ⟨m, hm⟩ : ∃ m, m = mxL (lev N K) (sM N g) 40 := ⟨_, rfl⟩
    obtain ⟨l1, l2, l3⟩ := learn_lev hok hK hgt hm
    have hlg := lev_bound hok hK (N := N) (K := K) g
    have h2g : 2 ^ g < 2 ^ 40 := pw_lt (by omega)
    -- the end of it
    have fin : ∀ (υ σ' : jm_G), lT0 i K g σ υ → υ.1 18 i g = nI (lev N K g) → υ.2 19 i g = lN (nea N K g) → nOK N K (g + 1) → tkF i g υ σ' → σ'.1 21 i g = nI (kp N K g).1 → (∀ c, c < (kp N K g).1 → σ'.2 20 i (g * 8 + c) = lN ((kp N K g).2 c)) → post none σ' := by
      intro υ σ' q1 q2 q3 q4 q5 q6 q7
      obtain ⟨r1, r2, r3⟩ := lT_fin hA q1 q2 q3 q4 (kp_le hok) q5 q6 q7
      exact hp σ' r1 r2 r3
    have lk : ∀ (υ : jm_G) (post' : Option jm_V → jm_G → Prop), lT0 i K g σ υ → υ.1 18 i g = nI (lev N K g) → υ.2 19 i g = lN (nea N K g) → nOK N K (g + 1) → (∀ σ', post none σ' → post' none σ') → C kX4_learnKept [jR 17 i, jI (nI g)] υ post' := by
      intro υ post' q1 q2 q3 q4 q5
      refine h6 N i K g υ post' hok (eN υ q1) hgt hK6 q1.2.1 (fun j hj => ?_) q3 q4 (kR_off a4 q1.2.2.2.2.2.1 q1.2.2.2.2.2.2) fun σ' r1 r2 r3 => q5 σ' (fin υ σ' q1 q2 q3 q4 r1 r2 r3)
      rw [q1.2.2.2.1 j (by omega)]; exact hlv j hj
    have nO : ∀ U, nearC N g (Cm N (lev N K) g (lev N K g)) U → cnt U 40 ≤ K → nOK N K (g + 1) := by
      intro U q1 q2 s hs hsg
      by_cases e : s = g
      · rw [e, nea_eq hok hgt q1]; exact ⟨q1, q2⟩
      · exact a5 s (by omega) hsg
    -- one level more than the sources
    have up : lev N K g = m + 1 → ∀ (υ : jm_G) (post' : Option jm_V → jm_G → Prop), lT0 i K g σ υ → υ.1 18 i g = nI (m + 1) → (∀ σ', post none σ' → post' none σ') → ∀ (x : Int32), x = nI K →
        C kX8_nearestCut [jR 10 0, jJ (lN (2 ^ g)), jI x] υ (fun r υ' => ∃ U, r = some (jJ (lN U)) ∧ C kX4_learnKept [jR 17 i, jI (nI g)] (wJ υ' 19 i (vp_updL (υ'.2 19 i) g (lN U))) post') := by
      intro hlm υ post' q1 q2 q3 x hx
      have hCm := Cm_top (K := K) hok l1
      have hCok := Cm_ok (m := m + 1) hok hK hgt (by omega)
      rw [hCm] at hCok
      refine c_nearest h5 rfl hx hok (eN υ q1) hCok h2g (by omega) (fun υ' U o1 hU hc hU4 => ⟨U, rfl, ?_⟩) (fun hno => ?_)
      · rw [← hCm, ← hlm] at hU
        refine lk _ post' (lT0_wJ _ (lT0_off q1 o1)) ?_ ?_ (nO U hU hc) q3
        · rw [wJ1, (o1 18 i (by omega)).1, hlm]; exact q2
        · rw [wJ2, if_pos ⟨rfl, rfl⟩, updL_at, if_pos rfl, nea_eq hok hgt hU]
      · exfalso
        have h9 := hno (sM N g) (Sep_src hok hgt) (fun j hj => by
          rw [← hCm]
          refine (Cm_dis hok (Sep_src hok hgt)).mpr (fun j hj => ?_) j hj
          have := l1 j (nB_src hok hj)
          omega)
        have := sM_cnt hok g
        omega
    refine And.intro (vp_in_nI (by omega) (by omega)) ?_
    have esrc : τ.2 6 0 (nI g).toNatClampNeg = lN (sM N g) := by rw [eg]; exact hNt.2.2.2.2.2.2.2.1 g (by omega)
    have callg : ∀ {post' : Option jm_V → jm_G → Prop}, (∀ v υ, post' v υ → post' v υ) → C kX4_greatestLevel [jR 17 i, jJ (lN (sM N g))] τ post' → C kX4_greatestLevel [jR 17 i, jJ (τ.2 6 0 (nI g).toNatClampNeg)] τ post' := fun _ h => by rw [esrc]; exact h
    refine callg (fun _ _ h => h) ?_
    refine h2 i (sM N g) (lev N K) τ _ (sM_lt40 hok g) (fun j hj => by rw [b18]; exact hlv j (sM_lt hok hj)) ?_
    rw [← hm]
    refine br_c (fun h => ?_) (fun h => ?_)
    · have h : nI m = nI 0 := h
      rw [nI_eq (by omega) (by omega)] at h
      have hlm : lev N K g = m + 1 := by have := lev_pos hok hK hgt; omega
      refine br_c (fun _ => ?_) (fun h => absurd ((cmp_0 _ _).mpr rfl) h)
      refine And.intro (vp_in_nI (by omega) (by omega)) ?_
      refine h3 g _ _ (by omega) ?_
      refine hC _ _ _ _ _ ?_ (up hlm (wI τ 18 i (upd (τ.1 18 i) (nI g).toNatClampNeg (nI m + nI 1))) (fun r s => r = none ∧ post none s) ?_ ?_ ?_ _ ?_)
      · rintro r υ' ⟨U, rfl, hU⟩
        refine And.intro (vp_in_nI (by omega) (by omega)) ?_
        refine hC _ _ _ _ _ ?_ (show C kX4_learnKept [jR 17 i, jI (nI g)] (wJ υ' 19 i (vp_updL (υ'.2 19 i) (nI g).toNatClampNeg (lN U))) (fun r s => r = none ∧ post none s) by rw [eg]; exact hU)
        rintro r s ⟨rfl, q⟩
        exact And.intro trivial q
      · rw [eg]; exact lT0_wI _ lt0
      · rw [wI1, if_pos ⟨rfl, rfl⟩, eg, upd_at, if_pos rfl, nI_add]
      · exact fun σ' q => ⟨rfl, q⟩
      · show (wI τ 18 i (upd (τ.1 18 i) (nI g).toNatClampNeg (nI m + nI 1))).1 17 i 3 = _
        rw [wI1, if_neg (by omega)]; exact lt0.2.1
    · have h : ¬ nI m = nI 0 := h
      rw [nI_eq (by omega) (by omega)] at h
      refine h3 g _ _ (by omega) ?_
      refine h4 N i g m (lev N K) τ _ hok hNt hgn (by omega) (fun j hj => by rw [b18]; exact hlv j (nB_lt hok _ _ hj)) ?_
      have hCs := Cm_at (K := K) hok l1
      refine c_nearest h5 (Cs := Cm N (lev N K) g m) (by rw [← hCs]; exact fb_orL _ _) (show τ.1 17 i 3 = nI K from lt0.2.1) hok hNt (Cm_ok hok hK hgt (by omega)) (Cm_lt (by omega)) (by omega) (fun υ U o1 hU hc hU4 => ?_) (fun hno υ o1 => ?_)
      · have hlm : lev N K g = m := lev_eq hok hgt ((near_cutt hok hU).mpr hc) fun j hj q => by
          have := lev_le hok hK hgt q
          omega
        refine br_c (fun h9 => ?_) (fun _ => ?_)
        · have h9 : lg_cmp (lN U) (lN 0) = 0 := h9
          rw [cmp_0, lN_inj (Nat.lt_trans hU4 (by omega)) (by omega)] at h9
          obtain ⟨j, hj⟩ := Sep_ne hok hgt hU.1
          rw [h9, Nat.zero_testBit] at hj
          cases hj
        · refine And.intro (vp_in_nI (by omega) (by omega)) ?_
          refine And.intro (vp_in_nI (by omega) (by omega)) ?_
          have hU' : nearC N g (Cm N (lev N K) g (lev N K g)) U := by rw [hlm]; exact hU
          refine lk (wJ (wI υ 18 i (upd (υ.1 18 i) (nI g).toNatClampNeg (nI m))) 19 i (vp_updL ((wI υ 18 i (upd (υ.1 18 i) (nI g).toNatClampNeg (nI m))).2 19 i) (nI g).toNatClampNeg (lN U))) _ ?_ ?_ ?_ (nO U hU' hc) (fun σ' q => And.intro trivial q)
          · rw [eg]; exact lT0_wJ _ (lT0_wI _ (lT0_off lt0 o1))
          · rw [wJ1, wI1, if_pos ⟨rfl, rfl⟩, eg, upd_at, if_pos rfl, hlm]
          · rw [wJ2, if_pos ⟨rfl, rfl⟩, eg, updL_at, if_pos rfl, nea_eq hok hgt hU']
      · have hlm : lev N K g = m + 1 := by
          refine lev_eq hok hgt (cutt_src hok hK hgt fun j hj => by have := l1 j (nB_src hok hj); omega) fun j hj q => ?_
          obtain ⟨T, t1, t2, t3⟩ := cutt_mono q (show j ≤ m by omega)
          have := hno T t1 ((Cm_dis hok t1).mpr t3)
          omega
        refine br_c (fun _ => ?_) (fun h => absurd ((cmp_0 _ _).mpr rfl) h)
        refine And.intro (vp_in_nI (by omega) (by omega)) ?_
        refine h3 g _ _ (by omega) ?_
        refine hC _ _ _ _ _ ?_ (up hlm (wI υ 18 i (upd (υ.1 18 i) (nI g).toNatClampNeg (nI m + nI 1))) (fun r s => r = none ∧ post none s) ?_ ?_ ?_ _ ?_)
        · rintro r υ' ⟨U, rfl, hU⟩
          refine And.intro (vp_in_nI (by omega) (by omega)) ?_
          refine hC _ _ _ _ _ ?_ (show C kX4_learnKept [jR 17 i, jI (nI g)] (wJ υ' 19 i (vp_updL (υ'.2 19 i) (nI g).toNatClampNeg (lN U))) (fun r s => r = none ∧ post none s) by rw [eg]; exact hU)
          rintro r s ⟨rfl, q⟩
          exact And.intro trivial q
        · rw [eg]; exact lT0_wI _ (lT0_off lt0 o1)
        · rw [wI1, if_pos ⟨rfl, rfl⟩, eg, upd_at, if_pos rfl, nI_add]
        · exact fun σ' q => ⟨rfl, q⟩
        · show (wI υ 18 i (upd (υ.1 18 i) (nI g).toNatClampNeg (nI m + nI 1))).1 17 i 3 = _
          rw [wI1, if_neg (by omega)]; exact (lT0_off lt0 o1).2.1
