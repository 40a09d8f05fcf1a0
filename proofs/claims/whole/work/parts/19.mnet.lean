/-! THE MODEL's network: its least methods -/
def mN (N : nw) (σ : jm_G) : Prop := σ.1 38 0 1 = nI (nN N) ∧ (∀ i, i < nN N → σ.1 39 0 i = nI (nS N i)) ∧ (∀ i, i < nN N → σ.1 40 0 i = if isG N i then nI (nK N i) else -(nI 1)) ∧
  (∀ i, i < nN N → ∀ k, k < 3 → σ.1 41 0 (3 * i + k) = sofI N i k) ∧ (∀ i, i < nN N → σ.2 42 0 i = lN (nB N i)) ∧ σ.2 38 0 6 = lN (nO N)
theorem n3I {i k : Nat} : nI 3 * nI i + nI k = nI (3 * i + k) := by rw [pk_mul, nI_add]
theorem n3 {i : Nat} : nI 3 * nI i = nI (3 * i) := pk_mul 3 i
abbrev ct_within (C : jm_C) : Prop := ∀ (x a b : Int32) (σ : jm_G) (post : Option jm_V → jm_G → Prop), post (some (jI (bI (decide (¬ x < a) && decide (¬ b < x))))) σ → C kX10_within [jI x, jI a, jI b] σ post
theorem T_within (L : Nat) {C : jm_C} (hC : jm_mon C) : ct_within (jm_up L C) := by
  intro x a b σ post hp
  refine jm_start rfl (Nat.le_of_ble_eq_true rfl) hC fun X hg hw => ?_
  refine hg [] 20 _ ?_
  refine br_c (fun h => ?_) (fun h => ?_)
  · refine And.intro (Or.inl rfl) ?_
    simp only [h, not_true, decide_false, Bool.false_and] at hp
    exact hp
  · refine br_c (fun h2 => ?_) (fun h2 => ?_)
    · refine And.intro (Or.inl rfl) ?_
      simp only [h2, not_true, decide_false, Bool.and_false] at hp
      exact hp
    · refine And.intro (Or.inr rfl) ?_
      simp only [h, h2, not_false_eq_true, decide_true, Bool.and_true] at hp
      exact hp
/-- within two numbers -/
theorem wi_nI {x : Int32} {a b : Nat} (hb : b < 2 ^ 31) (hab : a ≤ b) (h : (decide (¬ x < nI a) && decide (¬ nI b < x)) = true) : ∃ j, a ≤ j ∧ j ≤ b ∧ x = nI j := by
  simp only [Bool.and_eq_true, decide_eq_true_eq] at h
  have h0 : ¬ x < 0 := by
    intro h1
    apply h.1
    rw [Int32.lt_iff_toInt_lt] at h1 ⊢
    rw [nI_toInt (by omega)]
    have : (0 : Int32).toInt = 0 := by decide
    omega
  obtain ⟨j, hj, rfl⟩ := nI_of h0
  rw [nI_ltI (by omega) (by omega), nI_ltI (by omega) (by omega)] at h
  exact ⟨j, by omega, by omega, rfl⟩
theorem wi_in {j a b : Nat} (hb : b < 2 ^ 31) (h1 : a ≤ j) (h2 : j ≤ b) : (decide (¬ nI j < nI a) && decide (¬ nI b < nI j)) = true := by
  simp only [Bool.and_eq_true, decide_eq_true_eq]
  exact ⟨nI_nlt h1 (by omega), nI_nlt h2 (by omega)⟩
abbrev ct_mlow (C : jm_C) : Prop := ∀ (S k : Nat) (σ : jm_G) (post : Option jm_V → jm_G → Prop), S < 2 ^ 63 → S.testBit k = true → (∀ j, j < k → S.testBit j = false) → post (some (jI (nI k))) σ → C kX10_lowest [jJ (lN S)] σ post
theorem T_mlow (L : Nat) {C : jm_C} (hC : jm_mon C) (h1 : ct_mhas C) : ct_mlow (jm_up L C) := by
  intro S k σ post hS hb hl hp
  refine jm_start rfl (Nat.le_of_ble_eq_true rfl) hC fun X hg hw => ?_
  have hk : k < 63 := bit_lt hS hb
  refine hg [2] 20 _ ?_
  refine jm_for (X := X) (fun j => (σ, 2, [some (jJ (lN S)), none, some (jI (nI j))], [])) k ?_ ?_ 0 (by omega)
  · refine hg [2] 20 _ ?_
    refine h1 S k σ _ hS (by omega) ?_
    rw [hb]
    refine br_c (fun h => ?_) (fun h => ?_)
    · exact absurd h (by decide)
    · exact And.intro trivial hp
  · intro j hj ih
    refine hg [2] 20 _ ?_
    refine h1 S j σ _ hS (by omega) ?_
    rw [hl j hj]
    refine br_c (fun h => ?_) (fun h => ?_)
    · refine jm_eqv (X := X) ih rfl rfl ?_ rfl
      show [some (jJ (lN S)), none, some (jI (nI j + nI 1))] = _
      rw [nI_add]
    · exact absurd rfl h
abbrev ct_msrcOf (C : jm_C) : Prop := ∀ (k : Nat) (σ : jm_G) (post : Option jm_V → jm_G → Prop), k < 7 → post (some (jI (nI (ar k)))) σ → C kX10_sourcesOf [jI (nI k)] σ post
theorem T_msrcOf (L : Nat) {C : jm_C} (hC : jm_mon C) : ct_msrcOf (jm_up L C) := by
  intro k σ post hk hp
  refine jm_start rfl (Nat.le_of_ble_eq_true rfl) hC fun X hg hw => ?_
  refine hg [] 20 _ ?_
  refine br_c (fun h => ?_) (fun h => ?_)
  · have h : nI k = nI 0 := h
    rw [nI_eq (by omega) (by omega)] at h
    subst h
    exact And.intro trivial hp
  · have h : ¬ nI k = nI 0 := h
    rw [nI_eq (by omega) (by omega)] at h
    refine br_c (fun h2 => ?_) (fun h2 => ?_)
    · have h2 : nI 5 ≤ nI k := h2
      rw [nI_leI (by omega) (by omega)] at h2
      refine And.intro trivial ?_
      rw [show ar k = 3 by unfold ar; rw [if_neg h, if_neg (by omega)]] at hp
      exact hp
    · have h2 : ¬ nI 5 ≤ nI k := h2
      rw [nI_leI (by omega) (by omega)] at h2
      refine And.intro trivial ?_
      rw [show ar k = 2 by unfold ar; rw [if_neg h, if_pos (by omega)]] at hp
      exact hp
abbrev ct_misNode (C : jm_C) : Prop := ∀ (n : Nat) (x : Int32) (σ : jm_G) (post : Option jm_V → jm_G → Prop), σ.1 38 0 1 = nI n → post (some (jI (bI (inN n x)))) σ → C kX10_isNode [jR 38 0, jI x] σ post
theorem T_misNode (L : Nat) {C : jm_C} (hC : jm_mon C) : ct_misNode (jm_up L C) := by
  intro n x σ post hN hp
  refine jm_start rfl (Nat.le_of_ble_eq_true rfl) hC fun X hg hw => ?_
  refine hg [] 20 _ ?_
  refine br_c (fun h => ?_) (fun h => ?_)
  · refine And.intro (Or.inl rfl) ?_
    have e : inN n x = false := by simp only [inN, h]; simp
    rw [e] at hp
    exact hp
  · refine br_c (fun h2 => ?_) (fun h2 => ?_)
    · have h2 : σ.1 38 0 1 ≤ x := h2
      rw [hN] at h2
      refine And.intro (Or.inl rfl) ?_
      have e : inN n x = false := by simp only [inN, h2]; simp
      rw [e] at hp
      exact hp
    · have h2 : ¬ σ.1 38 0 1 ≤ x := h2
      rw [hN] at h2
      refine And.intro (Or.inr rfl) ?_
      have e : inN n x = true := by simp only [inN, h, h2]; simp
      rw [e] at hp
      exact hp
theorem nS_eq {N : nw} (h : nw_ok N) {i v : Nat} (hi : i < nN N) (hv : v < 2 ^ 31) : (nI (nS N i) = nI v) ↔ nS N i = v := nI_eq (by have := h.2.1 i hi; omega) hv
abbrev ct_misGate (C : jm_C) : Prop := ∀ (N : nw) (x : Int32) (σ : jm_G) (post : Option jm_V → jm_G → Prop), nw_ok N → mN N σ → post (some (jI (bI (atN (nN N) x (isG N))))) σ → C kX10_isGate [jR 38 0, jI x] σ post
theorem T_misGate (L : Nat) {C : jm_C} (hC : jm_mon C) (h1 : ct_misNode C) : ct_misGate (jm_up L C) := by
  intro N x σ post hok hN hp
  refine jm_start rfl (Nat.le_of_ble_eq_true rfl) hC fun X hg hw => ?_
  refine hg [] 20 _ ?_
  refine h1 (nN N) x σ _ hN.1 ?_
  have hn := hok.1
  refine br_c (fun h => ?_) (fun h => ?_)
  · refine And.intro (Or.inl rfl) ?_
    have e : atN (nN N) x (isG N) = false := by simp only [atN, bI_0.mp h]; simp
    rw [e] at hp
    exact hp
  · obtain ⟨j, hj, rfl⟩ := inN_t (by omega) (bI_n0.mp h)
    rw [atN_nI (by omega) (by omega), show decide (j < nN N) = true by simpa using hj, Bool.true_and] at hp
    refine And.intro (in40 hok hj) ?_
    refine br_c (fun h3 => ?_) (fun h3 => ?_)
    · have h3 : σ.1 39 0 (nI j).toNatClampNeg = nI 1 := h3
      rw [cl40 hok hj, hN.2.1 j hj, nS_eq hok hj (by omega)] at h3
      refine And.intro (Or.inr rfl) ?_
      rw [show isG N j = true by simp [isG, hj, h3]] at hp
      exact hp
    · have h3 : ¬ σ.1 39 0 (nI j).toNatClampNeg = nI 1 := h3
      rw [cl40 hok hj, hN.2.1 j hj, nS_eq hok hj (by omega)] at h3
      refine And.intro (Or.inl rfl) ?_
      rw [show isG N j = false by simp [isG, h3]] at hp
      exact hp
abbrev ct_misReg (C : jm_C) : Prop := ∀ (N : nw) (x : Int32) (σ : jm_G) (post : Option jm_V → jm_G → Prop), nw_ok N → mN N σ → post (some (jI (bI (atN (nN N) x (isR N))))) σ → C kX10_isRegister [jR 38 0, jI x] σ post
theorem T_misReg (L : Nat) {C : jm_C} (hC : jm_mon C) (h1 : ct_misNode C) : ct_misReg (jm_up L C) := by
  intro N x σ post hok hN hp
  refine jm_start rfl (Nat.le_of_ble_eq_true rfl) hC fun X hg hw => ?_
  refine hg [] 20 _ ?_
  refine h1 (nN N) x σ _ hN.1 ?_
  have hn := hok.1
  refine br_c (fun h => ?_) (fun h => ?_)
  · refine And.intro (Or.inl rfl) ?_
    have e : atN (nN N) x (isR N) = false := by simp only [atN, bI_0.mp h]; simp
    rw [e] at hp
    exact hp
  · obtain ⟨j, hj, rfl⟩ := inN_t (by omega) (bI_n0.mp h)
    rw [atN_nI (by omega) (by omega), show decide (j < nN N) = true by simpa using hj, Bool.true_and] at hp
    refine And.intro (in40 hok hj) ?_
    refine br_c (fun h3 => ?_) (fun h3 => ?_)
    · have h3 : σ.1 39 0 (nI j).toNatClampNeg = nI 2 := h3
      rw [cl40 hok hj, hN.2.1 j hj, nS_eq hok hj (by omega)] at h3
      refine And.intro (Or.inr rfl) ?_
      rw [show isR N j = true by simp [isR, hj, h3]] at hp
      exact hp
    · have h3 : ¬ σ.1 39 0 (nI j).toNatClampNeg = nI 2 := h3
      rw [cl40 hok hj, hN.2.1 j hj, nS_eq hok hj (by omega)] at h3
      refine And.intro (Or.inl rfl) ?_
      rw [show isR N j = false by simp [isR, h3]] at hp
      exact hp
/-- an int field of the model is written -/
abbrev sF (σ : jm_G) (k : Nat) (x : Int32) : jm_G := wI σ 38 0 (upd (σ.1 38 0) k x)
abbrev ct_changes (C : jm_C) : Prop := ∀ (σ : jm_G) (post : Option jm_V → jm_G → Prop), post none (sF (sF σ 8 (nI 0)) 9 (nI 0)) → C kX10_changes [jR 38 0] σ post
theorem T_changes (L : Nat) {C : jm_C} (hC : jm_mon C) : ct_changes (jm_up L C) := by
  intro σ post hp
  refine jm_start rfl (Nat.le_of_ble_eq_true rfl) hC fun X hg hw => ?_
  refine hg [] 20 _ ?_
  refine And.intro (Or.inl rfl) ?_
  refine And.intro (Or.inl rfl) ?_
  exact And.intro trivial hp
/-- feeds and gates by the sorts -/
abbrev ct_fed (C : jm_C) : Prop := ∀ (N : nw) (σ : jm_G) (post : Option jm_V → jm_G → Prop), nw_ok N → mN N σ → post (some (jJ (lN (fdM N 40)))) σ → C kX10_fed [jR 38 0] σ post
theorem fdM_end {N : nw} (h : nw_ok N) : fdM N (nN N) = fdM N 40 := set_eq fun j => by
  rw [fdM_bit, fdM_bit]
  simp only [decide_eq_decide]
  exact ⟨fun ⟨r, a, b⟩ => ⟨r, by have := h.1; omega, b⟩, fun ⟨r, a, b⟩ => ⟨r, isR_lt b.1, b⟩⟩
theorem isR_of {N : nw} {k : Nat} (hk : k < nN N) : isR N k = decide (nS N k = 2) := by simp [isR, hk]; rfl
theorem isG_of {N : nw} {k : Nat} (hk : k < nN N) : isG N k = decide (nS N k = 1) := by simp [isG, hk]; rfl
theorem T_fed (L : Nat) {C : jm_C} (hC : jm_mon C) : ct_fed (jm_up L C) := by
  intro N σ post hok hN hp
  refine jm_start rfl (Nat.le_of_ble_eq_true rfl) hC fun X hg hw => ?_
  have hn := hok.1
  refine hg [4] 20 _ ?_
  refine jm_for (X := X) (fun k => (σ, 4, [some (jR 38 0), some (jJ (lN (fdM N k))), none, some (jI (nI k))], [])) (nN N) ?_ ?_ 0 (by omega)
  · refine hg [4] 30 _ ?_
    refine br_c (fun h => ?_) (fun h => ?_)
    · refine And.intro trivial ?_
      rw [fdM_end hok]
      exact hp
    · have h : ¬ σ.1 38 0 1 ≤ nI (nN N) := h
      rw [hN.1, nI_leI (by omega) (by omega)] at h
      omega
  · intro k hk ih
    refine hg [4] 30 _ ?_
    refine br_c (fun h => ?_) (fun h => ?_)
    · have h : σ.1 38 0 1 ≤ nI k := h
      rw [hN.1, nI_leI (by omega) (by omega)] at h
      omega
    · refine And.intro (in40 hok hk) ?_
      refine br_c (fun h3 => ?_) (fun h3 => ?_)
      · have h3 : σ.1 39 0 (nI k).toNatClampNeg = nI 2 := h3
        rw [cl40 hok hk, hN.2.1 k hk, nS_eq hok hk (by omega)] at h3
        have hr : isR N k = true := by rw [isR_of hk]; simpa using h3
        refine And.intro (show vp_in (nI 3 * nI k) 120 by rw [n3]; exact vp_in_nI (by omega) (by omega)) ?_
        refine jm_eqv (X := X) ih rfl rfl ?_ rfl
        show [some (jR 38 0), some (jJ (lN (fdM N k) ||| (lN 1 <<< ((σ.1 41 0 (nI 3 * nI k).toNatClampNeg).toInt64 &&& 63)))), none, some (jI (nI k + nI 1))] = _
        have hs := hN.2.2.2.1 k hk 0 (by omega)
        have hgf : isG N k = false := by rw [isG_of hk]; simp [h3]
        have hs2 : sofI N k 0 = nI (nF N k) := by unfold sofI; simp [hgf, hr]
        have hf := hok.2.2.2.1 k hr
        rw [n3, nI_clamp (by omega), show 3 * k = 3 * k + 0 from rfl, hs, hs2, lN_shl1 (by omega), fb_orL, nI_add, fdM, hr, if_pos rfl]
      · have h3 : ¬ σ.1 39 0 (nI k).toNatClampNeg = nI 2 := h3
        rw [cl40 hok hk, hN.2.1 k hk, nS_eq hok hk (by omega)] at h3
        have hr : isR N k = false := by rw [isR_of hk]; simpa using h3
        refine jm_eqv (X := X) ih rfl rfl ?_ rfl
        show [some (jR 38 0), some (jJ (lN (fdM N k) ||| lN 0)), none, some (jI (nI k + nI 1))] = _
        rw [fb_orL, nI_add, fdM, hr]
        rfl
abbrev ct_mroots (C : jm_C) : Prop := ∀ (N : nw) (σ : jm_G) (post : Option jm_V → jm_G → Prop), nw_ok N → mN N σ → post (some (jJ (lN (rts N)))) σ → C kX10_roots [jR 38 0] σ post
theorem T_mroots (L : Nat) {C : jm_C} (hC : jm_mon C) (h1 : ct_fed C) : ct_mroots (jm_up L C) := by
  intro N σ post hok hN hp
  refine jm_start rfl (Nat.le_of_ble_eq_true rfl) hC fun X hg hw => ?_
  refine hg [] 20 _ ?_
  refine h1 N σ _ hok hN ?_
  refine And.intro trivial ?_
  show post (some (jJ (σ.2 38 0 6 ||| lN (fdM N 40)))) σ
  rw [hN.2.2.2.2.2, fb_orL]
  exact hp
abbrev ct_mgates (C : jm_C) : Prop := ∀ (N : nw) (σ : jm_G) (post : Option jm_V → jm_G → Prop), nw_ok N → mN N σ → post (some (jJ (lN (gM N)))) σ → C kX10_gates [jR 38 0] σ post
theorem T_mgates (L : Nat) {C : jm_C} (hC : jm_mon C) : ct_mgates (jm_up L C) := by
  intro N σ post hok hN hp
  refine jm_start rfl (Nat.le_of_ble_eq_true rfl) hC fun X hg hw => ?_
  have hn := hok.1
  refine hg [4] 20 _ ?_
  refine jm_for (X := X) (fun k => (σ, 4, [some (jR 38 0), some (jJ (lN (mk (isG N) k))), none, some (jI (nI k))], [])) (nN N) ?_ ?_ 0 (by omega)
  · refine hg [4] 30 _ ?_
    refine br_c (fun h => ?_) (fun h => ?_)
    · exact And.intro trivial hp
    · have h : ¬ σ.1 38 0 1 ≤ nI (nN N) := h
      rw [hN.1, nI_leI (by omega) (by omega)] at h
      omega
  · intro k hk ih
    refine hg [4] 30 _ ?_
    refine br_c (fun h => ?_) (fun h => ?_)
    · have h : σ.1 38 0 1 ≤ nI k := h
      rw [hN.1, nI_leI (by omega) (by omega)] at h
      omega
    · refine And.intro (in40 hok hk) ?_
      refine br_c (fun h3 => ?_) (fun h3 => ?_)
      · have h3 : σ.1 39 0 (nI k).toNatClampNeg = nI 1 := h3
        rw [cl40 hok hk, hN.2.1 k hk, nS_eq hok hk (by omega)] at h3
        have hr : isG N k = true := by rw [isG_of hk]; simpa using h3
        refine jm_eqv (X := X) ih rfl rfl ?_ rfl
        show [some (jR 38 0), some (jJ (lN (mk (isG N) k) ||| (lN 1 <<< ((nI k).toInt64 &&& 63)))), none, some (jI (nI k + nI 1))] = _
        rw [lN_shl1 (by omega), fb_orL, nI_add, mk, hr, if_pos rfl]
      · have h3 : ¬ σ.1 39 0 (nI k).toNatClampNeg = nI 1 := h3
        rw [cl40 hok hk, hN.2.1 k hk, nS_eq hok hk (by omega)] at h3
        have hr : isG N k = false := by rw [isG_of hk]; simpa using h3
        refine jm_eqv (X := X) ih rfl rfl ?_ rfl
        show [some (jR 38 0), some (jJ (lN (mk (isG N) k) ||| lN 0)), none, some (jI (nI k + nI 1))] = _
        rw [fb_orL, nI_add, mk, hr]
        rfl
