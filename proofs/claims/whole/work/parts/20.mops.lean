/-! THE MODEL: input, gate, register, feed, output, inputs -/
def mB (N : nw) (K : Nat) (md : Bool) (on : Nat) (σ : jm_G) : Prop := mN N σ ∧ σ.1 38 0 7 = nI K ∧ σ.1 38 0 8 = bI md ∧ ∀ i, i < nN N → σ.1 43 0 i = bI (on.testBit i)
/-- only leaves are told to be 1 -/
def onOK (N : nw) (on : Nat) : Prop := ∀ i, on.testBit i = true → i < nN N ∧ isG N i = false
theorem onOK_n {N : nw} {on i : Nat} (h : onOK N on) (hi : nN N ≤ i) : on.testBit i = false := by
  cases hb : on.testBit i with
  | false => rfl
  | true => have := (h i hb).1; omega
theorem sF_1 (σ : jm_G) (k : Nat) (x : Int32) (j : Nat) : (sF σ k x).1 38 0 j = if j = k then x else σ.1 38 0 j := by rw [wI1, if_pos ⟨rfl, rfl⟩, upd_at]
theorem sF_2 (σ : jm_G) (k : Nat) (x : Int32) : (sF σ k x).2 = σ.2 := rfl
theorem sF_o (σ : jm_G) (k : Nat) (x : Int32) {t i : Nat} (h : t ≠ 38) : (sF σ k x).1 t i = σ.1 t i := by rw [wI1, if_neg (by omega)]
theorem mN_sF {N : nw} {σ : jm_G} (h : mN N σ) {k : Nat} (hk : k ≠ 1) (x : Int32) : mN N (sF σ k x) := by
  obtain ⟨a1, a2, a3, a4, a5, a6⟩ := h
  exact ⟨by rw [sF_1, if_neg (by omega)]; exact a1, a2, a3, a4, a5, a6⟩
theorem mB_th {N : nw} {K on : Nat} {md : Bool} {σ : jm_G} (h : mB N K md on σ) (x : Int32) : mB N K md on (sF σ 0 x) := by
  obtain ⟨a1, a2, a3, a4⟩ := h
  exact ⟨mN_sF a1 (by omega) x, by rw [sF_1, if_neg (by omega)]; exact a2, by rw [sF_1, if_neg (by omega)]; exact a3, a4⟩
/-- what 'adds' makes -/
def adP (n s : Nat) (σ τ : jm_G) : Prop := (∀ j, τ.1 38 0 j = if j = 1 then nI (n + 1) else if j = 8 then nI 0 else if j = 9 then nI 0 else σ.1 38 0 j) ∧ τ.2 38 0 = σ.2 38 0 ∧ τ.1 39 0 = upd (σ.1 39 0) n (nI s) ∧ τ.1 40 0 = upd (σ.1 40 0) n (-(nI 1)) ∧
  τ.1 41 0 = upd (upd (upd (σ.1 41 0) (3 * n) (-(nI 1))) (3 * n + 1) (-(nI 1))) (3 * n + 2) (-(nI 1)) ∧ τ.2 42 0 = vp_updL (σ.2 42 0) n (lN 0) ∧ τ.1 43 0 = upd (σ.1 43 0) n (nI 0) ∧ off 38 43 σ τ
abbrev ct_adds (C : jm_C) : Prop := ∀ (n s : Nat) (σ : jm_G) (post : Option jm_V → jm_G → Prop), σ.1 38 0 1 = nI n → n < 40 → (∀ σ', adP n s σ σ' → post (some (jI (nI n))) σ') → C kX10_adds [jR 38 0, jI (nI s)] σ post
set_option maxHeartbeats 4000000 in
theorem T_adds (L : Nat) {C : jm_C} (hC : jm_mon C) (h1 : ct_changes C) : ct_adds (jm_up L C) := by
  intro n s σ post hn hlt hp
  refine jm_start rfl (Nat.le_of_ble_eq_true rfl) hC fun X hg hw => ?_
  have hin : vp_in (σ.1 38 0 1) 40 := by rw [hn]; exact vp_in_nI hlt (by omega)
  have hcl : (σ.1 38 0 1).toNatClampNeg = n := by rw [hn]; exact nI_clamp (by omega)
  refine hg [22] 60 _ ?_
  refine And.intro hin ?_
  refine And.intro hin ?_
  show X (wI (wI σ 39 0 (upd (σ.1 39 0) (σ.1 38 0 1).toNatClampNeg (nI s))) 40 0 (upd (σ.1 40 0) (σ.1 38 0 1).toNatClampNeg (-(nI 1))), 22, [some (jR 38 0), some (jI (nI s)), some (jI (nI 0))], [])
  rw [hcl]
  generalize hA : wI (wI σ 39 0 (upd (σ.1 39 0) n (nI s))) 40 0 (upd (σ.1 40 0) n (-(nI 1))) = A
  have hAn : A.1 38 0 1 = nI n := by rw [← hA]; exact hn
  have step : ∀ (B : jm_G) (k : Nat), B.1 38 0 1 = nI n → k < 3 → X (wI B 41 0 (upd (B.1 41 0) (3 * n + k) (-(nI 1))), 22, [some (jR 38 0), some (jI (nI s)), some (jI (nI (k + 1)))], []) → X (B, 22, [some (jR 38 0), some (jI (nI s)), some (jI (nI k))], []) := by
    intro B k hB hk hX
    refine hg [22] 60 _ ?_
    refine br_c (fun h => ?_) (fun h => ?_)
    · have h : nI 3 ≤ nI k := h
      rw [nI_leI (by omega) (by omega)] at h
      omega
    · have e : nI 3 * B.1 38 0 1 + nI k = nI (3 * n + k) := by rw [hB]; exact n3I
      refine And.intro (show vp_in (nI 3 * B.1 38 0 1 + nI k) 120 by rw [e]; exact vp_in_nI (by omega) (by omega)) ?_
      refine jm_eqv (X := X) hX ?_ rfl ?_ rfl
      · show wI B 41 0 (upd (B.1 41 0) (nI 3 * B.1 38 0 1 + nI k).toNatClampNeg (-(nI 1))) = _
        rw [e, nI_clamp (by omega)]
      · show [some (jR 38 0), some (jI (nI s)), some (jI (nI k + nI 1))] = _
        rw [nI_add]
  refine step A 0 hAn (by omega) (step _ 1 hAn (by omega) (step _ 2 hAn (by omega) ?_))
  generalize hB : wI (wI (wI A 41 0 (upd (A.1 41 0) (3 * n + 0) (-(nI 1)))) 41 0 (upd ((wI A 41 0 (upd (A.1 41 0) (3 * n + 0) (-(nI 1)))).1 41 0) (3 * n + 1) (-(nI 1)))) 41 0 (upd ((wI (wI A 41 0 (upd (A.1 41 0) (3 * n + 0) (-(nI 1)))) 41 0 (upd ((wI A 41 0 (upd (A.1 41 0) (3 * n + 0) (-(nI 1)))).1 41 0) (3 * n + 1) (-(nI 1)))).1 41 0) (3 * n + 2) (-(nI 1))) = B
  have hBn : B.1 38 0 1 = nI n := by rw [← hB]; exact hAn
  have hinB : vp_in (B.1 38 0 1) 40 := by rw [hBn]; exact vp_in_nI hlt (by omega)
  refine hg [] 60 _ ?_
  refine br_c (fun h => ?_) (fun h => ?_)
  · refine And.intro hinB ?_
    refine And.intro ⟨hinB, Or.inl rfl⟩ ?_
    refine h1 _ _ ?_
    refine And.intro trivial ?_
    show post (some (jI ((B.1 38 0 1 + nI 1) - nI 1))) (sF (sF (sF (wI (wJ B 42 0 (vp_updL (B.2 42 0) (B.1 38 0 1).toNatClampNeg (lN 0))) 43 0 (upd (B.1 43 0) (B.1 38 0 1).toNatClampNeg (nI 0))) 1 (B.1 38 0 1 + nI 1)) 8 (nI 0)) 9 (nI 0))
    rw [hBn, nI_add, pk_sub (by omega), nI_clamp (by omega), show n + 1 - 1 = n by omega]
    refine hp _ ?_
    subst hB; subst hA
    refine ⟨fun j => ?_, rfl, rfl, rfl, rfl, rfl, rfl, ?_⟩
    · rw [sF_1, sF_1, sF_1]
      by_cases e1 : j = 1
      · subst e1; rfl
      · by_cases e8 : j = 8
        · subst e8; rfl
        · by_cases e9 : j = 9
          · subst e9; rfl
          · rw [if_neg e9, if_neg e8, if_neg e1, if_neg e1, if_neg e8, if_neg e9]; rfl
    · exact off_wI (off_wI (off_wI (off_wI (off_wJ (off_wI (off_wI (off_wI (off_wI (off_wI (off_refl _ _ _) (by omega) (by omega)) (by omega) (by omega)) (by omega) (by omega)) (by omega) (by omega)) (by omega) (by omega)) (by omega) (by omega)) (by omega) (by omega)) (by omega) (by omega)) (by omega) (by omega)) (by omega) (by omega)
  · exact absurd (nI_le (Nat.le_refl 3) (by omega)) h
/-- the model's network behind 'adds' and what follows it -/
theorem mB_ad {N M : nw} {K on s : Nat} {md : Bool} {σ τ : jm_G} (hok : nw_ok N) (h : mB N K md on σ) (hon : onOK N on) (ha : adP (nN N) s σ τ) (hM : nN M = nN N + 1) (hO : nO M = nO N) (hS : ∀ i, nS M i = if i = nN N then s else nS N i) (hK : ∀ i, i < nN N → isG M i = isG N i ∧ nK M i = nK N i) (hso : ∀ i k, i < nN N → sofI M i k = sofI N i k) (hBb : ∀ i, i < nN N → nB M i = nB N i)
    (hk : (if isG M (nN N) then nI (nK M (nN N)) else -(nI 1)) = -(nI 1)) (hs0 : ∀ k, k < 3 → sofI M (nN N) k = -(nI 1)) (hb0 : nB M (nN N) = 0) : mB M K false on τ ∧ τ.1 38 0 9 = nI 0 := by
  obtain ⟨⟨a1, a2, a3, a4, a5, a6⟩, b1, b2, b3⟩ := h
  obtain ⟨c1, c2, c3, c4, c5, c6, c7, c8⟩ := ha
  refine ⟨⟨⟨?_, ?_, ?_, ?_, ?_, ?_⟩, ?_, ?_, ?_⟩, ?_⟩
  · rw [c1, if_pos rfl, hM]
  · intro i hi
    rw [c3, upd_at, hS]
    by_cases e : i = nN N
    · rw [if_pos e, if_pos e]
    · rw [if_neg e, if_neg e]; exact a2 i (by omega)
  · intro i hi
    rw [c4, upd_at]
    by_cases e : i = nN N
    · rw [if_pos e, e, hk]
    · rw [if_neg e, (hK i (by omega)).1, (hK i (by omega)).2]; exact a3 i (by omega)
  · intro i hi k hk3
    rw [c5, upd_at, upd_at, upd_at]
    by_cases e : i = nN N
    · subst e
      rw [hs0 k hk3]
      rcases (show k = 0 ∨ k = 1 ∨ k = 2 by omega) with rfl | rfl | rfl
      · simp
      · simp
      · simp
    · rw [if_neg (by omega), if_neg (by omega), if_neg (by omega), hso i k (by omega)]
      exact a4 i (by omega) k hk3
  · intro i hi
    rw [c6, updL_at]
    by_cases e : i = nN N
    · rw [if_pos e, e, hb0]
    · rw [if_neg e, hBb i (by omega)]; exact a5 i (by omega)
  · rw [c2, hO]; exact a6
  · rw [c1]; exact b1
  · rw [c1]; rfl
  · intro i hi
    rw [c7, upd_at]
    by_cases e : i = nN N
    · rw [if_pos e, e, onOK_n hon (Nat.le_refl _)]; rfl
    · rw [if_neg e]; exact b3 i (by omega)
  · rw [c1]; rfl
theorem nB_n {N : nw} (h : nw_ok N) {i : Nat} (hi : nN N ≤ i) : nB N i = 0 := by
  rw [h.2.2.2.2.2.2 i, show isG N i = false by simp [isG]; omega]
  rfl
theorem sofI_eq {N M : nw} {i : Nat} (k : Nat) (h1 : isG M i = isG N i) (h2 : isR M i = isR N i) (h3 : nK M i = nK N i) (h4 : nR M i k = nR N i k) (h5 : nF M i = nF N i) : sofI M i k = sofI N i k := by
  unfold sofI srcI
  rw [h1, h2, h3, h4, h5]
abbrev ct_minput (C : jm_C) : Prop := ∀ (N : nw) (K on : Nat) (md : Bool) (σ : jm_G) (post : Option jm_V → jm_G → Prop), nw_ok N → mB N K md on σ → onOK N on → (nN N = 40 → post (some (jI (-(nI 1)))) (sF σ 0 (nI 0))) → (nN N < 40 → ∀ σ', mB (addI N) K false on σ' → σ'.1 38 0 9 = nI 0 → off 38 43 σ σ' → post (some (jI (nI (nN N)))) σ') → C kX10_input [jR 38 0] σ post
theorem T_minput (L : Nat) {C : jm_C} (hC : jm_mon C) (h1 : ct_adds C) : ct_minput (jm_up L C) := by
  intro N K on md σ post hok hB hon hp1 hp2
  refine jm_start rfl (Nat.le_of_ble_eq_true rfl) hC fun X hg hw => ?_
  have hn := hok.1
  have hN1 := hB.1.1
  refine hg [] 60 _ ?_
  refine br_c (fun h => ?_) (fun h => ?_)
  · have h : σ.1 38 0 1 = nI 40 := h
    rw [hN1, nI_eq (by omega) (by omega)] at h
    exact And.intro trivial (hp1 h)
  · have h : ¬ σ.1 38 0 1 = nI 40 := h
    rw [hN1, nI_eq (by omega) (by omega)] at h
    refine h1 (nN N) 0 _ _ (show σ.1 38 0 1 = nI (nN N) from hN1) (by omega) fun τ hτ => ?_
    refine And.intro trivial ?_
    have hB0 := mB_th hB (nI 0)
    obtain ⟨q1, q2⟩ := mB_ad (M := addI N) (s := 0) hok hB0 hon hτ rfl rfl (fun i => rfl) (fun i hi => ⟨isG_addI N i, rfl⟩) (fun i k hi => sofI_eq k (isG_addI N i) (isR_addI N i) rfl rfl rfl) (fun i hi => rfl) (by rw [isG_addI, isG_n]; rfl) (fun k hk => by unfold sofI; rw [isG_addI, isR_addI, isG_n, isR_n]; rfl) (nB_n hok (Nat.le_refl _))
    exact hp2 (by omega) τ q1 q2 (off_trans (off_wI (off_refl _ _ _) (by omega) (by omega)) hτ.2.2.2.2.2.2.2)
abbrev ct_mregister (C : jm_C) : Prop := ∀ (N : nw) (K on : Nat) (md : Bool) (σ : jm_G) (post : Option jm_V → jm_G → Prop), nw_ok N → mB N K md on σ → onOK N on → (nN N = 40 → post (some (jI (-(nI 1)))) (sF σ 0 (nI 0))) → (nN N < 40 → ∀ σ', mB (addR N) K false on σ' → σ'.1 38 0 9 = nI 0 → off 38 43 σ σ' → post (some (jI (nI (nN N)))) σ') → C kX10_register [jR 38 0] σ post
theorem T_mregister (L : Nat) {C : jm_C} (hC : jm_mon C) (h1 : ct_adds C) : ct_mregister (jm_up L C) := by
  intro N K on md σ post hok hB hon hp1 hp2
  refine jm_start rfl (Nat.le_of_ble_eq_true rfl) hC fun X hg hw => ?_
  have hn := hok.1
  have hN1 := hB.1.1
  refine hg [] 60 _ ?_
  refine br_c (fun h => ?_) (fun h => ?_)
  · have h : σ.1 38 0 1 = nI 40 := h
    rw [hN1, nI_eq (by omega) (by omega)] at h
    exact And.intro trivial (hp1 h)
  · have h : ¬ σ.1 38 0 1 = nI 40 := h
    rw [hN1, nI_eq (by omega) (by omega)] at h
    refine h1 (nN N) 2 _ _ (show σ.1 38 0 1 = nI (nN N) from hN1) (by omega) fun τ hτ => ?_
    refine And.intro (show vp_in (nI 3 * nI (nN N)) 120 by rw [n3]; exact vp_in_nI (by omega) (by omega)) ?_
    refine And.intro trivial ?_
    show post (some (jI (nI (nN N)))) (wI τ 41 0 (upd (τ.1 41 0) (nI 3 * nI (nN N)).toNatClampNeg (nI (nN N))))
    rw [n3, nI_clamp (by omega)]
    have hB0 := mB_th hB (nI 0)
    obtain ⟨⟨q1, q3, q4, q5⟩, q2⟩ := mB_ad (M := addI N) (s := 0) (τ := wI τ 39 0 (upd (τ.1 39 0) (nN N) (nI 0))) hok hB0 hon (by
      obtain ⟨c1, c2, c3, c4, c5, c6, c7, c8⟩ := hτ
      refine ⟨c1, c2, ?_, c4, c5, c6, c7, off_wI c8 (by omega) (by omega)⟩
      show upd (τ.1 39 0) (nN N) (nI 0) = _
      rw [c3, fa_upd_twice]; rfl) rfl rfl (fun i => rfl) (fun i hi => ⟨isG_addI N i, rfl⟩) (fun i k hi => sofI_eq k (isG_addI N i) (isR_addI N i) rfl rfl rfl) (fun i hi => rfl) (by rw [isG_addI, isG_n]; rfl) (fun k hk => by unfold sofI; rw [isG_addI, isR_addI, isG_n, isR_n]; rfl) (nB_n hok (Nat.le_refl _))
    obtain ⟨a1, a2, a3, a4, a5, a6⟩ := q1
    refine hp2 (by omega) _ ⟨⟨a1, ?_, ?_, ?_, a5, a6⟩, q3, q4, q5⟩ q2 (off_wI (off_trans (off_wI (off_refl _ _ _) (by omega) (by omega)) hτ.2.2.2.2.2.2.2) (by omega) (by omega))
    · intro i hi
      show τ.1 39 0 i = nI (if i = nN N then 2 else nS N i)
      rw [hτ.2.2.1, upd_at]
      by_cases e : i = nN N
      · rw [if_pos e, if_pos e]
      · rw [if_neg e, if_neg e]
        exact hB.1.2.1 i (by have hi : i < nN N + 1 := hi; omega)
    · intro i hi
      have := a3 i hi
      rw [isG_addI] at this
      rw [isG_addR]
      exact this
    · intro i hi k hk
      show upd (τ.1 41 0) (3 * nN N) (nI (nN N)) (3 * i + k) = _
      have := a4 i hi k hk
      have this : τ.1 41 0 (3 * i + k) = sofI (addI N) i k := this
      rw [upd_at]
      by_cases e : i = nN N
      · subst e
        by_cases ek : k = 0
        · subst ek
          rw [if_pos (by omega)]
          unfold sofI
          rw [isG_addR, isR_addR, isG_n]
          simp only [decide_true, Bool.or_true, Bool.true_and, Bool.false_eq_true, if_false]
          show _ = nI (if nN N = nN N then nN N else nF N (nN N))
          rw [if_pos rfl]
        · rw [if_neg (by omega), this]
          unfold sofI
          rw [isG_addR, isR_addR, isG_n, isG_addI, isR_addI, isG_n, isR_n]
          simp [ek]
      · rw [if_neg (by omega), this]
        have hRi : isR (addR N) i = isR N i := by rw [isR_addR]; simp [e]
        have hFi : nF (addR N) i = nF N i := if_neg e
        rw [sofI_eq (N := N) (M := addI N) k (isG_addI N i) (isR_addI N i) rfl rfl rfl, sofI_eq (N := N) (M := addR N) k (isG_addR N i) hRi rfl rfl hFi]
