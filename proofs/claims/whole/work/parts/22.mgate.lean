/-! THE MODEL: gate -/
/-- whether a gate can be told so -/
def gOK (n : Nat) (xk xa xb xc : Int32) : Bool := inN 7 xk && decide (n < 40) && inN n xa && (decide (ar xk.toNatClampNeg ≤ 1) || inN n xb) && (decide (ar xk.toNatClampNeg ≤ 2) || inN n xc)
theorem wi_7 (x : Int32) : (decide (¬ x < nI 0) && decide (¬ nI 6 < x)) = inN 7 x := by
  unfold inN
  have h : (nI 6 < x) ↔ (nI 7 ≤ x) := by
    rw [Int32.lt_iff_toInt_lt, Int32.le_iff_toInt_le, nI_toInt (by omega), nI_toInt (by omega)]
    omega
  simp only [h, show nI 0 = (0 : Int32) from rfl]
/-- while its sources are told -/
def gtP (N : nw) (k a b c j : Nat) (σ τ : jm_G) : Prop := (∀ i, τ.1 38 0 i = if i = 1 then nI (nN N + 1) else if i = 8 then nI 0 else if i = 9 then nI 0 else σ.1 38 0 i) ∧ τ.2 38 0 = σ.2 38 0 ∧ τ.1 39 0 = upd (σ.1 39 0) (nN N) (nI 1) ∧ τ.1 40 0 = upd (σ.1 40 0) (nN N) (nI k) ∧
  (∀ i, i < nN N → ∀ m, m < 3 → τ.1 41 0 (3 * i + m) = σ.1 41 0 (3 * i + m)) ∧ (∀ m, m < 3 → τ.1 41 0 (3 * nN N + m) = if m < j then nI (nR (addG N k a b c) (nN N) m) else -(nI 1)) ∧ (∀ i, i < nN N → τ.2 42 0 i = σ.2 42 0 i) ∧ τ.2 42 0 (nN N) = lN (bMk (addG N k a b c) (nN N) j) ∧ τ.1 43 0 = upd (σ.1 43 0) (nN N) (nI 0) ∧ off 38 43 σ τ
abbrev ct_mgate (C : jm_C) : Prop := ∀ (N : nw) (K on : Nat) (md : Bool) (xk xa xb xc : Int32) (σ : jm_G) (post : Option jm_V → jm_G → Prop), nw_ok N → mB N K md on σ → onOK N on →
  (gOK (nN N) xk xa xb xc = false → post (some (jI (-(nI 1)))) (sF σ 0 (nI 0))) → (∀ k a b c, nN N < 40 → k < 7 → xk = nI k → a < nN N → xa = nI a → (1 < ar k → b < nN N ∧ xb = nI b) → (2 < ar k → c < nN N ∧ xc = nI c) → ∀ σ', mB (addG N k a b c) K false on σ' → σ'.1 38 0 9 = nI 0 → off 38 43 σ σ' → post (some (jI (nI (nN N)))) σ') → C kX10_gate [jR 38 0, jI xk, jI xa, jI xb, jI xc] σ post
set_option maxHeartbeats 4000000 in
theorem T_mgate (L : Nat) {C : jm_C} (hC : jm_mon C) (h1 : ct_within C) (h2 : ct_misNode C) (h3 : ct_msrcOf C) (h4 : ct_adds C) : ct_mgate (jm_up L C) := by
  intro N K on md xk xa xb xc σ post hok hB hon hp1 hp2
  refine jm_start rfl (Nat.le_of_ble_eq_true rfl) hC fun X hg hw => ?_
  have hn := hok.1
  have hB0 := mB_th hB (nI 0)
  -- behind all tests
  have main : ∀ k a b c : Nat, nN N < 40 → k < 7 → xk = nI k → a < nN N → xa = nI a → (1 < ar k → b < nN N ∧ xb = nI b) → (2 < ar k → c < nN N ∧ xc = nI c) → X (sF σ 0 (nI 0), 90, [some (jR 38 0), some (jI xk), some (jI xa), some (jI xb), some (jI xc), some (jI (nI 1)), some (jI (nI (ar k))), none, none, none], []) := by
    intro k a b c h40 hk ek ha ea hb hc
    have har := ar_pos k
    refine hg [108] 40 _ ?_
    refine h4 (nN N) 1 _ _ hB0.1.1 h40 fun τ hτ => ?_
    have hτ : adP (nN N) 1 (sF σ 0 (nI 0)) τ := hτ
    obtain ⟨c1, c2, c3, c4, c5, c6, c7, c8⟩ := hτ
    refine And.intro (vp_in_nI h40 (by omega)) ?_
    show X (wI τ 40 0 (upd (τ.1 40 0) (nI (nN N)).toNatClampNeg xk), 108, [some (jR 38 0), some (jI xk), some (jI xa), some (jI xb), some (jI xc), some (jI (nI 1)), some (jI (nI (ar k))), some (jI (nI (nN N))), some (jI (nI 0)), none], [])
    rw [nI_clamp (by omega), ek]
    have start : gtP N k a b c 0 (sF σ 0 (nI 0)) (wI τ 40 0 (upd (τ.1 40 0) (nN N) (nI k))) := by
      refine ⟨c1, c2, c3, ?_, ?_, ?_, ?_, ?_, c7, off_wI c8 (by omega) (by omega)⟩
      · show upd (τ.1 40 0) (nN N) (nI k) = _
        rw [c4, fa_upd_twice]
      · intro i hi m hm
        show τ.1 41 0 (3 * i + m) = _
        rw [c5, upd_at, upd_at, upd_at, if_neg (by omega), if_neg (by omega), if_neg (by omega)]
      · intro m hm
        show τ.1 41 0 (3 * nN N + m) = _
        rw [c5, upd_at, upd_at, upd_at, if_neg (show ¬ m < 0 by omega)]
        rcases (show m = 0 ∨ m = 1 ∨ m = 2 by omega) with rfl | rfl | rfl <;> simp
      · intro i hi
        show τ.2 42 0 i = _
        rw [c6, updL_at, if_neg (by omega)]
      · show τ.2 42 0 (nN N) = lN 0
        rw [c6, pk_uLs]
    generalize wI τ 40 0 (upd (τ.1 40 0) (nN N) (nI k)) = υ at start ⊢
    have gen : ∀ (m j : Nat) (υ : jm_G), j + m = ar k → gtP N k a b c j (sF σ 0 (nI 0)) υ → X (υ, 108, [some (jR 38 0), some (jI (nI k)), some (jI xa), some (jI xb), some (jI xc), some (jI (nI 1)), some (jI (nI (ar k))), some (jI (nI (nN N))), some (jI (nI j)), none], []) := by
      intro m
      induction m with
      | zero =>
        intro j υ hj hυ
        have hj : j = ar k := by omega
        subst hj
        refine hg [108] 60 _ ?_
        refine br_c (fun h => ?_) (fun h => ?_)
        · refine And.intro trivial ?_
          obtain ⟨g1, g2, g3, g4, g5, g6, g7, g8, g9, g10⟩ := hυ
          obtain ⟨⟨a1, a2, a3, a4, a5, a6⟩, b1, b2, b3⟩ := hB
          refine hp2 k a b c h40 hk ek ha ea hb hc υ ⟨⟨?_, ?_, ?_, ?_, ?_, ?_⟩, ?_, ?_, ?_⟩ ?_ (off_trans (off_wI (off_refl _ _ _) (by omega) (by omega)) g10)
          · rw [g1, if_pos rfl]; rfl
          · intro i hi
            have hi : i < nN N + 1 := hi
            rw [g3, upd_at]
            show _ = nI (if i = nN N then 1 else nS N i)
            by_cases e : i = nN N
            · rw [if_pos e, if_pos e]
            · rw [if_neg e, if_neg e]; exact a2 i (by omega)
          · intro i hi
            have hi : i < nN N + 1 := hi
            rw [g4, upd_at, isG_addG]
            show _ = if (isG N i || decide (i = nN N)) = true then nI (if i = nN N then k else nK N i) else _
            by_cases e : i = nN N
            · rw [if_pos e, if_pos e]; simp [e]
            · rw [if_neg e, if_neg e]; simp only [e, decide_false, Bool.or_false]; exact a3 i (by omega)
          · intro i hi z hz
            have hi : i < nN N + 1 := hi
            by_cases e : i = nN N
            · subst e
              rw [g6 z hz]
              unfold sofI srcI
              have hK9 : nK (addG N k a b c) (nN N) = k := if_pos rfl
              rw [isG_addG, hK9]
              simp only [decide_true, Bool.or_true, if_true]
            · rw [g5 i (by omega) z hz]
              have := a4 i (by omega) z hz
              have hR : nR (addG N k a b c) i z = nR N i z := if_neg e
              have hK9 : nK (addG N k a b c) i = nK N i := if_neg e
              rw [sofI_eq (N := N) (M := addG N k a b c) z (by rw [isG_addG]; simp [e]) (isR_addG N k a b c i) hK9 hR rfl]
              exact this
          · intro i hi
            have hi : i < nN N + 1 := hi
            by_cases e : i = nN N
            · subst e
              rw [g8]
              have h9 := (ok_addG hok h40 hk ha (fun q => (hb q).1) (fun q => (hc q).1)).2.2.2.2.2.2 (nN N)
              have hK9 : nK (addG N k a b c) (nN N) = k := if_pos rfl
              rw [isG_addG, hK9] at h9
              simp only [decide_true, Bool.or_true, if_true] at h9
              rw [h9]
            · rw [g7 i (by omega)]
              have hBi : nB (addG N k a b c) i = nB N i := if_neg e
              rw [hBi]
              exact a5 i (by omega)
          · rw [g2]; exact a6
          · rw [g1]; exact b1
          · rw [g1]; rfl
          · intro i hi
            have hi : i < nN N + 1 := hi
            rw [g9, upd_at]
            by_cases e : i = nN N
            · rw [if_pos e, e, onOK_n hon (Nat.le_refl _)]; rfl
            · rw [if_neg e]; exact b3 i (by omega)
          · rw [g1]; rfl
        · exact absurd (nI_le (Nat.le_refl _) (by omega)) h
      | succ m ih =>
        intro j υ hj hυ
        -- one source
        have one : ∀ s : Nat, s < nN N → s = nR (addG N k a b c) (nN N) j → X (υ, 138, [some (jR 38 0), some (jI (nI k)), some (jI xa), some (jI xb), some (jI xc), some (jI (nI 1)), some (jI (nI (ar k))), some (jI (nI (nN N))), some (jI (nI j)), some (jI (nI s))], []) := by
          intro s hs es
          refine hg [108] 60 _ ?_
          refine And.intro (show vp_in (nI 3 * nI (nN N) + nI j) 120 by rw [n3I]; exact vp_in_nI (by omega) (by omega)) ?_
          refine And.intro (vp_in_nI h40 (by omega)) ?_
          refine And.intro (vp_in_nI (by omega) (by omega)) ?_
          refine And.intro (vp_in_nI h40 (by omega)) ?_
          obtain ⟨g1, g2, g3, g4, g5, g6, g7, g8, g9, g10⟩ := hυ
          refine hw _ _ _ [some (jR 38 0), some (jI (nI k)), some (jI xa), some (jI xb), some (jI xc), some (jI (nI 1)), some (jI (nI (ar k))), some (jI (nI (nN N))), some (jI (nI j + nI 1)), none] _ (by repeat' first | exact trivial | exact rfl | apply And.intro) ?_
          have h9 := ih (j + 1) (wJ (wI υ 41 0 (upd (υ.1 41 0) (3 * nN N + j) (nI s))) 42 0 (vp_updL (υ.2 42 0) (nN N) (υ.2 42 0 (nN N) ||| (υ.2 42 0 s ||| lN (2 ^ s))))) (by omega) (by
            refine ⟨g1, g2, g3, g4, ?_, ?_, ?_, ?_, g9, off_wJ (off_wI g10 (by omega) (by omega)) (by omega) (by omega)⟩
            · intro i hi z hz
              show upd (υ.1 41 0) (3 * nN N + j) (nI s) (3 * i + z) = _
              rw [upd_at, if_neg (by omega)]
              exact g5 i hi z hz
            · intro z hz
              show upd (υ.1 41 0) (3 * nN N + j) (nI s) (3 * nN N + z) = _
              rw [upd_at]
              by_cases e : z = j
              · rw [if_pos (by omega), if_pos (by omega), e, es]
              · rw [if_neg (by omega), g6 z hz]
                by_cases q : z < j
                · rw [if_pos q, if_pos (by omega)]
                · rw [if_neg q, if_neg (by omega)]
            · intro i hi
              show vp_updL (υ.2 42 0) (nN N) _ i = _
              rw [updL_at, if_neg (by omega)]
              exact g7 i hi
            · show vp_updL (υ.2 42 0) (nN N) (υ.2 42 0 (nN N) ||| (υ.2 42 0 s ||| lN (2 ^ s))) (nN N) = _
              have e5 : (sF σ 0 (nI 0)).2 42 0 s = lN (nB N s) := hB.1.2.2.2.2.1 s hs
              have hBs : nB (addG N k a b c) s = nB N s := if_neg (by omega)
              rw [pk_uLs, g8, g7 s hs, e5, fb_orL, fb_orL, bMk, ← es, hBs, Nat.or_comm (nB N s)])
          refine jm_eqv (X := X) h9 ?_ rfl ?_ rfl
          · show wJ (wI υ 41 0 (upd (υ.1 41 0) (nI 3 * nI (nN N) + nI j).toNatClampNeg (nI s))) 42 0 (vp_updL (υ.2 42 0) (nI (nN N)).toNatClampNeg (υ.2 42 0 (nI (nN N)).toNatClampNeg ||| (υ.2 42 0 (nI s).toNatClampNeg ||| (lN 1 <<< ((nI s).toInt64 &&& 63))))) = _
            rw [n3I, nI_clamp (by omega), nI_clamp (by omega), nI_clamp (by omega), lN_shl1 (by omega)]
          · rw [nI_add]
        refine hg [138] 60 _ ?_
        refine br_c (fun h => ?_) (fun h => ?_)
        · have h : nI (ar k) ≤ nI j := h
          rw [nI_leI (by omega) (by omega)] at h
          omega
        · refine br_c (fun h5 => ?_) (fun h5 => ?_)
          · have h5 : nI j = nI 0 := h5
            rw [nI_eq (by omega) (by omega)] at h5
            subst h5
            have h9 := one a ha (show a = if nN N = nN N then _ else _ by rw [if_pos rfl]; rfl)
            rw [← ea] at h9
            exact h9
          · have h5 : ¬ nI j = nI 0 := h5
            rw [nI_eq (by omega) (by omega)] at h5
            refine br_c (fun h6 => ?_) (fun h6 => ?_)
            · have h6 : nI j = nI 1 := h6
              rw [nI_eq (by omega) (by omega)] at h6
              subst h6
              obtain ⟨hb1, hb2⟩ := hb (by omega)
              have h9 := one b hb1 (show b = if nN N = nN N then _ else _ by rw [if_pos rfl]; rfl)
              rw [← hb2] at h9
              exact h9
            · have h6 : ¬ nI j = nI 1 := h6
              rw [nI_eq (by omega) (by omega)] at h6
              have e2 : j = 2 := by omega
              subst e2
              obtain ⟨hc1, hc2⟩ := hc (by omega)
              have h9 := one c hc1 (show c = if nN N = nN N then _ else _ by rw [if_pos rfl]; rfl)
              rw [← hc2] at h9
              exact h9
    exact gen (ar k) 0 υ (by omega) start
  -- the tests
  refine hg [37, 90] 60 _ ?_
  refine h1 xk (nI 0) (nI 6) (sF σ 0 (nI 0)) _ ?_
  rw [wi_7]
  have bad : (inN 7 xk && decide (nN N < 40) && inN (nN N) xa) = false → X (sF σ 0 (nI 0), 37, [some (jR 38 0), some (jI xk), some (jI xa), some (jI xb), some (jI xc), none, none, none, none, none], [jI (nI 0)]) := by
    intro hb
    refine hg [90] 60 _ ?_
    refine br_c (fun h => ?_) (fun h => ?_)
    · refine br_c (fun h5 => ?_) (fun h5 => ?_)
      · exact And.intro trivial (hp1 (by unfold gOK; rw [hb]; rfl))
      · exact absurd rfl h5
    · exact absurd rfl h
  refine br_c (fun h => ?_) (fun h => ?_)
  · exact bad (by rw [bI_0.mp h]; rfl)
  · obtain ⟨k, hk, rfl⟩ := inN_t (by omega) (bI_n0.mp h)
    have hk7 := bI_n0.mp h
    have hkc : (nI k).toNatClampNeg = k := nI_clamp (by omega)
    refine br_c (fun h5 => ?_) (fun h5 => ?_)
    · have h5 : nI 40 ≤ σ.1 38 0 1 := h5
      rw [hB.1.1, nI_leI (by omega) (by omega)] at h5
      exact bad (by simp; omega)
    · have h5 : ¬ nI 40 ≤ σ.1 38 0 1 := h5
      rw [hB.1.1, nI_leI (by omega) (by omega)] at h5
      have h40 : nN N < 40 := by omega
      refine h2 (nN N) xa (sF σ 0 (nI 0)) _ hB0.1.1 ?_
      refine br_c (fun h6 => ?_) (fun h6 => ?_)
      · exact bad (by rw [bI_0.mp h6]; simp)
      · have hxa := bI_n0.mp h6
        obtain ⟨a, ha, ea⟩ := inN_t (by omega) hxa
        have fail : ∀ v : Bool, (decide (ar k ≤ 1) || inN (nN N) xb) = v → (decide (ar k ≤ 2) || inN (nN N) xc) = !v ∨ v = false → gOK (nN N) (nI k) xa xb xc = false := by
          intro v h7 h8
          unfold gOK
          rw [hkc, h7]
          rcases h8 with h8 | h8
          · rw [h8]; cases v <;> simp
          · rw [h8]; simp
        refine hg [90] 60 _ ?_
        refine br_c (fun h7 => ?_) (fun h7 => ?_)
        · exact absurd h7 (by decide)
        · refine h3 k (sF σ 0 (nI 0)) _ hk ?_
          refine br_c (fun h8 => ?_) (fun h8 => ?_)
          · exact absurd h8 (by decide)
          · refine br_c (fun h9 => ?_) (fun h9 => ?_)
            · have h9 : nI (ar k) ≤ nI 1 := h9
              have har := ar_pos k
              rw [nI_leI (by omega) (by omega)] at h9
              refine br_c (fun h10 => ?_) (fun h10 => ?_)
              · exact main k a 0 0 h40 hk rfl ha ea (fun q => by omega) (fun q => by omega)
              · have h10 : ¬ nI (ar k) ≤ nI 2 := h10
                rw [nI_leI (by omega) (by omega)] at h10
                omega
            · have h9 : ¬ nI (ar k) ≤ nI 1 := h9
              have har := ar_pos k
              rw [nI_leI (by omega) (by omega)] at h9
              refine h2 (nN N) xb (sF σ 0 (nI 0)) _ hB0.1.1 ?_
              refine br_c (fun h11 => ?_) (fun h11 => ?_)
              · refine And.intro trivial (hp1 (fail false ?_ (Or.inr rfl)))
                rw [bI_0.mp h11]; simp; omega
              · have hxb := bI_n0.mp h11
                obtain ⟨b, hb, eb⟩ := inN_t (by omega) hxb
                refine br_c (fun h10 => ?_) (fun h10 => ?_)
                · have h10 : nI (ar k) ≤ nI 2 := h10
                  rw [nI_leI (by omega) (by omega)] at h10
                  exact main k a b 0 h40 hk rfl ha ea (fun q => ⟨hb, eb⟩) (fun q => by omega)
                · have h10 : ¬ nI (ar k) ≤ nI 2 := h10
                  rw [nI_leI (by omega) (by omega)] at h10
                  refine h2 (nN N) xc (sF σ 0 (nI 0)) _ hB0.1.1 ?_
                  refine br_c (fun h12 => ?_) (fun h12 => ?_)
                  · refine And.intro trivial (hp1 (fail true ?_ (Or.inl ?_)))
                    · rw [hxb]; simp
                    · rw [bI_0.mp h12]; simp; omega
                  · obtain ⟨c, hc, ec⟩ := inN_t (by omega) (bI_n0.mp h12)
                    exact main k a b c h40 hk rfl ha ea (fun q => ⟨hb, eb⟩) (fun q => ⟨hc, ec⟩)
