/-! the component's Clustering: fill, countCrossing, isLimit, forget -/
/-- what is kept of the last filling -/
def cU (s : clS) (σ : jm_G) : Prop := ∃ fc fn, σ.1 36 0 3 = nI fc ∧ σ.1 36 0 4 = nI fn ∧ fc ≤ 8 ∧ fn ≤ 16 ∧ (fc ≠ 0 → σ.1 36 0 2 = nI (ouF s fn fc).1 ∧ ∀ c, c < s.1 → σ.1 37 0 c = nI ((ouF s fn fc).2.2.1 c))
/-- between two clusters -/
def ouR (n : Nat) (w : ous) (σ : jm_G) : Prop := σ.2 36 0 5 = lN w.2.1 ∧ σ.1 36 0 2 = nI w.1 ∧ ∀ c, c < n → w.2.1.testBit c = false → σ.1 37 0 c = nI (w.2.2.1 c)
abbrev ct_cfill (C : jm_C) : Prop := ∀ (s : clS) (nets most : Nat) (σ : jm_G) (post : Option jm_V → jm_G → Prop), clC s σ → clB s → s.1 ≤ 40 → cU s σ → 1 ≤ most → most ≤ 8 → nets ≤ 16 → (∀ σ', off 36 37 σ σ' → cU s σ' → σ'.1 36 0 2 = nI (ouF s nets most).1 → (∀ c, c < s.1 → σ'.1 37 0 c = nI ((ouF s nets most).2.2.1 c)) → post none σ') → C kX1_fill [jR 36 0, jI (nI most), jI (nI nets)] σ post
theorem T_cfill (L : Nat) {C : jm_C} (hC : jm_mon C) (h1 : ct_bit C) (h2 : ct_cwith C) (h3 : ct_ctake C) (h4 : ct_cbest C) : ct_cfill (jm_up L C) := by
  intro s nets most σ post hcl hB hs4 hU hm1 hm8 hn16 hp
  refine jm_start rfl (Nat.le_of_ble_eq_true rfl) hC fun X hg hw => ?_
  -- the whole is done
  have done : ∀ (τ : jm_G) (w : ous), off 36 37 σ τ → τ.1 36 0 3 = nI most → τ.1 36 0 4 = nI nets → ouR s.1 w τ → w.2.1 = 0 → w = ouF s nets most → post none τ := by
    intro τ w ho e3 e4 hR h0 ew
    subst ew
    have r5 : ∀ c, c < s.1 → τ.1 37 0 c = nI ((ouF s nets most).2.2.1 c) := fun c hc => hR.2.2 c hc (by rw [h0, Nat.zero_testBit])
    exact hp τ ho ⟨most, nets, e3, e4, hm8, hn16, fun _ => ⟨hR.2.1, r5⟩⟩ hR.2.1 r5
  have hF := (ouF_ok (nets := nets) (most := most) hB hs4 hm1).2
  -- a cluster
  have outer : ∀ (d t : Nat) (τ : jm_G) (w : ous), t + d = 40 → off 36 37 σ τ → τ.1 36 0 3 = nI most → τ.1 36 0 4 = nI nets → ouR s.1 w τ → ouI s s.1 w → ouC s nets most d w = ouF s nets most → X (τ, 50, [some (jR 36 0), some (jI (nI most)), some (jI (nI nets)), some (jI (nI t)), none, none], []) := by
    intro d
    induction d with
    | zero =>
      intro t τ w htd ho e3 e4 hR hI hE
      rw [ouC] at hE
      refine hg [50] 40 _ ?_
      refine br_c (fun _ => And.intro trivial (done τ w ho e3 e4 hR (by rw [hE]; exact hF) hE)) (fun h => ?_)
      exact absurd (show nI 40 ≤ nI t from nI_le (by omega) (by omega)) h
    | succ d ih =>
      intro t τ w htd ho e3 e4 hR hI hE
      have hclt := clC_off hcl ho (by omega)
      have hl : w.2.1 < 2 ^ 40 := lt40 hs4 hI.1
      refine hg [50, 93] 60 _ ?_
      refine br_c (fun h => ?_) (fun _ => ?_)
      · have h : nI 40 ≤ nI t := h
        rw [nI_leI (by omega) (by omega)] at h
        omega
      refine br_c (fun h => ?_) (fun h => ?_)
      · have h : lg_cmp (τ.2 36 0 5) (lN 0) = 0 := h
        rw [hR.1, cmp_0, lN_inj (by omega) (by omega)] at h
        rw [ouC_end ((bg_none hl).mpr h)] at hE
        exact And.intro trivial (done τ w ho e3 e4 hR h hE)
      · have h : ¬ lg_cmp (τ.2 36 0 5) (lN 0) = 0 := h
        rw [hR.1, cmp_0, lN_inj (by omega) (by omega)] at h
        cases hb : bgC s w.2.1 with
        | none => exact absurd ((bg_none hl).mp hb) h
        | some c =>
          have hcc := (amx_in 40 c hb).2
          have hcn := hI.1 c hcc
          rw [ouC, hb] at hE
          have hIn := (ouI_N (nets := nets) hB hs4 hm1 hI hb).1
          have hw1 := (ouI_N (nets := nets) hB hs4 hm1 hI hb).2
          -- the store with nothing in it
          have o2 : off 36 37 τ (wJ (wJ τ 36 0 (vp_updL (τ.2 36 0) 6 (lN 0))) 36 0 (vp_updL (vp_updL (τ.2 36 0) 6 (lN 0)) 7 (lN 0))) := off_wJ (off_wJ (off_refl _ _ _) (by omega) (by omega)) (by omega) (by omega)
          have R0 : cuR s.1 w.1 (w.2.1, w.2.2.1, 0, 0) (wJ (wJ τ 36 0 (vp_updL (τ.2 36 0) 6 (lN 0))) 36 0 (vp_updL (vp_updL (τ.2 36 0) 6 (lN 0)) 7 (lN 0))) := ⟨hR.1, rfl, rfl, hR.2.1, hR.2.2⟩
          have e36 : (wJ (wJ τ 36 0 (vp_updL (τ.2 36 0) 6 (lN 0))) 36 0 (vp_updL (vp_updL (τ.2 36 0) 6 (lN 0)) 7 (lN 0))).1 36 0 = τ.1 36 0 := rfl
          show C kX1_withMostNetsIn [jR 36 0] (wJ (wJ τ 36 0 (vp_updL (τ.2 36 0) 6 (lN 0))) 36 0 (vp_updL (vp_updL (τ.2 36 0) 6 (lN 0)) 7 (lN 0))) _
          generalize wJ (wJ τ 36 0 (vp_updL (τ.2 36 0) 6 (lN 0))) 36 0 (vp_updL (vp_updL (τ.2 36 0) 6 (lN 0)) 7 (lN 0)) = τ0 at o2 R0 e36
          have cl0 := clC_off hclt o2 (by omega)
          refine h2 s w.2.1 c τ0 _ cl0 hB hs4 R0.1 hI.1 hb ?_
          refine h3 s w.1 c _ τ0 _ cl0 hs4 hcn R0 fun τ1 o3 f3 R1 => ?_
          have cl1 := clC_off cl0 o3 (by omega)
          have I1 := inI_j hB (inI_0 s w.1 w.2.1 w.2.2.1) (c := c) hcc
          refine h4 s nets w.1 _ τ1 _ cl1 hB hs4 R1 (fun z hz => hI.1 z (I1.1 z hz)) I1.2.2.2.1 I1.2.2.2.2.1 (by omega) ?_
          -- what the cluster takes
          have inner : ∀ (e j : Nat) (υ : jm_G) (u : clu), j + e = most → 1 ≤ j → off 36 37 σ υ → υ.1 36 0 3 = nI most → υ.1 36 0 4 = nI nets → cuR s.1 w.1 u υ → inI s w.1 w.2.1 w.2.2.1 u → inL s nets w.1 e (nxC s nets u) u = inL s nets w.1 most (some c) (w.2.1, w.2.2.1, 0, 0) → X (υ, 93, [some (jR 36 0), some (jI (nI most)), some (jI (nI nets)), some (jI (nI t)), some (jI (oN (nxC s nets u))), some (jI (nI j))], []) := by
            have fin : ∀ (υ : jm_G) (u : clu) (x y : Int32), off 36 37 σ υ → υ.1 36 0 3 = nI most → υ.1 36 0 4 = nI nets → cuR s.1 w.1 u υ → inI s w.1 w.2.1 w.2.2.1 u → u = inL s nets w.1 most (some c) (w.2.1, w.2.2.1, 0, 0) → X (wI υ 36 0 (upd (υ.1 36 0) 2 (υ.1 36 0 2 + nI 1)), 50, [some (jR 36 0), some (jI (nI most)), some (jI (nI nets)), some (jI (nI t + nI 1)), some (jI x), some (jI y)], []) := by
              intro υ u x y ho2 f3 f4 Ru Iu eu
              refine hw _ _ _ [some (jR 36 0), some (jI (nI most)), some (jI (nI nets)), some (jI (nI t + nI 1)), none, none] _ (by repeat' first | exact trivial | exact rfl | apply And.intro) ?_
              rw [nI_add, Ru.2.2.2.1, nI_add]
              refine ih (t + 1) _ (ouN s nets most (some c) w) (by omega) (off_wI ho2 (by omega) (by omega)) f3 f4 ?_ hIn hE
              refine ⟨?_, rfl, ?_⟩
              · show υ.2 36 0 5 = lN (inL s nets w.1 most (some c) (w.2.1, w.2.2.1, 0, 0)).1
                rw [← eu]
                exact Ru.1
              · show ∀ z, z < s.1 → (inL s nets w.1 most (some c) (w.2.1, w.2.2.1, 0, 0)).1.testBit z = false → υ.1 37 0 z = nI ((inL s nets w.1 most (some c) (w.2.1, w.2.2.1, 0, 0)).2.1 z)
                rw [← eu]
                exact Ru.2.2.2.2
            intro e
            induction e with
            | zero =>
              intro j υ u hje hj ho2 f3 f4 Ru Iu hL
              rw [inL] at hL
              refine hg [50, 93] 60 _ ?_
              refine br_c (fun _ => fin υ u _ _ ho2 f3 f4 Ru Iu hL) (fun h => ?_)
              exact absurd (show nI most ≤ nI j from nI_le (by omega) (by omega)) h
            | succ e ih2 =>
              intro j υ u hje hj ho2 f3 f4 Ru Iu hL
              have clc := clC_off hcl ho2 (by omega)
              refine hg [50, 93] 60 _ ?_
              refine br_c (fun h => ?_) (fun _ => ?_)
              · have h : nI most ≤ nI j := h
                rw [nI_leI (by omega) (by omega)] at h
                omega
              cases hx : nxC s nets u with
              | none =>
                rw [hx, inL] at hL
                exact br_c (fun _ => fin υ u _ _ ho2 f3 f4 Ru Iu hL) (fun h => absurd rfl h)
              | some z =>
                have hz := nxC_in hx
                have hzn := hI.1 z (Iu.1 z hz.1)
                rw [hx, inL] at hL
                refine br_c (fun h => absurd h (oN_none (by omega))) (fun _ => ?_)
                refine h3 s w.1 z u υ _ clc hs4 hzn Ru fun υ1 o4 g4 R4 => ?_
                have cl4 := clC_off clc o4 (by omega)
                have I4 := inI_j hB Iu hz.1
                refine h4 s nets w.1 _ υ1 _ cl4 hB hs4 R4 (fun y hy => hI.1 y (I4.1 y hy)) I4.2.2.2.1 I4.2.2.2.2.1 (by omega) ?_
                show X (υ1, 93, [some (jR 36 0), some (jI (nI most)), some (jI (nI nets)), some (jI (nI t)), some (jI (oN (nxC s nets (jnC s w.1 z u)))), some (jI (nI j + nI 1))], [])
                rw [nI_add]
                exact ih2 (j + 1) υ1 _ (by omega) (by omega) (off_trans ho2 o4) (by rw [g4]; exact f3) (by rw [g4]; exact f4) R4 I4 hL
          refine inner (most - 1) 1 τ1 _ (by omega) (by omega) (off_trans (off_trans ho o2) o3) (by rw [f3, e36]; exact e3) (by rw [f3, e36]; exact e4) R1 I1 ?_
          obtain ⟨m2, rfl⟩ : ∃ m2, most = m2 + 1 := ⟨most - 1, by omega⟩
          rw [inL]
          rfl
  -- it begins
  have strt : X (wI (wJ (wI (wI σ 36 0 (upd (σ.1 36 0) 3 (nI most))) 36 0 (upd (upd (σ.1 36 0) 3 (nI most)) 4 (nI nets))) 36 0 (vp_updL (σ.2 36 0) 5 (lN (2 ^ s.1) - lN 1))) 36 0 (upd (upd (upd (σ.1 36 0) 3 (nI most)) 4 (nI nets)) 2 (nI 0)), 50, [some (jR 36 0), some (jI (nI most)), some (jI (nI nets)), some (jI (nI 0)), none, none], []) := by
    rw [lN_sub (Nat.two_pow_pos s.1)]
    refine outer 40 0 _ (ou0 s.1) (by omega) (off_wI (off_wJ (off_wI (off_wI (off_refl _ _ _) (by omega) (by omega)) (by omega) (by omega)) (by omega) (by omega)) (by omega) (by omega)) rfl rfl ?_ (ouI_0 hs4) rfl
    refine ⟨rfl, rfl, fun c hc h => ?_⟩
    have h : (2 ^ s.1 - 1).testBit c = false := h
    rw [Nat.testBit_two_pow_sub_one] at h
    simp at h
    omega
  obtain ⟨fc, fn, u3, u4, ufc, ufn, uF⟩ := hU
  refine hg [50] 90 _ ?_
  refine br_c (fun a => ?_) (fun a => ?_)
  · have a : nI most = σ.1 36 0 3 := a
    rw [u3, nI_eq (by omega) (by omega)] at a
    refine br_c (fun b => ?_) (fun b => ?_)
    · have b : nI nets = σ.1 36 0 4 := b
      rw [u4, nI_eq (by omega) (by omega)] at b
      have z := uF (by omega)
      rw [← a, ← b] at z
      exact And.intro trivial (hp σ (off_refl _ _ _) ⟨fc, fn, u3, u4, ufc, ufn, uF⟩ z.1 z.2)
    · refine c_bit h1 (n := s.1) (show σ.1 29 0 10 = nI s.1 from hcl.1) (by omega) ?_
      exact strt
  · refine c_bit h1 (n := s.1) (show σ.1 29 0 10 = nI s.1 from hcl.1) (by omega) ?_
    exact strt
