/-! the component's Clustering -/
theorem clC_off {s : clS} {lo hi : Nat} {σ σ' : jm_G} (h : clC s σ) (ho : off lo hi σ σ') (h1 : 36 ≤ lo) : clC s σ' := ⟨by rw [(ho 29 0 (by omega)).1]; exact h.1, fun c hc => by
  rw [(ho 33 0 (by omega)).2, (ho 34 0 (by omega)).2, (ho 35 0 (by omega)).2]; exact h.2 c hc⟩
/-- the cluster that is filled -/
def cuR (n k : Nat) (u : clu) (σ : jm_G) : Prop := σ.2 36 0 5 = lN u.1 ∧ σ.2 36 0 6 = lN u.2.2.1 ∧ σ.2 36 0 7 = lN u.2.2.2 ∧ σ.1 36 0 2 = nI k ∧ ∀ c, c < n → u.1.testBit c = false → σ.1 37 0 c = nI (u.2.1 c)
abbrev ct_ctake (C : jm_C) : Prop := ∀ (s : clS) (k c : Nat) (u : clu) (σ : jm_G) (post : Option jm_V → jm_G → Prop), clC s σ → s.1 ≤ 40 → c < s.1 → cuR s.1 k u σ → (∀ σ', off 36 37 σ σ' → σ'.1 36 0 = σ.1 36 0 → cuR s.1 k (jnC s k c u) σ' → post none σ') → C kX1_take [jR 36 0, jI (nI c)] σ post
theorem T_ctake (L : Nat) {C : jm_C} (hC : jm_mon C) (h1 : ct_netsOut C) (h2 : ct_bit C) : ct_ctake (jm_up L C) := by
  intro s k c u σ post hcl hs4 hc hR hp
  refine jm_start rfl (Nat.le_of_ble_eq_true rfl) hC fun X hg hw => ?_
  have ec : (nI c).toNatClampNeg = c := nI_clamp (by omega)
  have hin : vp_in (nI c) 40 := vp_in_nI (by omega) (by omega)
  obtain ⟨r1, r2, r3, r4, r5⟩ := hR
  refine hg [] 60 _ ?_
  refine And.intro hin ?_
  refine And.intro hin ?_
  refine h1 s c _ _ (clC_off (lo := 36) (hi := 37) hcl (off_wJ (off_wI (off_refl _ _ _) (by omega) (by omega)) (by omega) (by omega)) (by omega)) hc hs4 ?_
  refine h2 c _ _ (by omega) ?_
  refine And.intro trivial ?_
  refine hp _ (off_wJ (off_wJ (off_wJ (off_wI (off_refl _ _ _) (by omega) (by omega)) (by omega) (by omega)) (by omega) (by omega)) (by omega) (by omega)) rfl ⟨?_, ?_, ?_, ?_, ?_⟩
  · show σ.2 36 0 5 &&& (lN (2 ^ c) ^^^ (-1)) = lN (sD u.1 (2 ^ c))
    rw [r1, lN_andn]
  · show σ.2 36 0 6 ||| σ.2 35 0 (nI c).toNatClampNeg = lN (u.2.2.1 ||| cuI s c)
    rw [r2, ec, (hcl.2 c hc).2.2, fb_orL]
    rfl
  · show σ.2 36 0 7 ||| lN (s.2.1 c ||| s.2.2.1 c) = lN (u.2.2.2 ||| cuO s c)
    rw [r3, fb_orL]
    rfl
  · exact r4
  · intro d hd hz
    have hz : (sD u.1 (2 ^ c)).testBit d = false := hz
    show upd (σ.1 37 0) (nI c).toNatClampNeg (σ.1 36 0 2) d = nI (if d = c then k else u.2.1 d)
    rw [ec, upd_at]
    by_cases e : d = c
    · rw [if_pos e, if_pos e]; exact r4
    · rw [if_neg e, if_neg e]
      rw [sD_pw] at hz
      exact r5 d hd (by simpa [e] using hz)
abbrev ct_cwith (C : jm_C) : Prop := ∀ (s : clS) (l m : Nat) (σ : jm_G) (post : Option jm_V → jm_G → Prop), clC s σ → clB s → s.1 ≤ 40 → σ.2 36 0 5 = lN l → (∀ c, l.testBit c = true → c < s.1) → bgC s l = some m → post (some (jI (nI m))) σ → C kX1_withMostNetsIn [jR 36 0] σ post
theorem T_cwith (L : Nat) {C : jm_C} (hC : jm_mon C) (h1 : ct_low C) (h2 : ct_bc C) : ct_cwith (jm_up L C) := by
  intro s S m σ post hcl hB hs4 h5 hSn hm hp
  refine jm_start rfl (Nat.le_of_ble_eq_true rfl) hC fun X hg hw => ?_
  have hS : S < 2 ^ 40 := lt40 hs4 hSn
  have hS0 : S ≠ 0 := by
    intro e
    have := (amx_in 40 m hm).2
    rw [e, Nat.zero_testBit] at this
    cases this
  obtain ⟨k0, hb0, hlow⟩ := low_ex hS0
  have hk0 : k0 < 40 := bit_lt hS hb0
  have hm : amx (fun c => cnt (cuI s c) 40) S 40 = some m := hm
  refine hg [13] 20 _ ?_
  refine c_low h1 (S := S) (k := k0) (by rw [hi_low hlow]; exact h5) (p40 hS) hb0 ?_
  show X (σ, 13, [some (jR 36 0), some (jI (nI k0)), some (jJ (σ.2 36 0 5)), none, none], [])
  rw [h5]
  have main := jm_bits (X := X) S (fun k => (σ, 13, [some (jR 36 0), some (jI (nI ((amx (fun c => cnt (cuI s c) 40) S k).getD k0))), some (jJ (lN (hi S k))), none, none], [])) 40 ?_ ?_ ?_ 0 (by omega)
  · have main : X (σ, 13, [some (jR 36 0), some (jI (nI k0)), some (jJ (lN (hi S 0))), none, none], []) := main
    rw [hi_0] at main
    exact main
  · show X (σ, 13, [some (jR 36 0), some (jI (nI ((amx (fun c => cnt (cuI s c) 40) S 40).getD k0))), some (jJ (lN (hi S 40))), none, none], [])
    rw [hi_end hS, hm]
    refine hg [] 30 _ ?_
    refine br_c (fun h => ?_) (fun h => ?_)
    · exact And.intro trivial hp
    · exact absurd ((cmp_0 _ _).mpr rfl) h
  · intro k hk hb
    simp only [amx_f hb, hi_skip hb]
  · intro k hk hb ih
    have hq : S.testBit ((amx (fun c => cnt (cuI s c) 40) S k).getD k0) = true := by
      cases q : amx (fun c => cnt (cuI s c) 40) S k with
      | none => exact hb0
      | some z => exact (amx_in k z q).2
    have hq4 := bit_lt hS hq
    have hqn := hSn _ hq
    have hkn := hSn _ hb
    have e1 : σ.2 35 0 (nI k).toNatClampNeg = lN (cuI s k) := by rw [nI_clamp (by omega)]; exact (hcl.2 k hkn).2.2
    have e2 : σ.2 35 0 (nI ((amx (fun c => cnt (cuI s c) 40) S k).getD k0)).toNatClampNeg = lN (cuI s ((amx (fun c => cnt (cuI s c) 40) S k).getD k0)) := by rw [nI_clamp (by omega)]; exact (hcl.2 _ hqn).2.2
    have c1 : cnt (cuI s k) 40 ≤ 40 := cnt_le _ _
    have c2 : cnt (cuI s ((amx (fun c => cnt (cuI s c) 40) S k).getD k0)) 40 ≤ 40 := cnt_le _ _
    refine hg [13] 40 _ ?_
    refine br_c (fun h => ?_) (fun h => ?_)
    · exact absurd h (hi_n0 hS hb)
    · refine h1 S k σ _ (p40 hS) hb ?_
      refine And.intro (vp_in_nI (by omega) (by omega)) ?_
      refine c_bc h2 (S := cuI s k) e1 (Nat.lt_trans (cuI_lt hB k) (by omega)) ?_
      refine And.intro (vp_in_nI hq4 (by omega)) ?_
      refine c_bc h2 (S := cuI s ((amx (fun c => cnt (cuI s c) 40) S k).getD k0)) e2 (Nat.lt_trans (cuI_lt hB _) (by omega)) ?_
      rw [cnt64 (cuI_lt hB _), cnt64 (cuI_lt hB _)]
      refine br_c (fun h3 => ?_) (fun h3 => ?_)
      · have h3 : nI (cnt (cuI s k) 40) ≤ nI (cnt (cuI s ((amx (fun c => cnt (cuI s c) 40) S k).getD k0)) 40) := h3
        rw [nI_leI (by omega) (by omega)] at h3
        refine hw _ _ _ [some (jR 36 0), some (jI (nI ((amx (fun c => cnt (cuI s c) 40) S k).getD k0))), some (jJ (lN (hi S k) &&& (lN (hi S k) - lN 1))), none, none] _ (by repeat' first | exact trivial | exact rfl | apply And.intro) ?_
        refine jm_eqv (X := X) ih rfl rfl ?_ rfl
        have e : (amx (fun c => cnt (cuI s c) 40) S (k + 1)).getD k0 = (amx (fun c => cnt (cuI s c) 40) S k).getD k0 := by
          rw [amx_t hb]
          cases q : amx (fun c => cnt (cuI s c) 40) S k with
          | none =>
            show k = k0
            have := (amx_none k).mp q
            rcases Nat.lt_trichotomy k k0 with c | c | c
            · have := hlow k c; rw [hb] at this; cases this
            · exact c
            · have := this k0 c; rw [hb0] at this; cases this
          | some z =>
            rw [q] at h3
            have h3 : cnt (cuI s k) 40 ≤ cnt (cuI s z) 40 := h3
            show (if cnt (cuI s z) 40 < cnt (cuI s k) 40 then some k else some z).getD k0 = z
            rw [if_neg (by omega)]
            rfl
        rw [nxt hb, e]
      · have h3 : ¬ nI (cnt (cuI s k) 40) ≤ nI (cnt (cuI s ((amx (fun c => cnt (cuI s c) 40) S k).getD k0)) 40) := h3
        rw [nI_leI (by omega) (by omega)] at h3
        refine hw _ _ _ [some (jR 36 0), some (jI (nI k)), some (jJ (lN (hi S k) &&& (lN (hi S k) - lN 1))), none, none] _ (by repeat' first | exact trivial | exact rfl | apply And.intro) ?_
        refine jm_eqv (X := X) ih rfl rfl ?_ rfl
        have e : (amx (fun c => cnt (cuI s c) 40) S (k + 1)).getD k0 = k := by
          rw [amx_t hb]
          cases q : amx (fun c => cnt (cuI s c) 40) S k with
          | none => rfl
          | some z =>
            rw [q] at h3
            have h3 : ¬ cnt (cuI s k) 40 ≤ cnt (cuI s z) 40 := h3
            show (if cnt (cuI s z) 40 < cnt (cuI s k) 40 then some k else some z).getD k0 = k
            rw [if_pos (by omega)]
            rfl
        rw [nxt hb, e]
/-- the worth of the best so far -/
def amV (v : Nat → Nat) (o : Option Nat) : Int32 := match o with
  | none => -(nI 1)
  | some m => nI (v m)
theorem nxS_bit {s : clS} {nets : Nat} {u : clu} (hu : u.1 < 2 ^ 40) (k : Nat) : (nxS s nets u).testBit k = (u.1.testBit k && decide (cou s u.2.2.1 u.2.2.2 k ≤ nets)) := by
  unfold nxS
  rw [mk_bit]
  cases hb : u.1.testBit k with
  | false => simp
  | true => have := bit_lt hu hb; simp [this]
abbrev ct_cbest (C : jm_C) : Prop := ∀ (s : clS) (nets k : Nat) (u : clu) (σ : jm_G) (post : Option jm_V → jm_G → Prop), clC s σ → clB s → s.1 ≤ 40 → cuR s.1 k u σ → (∀ c, u.1.testBit c = true → c < s.1) → u.2.2.1 < 2 ^ 40 → u.2.2.2 < 2 ^ 40 → nets ≤ 100 → post (some (jI (oN (nxC s nets u)))) σ → C kX1_bestToCome [jR 36 0, jI (nI nets)] σ post
theorem T_cbest (L : Nat) {C : jm_C} (hC : jm_mon C) (h1 : ct_low C) (h2 : ct_netsOut C) (h3 : ct_bc C) : ct_cbest (jm_up L C) := by
  intro s nets kk u σ post hcl hB hs4 hR hun hu3 hu4 hnets hp
  refine jm_start rfl (Nat.le_of_ble_eq_true rfl) hC fun X hg hw => ?_
  obtain ⟨r1, r2, r3, -, -⟩ := hR
  have hu : u.1 < 2 ^ 40 := lt40 hs4 hun
  refine hg [10] 20 _ ?_
  show X (σ, 10, [some (jR 36 0), some (jI (nI nets)), some (jI (-(nI 1))), some (jI (-(nI 1))), some (jJ (σ.2 36 0 5)), none, none, none, none, none, none, none, none], [])
  rw [r1]
  have hp : post (some (jI (oN (amx (csh s u.2.2.1 u.2.2.2) (nxS s nets u) 40)))) σ := hp
  have eS : ∀ k, cnt ((cuI s k ||| cuO s k) &&& (u.2.2.1 ||| u.2.2.2)) 40 = csh s u.2.2.1 u.2.2.2 k := fun _ => rfl
  have eO : ∀ k, cnt (sD (u.2.2.1 ||| cuI s k) (u.2.2.2 ||| cuO s k)) 40 = cou s u.2.2.1 u.2.2.2 k := fun _ => rfl
  have bS : ∀ k, csh s u.2.2.1 u.2.2.2 k ≤ 40 := fun _ => cnt_le _ _
  have bO : ∀ k, cou s u.2.2.1 u.2.2.2 k ≤ 40 := fun _ => cnt_le _ _
  have nb := nxS_bit (s := s) (nets := nets) hu
  generalize csh s u.2.2.1 u.2.2.2 = sh at hp eS bS
  generalize nxS s nets u = T at hp nb
  have main := jm_bits (X := X) u.1 (fun k => (σ, 10, [some (jR 36 0), some (jI (nI nets)), some (jI (oN (amx sh T k))), some (jI (amV sh (amx sh T k))), some (jJ (lN (hi u.1 k))), none, none, none, none, none, none, none, none], [])) 40 ?_ ?_ ?_ 0 (by omega)
  · have main : X (σ, 10, [some (jR 36 0), some (jI (nI nets)), some (jI (-(nI 1))), some (jI (-(nI 1))), some (jJ (lN (hi u.1 0))), none, none, none, none, none, none, none, none], []) := main
    rw [hi_0] at main
    exact main
  · show X (σ, 10, [some (jR 36 0), some (jI (nI nets)), some (jI (oN (amx sh T 40))), some (jI (amV sh (amx sh T 40))), some (jJ (lN (hi u.1 40))), none, none, none, none, none, none, none, none], [])
    rw [hi_end hu]
    refine hg [] 30 _ ?_
    exact br_c (fun _ => And.intro trivial hp) (fun h => absurd ((cmp_0 _ _).mpr rfl) h)
  · intro k hk hb
    have hT : T.testBit k = false := by rw [nb, hb]; rfl
    simp only [amx_f hT, hi_skip hb]
  · intro k hk hb ih
    have ih : X (σ, 10, [some (jR 36 0), some (jI (nI nets)), some (jI (oN (amx sh T (k + 1)))), some (jI (amV sh (amx sh T (k + 1)))), some (jJ (lN (hi u.1 (k + 1)))), none, none, none, none, none, none, none, none], []) := ih
    have hkn := hun k hb
    have ek : (nI k).toNatClampNeg = k := nI_clamp (by omega)
    have e35 : σ.2 35 0 (nI k).toNatClampNeg = lN (cuI s k) := by rw [ek]; exact (hcl.2 k hkn).2.2
    have l1 := cuI_lt hB k
    have l2 := cuO_lt hB k
    have l3 : (cuI s k ||| cuO s k) &&& (u.2.2.1 ||| u.2.2.2) < 2 ^ 40 := Nat.lt_of_le_of_lt Nat.and_le_left (or_lt l1 l2)
    have l4 : sD (u.2.2.1 ||| cuI s k) (u.2.2.2 ||| cuO s k) < 2 ^ 40 := sD_lt (or_lt hu3 l1)
    have bSk := bS k
    have bOk := bO k
    refine hg [10, 91] 90 _ ?_
    refine br_c (fun h => absurd h (hi_n0 hu hb)) (fun _ => ?_)
    refine h1 u.1 k σ _ (p40 hu) hb ?_
    refine And.intro (vp_in_nI (by omega) (by omega)) ?_
    refine h2 s k σ _ hcl hkn hs4 ?_
    refine c_bc h3 (S := (cuI s k ||| cuO s k) &&& (u.2.2.1 ||| u.2.2.2)) (show (σ.2 35 0 (nI k).toNatClampNeg ||| lN (cuO s k)) &&& (σ.2 36 0 6 ||| σ.2 36 0 7) = _ by rw [e35, r2, r3, fb_orL, fb_orL, fb_andL]) (Nat.lt_trans l3 (by omega)) ?_
    refine c_bc h3 (S := sD (u.2.2.1 ||| cuI s k) (u.2.2.2 ||| cuO s k)) (show (σ.2 36 0 6 ||| σ.2 35 0 (nI k).toNatClampNeg) &&& ((σ.2 36 0 7 ||| lN (cuO s k)) ^^^ (-1)) = _ by rw [e35, r2, r3, fb_orL, fb_orL, lN_andn]) (Nat.lt_trans l4 (by omega)) ?_
    rw [cnt64 l3, cnt64 l4, eS, eO]
    have stay : (T.testBit k = true → ∃ m, amx sh T k = some m ∧ sh k ≤ sh m) → X (σ, 10, [some (jR 36 0), some (jI (nI nets)), some (jI (oN (amx sh T k))), some (jI (amV sh (amx sh T k))), some (jJ (lN (hi u.1 k) &&& (lN (hi u.1 k) - lN 1))), none, none, none, none, none, none, none, none], []) := by
      intro q
      rw [nxt hb]
      have e : amx sh T (k + 1) = amx sh T k := by
        cases hT : T.testBit k with
        | false => exact amx_f hT
        | true =>
          obtain ⟨m, m1, m2⟩ := q hT
          rw [amx_t hT, m1]
          show (if sh m < sh k then some k else some m) = some m
          rw [if_neg (by omega)]
      rw [e] at ih
      exact ih
    show X (σ, 91, [some (jR 36 0), some (jI (nI nets)), some (jI (oN (amx sh T k))), some (jI (amV sh (amx sh T k))), some (jJ (lN (hi u.1 k))), none, some (jI (nI k)), some (jJ (σ.2 35 0 (nI k).toNatClampNeg)), none, some (jJ (lN (s.2.1 k ||| s.2.2.1 k))), none, some (jI (nI (sh k))), some (jI (nI (cou s u.2.2.1 u.2.2.2 k)))], [])
    refine hw _ _ _ [some (jR 36 0), some (jI (nI nets)), some (jI (oN (amx sh T k))), some (jI (amV sh (amx sh T k))), some (jJ (lN (hi u.1 k))), none, some (jI (nI k)), none, none, none, none, some (jI (nI (sh k))), some (jI (nI (cou s u.2.2.1 u.2.2.2 k)))] _ (by repeat' first | exact trivial | exact rfl | apply And.intro) ?_
    generalize oN (amx sh T k) = vA at stay
    generalize hV : amV sh (amx sh T k) = vB at stay
    refine hg [10] 60 _ ?_
    refine br_c (fun z => ?_) (fun z => ?_)
    · have z : nI (sh k) ≤ amV sh (amx sh T k) := by rw [hV]; exact z
      refine hw _ _ _ [some (jR 36 0), some (jI (nI nets)), some (jI vA), some (jI vB), some (jJ (lN (hi u.1 k) &&& (lN (hi u.1 k) - lN 1))), none, none, none, none, none, none, none, none] _ (by repeat' first | exact trivial | exact rfl | apply And.intro) ?_
      refine stay fun _ => ?_
      cases q : amx sh T k with
      | none =>
        rw [q] at z
        exact absurd z (Int32.not_le.mpr (m1_ltI (by omega)))
      | some m =>
        rw [q] at z
        have z : nI (sh k) ≤ nI (sh m) := z
        have := bS m
        rw [nI_leI (by omega) (by omega)] at z
        exact ⟨m, rfl, z⟩
    · have z : ¬ nI (sh k) ≤ amV sh (amx sh T k) := by rw [hV]; exact z
      refine br_c (fun w => ?_) (fun w => ?_)
      · have w : nI nets < nI (cou s u.2.2.1 u.2.2.2 k) := w
        rw [nI_ltI (by omega) (by omega)] at w
        refine hw _ _ _ [some (jR 36 0), some (jI (nI nets)), some (jI vA), some (jI vB), some (jJ (lN (hi u.1 k) &&& (lN (hi u.1 k) - lN 1))), none, none, none, none, none, none, none, none] _ (by repeat' first | exact trivial | exact rfl | apply And.intro) ?_
        refine stay fun hT => ?_
        rw [nb, hb, Bool.true_and, decide_eq_true_eq] at hT
        omega
      · have w : ¬ nI nets < nI (cou s u.2.2.1 u.2.2.2 k) := w
        rw [nI_ltI (by omega) (by omega)] at w
        have hT : T.testBit k = true := by rw [nb, hb, Bool.true_and, decide_eq_true_eq]; omega
        have e : amx sh T (k + 1) = some k := by
          rw [amx_t hT]
          cases q : amx sh T k with
          | none => rfl
          | some m =>
            rw [q] at z
            have z : ¬ nI (sh k) ≤ nI (sh m) := z
            have := bS m
            rw [nI_leI (by omega) (by omega)] at z
            show (if sh m < sh k then some k else some m) = some k
            rw [if_pos (by omega)]
        rw [e] at ih
        refine hw _ _ _ [some (jR 36 0), some (jI (nI nets)), some (jI (nI k)), some (jI (nI (sh k))), some (jJ (lN (hi u.1 k) &&& (lN (hi u.1 k) - lN 1))), none, none, none, none, none, none, none, none] _ (by repeat' first | exact trivial | exact rfl | apply And.intro) ?_
        rw [nxt hb]
        exact ih
