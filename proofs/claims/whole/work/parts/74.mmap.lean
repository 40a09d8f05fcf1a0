/-! the model's map, tablesBy, choosesAgain -/
def mgA : List Nat := [44, 45, 46, 47, 48, 49, 50, 51, 52, 53, 54, 55]
def mgB : List Nat := [0, 8, 9, 17, 21, 25]
abbrev ct_mmap (C : jm_C) : Prop := ∀ (N : nw) (K : Nat) (σ : jm_G) (post : Option jm_V → jm_G → Prop), nw_ok N → mN N σ → 3 ≤ K → K ≤ 6 → σ.1 38 0 7 = nI K → mLd N K σ → (∀ σ', mf mgA mgB σ σ' → σ'.1 38 0 8 = bI true → mL N K (nN N) σ' → σ'.1 38 0 9 = bI true → mCh N (nea N K) σ' → post (some (jI (nI (cnt (tbs N (nea N K)) 40)))) σ') → C kX10_map [jR 38 0] σ post
theorem T_mmap (L : Nat) {C : jm_C} (hC : jm_mon C) (h1 : ct_lays C) (h2 : ct_looks C) (h3 : ct_mmany C) : ct_mmap (jm_up L C) := by
  intro N K σ post hok hN hK hK6 h7 hLd hp
  refine jm_start rfl (Nat.le_of_ble_eq_true rfl) hC fun X hg hw => ?_
  have h40 := hok.1
  refine hg [11] 30 _ ?_
  obtain ⟨b, b1, b2⟩ := mLd_th hLd (k := 0) (by omega) (nI 0)
  refine h1 N K b (sF σ 0 (nI 0)) _ hok (mN_sF hN (by omega) _) hK hK6 (by rw [sF_1, if_neg (by omega)]; exact h7) b1 b2 fun τ o1 o2 o3 => ?_
  have hf : mf mgA mgB σ τ := mf_trans (mf_sF (mf_refl _ _ _) (by decide)) (mf_wide o1 (by decide) (by decide))
  have hNt : mN N τ := mN_mf hN hf (by decide) (by decide)
  have hcO := nea_ok hok o2.2.2
  show X (τ, 11, [some (jR 38 0), some (jI (nI 0))], [])
  have gen : ∀ (d n : Nat), n + d = nN N → ∀ (υ : jm_G), mf [53] [] τ υ → (∀ j, j < n → υ.2 53 0 j = lN (nea N K j)) → X (υ, 11, [some (jR 38 0), some (jI (nI n))], []) := by
    intro d
    induction d with
    | zero =>
      intro n hnd υ hu hr
      have e : n = nN N := by omega
      subst e
      have hNu := mN_mf hNt hu (by decide) (by decide)
      refine hg [11] 60 _ ?_
      refine br_c (fun _ => ?_) (fun h => ?_)
      · refine And.intro (Or.inr rfl) ?_
        have hu2 : mf [53] [8] τ (wI υ 38 0 (upd (υ.1 38 0) 8 (nI 1))) := mf_sF (mf_wide hu (by decide) (by decide)) (by decide)
        refine h2 N (nea N K) (wI υ 38 0 (upd (υ.1 38 0) 8 (nI 1))) _ hok (mN_mf hNt hu2 (by decide) (by decide)) (fun g hgg => hr g (isG_lt hgg)) (chOK_L hcO) fun ω q1 q2 q3 => ?_
        have hT := tbs_lt hok (nea N K)
        refine c_mmany h3 q2 (p40 hT) ?_
        have hu3 : mf [53, 54] [8, 25] τ ω := mf_trans (mf_wide hu2 (by decide) (by decide)) (mf_wide q1 (by decide) (by decide))
        refine And.intro trivial (hp ω (mf_trans hf (mf_wide hu3 (by decide) (by decide))) ?_ (mL_mf o2 hu3 (by decide)) ?_ (fun g hgg => ?_))
        · rw [(q1.2 0 8 (by decide)).1]
          show upd (υ.1 38 0) 8 (nI 1) 8 = _
          rw [upd_at, if_pos rfl]
          rfl
        · rw [(hu3.2 0 9 (by decide)).1]; exact o3
        · rw [(q1.1 53 0 (by omega) (by decide)).2]; exact hr g (isG_lt hgg)
      · have h : ¬ υ.1 38 0 1 ≤ nI (nN N) := h
        rw [hNu.1, nI_leI (by omega) (by omega)] at h
        omega
    | succ d ih =>
      intro n hnd υ hu hr
      have hNu := mN_mf hNt hu (by decide) (by decide)
      have en : (nI n).toNatClampNeg = n := nI_clamp (by omega)
      have hin : vp_in (nI n) 40 := vp_in_nI (by omega) (by omega)
      refine hg [11] 60 _ ?_
      refine br_c (fun h => ?_) (fun _ => ?_)
      · have h : υ.1 38 0 1 ≤ nI n := h
        rw [hNu.1, nI_leI (by omega) (by omega)] at h
        omega
      · refine And.intro hin ?_
        refine And.intro hin ?_
        show X (wJ υ 53 0 (vp_updL (υ.2 53 0) (nI n).toNatClampNeg (υ.2 45 0 (nI n).toNatClampNeg)), 11, [some (jR 38 0), some (jI (nI n + nI 1))], [])
        rw [en, nI_add, (hu.1 45 0 (by omega) (by decide)).2, (o2.1 n (by omega)).2]
        refine ih (n + 1) (by omega) _ (mf_wJ hu (by decide) (by decide)) fun j hj => ?_
        rw [wJ2, if_pos ⟨rfl, rfl⟩, updL_at]
        by_cases e : j = n
        · rw [if_pos e, e]
        · rw [if_neg e]; exact hr j (by omega)
  exact gen (nN N) 0 (by omega) τ (mf_refl _ _ _) fun j hj => absurd hj (by omega)
abbrev ct_tabBy (C : jm_C) : Prop := ∀ (N : nw) (ch : Nat → Nat) (g c : Nat) (σ : jm_G) (v : Int64) (post : Option jm_V → jm_G → Prop), nw_ok N → mN N σ → mCh N ch σ → isG N g = true → v = lN c → (∀ σ', mf [53] [25] σ σ' → (∀ j, σ'.2 53 0 j = σ.2 53 0 j) → σ'.2 38 0 25 = lN (tbs N (add1 g ch c)) → post (some (jI (nI (bsC N ch g c)))) σ') → C kX10_tablesBy [jR 38 0, jI (nI g), jJ v] σ post
theorem T_tabBy (L : Nat) {C : jm_C} (hC : jm_mon C) (h1 : ct_laysT C) (h2 : ct_mmany C) : ct_tabBy (jm_up L C) := by
  intro N ch g c σ v post hok hN hch hgt hv hp
  subst hv
  refine jm_start rfl (Nat.le_of_ble_eq_true rfl) hC fun X hg hw => ?_
  have h40 := hok.1
  have hgn := isG_lt hgt
  have eg : (nI g).toNatClampNeg = g := nI_clamp (by omega)
  have hin : vp_in (nI g) 40 := vp_in_nI (by omega) (by omega)
  refine hg [] 60 _ ?_
  refine And.intro hin ?_
  refine And.intro hin ?_
  have f1 : mf [53] [25] σ (wJ σ 53 0 (vp_updL (σ.2 53 0) (nI g).toNatClampNeg (lN c))) := mf_wJ (mf_refl _ _ _) (by decide) (by decide)
  refine h1 N (add1 g ch c) _ _ hok (mN_mf hN f1 (by decide) (by decide)) (fun z hz => ?_) fun τ o1 o2 => ?_
  · show vp_updL (σ.2 53 0) (nI g).toNatClampNeg (lN c) z = _
    rw [eg, updL_at]
    by_cases e : z = g
    · rw [if_pos e, e, add1_q]
    · rw [if_neg e, hch z hz]
      show _ = lN (if z = g then _ else _)
      rw [if_neg e]
  · refine And.intro hin ?_
    have hT := tbs_lt hok (add1 g ch c)
    refine c_mmany h2 (S := tbs N (add1 g ch c)) o2 (p40 hT) ?_
    refine And.intro trivial ?_
    refine hp _ (mf_wJ (mf_trans f1 (mf_wide o1 (by decide) (by decide))) (by decide) (by decide)) (fun j => ?_) o2
    show vp_updL (τ.2 53 0) (nI g).toNatClampNeg (σ.2 53 0 (nI g).toNatClampNeg) j = _
    rw [eg, updL_at, (o1.1 53 0 (by omega) (by decide)).2]
    show (if j = g then σ.2 53 0 g else vp_updL (σ.2 53 0) (nI g).toNatClampNeg (lN c) j) = _
    rw [eg, updL_at]
    by_cases e : j = g
    · rw [if_pos e, e]
    · rw [if_neg e, if_neg e]
abbrev ct_choosesA (C : jm_C) : Prop := ∀ (N : nw) (K g d : Nat) (ch : Nat → Nat) (σ : jm_G) (post : Option jm_V → jm_G → Prop), nw_ok N → mN N σ → mL N K (nN N) σ → chOK N K ch → mCh N ch σ → mArr N ch σ → σ.1 55 0 g = dI d → d ≤ 1100 → isG N g = true → (∀ σ', mf [53, 54] [25] σ σ' → mCh N (add1 g ch (bstC N K ch g d)) σ' → σ'.2 38 0 25 = lN (tbs N (add1 g ch (bstC N K ch g d))) → mArr N (add1 g ch (bstC N K ch g d)) σ' → post none σ') → C kX10_choosesAgain [jR 38 0, jI (nI g)] σ post
theorem T_choosesA (L : Nat) {C : jm_C} (hC : jm_mon C) (h1 : ct_tabBy C) (h2 : ct_marrBy C) (h3 : ct_looks C) : ct_choosesA (jm_up L C) := by
  intro N K g d ch σ post hok hN hL hcO hch harr hdue hd hgt hp
  refine jm_start rfl (Nat.le_of_ble_eq_true rfl) hC fun X hg hw => ?_
  have h40 := hok.1
  have hgn := isG_lt hgt
  have hl := chOK_L hcO
  have c0 := (hcO g hgt).1
  have kOK : ∀ c, c < (kp N K g).1 → cOK K g ((kp N K g).2 c) := kp_ok hok hL.2.2 g hgn
  obtain ⟨k8, e51, e50⟩ := hL.2.1 g hgn
  have eg : (nI g).toNatClampNeg = g := nI_clamp (by omega)
  have hin : vp_in (nI g) 40 := vp_in_nI (by omega) (by omega)
  have eA : ∀ x, 1 + mxL (arv N ch) x 40 = bsA N ch x := fun _ => rfl
  have arr : ∀ (τ : jm_G), mf [53] [25] σ τ → ∀ x : Nat, (∀ j, x.testBit j = true → j < g) → ∀ j, x.testBit j = true → j < nN N ∧ τ.1 54 0 j = nI (arv N ch j) ∧ arv N ch j < 100 := fun τ hf x hx j hj => ⟨by have := hx j hj; omega, mArr_mf harr hf (by decide) j (by have := hx j hj; omega), by have := arv_le hl j; have := hx j hj; omega⟩
  have gen : ∀ (m c : Nat), c + m = (kp N K g).1 → ∀ (τ : jm_G), mf [53] [25] σ τ → (∀ j, τ.2 53 0 j = σ.2 53 0 j) → X (τ, 25, [some (jR 38 0), some (jI (nI g)), some (jJ (lN (bst N K ch g d c).1)), none, some (jI (nI (bst N K ch g d c).2.1)), some (jI (nI (bst N K ch g d c).2.2)), some (jI (nI c)), none, none, none, none], []) := by
    intro m
    induction m with
    | zero =>
      intro c hc τ hf h53
      have e : c = (kp N K g).1 := by omega
      have t51 : τ.1 51 0 (nI g).toNatClampNeg = nI (kp N K g).1 := by rw [eg, (hf.1 51 0 (by omega) (by decide)).1]; exact e51
      refine hg [25] 60 _ ?_
      refine And.intro hin ?_
      refine br_c (fun _ => ?_) (fun h => ?_)
      · refine And.intro hin ?_
        have f2 : mf [53] [25] σ (wJ τ 53 0 (vp_updL (τ.2 53 0) (nI g).toNatClampNeg (lN (bst N K ch g d c).1))) := mf_wJ hf (by decide) (by decide)
        have hbo := bstC_ok (d := d) hok hL.2.2 hcO hgt
        have ebc : (bst N K ch g d c).1 = bstC N K ch g d := by rw [e]; rfl
        rw [ebc]
        rw [ebc] at f2
        have hc2 : mCh N (add1 g ch (bstC N K ch g d)) (wJ τ 53 0 (vp_updL (τ.2 53 0) (nI g).toNatClampNeg (lN (bstC N K ch g d)))) := fun z hz => by
          show vp_updL (τ.2 53 0) (nI g).toNatClampNeg (lN (bstC N K ch g d)) z = _
          rw [eg, updL_at]
          by_cases e : z = g
          · rw [if_pos e, e, add1_q]
          · rw [if_neg e, h53 z, hch z hz]
            show _ = lN (if z = g then _ else _)
            rw [if_neg e]
        have hl2 : chL N (add1 g ch (bstC N K ch g d)) := fun z hz j hj => by
          by_cases e : z = g
          · rw [e, add1_q] at hj; rw [e]; exact hbo.1.2.2.1 j hj
          · have hj : (if z = g then _ else ch z).testBit j = true := hj
            rw [if_neg e] at hj
            exact hl z hz j hj
        refine h3 N (add1 g ch (bstC N K ch g d)) _ _ hok (mN_mf hN f2 (by decide) (by decide)) hc2 hl2 fun ω q1 q2 q3 => ?_
        exact And.intro trivial (hp ω (mf_trans (mf_wide f2 (by decide) (by decide)) (mf_wide q1 (by decide) (by decide))) (mCh_mf hc2 q1 (by decide)) q2 q3)
      · have h : ¬ τ.1 51 0 (nI g).toNatClampNeg ≤ nI c := h
        rw [t51, nI_leI (by omega) (by omega)] at h
        omega
    | succ m ih =>
      intro c hc τ hf h53
      have hk : c < (kp N K g).1 := by omega
      have t51 : τ.1 51 0 (nI g).toNatClampNeg = nI (kp N K g).1 := by rw [eg, (hf.1 51 0 (by omega) (by decide)).1]; exact e51
      have kc := kOK c hk
      have hbd := bst_b (d := d) hl c0.1 (fun z hz => (kOK z hz).1) c (by omega)
      have ha41 := bsA_le hl kc.1
      have hc40 : bsC N ch g ((kp N K g).2 c) ≤ 40 := cnt_le _ _
      have e8 : nI 8 * nI g + nI c = nI (8 * g + c) := by rw [pk_mul, nI_add]
      have t50 : τ.2 50 0 (nI 8 * nI g + nI c).toNatClampNeg = lN ((kp N K g).2 c) := by rw [e8, nI_clamp (by omega), (hf.1 50 0 (by omega) (by decide)).2]; exact e50 c hk
      refine hg [25, 67] 60 _ ?_
      refine And.intro hin ?_
      refine br_c (fun h => ?_) (fun _ => ?_)
      · have h : τ.1 51 0 (nI g).toNatClampNeg ≤ nI c := h
        rw [t51, nI_leI (by omega) (by omega)] at h
        omega
      · refine And.intro (show vp_in (nI 8 * nI g + nI c) 320 by rw [e8]; exact vp_in_nI (by omega) (by omega)) ?_
        refine h1 N ch g ((kp N K g).2 c) τ _ _ hok (mN_mf hN hf (by decide) (by decide)) (fun z hz => by rw [h53 z]; exact hch z hz) hgt t50 fun υ o1 o2 o3 => ?_
        have hfu := mf_trans hf o1
        have h53u : ∀ j, υ.2 53 0 j = σ.2 53 0 j := fun j => (o2 j).trans (h53 j)
        refine h2 N ((kp N K g).2 c) (arv N ch) υ _ _ hok (mN_mf hN hfu (by decide) (by decide)) t50 kc.1 (arr υ hfu _ kc.2.2.1) ?_
        rw [eA]
        show X (υ, 67, [some (jR 38 0), some (jI (nI g)), some (jJ (lN (bst N K ch g d c).1)), none, some (jI (nI (bst N K ch g d c).2.1)), some (jI (nI (bst N K ch g d c).2.2)), some (jI (nI c)), some (jJ (τ.2 50 0 (nI 8 * nI g + nI c).toNatClampNeg)), none, some (jI (nI (bsC N ch g ((kp N K g).2 c)))), some (jI (nI (bsA N ch ((kp N K g).2 c))))], [])
        rw [t50]
        have ih2 := ih (c + 1) (by omega) υ hfu h53u
        have u55 : υ.1 55 0 (nI g).toNatClampNeg = dI d := by rw [eg, (hfu.1 55 0 (by omega) (by decide)).1]; exact hdue
        have stay : ¬ bsP N ch g d ((kp N K g).2 c) (bst N K ch g d c) → X (υ, 25, [some (jR 38 0), some (jI (nI g)), some (jJ (lN (bst N K ch g d c).1)), none, some (jI (nI (bst N K ch g d c).2.1)), some (jI (nI (bst N K ch g d c).2.2)), some (jI (nI c + nI 1)), some (jJ (lN ((kp N K g).2 c))), none, some (jI (nI (bsC N ch g ((kp N K g).2 c)))), some (jI (nI (bsA N ch ((kp N K g).2 c))))], []) := by
          intro q
          rw [bst_n q, ← nI_add] at ih2
          refine hw _ _ _ [some (jR 38 0), some (jI (nI g)), some (jJ (lN (bst N K ch g d c).1)), none, some (jI (nI (bst N K ch g d c).2.1)), some (jI (nI (bst N K ch g d c).2.2)), some (jI (nI c + nI 1)), none, none, none, none] _ (by repeat' first | exact trivial | exact rfl | apply And.intro) ?_
          exact ih2
        have take : bsP N ch g d ((kp N K g).2 c) (bst N K ch g d c) → X (υ, 25, [some (jR 38 0), some (jI (nI g)), some (jJ (lN ((kp N K g).2 c))), none, some (jI (nI (bsC N ch g ((kp N K g).2 c)))), some (jI (nI (bsA N ch ((kp N K g).2 c)))), some (jI (nI c + nI 1)), some (jJ (lN ((kp N K g).2 c))), none, some (jI (nI (bsC N ch g ((kp N K g).2 c)))), some (jI (nI (bsA N ch ((kp N K g).2 c))))], []) := by
          intro q
          rw [bst_y q, ← nI_add] at ih2
          refine hw _ _ _ [some (jR 38 0), some (jI (nI g)), some (jJ (lN ((kp N K g).2 c))), none, some (jI (nI (bsC N ch g ((kp N K g).2 c)))), some (jI (nI (bsA N ch ((kp N K g).2 c)))), some (jI (nI c + nI 1)), none, none, none, none] _ (by repeat' first | exact trivial | exact rfl | apply And.intro) ?_
          exact ih2
        refine hg [25] 60 _ ?_
        refine And.intro hin ?_
        refine br_c (fun h => ?_) (fun h => ?_)
        · have h : υ.1 55 0 (nI g).toNatClampNeg < nI (bsA N ch ((kp N K g).2 c)) := h
          rw [u55, dI_gt (by omega) (by omega)] at h
          exact stay fun q => h q.1
        · have h : ¬ υ.1 55 0 (nI g).toNatClampNeg < nI (bsA N ch ((kp N K g).2 c)) := h
          rw [u55, dI_gt (by omega) (by omega)] at h
          have h : bsA N ch ((kp N K g).2 c) + 100 ≤ d := Classical.not_not.mp h
          refine br_c (fun q => ?_) (fun q => ?_)
          · have q : nI (bsC N ch g ((kp N K g).2 c)) < nI (bst N K ch g d c).2.1 := q
            rw [nI_ltI (by omega) (by omega)] at q
            exact take ⟨h, Or.inl q⟩
          · have q : ¬ nI (bsC N ch g ((kp N K g).2 c)) < nI (bst N K ch g d c).2.1 := q
            rw [nI_ltI (by omega) (by omega)] at q
            refine br_c (fun q2 => ?_) (fun q2 => ?_)
            · have q2 : nI (bsC N ch g ((kp N K g).2 c)) = nI (bst N K ch g d c).2.1 := q2
              rw [nI_eq (by omega) (by omega)] at q2
              refine br_c (fun q3 => ?_) (fun q3 => ?_)
              · have q3 : nI (bst N K ch g d c).2.2 ≤ nI (bsA N ch ((kp N K g).2 c)) := q3
                rw [nI_leI (by omega) (by omega)] at q3
                refine stay fun z => ?_
                rcases z.2 with z | z
                · exact q z
                · omega
              · have q3 : ¬ nI (bst N K ch g d c).2.2 ≤ nI (bsA N ch ((kp N K g).2 c)) := q3
                rw [nI_leI (by omega) (by omega)] at q3
                exact take ⟨h, Or.inr ⟨q2, by omega⟩⟩
            · have q2 : ¬ nI (bsC N ch g ((kp N K g).2 c)) = nI (bst N K ch g d c).2.1 := q2
              rw [nI_eq (by omega) (by omega)] at q2
              refine stay fun z => ?_
              rcases z.2 with z | z
              · exact q z
              · exact q2 z.1
  have e53 : σ.2 53 0 (nI g).toNatClampNeg = lN (ch g) := by rw [eg]; exact hch g hgt
  refine hg [25] 60 _ ?_
  refine And.intro hin ?_
  refine h1 N ch g (ch g) σ _ _ hok hN hch hgt e53 fun υ o1 o2 o3 => ?_
  refine h2 N (ch g) (arv N ch) υ _ _ hok (mN_mf hN o1 (by decide) (by decide)) e53 c0.1 (arr υ o1 _ c0.2.2.1) ?_
  rw [eA]
  show X (υ, 25, [some (jR 38 0), some (jI (nI g)), some (jJ (σ.2 53 0 (nI g).toNatClampNeg)), none, some (jI (nI (bsC N ch g (ch g)))), some (jI (nI (bsA N ch (ch g)))), some (jI (nI 0)), none, none, none, none], [])
  rw [e53]
  exact gen (kp N K g).1 0 (by omega) υ o1 o2
