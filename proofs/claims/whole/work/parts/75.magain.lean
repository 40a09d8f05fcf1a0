/-! the model's laysDue, again -/
def dR5 (N : nw) (d : Nat → Nat) (σ : jm_G) : Prop := ∀ j, j < nN N → σ.1 55 0 j = dI (d j)
abbrev ct_laysDue (C : jm_C) : Prop := ∀ (N : nw) (K sl : Nat) (ch : Nat → Nat) (T : Nat) (σ : jm_G) (post : Option jm_V → jm_G → Prop), nw_ok N → mN N σ → 3 ≤ K → mL N K (nN N) σ → mCh N ch σ → chL N ch → allG N T → σ.2 38 0 25 = lN T → mxL (lev N K) (rts N) 40 + sl ≤ 100 → (∀ σ', mf [55] [] σ σ' → dR5 N (duT ch T (nN N) (due0 N (mxL (lev N K) (rts N) 40 + sl))) σ' → post none σ') → C kX10_laysDue [jR 38 0, jI (nI sl)] σ post
theorem T_laysDue (L : Nat) {C : jm_C} (hC : jm_mon C) (h1 : ct_mroots C) (h2 : ct_mhas C) (h3 : ct_rootDepth C) : ct_laysDue (jm_up L C) := by
  intro N K sl ch T σ post hok hN hK hL hch hl hT h25 hD hp
  refine jm_start rfl (Nat.le_of_ble_eq_true rfl) hC fun X hg hw => ?_
  have hn := hok.1
  have hT4 := allG_lt hok hT
  -- the second loop
  have down : ∀ (n : Nat), n ≤ nN N → ∀ (d : Nat → Nat) (τ : jm_G) (x : Int32), x = nI n + -(nI 1) → mf [55] [] σ τ → dB d → dR5 N d τ → duT ch T n d = duT ch T (nN N) (due0 N (mxL (lev N K) (rts N) 40 + sl)) → X (τ, 60, [some (jR 38 0), some (jI (nI sl)), some (jJ (lN (rts N))), none, some (jI x), none], []) := by
    intro n
    induction n with
    | zero =>
      intro _ d τ x hx ho hd hr he
      rw [nI_0m1] at hx
      subst hx
      refine hg [60] 30 _ ?_
      refine br_c (fun _ => ?_) (fun h => absurd m1_neg h)
      refine And.intro trivial (hp τ ho ?_)
      rw [← he]
      exact hr
    | succ n ih =>
      intro hnn d τ x hx ho hd hr he
      rw [nI_m1] at hx
      subst hx
      rw [duT] at he
      refine hg [60, 68] 40 _ ?_
      refine br_c (fun h => absurd h (nI_pos (by omega))) (fun _ => ?_)
      show X (τ, 68, [some (jR 38 0), some (jI (nI sl)), some (jJ (lN (rts N))), none, some (jI (nI n)), some (jI (nI 0))], [])
      cases hb : T.testBit n with
      | false =>
        rw [hb] at he
        have hNt := mN_mf hN ho (by decide) (by decide)
        refine hg [60, 68] 40 _ ?_
        refine br_c (fun h => ?_) (fun _ => ?_)
        · have h : τ.1 38 0 1 ≤ nI 0 := h
          rw [hNt.1, nI_leI (by omega) (by omega)] at h
          omega
        · refine c_mhas h2 (S := T) (n := n) (show τ.2 38 0 25 = lN T by rw [(ho.2 0 25 (by decide)).2]; exact h25) rfl (p40 hT4) (by omega) ?_
          rw [hb]
          refine br_c (fun _ => ?_) (fun h => absurd rfl h)
          refine hw _ _ _ [some (jR 38 0), some (jI (nI sl)), some (jJ (lN (rts N))), none, some (jI (nI n + -(nI 1))), none] _ (by repeat' first | exact trivial | exact rfl | apply And.intro) ?_
          exact ih (by omega) d τ _ rfl ho hd hr he
      | true =>
        rw [hb, if_pos rfl] at he
        have hgn := hT n hb
        have hln := hl n hgn
        have hcn : ch n < 2 ^ 40 := lt40 (g := n) (by omega) hln
        have en : (nI n).toNatClampNeg = n := nI_clamp (by omega)
        have hinn : vp_in (nI n) 40 := vp_in_nI (by omega) (by omega)
        have inner : ∀ (m k : Nat), k + m = nN N → ∀ (υ : jm_G), mf [55] [] σ υ → dR5 N (duP ch n d k) υ → X (υ, 68, [some (jR 38 0), some (jI (nI sl)), some (jJ (lN (rts N))), none, some (jI (nI n)), some (jI (nI k))], []) := by
          intro m
          induction m with
          | zero =>
            intro k hk υ hoυ hrυ
            have e : k = nN N := by omega
            subst e
            have hNu := mN_mf hN hoυ (by decide) (by decide)
            refine hg [60, 68] 40 _ ?_
            refine br_c (fun _ => ?_) (fun h => ?_)
            · refine hw _ _ _ [some (jR 38 0), some (jI (nI sl)), some (jJ (lN (rts N))), none, some (jI (nI n + -(nI 1))), none] _ (by repeat' first | exact trivial | exact rfl | apply And.intro) ?_
              refine ih (by omega) (duS ch n d) υ _ rfl hoυ (dB_S (by omega) hln hd) (fun j hj => ?_) he
              rw [hrυ j hj]
              unfold duP
              rw [if_pos (by omega)]
            · have h : ¬ υ.1 38 0 1 ≤ nI (nN N) := h
              rw [hNu.1, nI_leI (by omega) (by omega)] at h
              omega
          | succ m ihm =>
            intro k hk υ hoυ hrυ
            have hNu := mN_mf hN hoυ (by decide) (by decide)
            have ek : (nI k).toNatClampNeg = k := nI_clamp (by omega)
            have hink : vp_in (nI k) 40 := vp_in_nI (by omega) (by omega)
            have vn : υ.1 55 0 (nI n).toNatClampNeg = dI (d n) := by
              rw [en, hrυ n (by omega)]
              unfold duP
              split
              · rw [duS_n hln]
              · rfl
            have vk : υ.1 55 0 (nI k).toNatClampNeg = dI (d k) := by
              rw [ek, hrυ k (by omega)]
              unfold duP
              rw [if_neg (by omega)]
            have bn := hd n (by omega)
            have bk := hd k (by omega)
            have go : ∀ z : Int32, z = dI (duS ch n d k) → X (wI υ 55 0 (upd (υ.1 55 0) (nI k).toNatClampNeg z), 68, [some (jR 38 0), some (jI (nI sl)), some (jJ (lN (rts N))), none, some (jI (nI n)), some (jI (nI k + nI 1))], []) := by
              intro z hz
              rw [ek, nI_add]
              refine ihm (k + 1) (by omega) _ (mf_wI hoυ (by decide) (by decide)) fun j hj => ?_
              rw [wI1, if_pos ⟨rfl, rfl⟩, upd_at]
              by_cases e : j = k
              · rw [if_pos e, e, hz]
                unfold duP
                rw [if_pos (by omega)]
              · rw [if_neg e, hrυ j hj]
                unfold duP
                by_cases q : j < k
                · rw [if_pos q, if_pos (by omega)]
                · rw [if_neg q, if_neg (by omega)]
            refine hg [60, 68] 60 _ ?_
            refine br_c (fun h => ?_) (fun _ => ?_)
            · have h : υ.1 38 0 1 ≤ nI k := h
              rw [hNu.1, nI_leI (by omega) (by omega)] at h
              omega
            · refine c_mhas h2 (S := T) (n := n) (show υ.2 38 0 25 = lN T by rw [(hoυ.2 0 25 (by decide)).2]; exact h25) rfl (p40 hT4) (by omega) ?_
              rw [hb]
              refine br_c (fun h => absurd h (by decide)) (fun _ => ?_)
              refine And.intro hinn ?_
              refine c_mhas h2 (S := ch n) (n := k) (show υ.2 53 0 (nI n).toNatClampNeg = lN (ch n) by rw [en]; exact mCh_mf hch hoυ (by decide) n hgn) rfl (p40 hcn) (by omega) ?_
              refine br_c (fun h => ?_) (fun h => ?_)
              · have h := bI_0.mp h
                refine And.intro hink ?_
                refine And.intro hink ?_
                exact go (υ.1 55 0 (nI k).toNatClampNeg) (by rw [vk, duS_f h])
              · have h := bI_n0.mp h
                refine And.intro hinn ?_
                refine And.intro hink ?_
                refine br_c (fun q => ?_) (fun q => ?_)
                · have q : υ.1 55 0 (nI k).toNatClampNeg ≤ υ.1 55 0 (nI n).toNatClampNeg - nI 1 := q
                  rw [vk, vn, dI_pred (by omega) (by omega), dI_le (by omega) (by omega)] at q
                  refine And.intro hink ?_
                  refine And.intro hink ?_
                  refine go (υ.1 55 0 (nI k).toNatClampNeg) ?_
                  rw [vk]
                  unfold duS
                  rw [h, Bool.true_and, if_neg (by simp; omega)]
                · have q : ¬ υ.1 55 0 (nI k).toNatClampNeg ≤ υ.1 55 0 (nI n).toNatClampNeg - nI 1 := q
                  rw [vk, vn, dI_pred (by omega) (by omega), dI_le (by omega) (by omega)] at q
                  refine And.intro hinn ?_
                  refine And.intro hink ?_
                  refine go (υ.1 55 0 (nI n).toNatClampNeg - nI 1) ?_
                  rw [vn, dI_pred (by omega) (by omega)]
                  unfold duS
                  rw [h, Bool.true_and, if_pos (by simp; omega)]
        exact inner (nN N) 0 (by omega) τ ho (fun j hj => by
          rw [hr j hj]
          unfold duP
          rw [if_neg (by omega)])
  -- the first
  have first : ∀ (k : Nat), k ≤ nN N → ∀ (τ : jm_G) (x : Int32), x = nI k + -(nI 1) → mf [55] [] σ τ → (∀ j, k ≤ j → j < nN N → τ.1 55 0 j = dI (due0 N (mxL (lev N K) (rts N) 40 + sl) j)) → X (τ, 13, [some (jR 38 0), some (jI (nI sl)), some (jJ (lN (rts N))), none, some (jI x), none], []) := by
    intro k
    induction k with
    | zero =>
      intro _ τ x hx ho hr
      rw [nI_0m1] at hx
      subst hx
      have hNt := mN_mf hN ho (by decide) (by decide)
      refine hg [13, 60] 30 _ ?_
      refine br_c (fun _ => ?_) (fun h => absurd m1_neg h)
      show X (τ, 60, [some (jR 38 0), some (jI (nI sl)), some (jJ (lN (rts N))), none, some (jI (τ.1 38 0 1 - nI 1)), none], [])
      rw [hNt.1]
      exact down (nN N) (Nat.le_refl _) (due0 N (mxL (lev N K) (rts N) 40 + sl)) τ _ (sub1 _) ho (dB_0 N hD) (fun j hj => hr j (by omega) hj) rfl
    | succ k ih =>
      intro hk τ x hx ho hr
      rw [nI_m1] at hx
      subst hx
      have hNt := mN_mf hN ho (by decide) (by decide)
      have go : ∀ z : Int32, z = dI (due0 N (mxL (lev N K) (rts N) 40 + sl) k) → X (wI τ 55 0 (upd (τ.1 55 0) (nI k).toNatClampNeg z), 13, [some (jR 38 0), some (jI (nI sl)), some (jJ (lN (rts N))), none, some (jI (nI k + -(nI 1))), none], []) := by
        intro z hz
        rw [nI_clamp (by omega)]
        refine ih (by omega) _ _ rfl (mf_wI ho (by decide) (by decide)) fun j hj hj2 => ?_
        rw [wI1, if_pos ⟨rfl, rfl⟩, upd_at]
        by_cases e : j = k
        · rw [if_pos e, e, hz]
        · rw [if_neg e]; exact hr j (by omega) hj2
      refine hg [13, 60] 40 _ ?_
      refine br_c (fun h => absurd h (nI_pos (by omega))) (fun _ => ?_)
      refine h2 (rts N) k τ _ (p40 (rts_lt40 hok)) (by omega) ?_
      refine br_c (fun h => ?_) (fun h => ?_)
      · refine And.intro (vp_in_nI (by omega) (by omega)) ?_
        refine go (nI 1000) ?_
        unfold due0
        rw [bI_0.mp h]
        exact dI_nI 1000
      · refine h3 N K τ _ hok hNt hK (mL_mf hL ho (by decide)) ?_
        refine And.intro (vp_in_nI (by omega) (by omega)) ?_
        refine go (nI (mxL (lev N K) (rts N) 40) + nI sl) ?_
        unfold due0
        rw [bI_n0.mp h, nI_add]
        exact dI_nI _
  refine hg [13] 30 _ ?_
  refine h1 N σ _ hok hN ?_
  show X (σ, 13, [some (jR 38 0), some (jI (nI sl)), some (jJ (lN (rts N))), none, some (jI (σ.1 38 0 1 - nI 1)), none], [])
  rw [hN.1]
  exact first (nN N) (Nat.le_refl _) σ _ (sub1 _) (mf_refl _ _ _) fun j h1 h2 => absurd h2 (by omega)
abbrev ct_magain (C : jm_C) : Prop := ∀ (N : nw) (K : Nat) (md : Bool) (ch : Nat → Nat) (x : Int32) (σ : jm_G) (post : Option jm_V → jm_G → Prop), nw_ok N → mN N σ → 3 ≤ K → K ≤ 6 → σ.1 38 0 7 = nI K → mLd N K σ → σ.1 38 0 8 = bI md → (md = true → chOK N K ch ∧ mCh N ch σ) →
  ((md && (decide (¬ x < nI 0) && decide (¬ nI 5 < x))) = false → post (some (jI (-(nI 1)))) (sF σ 0 (nI 0))) → (md = true → ∀ sl, sl ≤ 5 → x = nI sl → ∀ σ', mf mgA mgB σ σ' → σ'.1 38 0 8 = bI true → mL N K (nN N) σ' → σ'.1 38 0 9 = bI true → mCh N (agX N K sl ch) σ' → post (some (jI (nI (cnt (tbs N ch) 40) - nI (cnt (tbs N (agX N K sl ch)) 40)))) σ') → C kX10_again [jR 38 0, jI x] σ post
theorem T_magain (L : Nat) {C : jm_C} (hC : jm_mon C) (h1 : ct_within C) (h2 : ct_lays C) (h3 : ct_looks C) (h4 : ct_laysDue C) (h5 : ct_mmany C) (h6 : ct_mhas C) (h7 : ct_choosesA C) : ct_magain (jm_up L C) := by
  intro N K md ch x σ post hok hN hK hK6 hw7 hLd h8 hmd hp1 hp2
  refine jm_start rfl (Nat.le_of_ble_eq_true rfl) hC fun X hg hw => ?_
  have h40 := hok.1
  refine hg [46] 60 _ ?_
  refine br_c (fun h => ?_) (fun h => ?_)
  · have h : σ.1 38 0 8 = 0 := h
    rw [h8] at h
    rw [bI_0.mp h] at hp1
    exact And.intro trivial (hp1 rfl)
  · have h : ¬ σ.1 38 0 8 = 0 := h
    rw [h8] at h
    have hm := bI_n0.mp h
    rw [hm, Bool.true_and] at hp1
    obtain ⟨hcO, hch⟩ := hmd hm
    have hl := chOK_L hcO
    refine h1 x (nI 0) (nI 5) (sF σ 0 (nI 0)) _ ?_
    refine br_c (fun q => ?_) (fun q => ?_)
    · exact And.intro trivial (hp1 (bI_0.mp q))
    · obtain ⟨sl, -, hsl, rfl⟩ := wi_nI (by omega) (by omega) (bI_n0.mp q)
      obtain ⟨b, b1, b2⟩ := mLd_th hLd (k := 0) (by omega) (nI 0)
      have f0 : mf mgA mgB σ (sF σ 0 (nI 0)) := mf_sF (mf_refl _ _ _) (by decide)
      refine h2 N K b (sF σ 0 (nI 0)) _ hok (mN_sF hN (by omega) _) hK hK6 (by rw [sF_1, if_neg (by omega)]; exact hw7) b1 b2 fun τ1 o1 o2 o3 => ?_
      have f1 : mf mgA mgB σ τ1 := mf_trans f0 (mf_wide o1 (by decide) (by decide))
      have hN1 := mN_mf hN f1 (by decide) (by decide)
      have hch1 : mCh N ch τ1 := fun g hgg => by rw [(o1.1 53 0 (by omega) (by decide)).2]; exact hch g hgg
      refine h3 N ch τ1 _ hok hN1 hch1 hl fun τ2 q1 q2 q3 => ?_
      have hN2 := mN_mf hN1 q1 (by decide) (by decide)
      have hL2 := mL_mf o2 q1 (by decide)
      have hch2 := mCh_mf hch1 q1 (by decide)
      obtain ⟨hD, hdB⟩ := agD_b (sl := sl) hok hK hl hsl
      refine h4 N K sl ch (tbs N ch) τ2 _ hok hN2 hK hL2 hch2 hl (tbs_G N ch) q2 hD fun τ3 r1 r2 => ?_
      have t25 : τ3.2 38 0 25 = lN (tbs N ch) := by rw [(r1.2 0 25 (by decide)).2]; exact q2
      have hT := tbs_lt hok ch
      refine c_mmany h5 t25 (p40 hT) ?_
      have hN3 := mN_mf hN2 r1 (by decide) (by decide)
      have hL3 := mL_mf hL2 r1 (by decide)
      have hch3 := mCh_mf hch2 r1 (by decide)
      have ha3 := mArr_mf q3 r1 (by decide)
      have f3 : mf mgA mgB σ τ3 := mf_trans f1 (mf_trans (mf_wide q1 (by decide) (by decide)) (mf_wide r1 (by decide) (by decide)))
      have e83 : τ3.1 38 0 8 = bI true := by
        rw [(r1.2 0 8 (by decide)).1, (q1.2 0 8 (by decide)).1, (o1.2 0 8 (by decide)).1, sF_1, if_neg (by omega), h8, hm]
      have e93 : τ3.1 38 0 9 = bI true := by
        rw [(r1.2 0 9 (by decide)).1, (q1.2 0 9 (by decide)).1]; exact o3
      show X (τ3, 46, [some (jR 38 0), some (jI (nI sl)), some (jI (nI (cnt (tbs N ch) 40))), some (jI (nI 0))], [])
      have gen : ∀ (m g : Nat), g + m = nN N → ∀ (υ : jm_G), mf [53, 54] [25] τ3 υ → mCh N (agn N K (agD N K sl ch) ch g) υ → υ.2 38 0 25 = lN (tbs N (agn N K (agD N K sl ch) ch g)) → mArr N (agn N K (agD N K sl ch) ch g) υ → X (υ, 46, [some (jR 38 0), some (jI (nI sl)), some (jI (nI (cnt (tbs N ch) 40))), some (jI (nI g))], []) := by
        intro m
        induction m with
        | zero =>
          intro g hgm υ u1 u2 u3 u4
          have e : g = nN N := by omega
          subst e
          rw [agX_n hok] at u2 u3 u4
          have hNu := mN_mf hN3 u1 (by decide) (by decide)
          refine hg [46] 60 _ ?_
          refine br_c (fun _ => ?_) (fun h => ?_)
          · refine c_mmany h5 u3 (p40 (tbs_lt hok _)) ?_
            refine And.intro trivial (hp2 hm sl hsl rfl υ (mf_trans f3 (mf_wide u1 (by decide) (by decide))) ?_ (mL_mf hL3 u1 (by decide)) ?_ u2)
            · rw [(u1.2 0 8 (by decide)).1]; exact e83
            · rw [(u1.2 0 9 (by decide)).1]; exact e93
          · have h : ¬ υ.1 38 0 1 ≤ nI (nN N) := h
            rw [hNu.1, nI_leI (by omega) (by omega)] at h
            omega
        | succ m ih =>
          intro g hgm υ u1 u2 u3 u4
          have hNu := mN_mf hN3 u1 (by decide) (by decide)
          have cO := agn_ok (dd := agD N K sl ch) hok o2.2.2 hcO g
          have next := ih (g + 1) (by omega)
          refine hg [46] 60 _ ?_
          refine br_c (fun h => ?_) (fun _ => ?_)
          · have h : υ.1 38 0 1 ≤ nI g := h
            rw [hNu.1, nI_leI (by omega) (by omega)] at h
            omega
          · refine c_mhas h6 u3 rfl (p40 (tbs_lt hok _)) (by omega) ?_
            refine br_c (fun h => ?_) (fun h => ?_)
            · have h := bI_0.mp h
              rw [agn_f h] at next
              show X (υ, 46, [some (jR 38 0), some (jI (nI sl)), some (jI (nI (cnt (tbs N ch) 40))), some (jI (nI g + nI 1))], [])
              rw [nI_add]
              exact next υ u1 u2 u3 u4
            · have h := bI_n0.mp h
              rw [agn_t h] at next
              refine h7 N K g (agD N K sl ch g) (agn N K (agD N K sl ch) ch g) υ _ hok hNu (mL_mf hL3 u1 (by decide)) cO u2 u4 ?_ (hdB g (by omega)).2 (tbs_G N _ g h) fun ω w1 w2 w3 w4 => ?_
              · rw [(u1.1 55 0 (by omega) (by decide)).1]
                exact r2 g (by omega)
              · show X (ω, 46, [some (jR 38 0), some (jI (nI sl)), some (jI (nI (cnt (tbs N ch) 40))), some (jI (nI g + nI 1))], [])
                rw [nI_add]
                exact next ω (mf_trans u1 w1) w2 w3 w4
      exact gen (nN N) 0 (by omega) τ3 (mf_refl _ _ _) hch3 t25 ha3
