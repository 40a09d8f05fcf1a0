/-! the component's Cover: takeNearCuts, chooseAgain -/
def cV (N : nw) (ch : Nat → Nat) (σ : jm_G) : Prop := cCh N ch σ ∧ (∀ j, j < 40 → σ.1 25 0 j = nI (arv N ch j)) ∧ σ.2 22 0 4 = lN (tbs N ch)
theorem cA_off {N : nw} {i K n lo hi : Nat} {σ τ : jm_G} (h : cA N i K n σ) (ho : off lo hi σ τ) (h1 : hi < 17 ∨ 21 < lo) : cA N i K n τ := cA_eq h fun t a b => ho t i (by omega)
theorem nea_ok {N : nw} {K : Nat} (hok : nw_ok N) (hn : nOK N K (nN N)) : chOK N K (nea N K) := fun g hg => by
  obtain ⟨q1, q2⟩ := hn g (isG_lt hg) hg
  exact ⟨⟨Sep_lt hok q1.1, q2, fun j hj => nB_lt hok _ _ (q1.1.1 j hj), Sep_ne hok hg q1.1⟩, q1.1⟩
abbrev ct_takeNear (C : jm_C) : Prop := ∀ (N : nw) (K i : Nat) (σ : jm_G) (post : Option jm_V → jm_G → Prop), nw_ok N → cN N σ → cA N i K (nN N) σ → (∀ j, j < 40 → isG N j = false → σ.1 25 0 j = nI 0) → (∀ σ', off 22 25 σ σ' → cV N (nea N K) σ' → post none σ') → C kX3_takeNearCuts [jR 22 0, jR 17 i] σ post
theorem T_takeNear (L : Nat) {C : jm_C} (hC : jm_mon C) (h1 : ct_low C) (h2 : ct_arrBy C) (h3 : ct_roots C) (h4 : ct_withCh C) : ct_takeNear (jm_up L C) := by
  intro N K i σ post hok hN hA hz hp
  refine jm_start rfl (Nat.le_of_ble_eq_true rfl) hC fun X hg hw => ?_
  have h40 := hok.1
  have hcO := nea_ok hok hA.2.2.2.2
  have hl := chOK_L hcO
  have hG := gM_lt hok
  refine hg [8] 30 _ ?_
  show X (σ, 8, [some (jR 22 0), some (jR 17 i), some (jJ (σ.2 2 0 6)), none, none], [])
  rw [hN.2.2.1]
  have gen : ∀ (m k : Nat), k + m = 40 → ∀ (τ : jm_G), off 24 25 σ τ → (∀ j, j < k → isG N j = true → τ.2 24 0 j = lN (nea N K j)) → (∀ j, j < 40 → (j < k ∨ isG N j = false) → τ.1 25 0 j = nI (arv N (nea N K) j)) → X (τ, 8, [some (jR 22 0), some (jR 17 i), some (jJ (lN (hi (gM N) k))), none, none], []) := by
    intro m
    induction m with
    | zero =>
      intro k hk τ ho r1 r2
      have e : k = 40 := by omega
      subst e
      rw [hi_end hG]
      have hNt := cN_off hN ho (by omega) (by omega)
      have hch : cCh N (nea N K) τ := fun g hgg => r1 g (by have := isG_lt hgg; omega) hgg
      refine hg [8] 60 _ ?_
      refine br_c (fun _ => ?_) (fun h => absurd ((cmp_0 _ _).mpr rfl) h)
      refine h3 N τ _ hok hNt ?_
      refine h4 N (nea N K) (rts N &&& gM N) (nN N) 0 τ _ _ _ _ hok hNt hch (allG_and N _) (Nat.le_refl _) (by omega) ?_ ?_ rfl ?_
      · show lN (rts N) &&& τ.2 2 0 6 = _
        rw [hNt.2.2.1, fb_andL]
      · show τ.1 2 0 9 - nI 1 = _
        rw [hNt.1]
        exact sub1 _
      · refine And.intro trivial ?_
        refine hp _ (off_wJ (off_wide ho (by omega) (by omega)) (by omega) (by omega)) ⟨hch, fun j hj => r2 j hj (Or.inl hj), ?_⟩
        show vp_updL (τ.2 22 0) 4 (lN (tdr N (nea N K) 0 (nN N) (rts N &&& gM N))) 4 = _
        rw [pk_uLs]
        rfl
    | succ m ih =>
      intro k hk τ ho r1 r2
      cases hb : isG N k with
      | false =>
        have hb2 : (gM N).testBit k = false := by rw [gM_bit]; exact hb
        have := ih (k + 1) (by omega) τ ho (fun j hj hj2 => by
          by_cases e : j = k
          · rw [e, hb] at hj2; cases hj2
          · exact r1 j (by omega) hj2) (fun j hj hj2 => by
          by_cases e : j = k
          · exact r2 j hj (Or.inr (by rw [e]; exact hb))
          · exact r2 j hj (hj2.imp (fun q => by omega) id))
        rw [hi_skip hb2] at this
        exact this
      | true =>
        have hb2 : (gM N).testBit k = true := by rw [gM_bit]; exact hb
        have hkn := isG_lt hb
        have ek : (nI k).toNatClampNeg = k := nI_clamp (by omega)
        have hin : vp_in (nI k) 40 := vp_in_nI (by omega) (by omega)
        have e19 : τ.2 19 i (nI k).toNatClampNeg = lN (nea N K k) := by rw [ek, (ho 19 i (by omega)).2]; exact cA_nea hA hkn
        have ck := (hcO k hb).1
        refine hg [8] 60 _ ?_
        refine br_c (fun h => absurd h (hi_n0 hG hb2)) (fun _ => ?_)
        refine h1 (gM N) k τ _ (p40 hG) hb2 ?_
        refine And.intro hin ?_
        refine And.intro hin ?_
        refine And.intro hin ?_
        refine h2 (nea N K k) (arv N (nea N K)) _ _ _ ?_ ck.1 (fun j hj => ?_) ?_
        · show vp_updL (τ.2 24 0) (nI k).toNatClampNeg (τ.2 19 i (nI k).toNatClampNeg) (nI k).toNatClampNeg = _
          rw [pk_uLs, e19]
        · have := ck.2.2.1 j hj
          refine ⟨r2 j (by omega) (Or.inl this), ?_⟩
          have := arv_le hl j
          omega
        · refine And.intro hin ?_
          refine hw _ _ _ [some (jR 22 0), some (jR 17 i), some (jJ (lN (hi (gM N) k) &&& (lN (hi (gM N) k) - lN 1))), none, none] _ (by repeat' first | exact trivial | exact rfl | apply And.intro) ?_
          show X (wI (wJ τ 24 0 (vp_updL (τ.2 24 0) (nI k).toNatClampNeg (τ.2 19 i (nI k).toNatClampNeg))) 25 0 (upd (τ.1 25 0) (nI k).toNatClampNeg (nI (1 + mxL (arv N (nea N K)) (nea N K k) 40))), 8, [some (jR 22 0), some (jR 17 i), some (jJ (lN (hi (gM N) k) &&& (lN (hi (gM N) k) - lN 1))), none, none], [])
          rw [e19, ek, nxt hb2, ← arv_gate (hl k hb) hb]
          refine ih (k + 1) (by omega) _ (off_wI (off_wJ ho (by omega) (by omega)) (by omega) (by omega)) (fun j hj hj2 => ?_) (fun j hj hj2 => ?_)
          · show vp_updL (τ.2 24 0) k (lN (nea N K k)) j = _
            rw [updL_at]
            by_cases e : j = k
            · rw [if_pos e, e]
            · rw [if_neg e]; exact r1 j (by omega) hj2
          · show upd (τ.1 25 0) k (nI (arv N (nea N K) k)) j = _
            rw [upd_at]
            by_cases e : j = k
            · rw [if_pos e, e]
            · rw [if_neg e]
              exact r2 j hj (hj2.imp (fun q => by omega) id)
  have := gen 40 0 (by omega) σ (off_refl _ _ _) (fun j hj => absurd hj (by omega)) (fun j hj hj2 => by
    rcases hj2 with q | q
    · omega
    · rw [arv_leaf q]; exact hz j hj q)
  rw [hi_0] at this
  exact this
abbrev ct_chAgain (C : jm_C) : Prop := ∀ (N : nw) (K sl i : Nat) (ch : Nat → Nat) (σ : jm_G) (post : Option jm_V → jm_G → Prop), nw_ok N → cN N σ → 3 ≤ K → cA N i K (nN N) σ → chOK N K ch → cV N ch σ → sl ≤ 5 → (∀ σ', off 22 25 σ σ' → cV N (agX N K sl ch) σ' → post (some (jI (nI (cnt (tbs N ch) 40) - nI (cnt (tbs N (agX N K sl ch)) 40)))) σ') → C kX3_chooseAgain [jR 22 0, jR 17 i, jI (nI sl)] σ post
theorem T_chAgain (L : Nat) {C : jm_C} (hC : jm_mon C) (h1 : ct_bc C) (h2 : ct_roots C) (h3 : ct_greatest C) (h4 : ct_findDue C) (h5 : ct_low C) (h6 : ct_has C) (h7 : ct_arrBy C) (h8 : ct_withCh C) (h9 : ct_bestCut C) (h10 : ct_tabWith C) : ct_chAgain (jm_up L C) := by
  intro N K sl i ch σ post hok hN hK hA hcO hV hsl hp
  refine jm_start rfl (Nat.le_of_ble_eq_true rfl) hC fun X hg hw => ?_
  have h40 := hok.1
  have hl := chOK_L hcO
  have hG := gM_lt hok
  have hT := tbs_lt hok ch
  obtain ⟨hD, hdB⟩ := agD_b (sl := sl) hok hK hl hsl
  have hnO : nOK N K (nN N) := hA.2.2.2.2
  refine hg [40] 60 _ ?_
  refine c_bc h1 (S := tbs N ch) hV.2.2 (Nat.lt_trans hT (by omega)) ?_
  rw [cnt64 hT]
  refine h2 N σ _ hok hN ?_
  refine h3 i (rts N) (lev N K) σ _ (rts_lt40 hok) (fun j hj => ⟨cA_lev hA (rts_lt hok hj), by have := lev_bound hok hK (N := N) (K := K) j; have := rts_lt hok hj; omega⟩) ?_
  refine h4 N ch (tbs N ch) (mxL (lev N K) (rts N) 40 + sl) σ _ _ _ hok hN hV.1 hl (tbs_G N ch) hV.2.2 hD rfl (nI_add _ _) fun τ0 ho0 hr0 => ?_
  have hN0 := cN_off hN ho0 (by omega) (by omega)
  show X (τ0, 40, [some (jR 22 0), some (jR 17 i), some (jI (nI sl)), some (jI (nI (cnt (tbs N ch) 40))), some (jJ (lN (rts N))), none, some (jJ (τ0.2 2 0 6)), none, none, none, none], [])
  rw [hN0.2.2.1]
  have gen : ∀ (m k : Nat), k + m = 40 → ∀ (τ : jm_G), off 22 25 σ τ → cCh N (agn N K (agD N K sl ch) ch k) τ → τ.2 22 0 4 = lN (tbs N (agn N K (agD N K sl ch) ch k)) → (∀ j, j < 40 → (j < k ∨ isG N j = false) → τ.1 25 0 j = nI (arv N (agn N K (agD N K sl ch) ch k) j)) → dR3 N (agD N K sl ch) τ →
      X (τ, 40, [some (jR 22 0), some (jR 17 i), some (jI (nI sl)), some (jI (nI (cnt (tbs N ch) 40))), some (jJ (lN (rts N))), none, some (jJ (lN (hi (gM N) k))), none, none, none, none], []) := by
    intro m
    induction m with
    | zero =>
      intro k hk τ ho r1 r2 r3 r4
      have e : k = 40 := by omega
      subst e
      rw [hi_end hG]
      have hT2 := tbs_lt hok (agn N K (agD N K sl ch) ch 40)
      refine hg [40] 60 _ ?_
      refine br_c (fun _ => ?_) (fun h => absurd ((cmp_0 _ _).mpr rfl) h)
      refine c_bc h1 r2 (Nat.lt_trans hT2 (by omega)) ?_
      rw [cnt64 hT2]
      exact And.intro trivial (hp τ ho ⟨r1, fun j hj => r3 j hj (Or.inl hj), r2⟩)
    | succ m ih =>
      intro k hk τ ho r1 r2 r3 r4
      have hNt := cN_off hN ho (by omega) (by omega)
      have hAt := cA_off hA ho (by omega)
      have cO := agn_ok (dd := agD N K sl ch) hok hnO hcO k
      have hlk := chOK_L cO
      have next := ih (k + 1) (by omega)
      have hTk := tbs_lt hok (agn N K (agD N K sl ch) ch k)
      have same : ∀ j, j < k → arv N (agn N K (agD N K sl ch) ch (k + 1)) j = arv N (agn N K (agD N K sl ch) ch k) j := fun j hj => arv_congr fun z hz _ => agn_ne (by omega)
      cases hb : isG N k with
      | false =>
        have hb2 : (gM N).testBit k = false := by rw [gM_bit]; exact hb
        rw [agn_g hb] at next
        have := next τ ho r1 r2 (fun j hj hj2 => by
          by_cases e : j = k
          · exact r3 j hj (Or.inr (by rw [e]; exact hb))
          · exact r3 j hj (hj2.imp (fun q => by omega) id)) r4
        rw [hi_skip hb2] at this
        exact this
      | true =>
        have hb2 : (gM N).testBit k = true := by rw [gM_bit]; exact hb
        have hkn := isG_lt hb
        have ek : (nI k).toNatClampNeg = k := nI_clamp (by omega)
        have hin : vp_in (nI k) 40 := vp_in_nI (by omega) (by omega)
        have arr : ∀ x : Nat, (∀ j, x.testBit j = true → j < k) → ∀ j, x.testBit j = true → τ.1 25 0 j = nI (arv N (agn N K (agD N K sl ch) ch k) j) ∧ arv N (agn N K (agD N K sl ch) ch k) j < 100 := fun x hx j hj => ⟨r3 j (by have := hx j hj; omega) (Or.inl (hx j hj)), by have := arv_le hlk j; have := hx j hj; omega⟩
        refine hg [40] 100 _ ?_
        refine br_c (fun h => absurd h (hi_n0 hG hb2)) (fun _ => ?_)
        refine h5 (gM N) k τ _ (p40 hG) hb2 ?_
        refine c_has h6 r2 rfl (p40 hTk) (by omega) ?_
        refine br_c (fun h => ?_) (fun h => ?_)
        · have htb := bI_0.mp h
          rw [agn_f htb] at next
          have ck := (cO k hb).1
          have e24 : τ.2 24 0 (nI k).toNatClampNeg = lN (agn N K (agD N K sl ch) ch k k) := by rw [ek]; exact r1 k hb
          refine And.intro hin ?_
          refine h7 (agn N K (agD N K sl ch) ch k k) (arv N (agn N K (agD N K sl ch) ch k)) τ _ _ e24 ck.1 (arr _ ck.2.2.1) ?_
          refine And.intro hin ?_
          refine hw _ _ _ [some (jR 22 0), some (jR 17 i), some (jI (nI sl)), some (jI (nI (cnt (tbs N ch) 40))), some (jJ (lN (rts N))), none, some (jJ (lN (hi (gM N) k) &&& (lN (hi (gM N) k) - lN 1))), none, none, none, none] _ (by repeat' first | exact trivial | exact rfl | apply And.intro) ?_
          show X (wI τ 25 0 (upd (τ.1 25 0) (nI k).toNatClampNeg (nI (1 + mxL (arv N (agn N K (agD N K sl ch) ch k)) (agn N K (agD N K sl ch) ch k k) 40))), 40, [some (jR 22 0), some (jR 17 i), some (jI (nI sl)), some (jI (nI (cnt (tbs N ch) 40))), some (jJ (lN (rts N))), none, some (jJ (lN (hi (gM N) k) &&& (lN (hi (gM N) k) - lN 1))), none, none, none, none], [])
          rw [ek, nxt hb2, ← arv_gate (hlk k hb) hb]
          refine next _ (off_wI ho (by omega) (by omega)) r1 r2 (fun j hj hj2 => ?_) r4
          show upd (τ.1 25 0) k (nI (arv N (agn N K (agD N K sl ch) ch k) k)) j = _
          rw [upd_at]
          by_cases e : j = k
          · rw [if_pos e, e]
          · rw [if_neg e]; exact r3 j hj (hj2.imp (fun q => by omega) id)
        · have htb := bI_n0.mp h
          have hbo := bstC_ok (d := agD N K sl ch k) hok hnO cO hb
          have ea := agn_t htb
          rw [ea] at next same
          refine h8 N (agn N K (agD N K sl ch) ch k) (rts N &&& gM N) (nN N) (k + 1) τ _ _ _ _ hok hNt r1 (allG_and N _) (Nat.le_refl _) (by omega) ?_ ?_ (nI_add _ _) ?_
          · show lN (rts N) &&& τ.2 2 0 6 = _
            rw [hNt.2.2.1, fb_andL]
          · show τ.1 2 0 9 - nI 1 = _
            rw [hNt.1]
            exact sub1 _
          · refine h9 N K i k (agD N K sl ch k) (agn N K (agD N K sl ch) ch k) τ _ _ hok hNt hAt cO r1 (fun j hj => r3 j (by omega) (Or.inl hj)) (r4 k hkn) (hdB k (by omega)).2 htb rfl ?_
            refine And.intro hin ?_
            refine And.intro hin ?_
            generalize hbc : bstC N K (agn N K (agD N K sl ch) ch k) k (agD N K sl ch k) = b at hbo next same ⊢
            have hch5 : cCh N (add1 k (agn N K (agD N K sl ch) ch k) b) (wJ τ 24 0 (vp_updL (τ.2 24 0) (nI k).toNatClampNeg (lN b))) := fun g hgg => by
              show vp_updL (τ.2 24 0) (nI k).toNatClampNeg (lN b) g = _
              rw [ek, updL_at]
              by_cases e : g = k
              · rw [if_pos e, e, add1_q]
              · rw [if_neg e, r1 g hgg]
                show _ = lN (if g = k then _ else _)
                rw [if_neg e]
            have hN5 : cN N (wJ τ 24 0 (vp_updL (τ.2 24 0) (nI k).toNatClampNeg (lN b))) := cN_off hN (off_wJ ho (by omega) (by omega)) (by omega) (by omega)
            have et : tdr N (add1 k (agn N K (agD N K sl ch) ch k) b) 0 k (hgr N (agn N K (agD N K sl ch) ch k) k ||| (b &&& gM N)) = tbs N (add1 k (agn N K (agD N K sl ch) ch k) b) := by
              rw [tbs_put hlk hkn htb]
              exact tdr_cong _ _ fun j _ h2 => add1_lt h2
            refine h10 N (add1 k (agn N K (agD N K sl ch) ch k) b) b (hgr N (agn N K (agD N K sl ch) ch k) k) k _ _ _ _ _ hok hN5 hch5 (hgr_G _ _ _) (by omega) ?_ rfl rfl ?_
            · show vp_updL (τ.2 24 0) (nI k).toNatClampNeg (lN b) (nI k).toNatClampNeg = _
              rw [pk_uLs]
            · rw [et]
              refine And.intro hin ?_
              refine h7 b (arv N (agn N K (agD N K sl ch) ch k)) _ _ _ ?_ hbo.1.1 (arr _ hbo.1.2.2.1) ?_
              · show vp_updL (τ.2 24 0) (nI k).toNatClampNeg (lN b) (nI k).toNatClampNeg = _
                rw [pk_uLs]
              · refine And.intro hin ?_
                refine hw _ _ _ [some (jR 22 0), some (jR 17 i), some (jI (nI sl)), some (jI (nI (cnt (tbs N ch) 40))), some (jJ (lN (rts N))), none, some (jJ (lN (hi (gM N) k) &&& (lN (hi (gM N) k) - lN 1))), none, none, none, none] _ (by repeat' first | exact trivial | exact rfl | apply And.intro) ?_
                show X (wI (wJ (wJ τ 24 0 (vp_updL (τ.2 24 0) (nI k).toNatClampNeg (lN b))) 22 0 (vp_updL (τ.2 22 0) 4 (lN (tbs N (add1 k (agn N K (agD N K sl ch) ch k) b))))) 25 0 (upd (τ.1 25 0) (nI k).toNatClampNeg (nI (1 + mxL (arv N (agn N K (agD N K sl ch) ch k)) b 40))), 40, [some (jR 22 0), some (jR 17 i), some (jI (nI sl)), some (jI (nI (cnt (tbs N ch) 40))), some (jJ (lN (rts N))), none, some (jJ (lN (hi (gM N) k) &&& (lN (hi (gM N) k) - lN 1))), none, none, none, none], [])
                rw [nxt hb2]
                have eav : 1 + mxL (arv N (agn N K (agD N K sl ch) ch k)) b 40 = arv N (add1 k (agn N K (agD N K sl ch) ch k) b) k := by
                  rw [arv_gate (by rw [add1_q]; exact hbo.1.2.2.1) hb, add1_q, mxL_cong fun j hj => same j (hbo.1.2.2.1 j hj)]
                refine next _ (off_wI (off_wJ (off_wJ ho (by omega) (by omega)) (by omega) (by omega)) (by omega) (by omega)) hch5 ?_ (fun j hj hj2 => ?_) r4
                · show vp_updL (τ.2 22 0) 4 (lN (tbs N (add1 k (agn N K (agD N K sl ch) ch k) b))) 4 = _
                  rw [pk_uLs]
                · show upd (τ.1 25 0) (nI k).toNatClampNeg (nI (1 + mxL (arv N (agn N K (agD N K sl ch) ch k)) b 40)) j = _
                  rw [ek, upd_at]
                  by_cases e : j = k
                  · rw [if_pos e, e, eav]
                  · rw [if_neg e]
                    rcases Nat.lt_or_ge j k with q | q
                    · rw [same j q]; exact r3 j hj (Or.inl q)
                    · have hj3 : isG N j = false := by
                        rcases hj2 with z | z
                        · omega
                        · exact z
                      rw [arv_leaf hj3, r3 j hj (Or.inr hj3), arv_leaf hj3]
  have := gen 40 0 (by omega) τ0 (off_wide ho0 (by omega) (by omega)) (fun g hgg => by rw [(ho0 24 0 (by omega)).2]; exact hV.1 g hgg) (by rw [(ho0 22 0 (by omega)).2]; exact hV.2.2) (fun j hj _ => by rw [(ho0 25 0 (by omega)).1]; exact hV.2.1 j hj) hr0
  rw [hi_0] at this
  exact this
