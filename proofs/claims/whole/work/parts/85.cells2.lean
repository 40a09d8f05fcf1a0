/-! the component's Cells: pairTables, addCell, join, layTables -/
def snM (T : Nat) (p : Nat → Option Nat) : Nat := mk (fun i => T.testBit i && isN (p i)) 40
theorem snM_bit {T : Nat} (hT : T < 2 ^ 40) (p : Nat → Option Nat) (i : Nat) : (snM T p).testBit i = (T.testBit i && isN (p i)) := by
  unfold snM
  rw [mk_bit]
  by_cases h : i < 40
  · simp [h]
  · have : T.testBit i = false := by
      cases q : T.testBit i with
      | false => rfl
      | true => have := bit_lt hT q; omega
    simp [h, this]
theorem fit_eq {T K : Nat} {ch : Nat → Nat} {p : Nat → Option Nat} {k : Nat} (hT : T < 2 ^ 40) (hk : T.testBit k = true) : mtS T K ch k &&& snM T p &&& hi T k = mk (prq T K ch p k) 40 := set_eq fun b => by
  rw [Nat.testBit_and, Nat.testBit_and, snM_bit hT, hi_bit]
  unfold mtS
  rw [mk_bit, mk_bit, hk]
  unfold prq
  by_cases hb : b < 40
  · simp only [hb, decide_true, Bool.true_and]
    by_cases c : k < b
    · have e1 : decide (b = k) = false := by simp; omega
      have e2 : decide (k ≤ b) = true := by simp; omega
      have e3 : decide (k < b) = true := by simp [c]
      rw [e1, e2, e3]
      cases T.testBit b <;> cases isN (p b) <;> cases prB K ch k b <;> rfl
    · have e3 : decide (k < b) = false := by simp; omega
      by_cases c2 : b = k
      · have e1 : decide (b = k) = true := by simp [c2]
        rw [e1, e3]
        simp
      · have e2 : decide (k ≤ b) = false := by simp; omega
        rw [e2, e3]
        simp
  · simp [hb]
abbrev ct_pairT (C : jm_C) : Prop := ∀ (N : nw) (K T : Nat) (ch : Nat → Nat) (σ : jm_G) (post : Option jm_V → jm_G → Prop), nw_ok N → cN N σ → allG N T → σ.2 22 0 4 = lN T → cMt N (mtS T K ch) σ → (∀ σ', off 29 31 σ σ' → σ'.2 30 0 = σ.2 30 0 → (∀ i, i < nN N → σ'.1 31 0 i = oN (prT T K ch 40 i)) → σ'.1 29 0 9 = nI (prN T K ch 40) → post none σ') → C kX0_pairTables [jR 29 0] σ post
theorem T_pairT (L : Nat) {C : jm_C} (hC : jm_mon C) (h1 : ct_low C) (h2 : ct_has C) (h3 : ct_bit C) : ct_pairT (jm_up L C) := by
  intro N K T ch σ post hok hN hT h22 hmt hp
  refine jm_start rfl (Nat.le_of_ble_eq_true rfl) hC fun X hg hw => ?_
  have h40 := hok.1
  have hT4 := allG_lt hok hT
  have outer : ∀ (m k : Nat), k + m = 40 → ∀ (τ : jm_G), off 29 31 σ τ → τ.2 30 0 = σ.2 30 0 → (∀ i, i < nN N → τ.1 31 0 i = oN (prT T K ch k i)) → τ.1 29 0 9 = nI (prN T K ch k) → X (τ, 47, [some (jR 29 0), some (jJ (lN (snM T (prT T K ch k)))), none, some (jJ (lN (hi T k))), none, none, none, none, none], []) := by
    intro m
    induction m with
    | zero =>
      intro k hk τ ho e30 r1 r2
      have ek : k = 40 := by omega
      subst ek
      rw [hi_end hT4]
      refine hg [47] 40 _ ?_
      exact br_c (fun _ => And.intro trivial (hp τ ho e30 r1 r2)) (fun h => absurd ((cmp_0 _ _).mpr rfl) h)
    | succ m ih =>
      intro k hk τ ho e30 r1 r2
      cases hb : T.testBit k with
      | false =>
        have hf := prT_f (T := T) (K := K) (ch := ch) (a := k) (by rw [hb]; rfl)
        have := ih (k + 1) (by omega) τ ho e30 (fun i hi => by rw [hf.1]; exact r1 i hi) (by rw [hf.2]; exact r2)
        rw [hi_skip hb, hf.1] at this
        exact this
      | true =>
        have hkn := isG_lt (hT k hb)
        have ek : (nI k).toNatClampNeg = k := nI_clamp (by omega)
        have hink : vp_in (nI k) 40 := vp_in_nI (by omega) (by omega)
        have hsl : snM T (prT T K ch k) < 2 ^ 40 := mk_lt _ _
        have efit : (τ.2 30 0 (nI k).toNatClampNeg &&& lN (snM T (prT T K ch k))) &&& lN (hi T k) = lN (mk (prq T K ch (prT T K ch k) k) 40) := by
          rw [ek, e30, hmt k hkn, fb_andL, fb_andL, fit_eq hT4 hb]
        have hF : mk (prq T K ch (prT T K ch k) k) 40 < 2 ^ 40 := mk_lt _ _
        have same : prT T K ch (k + 1) = prT T K ch k ∧ prN T K ch (k + 1) = prN T K ch k → ∀ c : Int64, X (τ, 47, [some (jR 29 0), some (jJ (lN (snM T (prT T K ch k)))), none, some (jJ (lN (hi T k) &&& (lN (hi T k) - lN 1))), none, some (jI (nI k)), some (jJ c), none, none], []) := by
          intro hf c
          refine hw _ _ _ [some (jR 29 0), some (jJ (lN (snM T (prT T K ch k)))), none, some (jJ (lN (hi T k) &&& (lN (hi T k) - lN 1))), none, none, none, none, none] _ (by repeat' first | exact trivial | exact rfl | apply And.intro) ?_
          have := ih (k + 1) (by omega) τ ho e30 (fun i hi => by rw [hf.1]; exact r1 i hi) (by rw [hf.2]; exact r2)
          rw [hf.1] at this
          rw [nxt hb]
          exact this
        refine hg [47] 90 _ ?_
        refine br_c (fun h => absurd h (hi_n0 hT4 hb)) (fun _ => ?_)
        refine h1 T k τ _ (p40 hT4) hb ?_
        refine And.intro hink ?_
        refine h2 (snM T (prT T K ch k)) k τ _ (p40 hsl) (by omega) ?_
        rw [snM_bit hT4, hb, Bool.true_and]
        refine br_c (fun z => ?_) (fun z => ?_)
        · have z := bI_0.mp z
          exact same (prT_f (by rw [hb, z]; rfl)) _
        · have z := bI_n0.mp z
          have hc : (T.testBit k && isN (prT T K ch k k)) = true := by rw [hb, z]; rfl
          refine br_c (fun y => ?_) (fun y => ?_)
          · have y : lg_cmp ((τ.2 30 0 (nI k).toNatClampNeg &&& lN (snM T (prT T K ch k))) &&& lN (hi T k)) (lN 0) = 0 := y
            rw [efit, cmp_0, lN_inj (by omega) (by omega)] at y
            have hn : frs (prq T K ch (prT T K ch k) k) 40 = none := frs_none fun j hj => by
              have := mk_bit (prq T K ch (prT T K ch k) k) 40 j
              rw [y, Nat.zero_testBit] at this
              simpa [hj] using this.symm
            exact same (prT_n hc hn) _
          · have y : ¬ lg_cmp ((τ.2 30 0 (nI k).toNatClampNeg &&& lN (snM T (prT T K ch k))) &&& lN (hi T k)) (lN 0) = 0 := y
            rw [efit, cmp_0, lN_inj (by omega) (by omega)] at y
            obtain ⟨b, hbb, hblow⟩ := low_ex y
            have hb4 := bit_lt hF hbb
            have hq : prq T K ch (prT T K ch k) k b = true := by
              rw [mk_bit] at hbb
              simpa [hb4] using hbb
            have hs : frs (prq T K ch (prT T K ch k) k) 40 = some b := frs_is hb4 hq fun j hj => by
              have := hblow j hj
              rw [mk_bit] at this
              have hj4 : j < 40 := by omega
              simpa [hj4] using this
            have hkb : k < b ∧ T.testBit b = true := by
              unfold prq at hq
              simp only [Bool.and_eq_true, decide_eq_true_eq] at hq
              exact ⟨hq.1.1.1, hq.1.1.2⟩
            have hbn := isG_lt (hT b hkb.2)
            have eb : (nI b).toNatClampNeg = b := nI_clamp (by omega)
            have hst := prT_s hc hs
            refine c_low h1 (S := mk (prq T K ch (prT T K ch k) k) 40) (k := b) (show (τ.2 30 0 (nI k).toNatClampNeg &&& lN (snM T (prT T K ch k))) &&& lN (hi T k) = _ by rw [efit, hi_low hblow]) (p40 hF) hbb ?_
            refine And.intro hink ?_
            refine And.intro (vp_in_nI (by omega) (by omega)) ?_
            refine h3 k _ _ (by omega) ?_
            refine h3 b _ _ (by omega) ?_
            refine hw _ _ _ [some (jR 29 0), some (jJ (lN (snM T (prT T K ch k)) &&& ((lN (2 ^ k) ||| lN (2 ^ b)) ^^^ (-1)))), none, some (jJ (lN (hi T k) &&& (lN (hi T k) - lN 1))), none, none, none, none, none] _ (by repeat' first | exact trivial | exact rfl | apply And.intro) ?_
            show X (wI (wI (wI τ 31 0 (upd (τ.1 31 0) (nI k).toNatClampNeg (nI b))) 31 0 (upd (upd (τ.1 31 0) (nI k).toNatClampNeg (nI b)) (nI b).toNatClampNeg (nI k))) 29 0 (upd (τ.1 29 0) 9 (τ.1 29 0 9 + nI 1)), 47, [some (jR 29 0), some (jJ (lN (snM T (prT T K ch k)) &&& ((lN (2 ^ k) ||| lN (2 ^ b)) ^^^ (-1)))), none, some (jJ (lN (hi T k) &&& (lN (hi T k) - lN 1))), none, none, none, none, none], [])
            rw [ek, eb, nxt hb, fb_orL, lN_andn, r2, nI_add]
            have es : sD (snM T (prT T K ch k)) (2 ^ k ||| 2 ^ b) = snM T (prT T K ch (k + 1)) := set_eq fun i => by
              rw [sD_bit, snM_bit hT4, snM_bit hT4, hst.1, or_bit, Nat.testBit_two_pow]
              show _ = (T.testBit i && isN (if i = k then some b else if i = b then some k else prT T K ch k i))
              by_cases e1 : i = k
              · rw [if_pos e1, e1]; simp [isN]
              · rw [if_neg e1]
                have e1' : decide (k = i) = false := by simp; omega
                by_cases e2 : i = b
                · rw [if_pos e2, e2]; simp [isN]
                · rw [if_neg e2, e1', show decide (i = b) = false by simpa using e2]
                  simp
            rw [es]
            refine ih (k + 1) (by omega) _ (off_wI (off_wI (off_wI ho (by omega) (by omega)) (by omega) (by omega)) (by omega) (by omega)) e30 (fun i hi => ?_) ?_
            · show upd (upd (τ.1 31 0) k (nI b)) b (nI k) i = _
              rw [upd_at, upd_at, hst.1]
              show _ = oN (if i = k then some b else if i = b then some k else prT T K ch k i)
              by_cases e1 : i = k
              · rw [if_neg (by omega), if_pos e1, if_pos e1]; rfl
              · by_cases e2 : i = b
                · rw [if_pos e2, if_neg e1, if_pos e2]; rfl
                · rw [if_neg e2, if_neg e1, if_neg e1, if_neg e2]; exact r1 i hi
            · show upd (τ.1 29 0) 9 (nI (prN T K ch k + 1)) 9 = _
              rw [upd_at, if_pos rfl, hst.2]
  refine hg [7] 30 _ ?_
  show X (wI σ 29 0 (upd (σ.1 29 0) 9 (nI 0)), 7, [some (jR 29 0), some (jI (nI 0)), none, none, none, none, none, none, none], [])
  have first : ∀ (m k : Nat), k + m = nN N → ∀ (τ : jm_G), off 29 31 σ τ → τ.2 30 0 = σ.2 30 0 → τ.1 29 0 9 = nI 0 → (∀ j, j < k → τ.1 31 0 j = -(nI 1)) → X (τ, 7, [some (jR 29 0), some (jI (nI k)), none, none, none, none, none, none, none], []) := by
    intro m
    induction m with
    | zero =>
      intro k hk τ ho e30 e9 hr
      have e : k = nN N := by omega
      subst e
      have hNt := cN_off hN ho (by omega) (by omega)
      refine hg [7, 47] 30 _ ?_
      refine br_c (fun _ => ?_) (fun h => ?_)
      · show X (τ, 47, [some (jR 29 0), some (jJ (τ.2 22 0 4)), none, some (jJ (τ.2 22 0 4)), none, none, none, none, none], [])
        rw [(ho 22 0 (by omega)).2, h22]
        have := outer 40 0 (by omega) τ ho e30 (fun a ha => hr a ha) e9
        have es : snM T (prT T K ch 0) = T := set_eq fun i => by
          rw [snM_bit hT4]
          show (T.testBit i && true) = _
          rw [Bool.and_true]
        rw [hi_0, es] at this
        exact this
      · have h : ¬ τ.1 2 0 9 ≤ nI (nN N) := h
        rw [hNt.1, nI_leI (by omega) (by omega)] at h
        omega
    | succ m ih =>
      intro k hk τ ho e30 e9 hr
      have hNt := cN_off hN ho (by omega) (by omega)
      refine hg [7, 47] 30 _ ?_
      refine br_c (fun h => ?_) (fun _ => ?_)
      · have h : τ.1 2 0 9 ≤ nI k := h
        rw [hNt.1, nI_leI (by omega) (by omega)] at h
        omega
      · refine And.intro (vp_in_nI (by omega) (by omega)) ?_
        show X (wI τ 31 0 (upd (τ.1 31 0) (nI k).toNatClampNeg (-(nI 1))), 7, [some (jR 29 0), some (jI (nI k + nI 1)), none, none, none, none, none, none, none], [])
        rw [nI_clamp (by omega), nI_add]
        refine ih (k + 1) (by omega) _ (off_wI ho (by omega) (by omega)) e30 e9 fun j hj => ?_
        rw [wI1, if_pos ⟨rfl, rfl⟩, upd_at]
        by_cases e : j = k
        · rw [if_pos e]
        · rw [if_neg e]; exact hr j (by omega)
  exact first (nN N) 0 (by omega) _ (off_wI (off_refl _ _ _) (by omega) (by omega)) rfl (by rw [wI1, if_pos ⟨rfl, rfl⟩, upd_at, if_pos rfl]) fun j hj => absurd hj (by omega)
/-! cells -/
def clC (s : clS) (σ : jm_G) : Prop := σ.1 29 0 10 = nI s.1 ∧ ∀ c, c < s.1 → σ.2 33 0 c = lN (s.2.1 c) ∧ σ.2 34 0 c = lN (s.2.2.1 c) ∧ σ.2 35 0 c = lN (s.2.2.2.1 c)
/-- all but the cells' rows is as it was -/
def cF (σ τ : jm_G) : Prop := (∀ t i, ¬ t ∈ [29, 33, 34, 35] → τ.1 t i = σ.1 t i ∧ τ.2 t i = σ.2 t i) ∧ (∀ f, f ≠ 10 → τ.1 29 0 f = σ.1 29 0 f) ∧ τ.2 29 0 = σ.2 29 0
theorem cF_refl (σ : jm_G) : cF σ σ := ⟨fun _ _ _ => ⟨rfl, rfl⟩, fun _ _ => rfl, rfl⟩
theorem cF_off {lo hi : Nat} {σ τ υ : jm_G} (h : off lo hi σ τ) (h2 : cF τ υ) (h3 : lo ≤ 29) (h4 : 35 ≤ hi) : off lo hi σ υ := fun t i q => by
  have := h2.1 t i (by simp only [List.mem_cons, List.not_mem_nil, or_false]; omega)
  have h5 := h t i q
  exact ⟨this.1.trans h5.1, this.2.trans h5.2⟩
abbrev ct_addCell (C : jm_C) : Prop := ∀ (s : clS) (t r i : Nat) (σ : jm_G) (v1 v2 v3 : Int64) (post : Option jm_V → jm_G → Prop), clC s σ → s.1 < 40 → v1 = lN t → v2 = lN r → v3 = lN i → (∀ σ', cF σ σ' → clC (clN t r i s) σ' → post none σ') → C kX0_addCell [jR 29 0, jJ v1, jJ v2, jJ v3] σ post
theorem T_addCell (L : Nat) {C : jm_C} (hC : jm_mon C) : ct_addCell (jm_up L C) := by
  intro s t r i σ v1 v2 v3 post hs hlt hv1 hv2 hv3 hp
  subst hv1
  subst hv2
  subst hv3
  refine jm_start rfl (Nat.le_of_ble_eq_true rfl) hC fun X hg hw => ?_
  have hin : vp_in (σ.1 29 0 10) 40 := by rw [hs.1]; exact vp_in_nI hlt (by omega)
  have ec : (σ.1 29 0 10).toNatClampNeg = s.1 := by rw [hs.1]; exact nI_clamp (by omega)
  refine hg [] 60 _ ?_
  refine And.intro hin ?_
  refine And.intro hin ?_
  refine And.intro hin ?_
  refine And.intro trivial ?_
  show post none (wI (wJ (wJ (wJ σ 33 0 (vp_updL (σ.2 33 0) (σ.1 29 0 10).toNatClampNeg (lN t))) 34 0 (vp_updL (σ.2 34 0) (σ.1 29 0 10).toNatClampNeg (lN r))) 35 0 (vp_updL (σ.2 35 0) (σ.1 29 0 10).toNatClampNeg (lN i))) 29 0 (upd (σ.1 29 0) 10 (σ.1 29 0 10 + nI 1)))
  rw [ec, hs.1, nI_add]
  refine hp _ ⟨fun a b q => ?_, fun f hf => ?_, rfl⟩ ⟨?_, fun c hc => ?_⟩
  · simp only [List.mem_cons, List.not_mem_nil, or_false] at q
    rw [wI1, if_neg (by omega), wI2, wJ1, wJ1, wJ1, wJ2, if_neg (by omega), wJ2, if_neg (by omega), wJ2, if_neg (by omega)]
    exact ⟨rfl, rfl⟩
  · show upd (σ.1 29 0) 10 _ f = _
    rw [upd_at, if_neg hf]
  · show upd (σ.1 29 0) 10 (nI (s.1 + 1)) 10 = _
    rw [upd_at, if_pos rfl]
    rfl
  · have hc : c < s.1 + 1 := hc
    show vp_updL (σ.2 33 0) s.1 (lN t) c = lN (if c = s.1 then t else s.2.1 c) ∧ vp_updL (σ.2 34 0) s.1 (lN r) c = lN (if c = s.1 then r else s.2.2.1 c) ∧ vp_updL (σ.2 35 0) s.1 (lN i) c = lN (if c = s.1 then i else s.2.2.2.1 c)
    rw [updL_at, updL_at, updL_at]
    by_cases e : c = s.1
    · rw [if_pos e, if_pos e, if_pos e, if_pos e, if_pos e, if_pos e]; exact ⟨rfl, rfl, rfl⟩
    · rw [if_neg e, if_neg e, if_neg e, if_neg e, if_neg e, if_neg e]; exact hs.2 c (by omega)
abbrev ct_join (C : jm_C) : Prop := ∀ (q c : Nat) (σ : jm_G) (x y : Int32) (post : Option jm_V → jm_G → Prop), q < 40 → c < 40 → x = nI q → y = nI c → post none (wI (wJ (wJ σ 33 0 (vp_updL (σ.2 33 0) c (σ.2 33 0 c ||| lN (2 ^ q)))) 35 0 (vp_updL (σ.2 35 0) c (σ.2 35 0 c ||| σ.2 24 0 q))) 32 0 (upd (σ.1 32 0) q (nI c))) → C kX0_join [jR 29 0, jI x, jI y] σ post
theorem T_join (L : Nat) {C : jm_C} (hC : jm_mon C) (h1 : ct_bit C) : ct_join (jm_up L C) := by
  intro q c σ x y post hq hc hx hy hp
  subst hx
  subst hy
  refine jm_start rfl (Nat.le_of_ble_eq_true rfl) hC fun X hg hw => ?_
  have hinc : vp_in (nI c) 40 := vp_in_nI hc (by omega)
  have hinq : vp_in (nI q) 40 := vp_in_nI hq (by omega)
  refine hg [] 60 _ ?_
  refine And.intro hinc ?_
  refine h1 q σ _ (by omega) ?_
  refine And.intro hinc ?_
  refine And.intro hinc ?_
  refine And.intro hinq ?_
  refine And.intro hinc ?_
  refine And.intro hinq ?_
  refine And.intro trivial ?_
  show post none (wI (wJ (wJ σ 33 0 (vp_updL (σ.2 33 0) (nI c).toNatClampNeg (σ.2 33 0 (nI c).toNatClampNeg ||| lN (2 ^ q)))) 35 0 (vp_updL (σ.2 35 0) (nI c).toNatClampNeg (σ.2 35 0 (nI c).toNatClampNeg ||| σ.2 24 0 (nI q).toNatClampNeg))) 32 0 (upd (σ.1 32 0) (nI q).toNatClampNeg (nI c)))
  rw [nI_clamp (show c < 2 ^ 31 by omega), nI_clamp (show q < 2 ^ 31 by omega)]
  exact hp
