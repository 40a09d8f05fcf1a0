/-! the component's Cells: layRegisters, fillAnew, isCell, netsOut -/
theorem clT_pk (T : Nat) (ch : Nat → Nat) (p : Nat → Option Nat) : ∀ n, (clT T ch p n).2.2.2.2 = 0
  | 0 => rfl
  | n + 1 => by
    rw [clT]
    split
    · exact clT_pk T ch p n
    · exact clT_pk T ch p n
abbrev ct_layR (C : jm_C) : Prop := ∀ (N : nw) (T : Nat) (ch : Nat → Nat) (p : Nat → Option Nat) (σ : jm_G) (post : Option jm_V → jm_G → Prop), nw_ok N → cN N σ → allG N T → σ.2 22 0 4 = lN T → cCh N ch σ → prI T 40 p → (∀ i, i < nN N → σ.1 32 0 i = if T.testBit i then nI (ceI T p i) else -(nI 1)) → clC (clT T ch p 40) σ → (∀ σ', off 29 35 σ σ' → σ'.2 30 0 = σ.2 30 0 → σ'.1 31 0 = σ.1 31 0 → σ'.1 32 0 = σ.1 32 0 → σ'.1 29 0 9 = σ.1 29 0 9 → clC (clR N T ch p 40) σ' → σ'.2 29 0 8 = lN (clR N T ch p 40).2.2.2.2 → post none σ') → C kX0_layRegisters [jR 29 0] σ post
theorem T_layR (L : Nat) {C : jm_C} (hC : jm_mon C) (h1 : ct_usedBy C) (h2 : ct_fedSev C) (h3 : ct_low C) (h4 : ct_feedOf C) (h5 : ct_has C) (h6 : ct_bit C) (h7 : ct_addCell C) : ct_layR (jm_up L C) := by
  intro N T ch p σ post hok hN hT h22 hch hpI h32 hcl hp
  refine jm_start rfl (Nat.le_of_ble_eq_true rfl) hC fun X hg hw => ?_
  have h40 := hok.1
  have hT4 := allG_lt hok hT
  have hr := rM_lt hok
  have hfr : frM N T ch < 2 ^ 40 := sD_lt (sD_lt (sD_lt hT4))
  have outer : ∀ (m k : Nat), k + m = 40 → ∀ (τ : jm_G), off 29 35 σ τ → τ.2 30 0 = σ.2 30 0 → τ.1 31 0 = σ.1 31 0 → τ.1 32 0 = σ.1 32 0 → τ.1 29 0 9 = σ.1 29 0 9 → clC (clR N T ch p k) τ → τ.2 29 0 8 = lN (clR N T ch p k).2.2.2.2 → X (τ, 51, [some (jR 29 0), some (jJ (lN (frM N T ch))), none, some (jJ (lN (hi (rM N) k))), none, none, none], []) := by
    intro m
    induction m with
    | zero =>
      intro k hk τ ho e30 e31 e32 e9 r1 r2
      have ek : k = 40 := by omega
      subst ek
      rw [hi_end hr]
      refine hg [51] 40 _ ?_
      exact br_c (fun _ => And.intro trivial (hp τ ho e30 e31 e32 e9 r1 r2)) (fun h => absurd ((cmp_0 _ _).mpr rfl) h)
    | succ m ih =>
      intro k hk τ ho e30 e31 e32 e9 r1 r2
      cases hrk : isR N k with
      | false =>
        have hb : (rM N).testBit k = false := by rw [rM_bit]; exact hrk
        have e := clR_f (T := T) (ch := ch) (p := p) hrk
        have := ih (k + 1) (by omega) τ ho e30 e31 e32 e9 (by rw [e]; exact r1) (by rw [e]; exact r2)
        rw [hi_skip hb] at this
        exact this
      | true =>
        have hb : (rM N).testBit k = true := by rw [rM_bit]; exact hrk
        have hNt := cN_off hN ho (by omega) (by omega)
        have hf := hok.2.2.2.1 k hrk
        have hkn := isR_lt hrk
        have hs40 := clR_lt (ch := ch) (p := p) hT (show k < 40 by omega) hrk
        refine hg [51] 90 _ ?_
        refine br_c (fun h => absurd h (hi_n0 hr hb)) (fun _ => ?_)
        refine h3 (rM N) k τ _ (p40 hr) hb ?_
        refine h4 N k τ _ hok hNt hrk ?_
        refine h5 (frM N T ch) (nF N k) τ _ (p40 hfr) (by omega) ?_
        refine br_c (fun z => ?_) (fun z => ?_)
        · have z := bI_0.mp z
          have e := clR_n (p := p) hrk z
          refine h6 k τ _ (by omega) ?_
          refine h6 (nF N k) τ _ (by omega) ?_
          refine h7 (clR N T ch p k) 0 (2 ^ k) (2 ^ nF N k) τ _ _ _ _ r1 hs40 rfl rfl rfl fun υ u1 u2 => ?_
          refine hw _ _ _ [some (jR 29 0), some (jJ (lN (frM N T ch))), none, some (jJ (lN (hi (rM N) k) &&& (lN (hi (rM N) k) - lN 1))), none, none, none] _ (by repeat' first | exact trivial | exact rfl | apply And.intro) ?_
          rw [nxt hb]
          refine ih (k + 1) (by omega) υ (cF_off ho u1 (by omega) (by omega)) ((u1.1 30 0 (by decide)).2.trans e30) ((u1.1 31 0 (by decide)).1.trans e31) ((u1.1 32 0 (by decide)).1.trans e32) ((u1.2.1 9 (by omega)).trans e9) (by rw [e]; exact u2) ?_
          rw [e, u1.2.2]
          exact r2
        · have z := bI_n0.mp z
          have e := clR_p (p := p) hrk z
          have hTf : T.testBit (nF N k) = true := by
            rw [frM_bit, Bool.and_eq_true, Bool.and_eq_true, Bool.and_eq_true] at z
            exact z.1.1.1
          have hce := ceI_lt hT4 hpI hTf
          have hs1 := (clR_1 (N := N) (T := T) (ch := ch) (p := p) k).1
          have ef : (nI (nF N k)).toNatClampNeg = nF N k := nI_clamp (by omega)
          have t32 : τ.1 32 0 (nI (nF N k)).toNatClampNeg = nI (ceI T p (nF N k)) := by rw [ef, e32, h32 _ hf, if_pos hTf]
          have hin2 : vp_in (τ.1 32 0 (nI (nF N k)).toNatClampNeg) 40 := by rw [t32]; exact vp_in_nI (by omega) (by omega)
          refine And.intro (vp_in_nI (by omega) (by omega)) ?_
          refine And.intro hin2 ?_
          refine h6 k τ _ (by omega) ?_
          refine And.intro hin2 ?_
          refine h6 k _ _ (by omega) ?_
          refine hw _ _ _ [some (jR 29 0), some (jJ (lN (frM N T ch))), none, some (jJ (lN (hi (rM N) k) &&& (lN (hi (rM N) k) - lN 1))), none, none, none] _ (by repeat' first | exact trivial | exact rfl | apply And.intro) ?_
          show X (wJ (wJ τ 34 0 (vp_updL (τ.2 34 0) (τ.1 32 0 (nI (nF N k)).toNatClampNeg).toNatClampNeg (τ.2 34 0 (τ.1 32 0 (nI (nF N k)).toNatClampNeg).toNatClampNeg ||| lN (2 ^ k)))) 29 0 (vp_updL (τ.2 29 0) 8 (τ.2 29 0 8 ||| lN (2 ^ k))), 51, [some (jR 29 0), some (jJ (lN (frM N T ch))), none, some (jJ (lN (hi (rM N) k) &&& (lN (hi (rM N) k) - lN 1))), none, none, none], [])
          rw [t32, nI_clamp (by omega), nxt hb, r2, fb_orL]
          refine ih (k + 1) (by omega) _ (off_wJ (off_wJ ho (by omega) (by omega)) (by omega) (by omega)) e30 e31 e32 e9 ?_ ?_
          · rw [e]
            refine ⟨r1.1, fun c hc => ?_⟩
            have hc := r1.2 c hc
            show τ.2 33 0 c = lN ((clR N T ch p k).2.1 c) ∧ vp_updL (τ.2 34 0) (ceI T p (nF N k)) (τ.2 34 0 (ceI T p (nF N k)) ||| lN (2 ^ k)) c = lN (if c = ceI T p (nF N k) then (clR N T ch p k).2.2.1 c ||| 2 ^ k else (clR N T ch p k).2.2.1 c) ∧ τ.2 35 0 c = lN ((clR N T ch p k).2.2.2.1 c)
            rw [updL_at]
            by_cases e3 : c = ceI T p (nF N k)
            · rw [if_pos e3, if_pos e3, ← e3, hc.2.1, fb_orL]; exact ⟨hc.1, rfl, hc.2.2⟩
            · rw [if_neg e3, if_neg e3]; exact hc
          · rw [e]
            show vp_updL (τ.2 29 0) 8 (lN ((clR N T ch p k).2.2.2.2 ||| 2 ^ k)) 8 = _
            rw [pk_uLs]
            rfl
  refine hg [51] 60 _ ?_
  have f0 : off 29 35 σ (wJ σ 29 0 (vp_updL (σ.2 29 0) 8 (lN 0))) := off_wJ (off_refl _ _ _) (by omega) (by omega)
  have hN0 := cN_off hN f0 (by omega) (by omega)
  refine h1 N T ch (wJ σ 29 0 (vp_updL (σ.2 29 0) 8 (lN 0))) _ hok hT h22 hch ?_
  refine h2 N (wJ σ 29 0 (vp_updL (σ.2 29 0) 8 (lN 0))) _ hok hN0 ?_
  show X (wJ σ 29 0 (vp_updL (σ.2 29 0) 8 (lN 0)), 51, [some (jR 29 0), some (jJ (((σ.2 22 0 4 &&& (σ.2 2 0 8 ^^^ (-1))) &&& (lN (usM T ch 40) ^^^ (-1))) &&& (lN (svM N 40) ^^^ (-1)))), none, some (jJ (σ.2 2 0 7)), none, none, none], [])
  rw [h22, hN.2.2.2.2.1, hN.2.2.2.1, lN_andn, lN_andn, lN_andn]
  have := outer 40 0 (by omega) (wJ σ 29 0 (vp_updL (σ.2 29 0) 8 (lN 0))) f0 rfl rfl rfl rfl hcl (by
    show vp_updL (σ.2 29 0) 8 (lN 0) 8 = lN (clT T ch p 40).2.2.2.2
    rw [pk_uLs, clT_pk])
  rw [hi_0] at this
  exact this
/-- what the cells are, between calls -/
def cL (N : nw) (K : Nat) (ch : Nat → Nat) (σ : jm_G) : Prop := cMt N (mtS (tbs N ch) K ch) σ ∧ (∀ i, i < nN N → σ.1 31 0 i = oN (prT (tbs N ch) K ch 40 i)) ∧ (∀ i, i < nN N → σ.1 32 0 i = if (tbs N ch).testBit i then nI (ceI (tbs N ch) (prT (tbs N ch) K ch 40) i) else -(nI 1)) ∧ σ.1 29 0 9 = nI (prN (tbs N ch) K ch 40) ∧ clC (clR N (tbs N ch) ch (prT (tbs N ch) K ch 40) 40) σ ∧ σ.2 29 0 8 = lN (clR N (tbs N ch) ch (prT (tbs N ch) K ch 40) 40).2.2.2.2
abbrev ct_fillAnew (C : jm_C) : Prop := ∀ (N : nw) (K : Nat) (ch : Nat → Nat) (σ : jm_G) (x : Int32) (post : Option jm_V → jm_G → Prop), nw_ok N → cN N σ → chOK N K ch → 3 ≤ K → K ≤ 6 → cV N ch σ → x = nI K → (∀ σ', off 29 35 σ σ' → cL N K ch σ' → post none σ') → C kX0_fillAnew [jR 29 0, jI x] σ post
theorem T_fillAnew (L : Nat) {C : jm_C} (hC : jm_mon C) (h1 : ct_findMates C) (h2 : ct_pairT C) (h3 : ct_layT C) (h4 : ct_layR C) : ct_fillAnew (jm_up L C) := by
  intro N K ch σ x post hok hN hcO hK hK6 hV hx hp
  subst hx
  refine jm_start rfl (Nat.le_of_ble_eq_true rfl) hC fun X hg hw => ?_
  have hT := tbs_G N ch
  have hT4 := tbs_lt hok ch
  have hpI := prI_T (K := K) (ch := ch) hT4 40 (Nat.le_refl _)
  refine hg [] 30 _ ?_
  refine h1 N K (tbs N ch) ch σ _ _ hok hN hV.1 (chOK_L hcO) (fun g hgg => (hcO g hgg).1.1) hT hV.2.2 (by omega) hK6 (show nI K - nI 1 = nI (K - 1) from pk_sub (by omega)) fun τ1 o1 m1 => ?_
  have hN1 := cN_off hN o1 (by omega) (by omega)
  have h22a : τ1.2 22 0 4 = lN (tbs N ch) := by rw [(o1 22 0 (by omega)).2]; exact hV.2.2
  have hch1 : cCh N ch τ1 := fun g hgg => by rw [(o1 24 0 (by omega)).2]; exact hV.1 g hgg
  refine h2 N K (tbs N ch) ch τ1 _ hok hN1 hT h22a m1 fun τ2 o2 e2 p2 q2 => ?_
  have hN2 := cN_off hN1 o2 (by omega) (by omega)
  have h22b : τ2.2 22 0 4 = lN (tbs N ch) := by rw [(o2 22 0 (by omega)).2]; exact h22a
  have hch2 : cCh N ch τ2 := fun g hgg => by rw [(o2 24 0 (by omega)).2]; exact hch1 g hgg
  refine h3 N (tbs N ch) ch (prT (tbs N ch) K ch 40) τ2 _ hok hN2 hT h22b hch2 hpI p2 fun τ3 o3 e3 f3 g3 c3 d3 => ?_
  have hN3 := cN_off hN2 o3 (by omega) (by omega)
  have h22c : τ3.2 22 0 4 = lN (tbs N ch) := by rw [(o3 22 0 (by omega)).2]; exact h22b
  have hch3 : cCh N ch τ3 := fun g hgg => by rw [(o3 24 0 (by omega)).2]; exact hch2 g hgg
  refine h4 N (tbs N ch) ch (prT (tbs N ch) K ch 40) τ3 _ hok hN3 hT h22c hch3 hpI c3 d3 fun τ4 o4 e4 f4 g4 i4 j4 k4 => ?_
  refine And.intro trivial (hp τ4 (off_trans (off_wide o1 (by omega) (by omega)) (off_trans (off_wide o2 (by omega) (by omega)) (off_trans o3 o4))) ⟨fun a ha => ?_, fun i hi => ?_, fun i hi => ?_, ?_, j4, k4⟩)
  · rw [e4, e3, e2]; exact m1 a ha
  · rw [f4, f3]; exact p2 i hi
  · rw [g4]; exact c3 i hi
  · rw [i4, g3]; exact q2
abbrev ct_isCell (C : jm_C) : Prop := ∀ (s : Nat) (x : Int32) (σ : jm_G) (post : Option jm_V → jm_G → Prop), σ.1 29 0 10 = nI s → post (some (jI (bI (inN s x)))) σ → C kX0_isCell [jR 29 0, jI x] σ post
theorem T_isCell (L : Nat) {C : jm_C} (hC : jm_mon C) : ct_isCell (jm_up L C) := by
  intro n x σ post hN hp
  refine jm_start rfl (Nat.le_of_ble_eq_true rfl) hC fun X hg hw => ?_
  refine hg [] 20 _ ?_
  refine br_c (fun h => ?_) (fun h => ?_)
  · refine And.intro (Or.inl rfl) ?_
    have e : inN n x = false := by simp only [inN, h]; simp
    rw [e] at hp
    exact hp
  · refine br_c (fun h2 => ?_) (fun h2 => ?_)
    · have h2 : σ.1 29 0 10 ≤ x := h2
      rw [hN] at h2
      refine And.intro (Or.inl rfl) ?_
      have e : inN n x = false := by simp only [inN, h2]; simp
      rw [e] at hp
      exact hp
    · have h2 : ¬ σ.1 29 0 10 ≤ x := h2
      rw [hN] at h2
      refine And.intro (Or.inr rfl) ?_
      have e : inN n x = true := by simp only [inN, h, h2]; simp
      rw [e] at hp
      exact hp
abbrev ct_netsOut (C : jm_C) : Prop := ∀ (s : clS) (c : Nat) (σ : jm_G) (post : Option jm_V → jm_G → Prop), clC s σ → c < s.1 → s.1 ≤ 40 → post (some (jJ (lN (s.2.1 c ||| s.2.2.1 c)))) σ → C kX0_netsOut [jR 29 0, jI (nI c)] σ post
theorem T_netsOut (L : Nat) {C : jm_C} (hC : jm_mon C) : ct_netsOut (jm_up L C) := by
  intro s c σ post hs hc hs4 hp
  refine jm_start rfl (Nat.le_of_ble_eq_true rfl) hC fun X hg hw => ?_
  refine hg [] 20 _ ?_
  refine And.intro (vp_in_nI (by omega) (by omega)) ?_
  refine And.intro (vp_in_nI (by omega) (by omega)) (And.intro trivial ?_)
  show post (some (jJ (σ.2 33 0 (nI c).toNatClampNeg ||| σ.2 34 0 (nI c).toNatClampNeg))) σ
  rw [nI_clamp (by omega), (hs.2 c hc).1, (hs.2 c hc).2.1, fb_orL]
  exact hp
