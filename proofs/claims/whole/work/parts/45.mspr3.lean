/-! the model's search: spreads -/
theorem c_sprOut {C : jm_C} (h : ct_sprOut C) {N : nw} {u q : Nat} {t : Nat → Nat} {a : Nat → Nat → Nat} {Q : Nat → Nat} {cf : Nat → Option Nat} {σ : jm_G} {post : Option jm_V → jm_G → Prop} {x : Int32} (hx : x = nI u) (hok : nw_ok N) (hN : mN N σ) (hu : isG N u = true) (hR : fR σ t a) (ht : t u < 2 ^ 31) (hQ : mQ σ q Q cf)
  (hp : ∀ σ' q' Q' cf', mf [48, 49] [17] σ σ' → mQ σ' q' Q' cf' → sX q Q cf q' Q' cf' (some (40 + u)) (rmO N t u) → post none σ') : C kX10_spreadsOut [jR 38 0, jI x] σ post := by
  subst hx; exact h N u q t a Q cf σ post hok hN hu hR ht hQ hp
theorem c_sprIn {C : jm_C} (h : ct_sprIn C) {N : nw} {g m x q : Nat} {l t : Nat → Nat} {a : Nat → Nat → Nat} {Q : Nat → Nat} {cf : Nat → Option Nat} {σ : jm_G} {post : Option jm_V → jm_G → Prop} {z : Int32} (hz : z = nI x) (hok : nw_ok N) (hN : mN N σ) (hg4 : g < 40) (hx4 : x < 40) (hm : m < 2 ^ 31) (h44 : σ.1 44 0 x = nI (l x)) (hl : l x < 2 ^ 31) (hR : fR σ t a) (ht : ∀ v, t v < 2 ^ 31) (ha : ∀ p k, a p k < 2 ^ 31) (hQ : mQ σ q Q cf)
  (hp : ∀ σ' q' Q' cf', mf [48, 49] [17] σ σ' → mQ σ' q' Q' cf' → sX q Q cf q' Q' cf' (some x) (rmI N g m l t a x) → post none σ') : C kX10_spreadsIn [jR 38 0, jI z, jJ (lN (inS N g)), jI (nI m)] σ post := by
  subst hz; exact h N g m x q l t a Q cf σ post hok hN hg4 hx4 hm h44 hl hR ht ha hQ hp
theorem bM_start {N : nw} {g m : Nat} {l t : Nat → Nat} {a : Nat → Nat → Nat} {Q Q' : Nat → Nat} {q' : Nat} {cf cf' : Nat → Option Nat} (hg : g < 40) (hd : one q' Q') (hx : sX 0 Q cf q' Q' cf' none (fun w => w = 40 + g)) : bM N g m l t a Q' q' 0 cf' := by
  obtain ⟨-, -, -, h4, h5⟩ := hx
  obtain ⟨j, hj, e⟩ := h5 _ rfl
  refine ⟨⟨hd, fun i hi => Or.inl ⟨(h4 i (by omega) hi).2, (h4 i (by omega) hi).1⟩⟩, ⟨by omega, (h4 0 (by omega) (by omega)).1⟩, Nat.zero_le _, fun i hi => ?_, fun i hi => absurd hi (by omega)⟩
  refine Or.inr ?_
  rw [(h4 i (by omega) hi).1]
  exact ⟨by omega, by omega, Or.inl (by omega)⟩
abbrev ct_spreads (C : jm_C) : Prop := ∀ (N : nw) (g m F : Nat) (l t : Nat → Nat) (a : Nat → Nat → Nat) (σ : jm_G) (post : Option jm_V → jm_G → Prop), nw_ok N → mN N σ → isG N g = true → m < 2 ^ 31 → (∀ v, (nB N g).testBit v = true → σ.1 44 0 v = nI (l v) ∧ l v < 2 ^ 31) → fR σ t a → mF N g m l t a F → F < 1000 →
  (∀ σ' q Q cf, mf [48, 49] [17] σ σ' → mQ σ' q Q cf → bM N g m l t a Q q q cf → post (some (jI (-(nI 1)))) σ') →
  (∀ σ' q p Q cf leaf, mf [48, 49] [17] σ σ' → mQ σ' q Q cf → bM N g m l t a Q q p cf → p < q → Q p = 40 + leaf → isG N leaf = false → leaf < 40 → post (some (jI (nI (40 + leaf)))) σ') → C kX10_spreads [jR 38 0, jI (nI g), jI (nI m)] σ post
theorem T_spreads (L : Nat) {C : jm_C} (hC : jm_mon C) (h1 : ct_mcomes C) (h2 : ct_sprOut C) (h3 : ct_sprIn C) : ct_spreads (jm_up L C) := by
  intro N g m F l t a σ post hok hN hgt hm hl hR hF hF4 hp1 hp2
  refine jm_start rfl (Nat.le_of_ble_eq_true rfl) hC fun X hg hw => ?_
  have h40 := hok.1
  have hgn := isG_lt hgt
  have hg4 : g < 40 := by omega
  have eg : (nI g).toNatClampNeg = g := nI_clamp (by omega)
  have ht : ∀ v, t v < 2 ^ 31 := fun v => by have := hF.2.2.2.2.2.2.1 v; omega
  have ha : ∀ p k, a p k < 2 ^ 31 := fun p k => by have := hF.2.2.2.2.2.2.2 p k; omega
  -- the search
  have srch : ∀ (d p : Nat), p + d = 81 → ∀ (τ : jm_G) (q : Nat) (Q : Nat → Nat) (cf : Nat → Option Nat), mf [48, 49] [17] σ τ → mQ τ q Q cf → bM N g m l t a Q q p cf →
      X (τ, 51, [some (jR 38 0), some (jI (nI g)), some (jI (nI m)), some (jJ (lN (inS N g))), none, some (jI (nI p)), none], []) := by
    intro d
    induction d with
    | zero =>
      intro p hpd τ q Q cf _ hQ hb
      have := mQ_le hQ
      have := hb.2.2.1
      omega
    | succ d ih =>
      intro p hpd τ q Q cf hf hQ hb
      have hq80 := mQ_le hQ
      have hpq := hb.2.2.1
      have hNt := mN_mf hN hf (by decide) (by decide)
      have hRt := fR_mf hR hf (by decide)
      refine hg [51] 80 _ ?_
      refine br_c (fun h => ?_) (fun h => ?_)
      · have h : τ.1 38 0 17 ≤ nI p := h
        rw [hQ.1, nI_leI (by omega) (by omega)] at h
        have e : p = q := by omega
        subst e
        exact And.intro trivial (hp1 τ p Q cf hf hQ hb)
      · have h : ¬ τ.1 38 0 17 ≤ nI p := h
        rw [hQ.1, nI_leI (by omega) (by omega)] at h
        have hpq' : p < q := by omega
        obtain ⟨hQ80, hQp, -, -⟩ := hQ.2.1 p hpq'
        have hend : τ.1 49 0 (nI p).toNatClampNeg = nI (Q p) := by rw [nI_clamp (by omega)]; exact hQp
        have hev := hb.2.2.2.1 p hpq'
        refine And.intro (vp_in_nI (by omega) (by omega)) ?_
        have nx : ∀ (υ : jm_G) (q' : Nat) (Q' : Nat → Nat) (cf' : Nat → Option Nat) (w : Int32), mf [48, 49] [17] τ υ → mQ υ q' Q' cf' → sX q Q cf q' Q' cf' (some (Q p)) (rMs N g m l t a (Q p)) → (∀ u, Q p = 40 + u → isG N u = true) →
            X (υ, 51, [some (jR 38 0), some (jI (nI g)), some (jI (nI m)), some (jJ (lN (inS N g))), none, some (jI (nI p + nI 1)), some (jI w)], []) := by
          intro υ q' Q' cf' w q1 q2 q3 q4
          refine hw _ _ _ [some (jR 38 0), some (jI (nI g)), some (jI (nI m)), some (jJ (lN (inS N g))), none, some (jI (nI p + nI 1)), none] _ (by repeat' first | exact trivial | exact rfl | apply And.intro) ?_
          rw [nI_add]
          exact ih (p + 1) (by omega) υ q' Q' cf' (mf_trans hf q1) q2 (bM_step hok hg4 hF hb hpq' q2.2.2.1 q3 q4)
        by_cases hx4 : Q p < 40
        · have hlt : τ.1 49 0 (nI p).toNatClampNeg < nI 40 := by rw [hend]; exact (nI_ltI (by omega) (by omega)).mpr hx4
          have hxI : iN N g (Q p) := by
            rcases hev with ⟨-, q1⟩ | ⟨q1, -⟩
            · exact q1
            · omega
          refine br_c (fun _ => ?_) (fun h => absurd hlt h)
          refine br_c (fun _ => ?_) (fun h => absurd hlt h)
          refine br_c (fun h => ?_) (fun h => ?_)
          · have h : τ.1 49 0 (nI p).toNatClampNeg = nI g := h
            rw [hend, nI_eq (by omega) (by omega)] at h
            refine nx τ q Q cf _ (mf_refl _ _ _) hQ (sX_iff (sX_refl q Q cf _) fun y => ⟨fun h => h.elim, ?_⟩) (fun u e => by omega)
            rintro (⟨u, e, -⟩ | ⟨-, e, -⟩)
            · omega
            · exact e h
          · have h : ¬ τ.1 49 0 (nI p).toNatClampNeg = nI g := h
            rw [hend, nI_eq (by omega) (by omega)] at h
            have hxB : (nB N g).testBit (Q p) = true := hxI.resolve_left h
            obtain ⟨l1, l2⟩ := hl _ hxB
            refine c_sprIn h3 hend hok hNt hg4 hx4 hm (by rw [(hf.1 44 0 (by omega) (by decide)).1]; exact l1) l2 hRt ht ha hQ fun υ q' Q' cf' o1 o2 o3 => ?_
            refine nx υ q' Q' cf' _ o1 o2 (sX_iff o3 fun y => ⟨fun e => Or.inr ⟨hx4, h, e⟩, ?_⟩) (fun u e => by omega)
            rintro (⟨u, e, -⟩ | ⟨-, -, e⟩)
            · omega
            · exact e
        · have hnlt : ¬ τ.1 49 0 (nI p).toNatClampNeg < nI 40 := by rw [hend, nI_ltI (by omega) (by omega)]; omega
          have hsub : τ.1 49 0 (nI p).toNatClampNeg - nI 40 = nI (Q p - 40) := by rw [hend, pk_sub (by omega)]
          have hxI : iN N g (Q p - 40) := by
            rcases hev with ⟨q1, -⟩ | ⟨-, -, q1⟩
            · omega
            · exact q1
          have hxn : Q p - 40 < nN N := by
            rcases hxI with e | e
            · omega
            · exact nB_lt_n hok e
          refine br_c (fun h => absurd h hnlt) (fun _ => ?_)
          refine And.intro (show vp_in (τ.1 49 0 (nI p).toNatClampNeg - nI 40) 40 by rw [hsub]; exact vp_in_nI (by omega) (by omega)) ?_
          refine br_c (fun h => ?_) (fun h => ?_)
          · have h : τ.1 39 0 (τ.1 49 0 (nI p).toNatClampNeg - nI 40).toNatClampNeg = nI 1 := h
            rw [hsub, nI_clamp (by omega), mN_gate hok hNt hxn] at h
            refine br_c (fun h => absurd h hnlt) (fun _ => ?_)
            refine c_sprOut h2 hsub hok hNt h hRt (ht _) hQ fun υ q' Q' cf' o1 o2 o3 => ?_
            rw [show 40 + (Q p - 40) = Q p by omega] at o3
            refine nx υ q' Q' cf' _ o1 o2 (sX_iff o3 fun y => ⟨fun e => Or.inl ⟨Q p - 40, by omega, h, e⟩, ?_⟩) (fun u e => by rw [show u = Q p - 40 by omega]; exact h)
            rintro (⟨u, e, -, e2⟩ | ⟨e, -⟩)
            · rw [show Q p - 40 = u by omega]; exact e2
            · omega
          · have h : ¬ τ.1 39 0 (τ.1 49 0 (nI p).toNatClampNeg - nI 40).toNatClampNeg = nI 1 := h
            rw [hsub, nI_clamp (by omega), mN_gate hok hNt hxn] at h
            refine And.intro trivial ?_
            show post (some (jI (τ.1 49 0 (nI p).toNatClampNeg))) τ
            rw [hend, show Q p = 40 + (Q p - 40) by omega]
            exact hp2 τ q p Q cf (Q p - 40) hf hQ hb hpq' (by omega) (by simpa using h) (by omega)
  -- nothing is come to
  refine hg [2] 30 _ ?_
  show X (σ, 2, [some (jR 38 0), some (jI (nI g)), some (jI (nI m)), some (jI (nI 0)), none, none, none], [])
  have clr : ∀ (d k : Nat), k + d = 80 → ∀ (τ : jm_G), mf [48, 49] [17] σ τ → (∀ x, x < k → τ.1 48 0 x = -(nI 1)) →
      X (τ, 2, [some (jR 38 0), some (jI (nI g)), some (jI (nI m)), some (jI (nI k)), none, none, none], []) := by
    intro d
    induction d with
    | zero =>
      intro k hkd τ hf hno
      have e : k = 80 := by omega
      subst e
      have hNt := mN_mf hN hf (by decide) (by decide)
      refine hg [2, 51] 60 _ ?_
      refine br_c (fun _ => ?_) (fun h => absurd (show nI 80 ≤ nI 80 from (nI_leI (by omega) (by omega)).mpr (Nat.le_refl _)) h)
      refine And.intro (vp_in_nI (by omega) (by omega)) ?_
      refine c_mcomes h1 (y := 40 + g) (q := 0) (Q := fun _ => 0) (cf := fun _ => none) (fr := none) (nI_add 40 g) rfl (by omega) (fun z e => by cases e) ⟨?_, fun i hi => absurd hi (by omega), fun i j hi => absurd hi (by omega), fun x hx _ => ?_⟩ fun υ q' Q' cf' o1 o2 o3 => ?_
      · show upd (τ.1 38 0) 17 (nI 0) 17 = _
        rw [upd_at, if_pos rfl]
      · show τ.1 48 0 x = _
        exact hno x hx
      · have ein : τ.2 42 0 (nI g).toNatClampNeg ||| (lN 1 <<< ((nI g).toInt64 &&& 63)) = lN (inS N g) := by
          rw [eg, hNt.2.2.2.2.1 g hgn, lN_shl1 (by omega), fb_orL]
          rfl
        show X (υ, 51, [some (jR 38 0), some (jI (nI g)), some (jI (nI m)), some (jJ (τ.2 42 0 (nI g).toNatClampNeg ||| (lN 1 <<< ((nI g).toInt64 &&& 63)))), none, some (jI (nI 0)), none], [])
        rw [ein]
        exact srch 81 0 (by omega) υ q' Q' cf' (mf_trans (mf_sF hf (by decide)) o1) o2 (bM_start hg4 o2.2.2.1 o3)
    | succ d ih =>
      intro k hkd τ hf hno
      refine hg [2, 51] 40 _ ?_
      refine br_c (fun h => ?_) (fun _ => ?_)
      · have h : nI 80 ≤ nI k := h
        rw [nI_leI (by omega) (by omega)] at h
        omega
      · refine And.intro (vp_in_nI (by omega) (by omega)) ?_
        show X (wI τ 48 0 (upd (τ.1 48 0) (nI k).toNatClampNeg (-(nI 1))), 2, [some (jR 38 0), some (jI (nI g)), some (jI (nI m)), some (jI (nI k + nI 1)), none, none, none], [])
        rw [nI_add, nI_clamp (by omega)]
        refine ih (k + 1) (by omega) _ (mf_wI hf (by decide) (by decide)) fun x hx => ?_
        rw [wI1, if_pos ⟨rfl, rfl⟩, upd_at]
        by_cases e : x = k
        · rw [if_pos e]
        · rw [if_neg e]; exact hno x (by omega)
  exact clr 80 0 (by omega) σ (mf_refl _ _ _) (fun x hx => absurd hx (by omega))
