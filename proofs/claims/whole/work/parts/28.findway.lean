/-! findWay -/
theorem sX_w {q q' : Nat} {Q Q' : Nat → Nat} {cf cf' : Nat → Option Nat} {fr : Option Nat} {A B : Nat → Prop} (h : sX q Q cf q' Q' cf' fr A) (h1 : ∀ y, A y → B y) (h2 : ∀ y, B y → A y ∨ ∃ i, i < q ∧ Q i = y) : sX q Q cf q' Q' cf' fr B := by
  obtain ⟨x1, x2, x3, x4, x5⟩ := h
  refine ⟨x1, x2, x3, fun i a b => ⟨h1 _ (x4 i a b).1, (x4 i a b).2⟩, fun y hy => ?_⟩
  rcases h2 y hy with h | ⟨i, hi, e⟩
  · exact x5 y h
  · exact ⟨i, by omega, by rw [x2 i hi]; exact e⟩
theorem sQ_le {σ : jm_G} {q : Nat} {Q : Nat → Nat} {cf : Nat → Option Nat} (h : sQ σ q Q cf) : q ≤ 80 :=
  fb_holes 80 q Q (fun i hi => (h.2.1 i hi).1) (fun i j hij hj e => by have := h.2.2 i j (by omega) hj e; omega)
theorem c_seeL {C : jm_C} (h : ct_seeL C) {o : Option Nat} {ls q : Nat} {Q : Nat → Nat} {cf : Nat → Option Nat} {fr : Option Nat} {σ : jm_G} {post : Option jm_V → jm_G → Prop} {x y : Int32} (hx : x = oN o) (hy : y = oN fr) (ho : ∀ u, o = some u → u < 40) (hl : ls < 2 ^ 40) (h6 : σ.2 10 0 6 = lN ls) (hL : sLo ls q Q) (hQ : sQ σ q Q cf)
  (hp : ∀ σ' ls' q' Q' cf', off 10 12 σ σ' → σ'.2 10 0 4 = σ.2 10 0 4 → σ'.2 10 0 5 = σ.2 10 0 5 → σ'.2 10 0 6 = lN ls' → ls' < 2 ^ 40 → sQ σ' q' Q' cf' → sLo ls' q' Q' → sX q Q cf q' Q' cf' fr (fun y => (∃ u, o = some u ∧ y = 40 + u) ∧ ¬ ∃ i, i < q ∧ Q i = y) → post none σ') : C kX8_seeLower [jR 10 0, jI x, jI y] σ post := by
  subst hx; subst hy; exact h o ls q Q cf fr σ post ho hl h6 hL hQ hp
theorem c_seeU {C : jm_C} (h : ct_seeU C) {S us q : Nat} {Q : Nat → Nat} {cf : Nat → Option Nat} {fr : Option Nat} {σ : jm_G} {post : Option jm_V → jm_G → Prop} {x : Int64} {y : Int32} (hx : x = lN S) (hy : y = oN fr) (hS : S < 2 ^ 40) (hu : us < 2 ^ 40) (h5 : σ.2 10 0 5 = lN us) (hU : sUp us q Q) (hQ : sQ σ q Q cf)
  (hp : ∀ σ' q' Q' cf', off 10 12 σ σ' → σ'.2 10 0 4 = σ.2 10 0 4 → σ'.2 10 0 5 = lN (us ||| S) → σ'.2 10 0 6 = σ.2 10 0 6 → sQ σ' q' Q' cf' → sUp (us ||| S) q' Q' → sX q Q cf q' Q' cf' fr (fun y => y < 40 ∧ S.testBit y = true ∧ us.testBit y = false) → post none σ') : C kX8_seeUppers [jR 10 0, jJ x, jI y] σ post := by
  subst hx; subst hy; exact h S us q Q cf fr σ post hS hu h5 hU hQ hp
def ahR (σ : jm_G) (on : Nat) (ah : Nat → Option Nat) : Prop := ∀ v, on.testBit v = true → σ.1 13 0 v = oN (ah v)
abbrev ct_findWay (C : jm_C) : Prop := ∀ (N : nw) (g Cs on St : Nat) (ah : Nat → Option Nat) (σ : jm_G) (post : Option jm_V → jm_G → Prop), nw_ok N → cN N σ → C_ok N g Cs → wS N g Cs on ah → on < 2 ^ 40 → σ.2 10 0 4 = lN on → ahR σ on ah → St < 2 ^ 40 → (∀ y, St.testBit y = true ↔ rS N Cs y) →
  (∀ σ' us ls, off 10 12 σ σ' → σ'.2 10 0 4 = lN on → σ'.2 10 0 5 = lN us → σ'.2 10 0 6 = lN ls → us < 2 ^ 40 → nearC N g Cs (sD us ls) → cnt (sD us ls) 40 = fb_sm (wsrc on ah) 40 → post (some (jI (-(nI 1)))) σ') →
  (∀ σ' leaf q p Q cf, off 10 12 σ σ' → σ'.2 10 0 4 = lN on → sQ σ' q Q cf → bQ N g Cs on ah Q q p cf → p < q → Q p = 40 + leaf → isG N leaf = false → leaf < 40 → post (some (jI (nI leaf))) σ') → C kX8_findWay [jR 10 0, jJ (lN St)] σ post
theorem T_findWay (L : Nat) {C : jm_C} (hC : jm_mon C) (h1 : ct_seeU C) (h2 : ct_seeL C) (h3 : ct_has C) (h4 : ct_bit C) : ct_findWay (jm_up L C) := by
  intro N g Cs on St ah σ post hok hN hCs hws hon h10 hah hSt hS hp1 hp2
  refine jm_start rfl (Nat.le_of_ble_eq_true rfl) hC fun X hg hw => ?_
  refine hg [23] 40 _ ?_
  refine c_seeU h1 (S := St) (us := 0) (q := 0) (Q := fun _ => 0) (cf := fun _ => none) (fr := none) rfl rfl hSt (by omega) ?_ ?_ ⟨?_, fun i hi => absurd hi (by omega), fun i j hi => absurd hi (by omega)⟩ fun τ q Q cf ho e4 e5 e6 hQ hU hx => ?_
  · show vp_updL (vp_updL (σ.2 10 0) 5 (lN 0)) 6 (lN 0) 5 = _
    rw [updL_at, if_neg (by omega), updL_at, if_pos rfl]
  · intro v hv
    rw [Nat.zero_testBit]
    exact ⟨fun h => (by cases h), fun ⟨i, hi, _⟩ => absurd hi (by omega)⟩
  · show upd (σ.1 10 0) 7 (nI 0) 7 = _
    rw [upd_at, if_pos rfl]
  rw [Nat.zero_or] at e5 hU
  have e4' : τ.2 10 0 4 = lN on := by
    rw [e4, ← h10]
    show vp_updL (vp_updL (σ.2 10 0) 5 (lN 0)) 6 (lN 0) 4 = _
    rw [updL_at, if_neg (by omega), updL_at, if_neg (by omega)]
  have e6' : τ.2 10 0 6 = lN 0 := by
    rw [e6]
    show vp_updL (vp_updL (σ.2 10 0) 5 (lN 0)) 6 (lN 0) 6 = _
    rw [updL_at, if_pos rfl]
  have ho' : off 10 12 σ τ := off_trans (off_wI (off_wJ (off_wJ (off_refl _ _ _) (by omega) (by omega)) (by omega) (by omega)) (by omega) (by omega)) ho
  have hx' : sX 0 (fun _ => 0) (fun _ => none) q Q cf none (rS N Cs) := sX_w hx (fun y hy => (hS y).mp hy.2.1) (fun y hy => Or.inl ⟨bit_lt hSt ((hS y).mpr hy), (hS y).mpr hy, Nat.zero_testBit y⟩)
  have hb0 := bQ_start (on := on) (ah := ah) hok hCs hQ.2.2 hx'
  have hL0 : sLo 0 q Q := by
    intro v hv
    rw [Nat.zero_testBit]
    refine ⟨fun h => (by cases h), fun ⟨i, hi, e⟩ => ?_⟩
    have := (hx.2.2.2.1 i (by omega) hi).1.1
    omega
  show X (τ, 23, [some (jR 10 0), some (jJ (lN St)), none, some (jI (nI 0)), none, none, none, none], [])
  have gen : ∀ (m p : Nat), p + m = 81 → ∀ (τ : jm_G) (us ls q : Nat) (Q : Nat → Nat) (cf : Nat → Option Nat), off 10 12 σ τ → τ.2 10 0 4 = lN on → τ.2 10 0 5 = lN us → τ.2 10 0 6 = lN ls → us < 2 ^ 40 → ls < 2 ^ 40 → sQ τ q Q cf → sUp us q Q → sLo ls q Q → bQ N g Cs on ah Q q p cf →
      X (τ, 23, [some (jR 10 0), some (jJ (lN St)), none, some (jI (nI p)), none, none, none, none], []) := by
    intro m
    induction m with
    | zero =>
      intro p hp τ us ls q Q cf _ _ _ _ _ _ hQ _ _ hb
      have := sQ_le hQ
      have := hb.2.2.2.2.1
      omega
    | succ m ih =>
      intro p hp τ us ls q Q cf ho e4 e5 e6 hus hls hQ hU hL hb
      have hq80 := sQ_le hQ
      have hpq := hb.2.2.2.2.1
      refine hg [23] 80 _ ?_
      refine br_c (fun h => ?_) (fun h => ?_)
      · have h : τ.1 10 0 7 ≤ nI p := h
        rw [hQ.1, nI_leI (by omega) (by omega)] at h
        have e : p = q := by omega
        subst e
        have hI : ∀ v, us.testBit v = true ↔ v < 40 ∧ ∃ i, i < p ∧ Q i = v := fun v => ⟨fun h => ⟨bit_lt hus h, (hU v (bit_lt hus h)).mp h⟩, fun h => (hU v h.1).mpr h.2⟩
        have hO : ∀ v, ls.testBit v = true ↔ v < 40 ∧ ∃ i, i < p ∧ Q i = 40 + v := fun v => ⟨fun h => ⟨bit_lt hls h, (hL v (bit_lt hls h)).mp h⟩, fun h => (hL v h.1).mpr h.2⟩
        obtain ⟨r1, r2⟩ := bQ_near hok hCs hws hb hI hO
        exact And.intro trivial (hp1 τ us ls ho e4 e5 e6 hus r1 r2)
      · have h : ¬ τ.1 10 0 7 ≤ nI p := h
        rw [hQ.1, nI_leI (by omega) (by omega)] at h
        have hpq' : p < q := by omega
        refine br_c (fun h => ?_) (fun _ => ?_)
        · have h : nI 80 ≤ nI p := h
          rw [nI_leI (by omega) (by omega)] at h
          omega
        obtain ⟨hQ80, hQp, -⟩ := hQ.2.1 p hpq'
        have eN := cN_off hN ho (by omega) (by omega)
        refine And.intro (vp_in_nI (by omega) (by omega)) ?_
        have hend : τ.1 12 0 (nI p).toNatClampNeg = nI (Q p) := by rw [nI_clamp (by omega)]; exact hQp
        have hev := hb.2.1 p hpq'
        by_cases hx4 : Q p < 40
        · -- an upper end
          refine br_c (fun h => ?_) (fun h => ?_)
          · have h : nI 40 ≤ τ.1 12 0 (nI p).toNatClampNeg := h
            rw [hend, nI_leI (by omega) (by omega)] at h
            omega
          · refine br_c (fun _ => ?_) (fun h => absurd rfl h)
            have stp : ∀ (o : Option Nat), (∀ u, o = some u → u < 40) → (∀ y, rE N on ah (Q p) y ↔ ∃ u, o = some u ∧ y = 40 + u) → ∀ (τ' : jm_G) (ls' q' : Nat) (Q' : Nat → Nat) (cf' : Nat → Option Nat), off 10 12 τ τ' → τ'.2 10 0 4 = τ.2 10 0 4 → τ'.2 10 0 5 = τ.2 10 0 5 → τ'.2 10 0 6 = lN ls' → ls' < 2 ^ 40 → sQ τ' q' Q' cf' → sLo ls' q' Q' → sX q Q cf q' Q' cf' (some (Q p)) (fun y => (∃ u, o = some u ∧ y = 40 + u) ∧ ¬ ∃ i, i < q ∧ Q i = y) →
                X (τ', 23, [some (jR 10 0), some (jJ (lN St)), none, some (jI (nI p + nI 1)), none, none, none, none], []) := by
              intro o ho4 hrE τ' ls' q' Q' cf' o1 o4 o5 o6 o7 oQ oL ox
              have hx2 : sX q Q cf q' Q' cf' (some (Q p)) (rE N on ah (Q p)) := sX_w ox (fun y hy => (hrE y).mpr hy.1) (fun y hy => by
                by_cases he : ∃ i, i < q ∧ Q i = y
                · exact Or.inr he
                · exact Or.inl ⟨(hrE y).mp hy, he⟩)
              rw [nI_add]
              refine ih (p + 1) (by omega) τ' us ls' q' Q' cf' (off_trans ho o1) (by rw [o4]; exact e4) (by rw [o5]; exact e5) o6 hus o7 oQ ?_ oL (bQ_step hok hCs hws hb hpq' oQ.2.2 hx2 (fun u e => by omega))
              intro v hv
              rw [hU v hv]
              constructor
              · rintro ⟨i, hi, e⟩
                exact ⟨i, by have := ox.1; omega, by rw [ox.2.1 i hi]; exact e⟩
              · rintro ⟨i, hi, e⟩
                by_cases hq : i < q
                · rw [ox.2.1 i hq] at e; exact ⟨i, hq, e⟩
                · obtain ⟨⟨⟨u, -, e2⟩, -⟩, -⟩ := ox.2.2.2.1 i (by omega) hi
                  omega
            refine c_has h3 e4 hend (p40 hon) (by omega) ?_
            refine br_c (fun h => ?_) (fun h => ?_)
            · have h := bI_0.mp h
              refine c_seeL h2 (o := some (Q p)) (fr := some (Q p)) hend hend (fun u e => by have := Option.some.inj e; omega) hls e6 hL hQ fun τ' ls' q' Q' cf' o1 o4 o5 o6 o7 oQ oL ox => ?_
              refine hw _ _ _ [some (jR 10 0), some (jJ (lN St)), none, some (jI (nI p + nI 1)), none, none, none, none] _ (by repeat' first | exact trivial | exact rfl | apply And.intro) ?_
              refine stp (some (Q p)) (fun u e => by have := Option.some.inj e; omega) (fun y => ⟨?_, ?_⟩) τ' ls' q' Q' cf' o1 o4 o5 o6 o7 oQ oL ox
              · rintro (⟨-, -, e⟩ | ⟨u, -, h5, -⟩ | ⟨u, e, -⟩ | ⟨u, e, -⟩)
                · exact ⟨Q p, rfl, e⟩
                · rw [h] at h5; cases h5
                · omega
                · omega
              · rintro ⟨u, e, e2⟩
                have e := Option.some.inj e
                exact Or.inl ⟨hx4, h, by omega⟩
            · have h := bI_n0.mp h
              refine And.intro (show vp_in (τ.1 12 0 (nI p).toNatClampNeg) 40 by rw [hend]; exact vp_in_nI (by omega) (by omega)) ?_
              have hav : τ.1 13 0 (τ.1 12 0 (nI p).toNatClampNeg).toNatClampNeg = oN (ah (Q p)) := by
                rw [hend, nI_clamp (by omega), (ho 13 0 (by omega)).1]
                exact hah _ h
              have ha4 : ∀ u, ah (Q p) = some u → u < 40 := fun u e => fV_lt hok (hws.1 u (hws.2.2.1 _ u h e).1)
              refine c_seeL h2 (o := ah (Q p)) (fr := some (Q p)) hav hend ha4 hls e6 hL hQ fun τ' ls' q' Q' cf' o1 o4 o5 o6 o7 oQ oL ox => ?_
              refine hw _ _ _ [some (jR 10 0), some (jJ (lN St)), none, some (jI (nI p + nI 1)), none, none, none, none] _ (by repeat' first | exact trivial | exact rfl | apply And.intro) ?_
              refine stp (ah (Q p)) ha4 (fun y => ⟨?_, ?_⟩) τ' ls' q' Q' cf' o1 o4 o5 o6 o7 oQ oL ox
              · rintro (⟨-, h5, e⟩ | ⟨u, -, -, h5, h6⟩ | ⟨u, e, -⟩ | ⟨u, e, -⟩)
                · rw [h] at h5; cases h5
                · exact ⟨u, h5, h6⟩
                · omega
                · omega
              · rintro ⟨u, e, e2⟩
                exact Or.inr (Or.inl ⟨u, hx4, h, e, e2⟩)
        · -- a lower end
          have hsub : τ.1 12 0 (nI p).toNatClampNeg - nI 40 = nI (Q p - 40) := by rw [hend, pk_sub (by omega)]
          have hfV : fV N g Cs (Q p - 40) := by
            rcases hev with ⟨q1, -⟩ | ⟨-, q1⟩
            · omega
            · exact q1
          have hu40 : Q p - 40 < 40 := fV_lt hok hfV
          refine br_c (fun h => ?_) (fun h => ?_)
          · refine br_c (fun h => ?_) (fun _ => ?_)
            · have h : τ.1 12 0 (nI p).toNatClampNeg = τ.1 12 0 (nI p).toNatClampNeg - nI 40 := h
              rw [hsub, hend, nI_eq (by omega) (by omega)] at h
              omega
            · refine c_has h3 eN.2.2.1 hsub (p40 (gM_lt hok)) (by omega) ?_
              rw [gM_bit]
              refine br_c (fun h => ?_) (fun h => ?_)
              · have h := bI_0.mp h
                refine And.intro trivial ?_
                show post (some (jI (τ.1 12 0 (nI p).toNatClampNeg - nI 40))) τ
                rw [hsub]
                exact hp2 τ (Q p - 40) q p Q cf ho e4 hQ hb hpq' (by omega) h hu40
              · have h := bI_n0.mp h
                refine c_bit h4 hsub (by omega) ?_
                refine And.intro (show vp_in (τ.1 12 0 (nI p).toNatClampNeg - nI 40) 40 by rw [hsub]; exact vp_in_nI hu40 (by omega)) ?_
                have hSv : τ.2 6 0 (τ.1 12 0 (nI p).toNatClampNeg - nI 40).toNatClampNeg ||| (τ.2 10 0 4 &&& lN (2 ^ (Q p - 40))) = lN (sM N (Q p - 40) ||| (on &&& 2 ^ (Q p - 40))) := by
                  rw [hsub, nI_clamp (by omega), eN.2.2.2.2.2.2.2.1 _ hu40, e4, fb_andL, fb_orL]
                have hSb : ∀ y, (sM N (Q p - 40) ||| (on &&& 2 ^ (Q p - 40))).testBit y = true ↔ rE N on ah (Q p) y := by
                  intro y
                  rw [Nat.testBit_or, Nat.testBit_and, Nat.testBit_two_pow, Bool.or_eq_true, Bool.and_eq_true, decide_eq_true_eq]
                  constructor
                  · rintro (h5 | ⟨h5, h6⟩)
                    · exact Or.inr (Or.inr (Or.inl ⟨Q p - 40, by omega, h5⟩))
                    · exact Or.inr (Or.inr (Or.inr ⟨Q p - 40, by omega, h, by rw [h6]; exact h5, h6.symm⟩))
                  · rintro (⟨q1, -⟩ | ⟨u, q1, -⟩ | ⟨u, e, q1⟩ | ⟨u, e, -, q1, q2⟩)
                    · omega
                    · omega
                    · rw [show Q p - 40 = u by omega]; exact Or.inl q1
                    · rw [show Q p - 40 = u by omega, q2]; exact Or.inr ⟨q1, rfl⟩
                have hSl : sM N (Q p - 40) ||| (on &&& 2 ^ (Q p - 40)) < 2 ^ 40 := or_lt (sM_lt40 hok _) (Nat.lt_of_le_of_lt Nat.and_le_left hon)
                refine c_seeU h1 (S := sM N (Q p - 40) ||| (on &&& 2 ^ (Q p - 40))) (fr := some (Q p)) hSv hend hSl hus e5 hU hQ fun τ' q' Q' cf' o1 o4 o5 o6 oQ oU ox => ?_
                refine hw _ _ _ [some (jR 10 0), some (jJ (lN St)), none, some (jI (nI p + nI 1)), none, none, none, none] _ (by repeat' first | exact trivial | exact rfl | apply And.intro) ?_
                have hx2 : sX q Q cf q' Q' cf' (some (Q p)) (rE N on ah (Q p)) := sX_w ox (fun y hy => (hSb y).mp hy.2.1) (fun y hy => by
                  have hy4 := bit_lt hSl ((hSb y).mpr hy)
                  cases hc : us.testBit y with
                  | true => exact Or.inr ((hU y hy4).mp hc)
                  | false => exact Or.inl ⟨hy4, (hSb y).mpr hy, rfl⟩)
                rw [nI_add]
                refine ih (p + 1) (by omega) τ' _ ls q' Q' cf' (off_trans ho o1) (by rw [o4]; exact e4) o5 (by rw [o6]; exact e6) (or_lt hus hSl) hls oQ oU ?_ (bQ_step hok hCs hws hb hpq' oQ.2.2 hx2 (fun u e => by rw [show u = Q p - 40 by omega]; exact h))
                intro v hv
                rw [hL v hv]
                constructor
                · rintro ⟨i, hi, e⟩
                  exact ⟨i, by have := ox.1; omega, by rw [ox.2.1 i hi]; exact e⟩
                · rintro ⟨i, hi, e⟩
                  by_cases hq : i < q
                  · rw [ox.2.1 i hq] at e; exact ⟨i, hq, e⟩
                  · obtain ⟨⟨e2, -⟩, -⟩ := ox.2.2.2.1 i (by omega) hi
                    omega
          · have h : ¬ nI 40 ≤ τ.1 12 0 (nI p).toNatClampNeg := h
            rw [hend, nI_leI (by omega) (by omega)] at h
            omega
  exact gen 81 0 (by omega) τ St 0 q Q cf ho' e4' e5 e6' hSt (by omega) hQ hU hL0 hb0
