/-! the component's Cuts: takeKept, learnKept, learn, keptCut -/
def tkF (i g : Nat) (σ τ : jm_G) : Prop := offC i σ τ ∧ τ.1 17 i = σ.1 17 i ∧ τ.1 18 i = σ.1 18 i ∧ τ.2 19 i = σ.2 19 i ∧ (∀ j, j ≠ g → τ.1 21 i j = σ.1 21 i j) ∧ ∀ j, (j < g * 8 ∨ g * 8 + 8 ≤ j) → τ.2 20 i j = σ.2 20 i j
theorem tkF_refl (i g : Nat) (σ : jm_G) : tkF i g σ σ := ⟨offC_refl _ _, rfl, rfl, rfl, fun _ _ => rfl, fun _ _ => rfl⟩
theorem tkF_trans {i g : Nat} {σ τ υ : jm_G} (h : tkF i g σ τ) (k : tkF i g τ υ) : tkF i g σ υ :=
  ⟨offC_trans h.1 k.1, k.2.1.trans h.2.1, k.2.2.1.trans h.2.2.1, k.2.2.2.1.trans h.2.2.2.1, fun j hj => (k.2.2.2.2.1 j hj).trans (h.2.2.2.2.1 j hj), fun j hj => (k.2.2.2.2.2 j hj).trans (h.2.2.2.2.2 j hj)⟩
theorem tkF_off {i g lo hi : Nat} {σ τ : jm_G} (h : off lo hi σ τ) (h1 : 10 ≤ lo) (h2 : hi < 17) : tkF i g σ τ :=
  ⟨offC_off h h1 h2, (h 17 i (by omega)).1, (h 18 i (by omega)).1, (h 19 i (by omega)).2, fun j _ => by rw [(h 21 i (by omega)).1], fun j _ => by rw [(h 20 i (by omega)).2]⟩
abbrev ct_takeKept (C : jm_C) : Prop := ∀ (i g n : Nat) (R : Nat → Nat) (l : Nat → Nat) (M : Nat → Prop) (σ : jm_G) (post : Option jm_V → jm_G → Prop), g < 40 → rR σ n R l → (∀ j, j < n → M (R j)) → (∀ x, M x → ∃ j, j < n ∧ R j = x) → (∀ x, M x → (x < 2 ^ 40 ∧ cnt x 40 ≤ 6) ∧ ∃ j, x.testBit j = true) →
  (∀ σ' t kc, tkF i g σ σ' → σ'.1 21 i g = nI t → (∀ c, c < t → σ'.2 20 i (g * 8 + c) = lN (kc c)) → isKept l M t kc → post none σ') → C kX4_takeKept [jR 17 i, jI (nI g)] σ post
theorem T_takeKept (L : Nat) {C : jm_C} (hC : jm_mon C) (h1 : ct_rtake C) : ct_takeKept (jm_up L C) := by
  intro i g n R l M σ post hg4 hR hM1 hM2 hM3 hp
  refine jm_start rfl (Nat.le_of_ble_eq_true rfl) hC fun X hg hw => ?_
  have eg : (nI g).toNatClampNeg = g := nI_clamp (by omega)
  refine hg [9] 30 _ ?_
  refine And.intro (vp_in_nI hg4 (by omega)) ?_
  have gen : ∀ (m t : Nat), t + m = 8 → ∀ (τ : jm_G) (kc : Nat → Nat) (n : Nat) (R : Nat → Nat), tkF i g σ τ → τ.1 21 i g = nI t → (∀ c, c < t → τ.2 20 i (g * 8 + c) = lN (kc c)) → rR τ n R l → tkI l M t kc n R →
      X (τ, 9, [some (jR 17 i), some (jI (nI g)), some (jI (nI t)), none, none], []) := by
    intro m
    induction m with
    | zero =>
      intro t htm τ kc n R hf h21 h20 hR hI
      have e : t = 8 := by omega
      subst e
      refine hg [9] 40 _ ?_
      refine br_c (fun h => ?_) (fun h => ?_)
      · exact And.intro trivial (hp τ 8 kc hf h21 h20 (tkI_end hI (by omega) (Or.inr rfl)))
      · exact absurd (show nI 8 ≤ nI 8 from (nI_leI (by omega) (by omega)).mpr (Nat.le_refl _)) h
    | succ m ih =>
      intro t htm τ kc n R hf h21 h20 hR hI
      refine hg [9] 60 _ ?_
      refine br_c (fun h => ?_) (fun h => ?_)
      · have h : nI 8 ≤ nI t := h
        rw [nI_leI (by omega) (by omega)] at h
        omega
      · refine h1 l n R τ _ hR (fun hn0 => ?_) (fun υ f n' R' hf2 hmin o1 o2 o3 => ?_)
        · refine br_c (fun _ => ?_) (fun h => absurd ((cmp_0 _ _).mpr rfl) h)
          exact And.intro trivial (hp τ t kc hf h21 h20 (tkI_end hI (by omega) (Or.inl hn0)))
        · have hMf := hM3 _ (hI.2.2.1 f hf2).1
          have ne : R f ≠ 0 := fun e => by
            obtain ⟨j, hj⟩ := hMf.2
            rw [e, Nat.zero_testBit] at hj
            cases hj
          refine br_c (fun h => ?_) (fun _ => ?_)
          · have h : lg_cmp (lN (R f)) (lN 0) = 0 := h
            rw [cmp_0, lN_inj (Nat.lt_trans hMf.1.1 (by omega)) (by omega)] at h
            exact absurd h ne
          · have e8 : nI g * nI 8 + nI t = nI (g * 8 + t) := by rw [pk_mul, nI_add]
            refine And.intro (show vp_in (nI g * nI 8 + nI t) 320 by rw [e8]; exact vp_in_nI (by omega) (by omega)) ?_
            refine And.intro (vp_in_nI hg4 (by omega)) ?_
            refine hw _ _ _ [some (jR 17 i), some (jI (nI g)), some (jI (nI t + nI 1)), none, none] _ (by repeat' first | exact trivial | exact rfl | apply And.intro) ?_
            show X (wI (wJ υ 20 i (vp_updL (υ.2 20 i) (nI g * nI 8 + nI t).toNatClampNeg (lN (R f)))) 21 i (upd (υ.1 21 i) (nI g).toNatClampNeg (nI t + nI 1)), 9, [some (jR 17 i), some (jI (nI g)), some (jI (nI t + nI 1)), none, none], [])
            rw [e8, nI_clamp (by omega), eg, nI_add]
            have hf3 : tkF i g σ υ := tkF_trans hf (tkF_off o1 (by omega) (by omega))
            obtain ⟨f1, f2, f3, f4, f5, f6⟩ := hf3
            refine ih (t + 1) (by omega) _ (add1 t kc (R f)) n' R' ⟨offC_wI (offC_wJ f1 (by omega) (by omega)) (by omega) (by omega), ?_, ?_, ?_, fun j hj => ?_, fun j hj => ?_⟩ ?_ (fun c hc => ?_) ?_ (tkI_step (fun x hx => (hM3 x hx).1) hI hf2 hmin o3)
            · rw [wI1, if_neg (by omega)]; exact f2
            · rw [wI1, if_neg (by omega)]; exact f3
            · rw [wI2, wJ2, if_neg (by omega)]; exact f4
            · rw [wI1, if_pos ⟨rfl, rfl⟩, upd_at, if_neg hj]; exact f5 j hj
            · rw [wI2, wJ2, if_pos ⟨rfl, rfl⟩, updL_at, if_neg (by omega)]; exact f6 j hj
            · rw [wI1, if_pos ⟨rfl, rfl⟩, upd_at, if_pos rfl]
            · rw [wI2, wJ2, if_pos ⟨rfl, rfl⟩, updL_at]
              by_cases e : c = t
              · rw [e, if_pos rfl, add1_q]
              · rw [if_neg (by omega), add1_lt (by omega), (o1 20 i (by omega)).2]
                exact h20 c (by omega)
            · exact o2
  refine gen 8 0 (by omega) _ (fun _ => 0) n R ⟨offC_wI (offC_refl _ _) (by omega) (by omega), ?_, ?_, rfl, fun j hj => ?_, fun _ _ => rfl⟩ ?_ (fun c hc => absurd hc (by omega)) hR (tkI_0 hM1 hM2)
  · rw [wI1, if_neg (by omega)]
  · rw [wI1, if_neg (by omega)]
  · rw [wI1, if_pos ⟨rfl, rfl⟩, eg, upd_at, if_neg hj]
    rfl
  · rw [wI1, if_pos ⟨rfl, rfl⟩, eg, upd_at, if_pos rfl]
    rfl
abbrev ct_learnKept (C : jm_C) : Prop := ∀ (N : nw) (i K g : Nat) (σ : jm_G) (post : Option jm_V → jm_G → Prop), nw_ok N → cN N σ → isG N g = true → K ≤ 6 → σ.1 17 i 3 = nI K → (∀ j, j < g → σ.1 18 i j = nI (lev N K j) ∧ lev N K j < 100) → σ.2 19 i g = lN (nea N K g) → nOK N K (g + 1) → kR σ i g (kp N K) →
  (∀ σ', tkF i g σ σ' → σ'.1 21 i g = nI (kp N K g).1 → (∀ c, c < (kp N K g).1 → σ'.2 20 i (g * 8 + c) = lN ((kp N K g).2 c)) → post none σ') → C kX4_learnKept [jR 17 i, jI (nI g)] σ post
def Pab (N : nw) (K g a b : Nat) (kp : Nat → Nat × (Nat → Nat)) (y : Nat) : Prop := cnt y 40 ≤ K ∧ ∃ a' b' c, (a' < a ∨ (a' = a ∧ b' < b)) ∧ a' < chN N g kp 0 ∧ b' < chN N g kp 1 ∧ c < chN N g kp 2 ∧ y = chC N g kp 0 a' ||| chC N g kp 1 b' ||| chC N g kp 2 c
theorem T_learnKept (L : Nat) {C : jm_C} (hC : jm_mon C) (h1 : ct_rclear C) (h2 : ct_place C) (h3 : ct_radd C) (h4 : ct_choices C) (h5 : ct_choice C) (h6 : ct_addThird C) (h7 : ct_takeKept C) : ct_learnKept (jm_up L C) := by
  intro N i K g σ post hok hN hgt hK hK3 hl h19 hnO hk hp
  refine jm_start rfl (Nat.le_of_ble_eq_true rfl) hC fun X hg hw => ?_
  have h40 := hok.1
  have hlt := isG_lt hgt
  have eg : (nI g).toNatClampNeg = g := nI_clamp (by omega)
  have hcOK : ∀ x, cand N K g (kp N K) x → cOK K g x := fun x hx => cand_ok hok hgt hnO (kp_ok hok (n := g) (fun s hs => hnO s (by omega))) hx
  have hne := hcOK _ (Or.inl rfl)
  have part : ∀ p a, a < chN N g (kp N K) p → ∀ j, (chC N g (kp N K) p a).testBit j = true → j < g := by
    intro p a ha j hj
    unfold chN at ha
    unfold chC at hj
    by_cases hp : p < ar (nK N g)
    · rw [if_pos hp] at ha hj
      have hs := nR_lt hok hgt hp
      by_cases h0 : a = 0
      · rw [if_pos h0, Nat.testBit_two_pow, decide_eq_true_eq] at hj
        omega
      · rw [if_neg h0] at hj
        have := (kp_ok hok (n := g) (fun s hs => hnO s (by omega)) _ hs (a - 1) (by omega)).2.2.1 j hj
        omega
    · rw [if_neg hp, Nat.zero_testBit] at hj
      cases hj
  have hc9 : ∀ p, chN N g (kp N K) p ≤ 9 := by
    intro p
    unfold chN
    split
    · rename_i q; have := (hk _ (nR_lt hok hgt q)).1; omega
    · omega
  have hc1 := hc9 0
  have hc2 := hc9 1
  refine hg [47, 56] 60 _ ?_
  refine h1 (lev N K) σ _ fun τ o1 r1 => ?_
  refine And.intro (vp_in_nI (by omega) (by omega)) ?_
  refine And.intro (vp_in_nI (by omega) (by omega)) ?_
  have ev : τ.2 19 i (nI g).toNatClampNeg = lN (nea N K g) := by rw [eg, (o1 19 i (by omega)).2]; exact h19
  have hlv : ∀ j, (nea N K g).testBit j = true → τ.1 18 i j = nI (lev N K j) ∧ lev N K j < 100 := fun j hj => by rw [(o1 18 i (by omega)).1]; exact hl j (hne.2.2.1 j hj)
  have call : ∀ {post' : Option jm_V → jm_G → Prop}, (∀ v υ, post' v υ → post' v υ) → C kX4_placeInRow [jR 17 i, jJ (lN (nea N K g))] τ post' → C kX4_placeInRow [jR 17 i, jJ (τ.2 19 i (nI g).toNatClampNeg)] τ post' := fun _ h => by rw [ev]; exact h
  refine call (fun _ _ h => h) ?_
  refine h2 i _ (lev N K) τ _ hne.1 (by have := hne.2.1; omega) hlv ?_
  have call2 : ∀ {post' : Option jm_V → jm_G → Prop}, (∀ v υ, post' v υ → post' v υ) → C kX6_add [jR 14 0, jJ (lN (nea N K g)), jJ (lN (plc (lev N K) (nea N K g)))] τ post' → C kX6_add [jR 14 0, jJ (τ.2 19 i (nI g).toNatClampNeg), jJ (lN (plc (lev N K) (nea N K g)))] τ post' := fun _ h => by rw [ev]; exact h
  refine call2 (fun _ _ h => h) ?_
  refine h3 (lev N K) 0 _ _ τ _ r1 (by omega) hne.1 (plc_lt fun j hj => (hlv j hj).2) fun υ o2 r2 => ?_
  have o3 := off_trans o1 o2
  have hNu := cN_off hN o3 (by omega) (by omega)
  have hku : kR υ i g (kp N K) := kR_off hk (o3 21 i (by omega)).1 (o3 20 i (by omega)).2
  refine h4 N i g 0 (kp N K) υ _ hok hNu hgt (by omega) hku ?_
  refine h4 N i g 1 (kp N K) υ _ hok hNu hgt (by omega) hku ?_
  show X (υ, 47, [some (jR 17 i), some (jI (nI g)), some (jI (nI (chN N g (kp N K) 0))), some (jI (nI (chN N g (kp N K) 1))), some (jI (nI 0)), none], [])
  have outer : ∀ (m a : Nat), a + m = chN N g (kp N K) 0 → ∀ (τ : jm_G) (n : Nat) (R : Nat → Nat), off 14 16 σ τ → rR τ n R (lev N K) → n ≤ 1 + a * 81 → (∀ j, j < n → cand N K g (kp N K) (R j)) → (∃ j, j < n ∧ R j = nea N K g) → (∀ y, Pab N K g a 0 (kp N K) y → ∃ j, j < n ∧ R j = y) →
      X (τ, 47, [some (jR 17 i), some (jI (nI g)), some (jI (nI (chN N g (kp N K) 0))), some (jI (nI (chN N g (kp N K) 1))), some (jI (nI a)), none], []) := by
    intro m
    induction m with
    | zero =>
      intro a ham τ n R ho hR hn hM hnr hP
      have e : a = chN N g (kp N K) 0 := by omega
      refine hg [47, 56] 40 _ ?_
      refine br_c (fun h => ?_) (fun h => ?_)
      · refine h7 i g n R (lev N K) (cand N K g (kp N K)) τ _ (by omega) hR hM (fun x hx => ?_) (fun x hx => ?_) fun σ' t kc f1 f2 f3 f4 => ?_
        · rcases hx with e2 | ⟨q1, a', b', c', qa, qb, qc, e2⟩
          · rw [e2]; exact hnr
          · exact hP x ⟨q1, a', b', c', Or.inl (by omega), qa, qb, qc, e2⟩
        · have := hcOK x hx
          exact ⟨⟨this.1, by have := this.2.1; omega⟩, this.2.2.2⟩
        · obtain ⟨k1, k2⟩ := keep_eq f4
          rw [← kp_gate hok hgt] at k1 k2
          refine And.intro trivial (hp σ' (tkF_trans (tkF_off ho (by omega) (by omega)) f1) (by rw [k1]; exact f2) fun c hc => ?_)
          rw [k1] at hc
          rw [k2 c hc]
          exact f3 c hc
      · have h : ¬ nI (chN N g (kp N K) 0) ≤ nI a := h
        rw [nI_leI (by omega) (by omega)] at h
        omega
    | succ m ih =>
      intro a ham τ n R ho hR hn hM hnr hP
      refine hg [47, 56] 40 _ ?_
      refine br_c (fun h => ?_) (fun h => ?_)
      · have h : nI (chN N g (kp N K) 0) ≤ nI a := h
        rw [nI_leI (by omega) (by omega)] at h
        omega
      · show X (τ, 56, [some (jR 17 i), some (jI (nI g)), some (jI (nI (chN N g (kp N K) 0))), some (jI (nI (chN N g (kp N K) 1))), some (jI (nI a)), some (jI (nI 0))], [])
        have inner : ∀ (m' b : Nat), b + m' = chN N g (kp N K) 1 → ∀ (τ : jm_G) (n : Nat) (R : Nat → Nat), off 14 16 σ τ → rR τ n R (lev N K) → n ≤ 1 + a * 81 + b * 9 → (∀ j, j < n → cand N K g (kp N K) (R j)) → (∃ j, j < n ∧ R j = nea N K g) → (∀ y, Pab N K g a b (kp N K) y → ∃ j, j < n ∧ R j = y) →
            X (τ, 56, [some (jR 17 i), some (jI (nI g)), some (jI (nI (chN N g (kp N K) 0))), some (jI (nI (chN N g (kp N K) 1))), some (jI (nI a)), some (jI (nI b))], []) := by
          intro m'
          induction m' with
          | zero =>
            intro b hbm τ n R ho hR hn hM hnr hP
            refine hg [47, 56] 40 _ ?_
            refine br_c (fun h => ?_) (fun h => ?_)
            · refine hw _ _ _ [some (jR 17 i), some (jI (nI g)), some (jI (nI (chN N g (kp N K) 0))), some (jI (nI (chN N g (kp N K) 1))), some (jI (nI a + nI 1)), none] _ (by repeat' first | exact trivial | exact rfl | apply And.intro) ?_
              rw [nI_add]
              refine ih (a + 1) (by omega) τ n R ho hR (by omega) hM hnr fun y hy => ?_
              obtain ⟨q1, a', b', c', q2, qa, qb, qc, e2⟩ := hy
              refine hP y ⟨q1, a', b', c', ?_, qa, qb, qc, e2⟩
              omega
            · have h : ¬ nI (chN N g (kp N K) 1) ≤ nI b := h
              rw [nI_leI (by omega) (by omega)] at h
              omega
          | succ m' ih' =>
            intro b hbm τ n R ho hR hn hM hnr hP
            have hNt := cN_off hN ho (by omega) (by omega)
            have hkt : kR τ i g (kp N K) := kR_off hk (ho 21 i (by omega)).1 (ho 20 i (by omega)).2
            refine hg [47, 56] 60 _ ?_
            refine br_c (fun h => ?_) (fun h => ?_)
            · have h : nI (chN N g (kp N K) 1) ≤ nI b := h
              rw [nI_leI (by omega) (by omega)] at h
              omega
            · refine h5 N i g 0 a (kp N K) τ _ hok hNt hgt (by omega) hkt (by omega) ?_
              refine h5 N i g 1 b (kp N K) τ _ hok hNt hgt (by omega) hkt (by omega) ?_
              have ev2 : lN (chC N g (kp N K) 0 a) ||| lN (chC N g (kp N K) 1 b) = lN (chC N g (kp N K) 0 a ||| chC N g (kp N K) 1 b) := fb_orL _ _
              have call3 : ∀ {post' : Option jm_V → jm_G → Prop}, (∀ v υ, post' v υ → post' v υ) → C kX4_addWithThird [jR 17 i, jI (nI g), jJ (lN (chC N g (kp N K) 0 a ||| chC N g (kp N K) 1 b))] τ post' → C kX4_addWithThird [jR 17 i, jI (nI g), jJ (lN (chC N g (kp N K) 0 a) ||| lN (chC N g (kp N K) 1 b))] τ post' := fun _ h => by rw [ev2]; exact h
              refine call3 (fun _ _ h => h) ?_
              refine h6 N i K g n _ R (kp N K) (lev N K) τ _ hok hNt hgt hkt hK (by rw [(ho 17 i (by omega)).1]; exact hK3) (fun j hj => by rw [(ho 18 i (by omega)).1]; exact hl j hj) (fun j hj => ?_) (fun c hc j hj => part 2 c hc j hj) hR (by omega) fun υ n' R' o4 r4 hn' hm => ?_
              · rw [Nat.testBit_or, Bool.or_eq_true] at hj
                rcases hj with q | q
                · exact part 0 a (by omega) j q
                · exact part 1 b (by omega) j q
              · obtain ⟨m1, m2, m3, m4⟩ := hm
                show X (υ, 56, [some (jR 17 i), some (jI (nI g)), some (jI (nI (chN N g (kp N K) 0))), some (jI (nI (chN N g (kp N K) 1))), some (jI (nI a)), some (jI (nI b + nI 1))], [])
                rw [nI_add]
                refine ih' (b + 1) (by omega) υ n' R' (off_trans ho o4) r4 (by omega) (fun j hj => ?_) ?_ (fun y hy => ?_)
                · by_cases q : j < n
                  · rw [m2 j q]; exact hM j q
                  · obtain ⟨q1, c, q2, q3⟩ := m3 j (by omega) hj
                    exact Or.inr ⟨q1, a, b, c, by omega, by omega, q2, q3⟩
                · obtain ⟨j, q1, q2⟩ := hnr
                  exact ⟨j, by omega, by rw [m2 j q1]; exact q2⟩
                · obtain ⟨q1, a', b', c', q2, qa, qb, qc, e2⟩ := hy
                  by_cases q : a' = a ∧ b' = b
                  · obtain ⟨rfl, rfl⟩ := q
                    exact m4 y ⟨q1, c', qc, e2⟩
                  · obtain ⟨j, q3, q4⟩ := hP y ⟨q1, a', b', c', by omega, qa, qb, qc, e2⟩
                    exact ⟨j, by omega, by rw [m2 j q3]; exact q4⟩
        exact inner (chN N g (kp N K) 1) 0 (by omega) τ n R ho hR (by omega) hM hnr hP
  refine outer (chN N g (kp N K) 0) 0 (by omega) υ 1 _ o3 r2 (by omega) (fun j hj => ?_) ⟨0, by omega, add1_q _ _ _⟩ (fun y hy => ?_)
  · have e : j = 0 := by omega
    rw [e, add1_q]
    exact Or.inl rfl
  · obtain ⟨q1, a', b', c', q2, -⟩ := hy
    omega
