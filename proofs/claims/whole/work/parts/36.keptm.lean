/-! the component's Cuts: choices, choice, addWithThird, takeKept, learnKept, keptCut -/
/-- of the four, all but one stay as they are -/
def offC (i : Nat) (σ τ : jm_G) : Prop := off 10 21 σ τ ∧ ∀ t, 17 ≤ t → t ≤ 21 → ∀ j, j ≠ i → τ.1 t j = σ.1 t j ∧ τ.2 t j = σ.2 t j
theorem offC_refl (i : Nat) (σ : jm_G) : offC i σ σ := ⟨off_refl _ _ _, fun _ _ _ _ _ => ⟨rfl, rfl⟩⟩
theorem offC_trans {i : Nat} {σ τ υ : jm_G} (h1 : offC i σ τ) (h2 : offC i τ υ) : offC i σ υ := ⟨off_trans h1.1 h2.1, fun t a b j hj => ⟨((h2.2 t a b j hj).1).trans (h1.2 t a b j hj).1, ((h2.2 t a b j hj).2).trans (h1.2 t a b j hj).2⟩⟩
theorem offC_off {i lo hi : Nat} {σ τ : jm_G} (h : off lo hi σ τ) (h1 : 10 ≤ lo) (h2 : hi < 17) : offC i σ τ := ⟨off_wide h h1 (by omega), fun t a b j _ => h t j (by omega)⟩
theorem offC_wI {i t : Nat} {σ τ : jm_G} {f : Nat → Int32} (h : offC i σ τ) (h1 : 17 ≤ t) (h2 : t ≤ 21) : offC i σ (wI τ t i f) := ⟨off_wI h.1 (by omega) (by omega), fun a b c j hj => ⟨by rw [wI1, if_neg (by omega)]; exact (h.2 a b c j hj).1, by rw [wI2]; exact (h.2 a b c j hj).2⟩⟩
theorem offC_wJ {i t : Nat} {σ τ : jm_G} {f : Nat → Int64} (h : offC i σ τ) (h1 : 17 ≤ t) (h2 : t ≤ 21) : offC i σ (wJ τ t i f) := ⟨off_wJ h.1 (by omega) (by omega), fun a b c j hj => ⟨by rw [wJ1]; exact (h.2 a b c j hj).1, by rw [wJ2, if_neg (by omega)]; exact (h.2 a b c j hj).2⟩⟩
def kR (σ : jm_G) (i n : Nat) (kp : Nat → Nat × (Nat → Nat)) : Prop := ∀ s, s < n → (kp s).1 ≤ 8 ∧ σ.1 21 i s = nI (kp s).1 ∧ ∀ c, c < (kp s).1 → σ.2 20 i (s * 8 + c) = lN ((kp s).2 c)
theorem kR_off {i n : Nat} {kp : Nat → Nat × (Nat → Nat)} {σ τ : jm_G} (h : kR σ i n kp) (h1 : τ.1 21 i = σ.1 21 i) (h2 : τ.2 20 i = σ.2 20 i) : kR τ i n kp := fun s hs => by rw [h1, h2]; exact h s hs
abbrev ct_choices (C : jm_C) : Prop := ∀ (N : nw) (i g p : Nat) (kp : Nat → Nat × (Nat → Nat)) (σ : jm_G) (post : Option jm_V → jm_G → Prop), nw_ok N → cN N σ → isG N g = true → p < 3 → kR σ i g kp → post (some (jI (nI (chN N g kp p)))) σ → C kX4_choices [jR 17 i, jI (nI g), jI (nI p)] σ post
theorem T_choices (L : Nat) {C : jm_C} (hC : jm_mon C) (h1 : ct_sourceOf C) : ct_choices (jm_up L C) := by
  intro N i g p kp σ post hok hN hgt hp3 hk hp
  refine jm_start rfl (Nat.le_of_ble_eq_true rfl) hC fun X hg hw => ?_
  have hn := hok.1
  have hlt := isG_lt hgt
  refine hg [] 30 _ ?_
  refine h1 N g p σ _ hok hN hgt hp3 ?_
  unfold chN at hp
  unfold srcI
  by_cases q : p < ar (nK N g)
  · rw [if_pos q] at hp ⊢
    have hs := nR_lt hok hgt q
    refine br_c (fun h => absurd h (oN_none (by omega))) (fun _ => ?_)
    refine And.intro (vp_in_nI (by omega) (by omega)) ?_
    refine And.intro trivial ?_
    show post (some (jI (nI 1 + σ.1 21 i (nI (nR N g p)).toNatClampNeg))) σ
    rw [nI_clamp (by omega), (hk _ hs).2.1, nI_add]
    exact hp
  · rw [if_neg q] at hp ⊢
    refine br_c (fun _ => ?_) (fun h => absurd rfl h)
    exact And.intro trivial hp
abbrev ct_choice (C : jm_C) : Prop := ∀ (N : nw) (i g p a : Nat) (kp : Nat → Nat × (Nat → Nat)) (σ : jm_G) (post : Option jm_V → jm_G → Prop), nw_ok N → cN N σ → isG N g = true → p < 3 → kR σ i g kp → a < chN N g kp p → post (some (jJ (lN (chC N g kp p a)))) σ → C kX4_choice [jR 17 i, jI (nI g), jI (nI p), jI (nI a)] σ post
theorem T_choice (L : Nat) {C : jm_C} (hC : jm_mon C) (h1 : ct_sourceOf C) (h2 : ct_bit C) : ct_choice (jm_up L C) := by
  intro N i g p a kp σ post hok hN hgt hp3 hk ha hp
  refine jm_start rfl (Nat.le_of_ble_eq_true rfl) hC fun X hg hw => ?_
  have hn := hok.1
  have hlt := isG_lt hgt
  refine hg [] 40 _ ?_
  refine h1 N g p σ _ hok hN hgt hp3 ?_
  unfold chC at hp
  unfold chN at ha
  unfold srcI
  by_cases q : p < ar (nK N g)
  · rw [if_pos q] at hp ha ⊢
    have hs := nR_lt hok hgt q
    obtain ⟨k1, k2, k3⟩ := hk _ hs
    refine br_c (fun h => absurd h (oN_none (by omega))) (fun _ => ?_)
    refine br_c (fun h => ?_) (fun h => ?_)
    · have h : nI a = nI 0 := h
      rw [nI_eq (by omega) (by omega)] at h
      rw [if_pos h] at hp
      refine h2 (nR N g p) σ _ (by omega) ?_
      exact And.intro trivial hp
    · have h : ¬ nI a = nI 0 := h
      rw [nI_eq (by omega) (by omega)] at h
      rw [if_neg h] at hp
      have e : nI (nR N g p) * nI 8 + nI a - nI 1 = nI (nR N g p * 8 + (a - 1)) := by rw [pk_mul, nI_add, pk_sub (by omega), show nR N g p * 8 + a - 1 = nR N g p * 8 + (a - 1) by omega]
      refine And.intro (show vp_in (nI (nR N g p) * nI 8 + nI a - nI 1) 320 by rw [e]; exact vp_in_nI (by omega) (by omega)) ?_
      refine And.intro trivial ?_
      show post (some (jJ (σ.2 20 i (nI (nR N g p) * nI 8 + nI a - nI 1).toNatClampNeg))) σ
      rw [e, nI_clamp (by omega), k3 (a - 1) (by omega)]
      exact hp
  · rw [if_neg q] at hp ha ⊢
    refine br_c (fun _ => ?_) (fun h => absurd rfl h)
    exact And.intro trivial hp
theorem cnt64 {S : Nat} (h : S < 2 ^ 40) : cnt S 64 = cnt S 40 := by
  have : ∀ n, cnt S (40 + n) = cnt S 40 := by
    intro n
    induction n with
    | zero => rfl
    | succ n ih =>
      rw [← Nat.add_assoc, cnt_succ, ih]
      have : S.testBit (40 + n) = false := by
        cases q : S.testBit (40 + n) with
        | false => rfl
        | true => have := bit_lt h q; omega
      rw [this]; rfl
  exact this 24
/-- the row has some more sets, each of which is one of these; and has all of these -/
def rMore (n : Nat) (R : Nat → Nat) (n' : Nat) (R' : Nat → Nat) (A : Nat → Prop) : Prop := n ≤ n' ∧ (∀ j, j < n → R' j = R j) ∧ (∀ j, n ≤ j → j < n' → A (R' j)) ∧ ∀ x, A x → ∃ j, j < n' ∧ R' j = x
abbrev ct_addThird (C : jm_C) : Prop := ∀ (N : nw) (i K g n x : Nat) (R : Nat → Nat) (kp : Nat → Nat × (Nat → Nat)) (l : Nat → Nat) (σ : jm_G) (post : Option jm_V → jm_G → Prop), nw_ok N → cN N σ → isG N g = true → kR σ i g kp → K ≤ 6 → σ.1 17 i 3 = nI K → (∀ j, j < g → σ.1 18 i j = nI (l j) ∧ l j < 100) →
  (∀ j, x.testBit j = true → j < g) → (∀ c, c < chN N g kp 2 → ∀ j, (chC N g kp 2 c).testBit j = true → j < g) → rR σ n R l → n + 9 ≤ 730 →
  (∀ σ' n' R', off 14 16 σ σ' → rR σ' n' R' l → n' ≤ n + 9 → rMore n R n' R' (fun y => cnt y 40 ≤ K ∧ ∃ c, c < chN N g kp 2 ∧ y = x ||| chC N g kp 2 c) → post none σ') → C kX4_addWithThird [jR 17 i, jI (nI g), jJ (lN x)] σ post
theorem lt40 {x g : Nat} (hg : g ≤ 40) (h : ∀ j, x.testBit j = true → j < g) : x < 2 ^ 40 := set_lt fun j hj => by
  cases q : x.testBit j with
  | false => rfl
  | true => have := h j q; omega
theorem T_addThird (L : Nat) {C : jm_C} (hC : jm_mon C) (h1 : ct_bc C) (h2 : ct_choices C) (h3 : ct_choice C) (h4 : ct_place C) (h5 : ct_radd C) : ct_addThird (jm_up L C) := by
  intro N i K g n x R kp l σ post hok hN hgt hk hK hK3 hl hx hch hR hn hp
  refine jm_start rfl (Nat.le_of_ble_eq_true rfl) hC fun X hg hw => ?_
  have h40 := hok.1
  have hlt := isG_lt hgt
  have hx40 : x < 2 ^ 40 := lt40 (by omega) hx
  refine hg [23] 30 _ ?_
  refine h1 x σ _ (Nat.lt_trans hx40 (by omega)) ?_
  rw [cnt64 hx40]
  have hcx := cnt_le x 40
  refine br_c (fun h => ?_) (fun h => ?_)
  · refine h2 N i g 2 kp σ _ hok hN hgt (by omega) hk ?_
    have hc9 : chN N g kp 2 ≤ 9 := by
      unfold chN
      split
      · rename_i q; have := (hk _ (nR_lt hok hgt q)).1; omega
      · omega
    show X (σ, 23, [some (jR 17 i), some (jI (nI g)), some (jJ (lN x)), none, some (jI (nI (chN N g kp 2))), some (jI (nI 0)), none, none], [])
    have gen : ∀ (m c : Nat), c + m = chN N g kp 2 → ∀ (τ : jm_G) (n' : Nat) (R' : Nat → Nat), off 14 16 σ τ → rR τ n' R' l → n' ≤ n + c → rMore n R n' R' (fun y => cnt y 40 ≤ K ∧ ∃ d, d < c ∧ y = x ||| chC N g kp 2 d) →
        X (τ, 23, [some (jR 17 i), some (jI (nI g)), some (jJ (lN x)), none, some (jI (nI (chN N g kp 2))), some (jI (nI c)), none, none], []) := by
      intro m
      induction m with
      | zero =>
        intro c hcm τ n' R' ho hR' hn' hm
        have e : c = chN N g kp 2 := by omega
        refine hg [23] 40 _ ?_
        refine br_c (fun h => ?_) (fun h => ?_)
        · refine And.intro trivial (hp τ n' R' ho hR' (by omega) ?_)
          rw [← e]; exact hm
        · have h : ¬ nI (chN N g kp 2) ≤ nI c := h
          rw [nI_leI (by omega) (by omega)] at h
          omega
      | succ m ih =>
        intro c hcm τ n' R' ho hR' hn' hm
        obtain ⟨m1, m2, m3, m4⟩ := id hm
        refine hg [23] 60 _ ?_
        refine br_c (fun h => ?_) (fun h => ?_)
        · have h : nI (chN N g kp 2) ≤ nI c := h
          rw [nI_leI (by omega) (by omega)] at h
          omega
        · have hNt := cN_off hN ho (by omega) (by omega)
          have hkt : kR τ i g kp := kR_off hk (ho 21 i (by omega)).1 (ho 20 i (by omega)).2
          refine h3 N i g 2 c kp τ _ hok hNt hgt (by omega) hkt (by omega) ?_
          have hy : ∀ j, (x ||| chC N g kp 2 c).testBit j = true → j < g := by
            intro j hj
            rw [Nat.testBit_or, Bool.or_eq_true] at hj
            rcases hj with q | q
            · exact hx j q
            · exact hch c (by omega) j q
          have hy40 := lt40 (x := x ||| chC N g kp 2 c) (by omega) hy
          have hcy := cnt_le (x ||| chC N g kp 2 c) 40
          refine c_bc h1 (S := x ||| chC N g kp 2 c) (fb_orL _ _) (Nat.lt_trans hy40 (by omega)) ?_
          rw [cnt64 hy40]
          have e3 : τ.1 17 i 3 = nI K := by rw [(ho 17 i (by omega)).1]; exact hK3
          refine br_c (fun h => ?_) (fun h => ?_)
          · have h : τ.1 17 i 3 < nI (cnt (x ||| chC N g kp 2 c) 40) := h
            rw [e3, nI_ltI (by omega) (by omega)] at h
            refine hw _ _ _ [some (jR 17 i), some (jI (nI g)), some (jJ (lN x)), none, some (jI (nI (chN N g kp 2))), some (jI (nI c + nI 1)), none, none] _ (by repeat' first | exact trivial | exact rfl | apply And.intro) ?_
            rw [nI_add]
            refine ih (c + 1) (by omega) τ n' R' ho hR' (by omega) ⟨m1, m2, fun j a b => ?_, fun y hy2 => ?_⟩
            · obtain ⟨q1, d, q2, q3⟩ := m3 j a b
              exact ⟨q1, d, by omega, q3⟩
            · obtain ⟨q1, d, q2, q3⟩ := hy2
              by_cases e : d = c
              · subst e; rw [q3] at q1; omega
              · exact m4 y ⟨q1, d, by omega, q3⟩
          · have h : ¬ τ.1 17 i 3 < nI (cnt (x ||| chC N g kp 2 c) 40) := h
            rw [e3, nI_ltI (by omega) (by omega)] at h
            have hlv : ∀ j, (x ||| chC N g kp 2 c).testBit j = true → τ.1 18 i j = nI (l j) ∧ l j < 100 := fun j hj => by rw [(ho 18 i (by omega)).1]; exact hl j (hy j hj)
            have hpl : plc l (x ||| chC N g kp 2 c) < 2 ^ 62 := plc_lt fun j hj => (hlv j hj).2
            have ev : lN x ||| lN (chC N g kp 2 c) = lN (x ||| chC N g kp 2 c) := fb_orL _ _
            have call : ∀ {post' : Option jm_V → jm_G → Prop}, (∀ v υ, post' v υ → post' v υ) → C kX4_placeInRow [jR 17 i, jJ (lN (x ||| chC N g kp 2 c))] τ post' → C kX4_placeInRow [jR 17 i, jJ (lN x ||| lN (chC N g kp 2 c))] τ post' := fun _ h => by rw [ev]; exact h
            refine call (fun _ _ h => h) ?_
            refine h4 i _ l τ _ hy40 (by omega) hlv ?_
            have call2 : ∀ {post' : Option jm_V → jm_G → Prop}, (∀ v υ, post' v υ → post' v υ) → C kX6_add [jR 14 0, jJ (lN (x ||| chC N g kp 2 c)), jJ (lN (plc l (x ||| chC N g kp 2 c)))] τ post' → C kX6_add [jR 14 0, jJ (lN x ||| lN (chC N g kp 2 c)), jJ (lN (plc l (x ||| chC N g kp 2 c)))] τ post' := fun _ h => by rw [ev]; exact h
            refine call2 (fun _ _ h => h) ?_
            refine h5 l n' _ R' τ _ hR' (by omega) hy40 hpl fun υ o1 o2 => ?_
            refine hw _ _ _ [some (jR 17 i), some (jI (nI g)), some (jJ (lN x)), none, some (jI (nI (chN N g kp 2))), some (jI (nI c + nI 1)), none, none] _ (by repeat' first | exact trivial | exact rfl | apply And.intro) ?_
            rw [nI_add]
            refine ih (c + 1) (by omega) υ (n' + 1) _ (off_trans ho o1) o2 (by omega) ⟨by omega, fun j hj => ?_, fun j a b => ?_, fun y hy2 => ?_⟩
            · rw [add1_lt (by omega)]; exact m2 j hj
            · by_cases e : j = n'
              · rw [e, add1_q]; exact ⟨by omega, c, by omega, rfl⟩
              · rw [add1_lt (by omega)]
                obtain ⟨q1, d, q2, q3⟩ := m3 j a (by omega)
                exact ⟨q1, d, by omega, q3⟩
            · obtain ⟨q1, d, q2, q3⟩ := hy2
              by_cases e : d = c
              · subst e; exact ⟨n', by omega, by rw [add1_q, q3]⟩
              · obtain ⟨j, q4, q5⟩ := m4 y ⟨q1, d, by omega, q3⟩
                exact ⟨j, by omega, by rw [add1_lt q4]; exact q5⟩
    exact gen (chN N g kp 2) 0 (by omega) σ n R (off_refl _ _ _) hR (by omega) ⟨Nat.le_refl _, fun _ _ => rfl, fun j a b => absurd b (by omega), fun y ⟨_, d, hd, _⟩ => absurd hd (by omega)⟩
  · have h : ¬ nI (cnt x 40) ≤ σ.1 17 i 3 := h
    rw [hK3, nI_leI (by omega) (by omega)] at h
    refine And.intro trivial (hp σ n R (off_refl _ _ _) hR (by omega) ⟨Nat.le_refl _, fun _ _ => rfl, fun j a b => absurd b (by omega), fun y ⟨q1, c, _, q3⟩ => ?_⟩)
    have : cnt x 40 ≤ cnt y 40 := cnt_sub fun j _ hj => by rw [q3, Nat.testBit_or, hj]; rfl
    omega
