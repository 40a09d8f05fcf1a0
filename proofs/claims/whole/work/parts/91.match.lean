/-! MOST PAIRS: what both sides compute -/
def hM (A : Nat → Nat → Bool) : Nat → (Nat → Prop) → Prop
  | 0, _ => True
  | n + 1, S => ∃ a b, a ≠ b ∧ S a ∧ S b ∧ A a b = true ∧ hM A n (fun z => S z ∧ z ≠ a ∧ z ≠ b)
theorem hM_mono {A : Nat → Nat → Bool} : ∀ (n : Nat) {S S' : Nat → Prop}, (∀ z, S z → S' z) → hM A n S → hM A n S'
  | 0, _, _, _, _ => trivial
  | n + 1, S, S', h, ⟨a, b, h1, h2, h3, h4, h5⟩ => ⟨a, b, h1, h a h2, h b h3, h4, hM_mono n (fun z hz => ⟨h z hz.1, hz.2⟩) h5⟩
theorem hM_pred {A : Nat → Nat → Bool} : ∀ (n : Nat) {S : Nat → Prop}, hM A (n + 1) S → hM A n S := fun n {S} h => by
  obtain ⟨a, b, h1, h2, h3, h4, h5⟩ := h
  exact hM_mono n (fun z hz => hz.1) h5
theorem hM_le {A : Nat → Nat → Bool} {S : Nat → Prop} {m : Nat} : ∀ d, hM A (m + d) S → hM A m S
  | 0, h => h
  | d + 1, h => hM_le d (hM_pred (m + d) h)
theorem hM_lt {A : Nat → Nat → Bool} {S : Nat → Prop} {m n : Nat} (h : m ≤ n) (hh : hM A n S) : hM A m S := by
  have := hM_le (A := A) (S := S) (m := m) (n - m)
  rw [show m + (n - m) = n by omega] at this
  exact this hh
theorem hM_two {A : Nat → Nat → Bool} (hs : ∀ a b, A a b = A b a) : ∀ (n : Nat) {S : Nat → Prop} {v : Nat}, S v → hM A (n + 1) S → hM A (n + 1) (fun z => S z ∧ z ≠ v) ∨ ∃ b, b ≠ v ∧ S b ∧ A v b = true ∧ hM A n (fun z => S z ∧ z ≠ v ∧ z ≠ b) := by
  intro n
  induction n with
  | zero =>
    intro S v hv h
    obtain ⟨a, b, h1, h2, h3, h4, h5⟩ := h
    by_cases ea : a = v
    · right; exact ⟨b, by omega, h3, by rw [← ea]; exact h4, trivial⟩
    · by_cases eb : b = v
      · right; exact ⟨a, by omega, h2, by rw [← eb, hs]; exact h4, trivial⟩
      · left; exact ⟨a, b, h1, ⟨h2, ea⟩, ⟨h3, eb⟩, h4, trivial⟩
  | succ n ih =>
    intro S v hv h
    obtain ⟨a, b, h1, h2, h3, h4, h5⟩ := h
    by_cases ea : a = v
    · right; exact ⟨b, by omega, h3, by rw [← ea]; exact h4, hM_mono (n + 1) (fun z hz => by rw [← ea]; exact hz) h5⟩
    · by_cases eb : b = v
      · right; exact ⟨a, by omega, h2, by rw [← eb, hs]; exact h4, hM_mono (n + 1) (fun z hz => by rw [← eb]; exact ⟨hz.1, hz.2.2, hz.2.1⟩) h5⟩
      · rcases ih (S := fun z => S z ∧ z ≠ a ∧ z ≠ b) (v := v) ⟨hv, by omega, by omega⟩ h5 with q | ⟨c, c1, c2, c3, c4⟩
        · left
          exact ⟨a, b, h1, ⟨h2, ea⟩, ⟨h3, eb⟩, h4, hM_mono (n + 1) (fun z hz => ⟨⟨hz.1.1, hz.2⟩, hz.1.2⟩) q⟩
        · right
          refine ⟨c, c1, c2.1, c3, ⟨a, b, h1, ⟨h2, ea, fun e => c2.2.1 e.symm⟩, ⟨h3, eb, fun e => c2.2.2 e.symm⟩, h4, hM_mono n (fun z hz => ⟨⟨hz.1.1, hz.2.1, hz.2.2⟩, hz.1.2⟩) c4⟩⟩
theorem hM_ex {A : Nat → Nat → Bool} (hs : ∀ a b, A a b = A b a) {n : Nat} {S : Nat → Prop} {v u : Nat} (hv : S v) (hu : S u) (huv : u ≠ v) (hA : A v u = true) (h : hM A (n + 1) S) : ∃ b, b ≠ v ∧ S b ∧ A v b = true ∧ hM A n (fun z => S z ∧ z ≠ v ∧ z ≠ b) := by
  rcases hM_two hs n hv h with q | q
  · refine ⟨u, huv, hu, hA, ?_⟩
    rcases hM_two hs n (S := fun z => S z ∧ z ≠ v) (v := u) ⟨hu, huv⟩ q with w | ⟨c, -, -, -, w⟩
    · exact hM_mono n (fun z hz => ⟨hz.1.1, hz.1.2, hz.2⟩) (hM_pred n w)
    · exact hM_mono n (fun z hz => ⟨hz.1.1, hz.1.2, hz.2.1⟩) w
  · exact q
/-- only those that have a mate count -/
theorem hM_able {A : Nat → Nat → Bool} (hs : ∀ a b, A a b = A b a) : ∀ (n : Nat) {S : Nat → Prop}, hM A n S → hM A n (fun z => S z ∧ ∃ w, S w ∧ w ≠ z ∧ A z w = true)
  | 0, _, _ => trivial
  | n + 1, S, ⟨a, b, h1, h2, h3, h4, h5⟩ => ⟨a, b, h1, ⟨h2, b, h3, fun e => h1 e.symm, h4⟩, ⟨h3, a, h2, h1, by rw [hs]; exact h4⟩, h4, hM_mono n (fun z hz => ⟨⟨hz.1.1, by
      obtain ⟨w, w1, w2⟩ := hz.2
      exact ⟨w, w1.1, w2⟩⟩, hz.1.2⟩) (hM_able hs n h5)⟩
def isMx (A : Nat → Nat → Bool) (S : Nat → Prop) (n : Nat) : Prop := hM A n S ∧ ¬ hM A (n + 1) S
theorem isMx_one {A : Nat → Nat → Bool} {S : Nat → Prop} {n m : Nat} (h1 : isMx A S n) (h2 : isMx A S m) : n = m := by
  rcases Nat.lt_trichotomy n m with c | c | c
  · exact absurd (hM_lt c h2.1) h1.2
  · exact c
  · exact absurd (hM_lt c h1.1) h2.2
theorem isMx_iff {A : Nat → Nat → Bool} {S S' : Nat → Prop} {n : Nat} (h : ∀ z, S z ↔ S' z) (hh : isMx A S n) : isMx A S' n := ⟨hM_mono n (fun z => (h z).mp) hh.1, fun q => hh.2 (hM_mono (n + 1) (fun z => (h z).mpr) q)⟩
theorem cnt_del {S a : Nat} (ha : a < 40) (h : S.testBit a = true) : cnt (sD S (2 ^ a)) 40 + 1 = cnt S 40 := by
  have e := fb_ct_upd (fun i => S.testBit i) false (i := a) (n := 40) ha
  have e2 : fb_ct (fun k => if k = a then false else S.testBit k) 40 = cnt (sD S (2 ^ a)) 40 := by
    unfold cnt
    refine fb_ct_cong fun k hk => ?_
    rw [sD_pw]
    by_cases q : k = a
    · simp [q]
    · simp [q]
  rw [e2, if_pos h, if_neg (fun q => by cases q)] at e
  have e3 : fb_ct (fun i => S.testBit i) 40 = cnt S 40 := rfl
  omega
theorem hM_cnt {A : Nat → Nat → Bool} : ∀ (n : Nat) {X : Nat}, X < 2 ^ 40 → hM A n (fun z => X.testBit z = true) → 2 * n ≤ cnt X 40
  | 0, _, _, _ => by omega
  | n + 1, X, hX, ⟨a, b, h1, h2, h3, h4, h5⟩ => by
    have ha := bit_lt hX h2
    have hb := bit_lt hX h3
    have c1 := cnt_del ha h2
    have hb2 : (sD X (2 ^ a)).testBit b = true := by rw [sD_pw, h3]; simp; omega
    have c2 := cnt_del hb hb2
    have := hM_cnt n (X := sD (sD X (2 ^ a)) (2 ^ b)) (sD_lt (sD_lt hX)) (hM_mono n (fun z hz => by
      rw [sD_pw, sD_pw, hz.1]
      simp only [Bool.true_and, Bool.and_eq_true, Bool.not_eq_true', decide_eq_false_iff_not]
      exact hz.2) h5)
    omega
/-- the same pairs by other names -/
theorem hM_map {A B : Nat → Nat → Bool} {f : Nat → Nat} : ∀ (n : Nat) {I : Nat → Prop}, (∀ i j, I i → I j → f i = f j → i = j) → (∀ i j, I i → I j → A i j = B (f i) (f j)) → (hM A n I ↔ hM B n (fun z => ∃ i, I i ∧ f i = z))
  | 0, _, _, _ => ⟨fun _ => trivial, fun _ => trivial⟩
  | n + 1, I, hf, hA => by
    constructor
    · rintro ⟨a, b, h1, h2, h3, h4, h5⟩
      have ih := (hM_map n (I := fun z => I z ∧ z ≠ a ∧ z ≠ b) (fun i j hi hj => hf i j hi.1 hj.1) (fun i j hi hj => hA i j hi.1 hj.1)).mp h5
      refine ⟨f a, f b, fun e => h1 (hf a b h2 h3 e), ⟨a, h2, rfl⟩, ⟨b, h3, rfl⟩, by rw [← hA a b h2 h3]; exact h4, hM_mono n ?_ ih⟩
      rintro z ⟨i, ⟨i1, i2, i3⟩, rfl⟩
      exact ⟨⟨i, i1, rfl⟩, fun e => i2 (hf i a i1 h2 e), fun e => i3 (hf i b i1 h3 e)⟩
    · rintro ⟨x, y, h1, ⟨a, ha, rfl⟩, ⟨b, hb, rfl⟩, h4, h5⟩
      refine ⟨a, b, fun e => h1 (by rw [e]), ha, hb, by rw [hA a b ha hb]; exact h4, ?_⟩
      refine (hM_map n (I := fun z => I z ∧ z ≠ a ∧ z ≠ b) (fun i j hi hj => hf i j hi.1 hj.1) (fun i j hi hj => hA i j hi.1 hj.1)).mpr (hM_mono n ?_ h5)
      rintro z ⟨⟨i, i1, rfl⟩, i2, i3⟩
      exact ⟨i, ⟨i1, fun e => i2 (by rw [e]), fun e => i3 (by rw [e])⟩, rfl⟩
/-! the component's mostPairsOf -/
abbrev ct_withMates (C : jm_C) : Prop := ∀ (N : nw) (f : Nat → Nat) (X : Nat) (σ : jm_G) (v : Int64) (post : Option jm_V → jm_G → Prop), nw_ok N → cMt N f σ → (∀ a, f a < 2 ^ 40) → X < 2 ^ 40 → (∀ j, X.testBit j = true → j < nN N) → v = lN X → post (some (jJ (lN (mk (fun a => X.testBit a && !decide (f a &&& X = 0)) 40)))) σ → C kX0_withMates [jR 30 0, jJ v] σ post
theorem T_withMates (L : Nat) {C : jm_C} (hC : jm_mon C) (h1 : ct_low C) (h2 : ct_bit C) : ct_withMates (jm_up L C) := by
  intro N f X σ v post hok hm hf4 hX hXn hv hp
  subst hv
  refine jm_start rfl (Nat.le_of_ble_eq_true rfl) hC fun Y hg hw => ?_
  have h40 := hok.1
  refine hg [5] 30 _ ?_
  show Y (σ, 5, [some (jR 30 0), some (jJ (lN X)), none, some (jJ (lN 0)), none, some (jJ (lN X)), none, none], [])
  have main := jm_bits (X := Y) X (fun k => (σ, 5, [some (jR 30 0), some (jJ (lN X)), none, some (jJ (lN (mk (fun a => X.testBit a && !decide (f a &&& X = 0)) k))), none, some (jJ (lN (hi X k))), none, none], [])) 40 ?_ ?_ ?_ 0 (by omega)
  · have main : Y (σ, 5, [some (jR 30 0), some (jJ (lN X)), none, some (jJ (lN 0)), none, some (jJ (lN (hi X 0))), none, none], []) := main
    rw [hi_0] at main
    exact main
  · show Y (σ, 5, [some (jR 30 0), some (jJ (lN X)), none, some (jJ (lN (mk (fun a => X.testBit a && !decide (f a &&& X = 0)) 40))), none, some (jJ (lN (hi X 40))), none, none], [])
    rw [hi_end hX]
    refine hg [] 30 _ ?_
    exact br_c (fun _ => And.intro trivial hp) (fun h => absurd ((cmp_0 _ _).mpr rfl) h)
  · intro k hk hb
    have e : mk (fun a => X.testBit a && !decide (f a &&& X = 0)) (k + 1) = mk (fun a => X.testBit a && !decide (f a &&& X = 0)) k := by rw [mk, hb]; exact Nat.or_zero _
    simp only [e, hi_skip hb]
  · intro k hk hb ih
    have ih : Y (σ, 5, [some (jR 30 0), some (jJ (lN X)), none, some (jJ (lN (mk (fun a => X.testBit a && !decide (f a &&& X = 0)) (k + 1)))), none, some (jJ (lN (hi X (k + 1)))), none, none], []) := ih
    rw [mk, hb, Bool.true_and] at ih
    have e30 : σ.2 30 0 (nI k).toNatClampNeg &&& lN X = lN (f k &&& X) := by rw [nI_clamp (by omega), hm k (hXn k hb), fb_andL]
    have hl : f k &&& X < 2 ^ 40 := Nat.lt_of_le_of_lt Nat.and_le_right hX
    refine hg [5] 60 _ ?_
    refine br_c (fun h => absurd h (hi_n0 hX hb)) (fun _ => ?_)
    refine h1 X k σ _ (p40 hX) hb ?_
    refine And.intro (vp_in_nI (by omega) (by omega)) ?_
    refine br_c (fun z => ?_) (fun z => ?_)
    · have z : lg_cmp (σ.2 30 0 (nI k).toNatClampNeg &&& lN X) (lN 0) = 0 := z
      rw [e30, cmp_0, lN_inj (by omega) (by omega)] at z
      rw [show decide (f k &&& X = 0) = true by simpa using z, Bool.not_true, if_neg (fun q => by cases q), Nat.or_zero] at ih
      refine hw _ _ _ [some (jR 30 0), some (jJ (lN X)), none, some (jJ (lN (mk (fun a => X.testBit a && !decide (f a &&& X = 0)) k))), none, some (jJ (lN (hi X k) &&& (lN (hi X k) - lN 1))), none, none] _ (by repeat' first | exact trivial | exact rfl | apply And.intro) ?_
      rw [nxt hb]
      exact ih
    · have z : ¬ lg_cmp (σ.2 30 0 (nI k).toNatClampNeg &&& lN X) (lN 0) = 0 := z
      rw [e30, cmp_0, lN_inj (by omega) (by omega)] at z
      rw [show decide (f k &&& X = 0) = false by simpa using z, Bool.not_false, if_pos rfl] at ih
      refine h2 k σ _ (by omega) ?_
      refine hw _ _ _ [some (jR 30 0), some (jJ (lN X)), none, some (jJ (lN (mk (fun a => X.testBit a && !decide (f a &&& X = 0)) k) ||| lN (2 ^ k))), none, some (jJ (lN (hi X k) &&& (lN (hi X k) - lN 1))), none, none] _ (by repeat' first | exact trivial | exact rfl | apply And.intro) ?_
      rw [nxt hb, fb_orL]
      exact ih
abbrev ct_fewest (C : jm_C) : Prop := ∀ (N : nw) (f : Nat → Nat) (X : Nat) (σ : jm_G) (v : Int64) (post : Option jm_V → jm_G → Prop), nw_ok N → cMt N f σ → (∀ a, f a < 2 ^ 40) → X < 2 ^ 40 → X ≠ 0 → (∀ j, X.testBit j = true → j < nN N) → v = lN X → (∀ t, X.testBit t = true → post (some (jI (nI t))) σ) → C kX0_withFewestMates [jR 30 0, jJ v] σ post
theorem T_fewest (L : Nat) {C : jm_C} (hC : jm_mon C) (h1 : ct_low C) (h2 : ct_bc C) : ct_fewest (jm_up L C) := by
  intro N f X σ v post hok hm hf4 hX hX0 hXn hv hp
  subst hv
  refine jm_start rfl (Nat.le_of_ble_eq_true rfl) hC fun Y hg hw => ?_
  have h40 := hok.1
  obtain ⟨k0, hb0, hlow⟩ := low_ex hX0
  refine hg [8] 30 _ ?_
  refine c_low h1 (S := X) (k := k0) (by rw [hi_low hlow]) (p40 hX) hb0 ?_
  show Y (σ, 8, [some (jR 30 0), some (jJ (lN X)), none, some (jI (nI k0)), some (jJ (lN X)), none, none], [])
  have gen : ∀ (d k t : Nat), k + d = 40 → X.testBit t = true → Y (σ, 8, [some (jR 30 0), some (jJ (lN X)), none, some (jI (nI t)), some (jJ (lN (hi X k))), none, none], []) := by
    intro d
    induction d with
    | zero =>
      intro k t hk ht
      have ek : k = 40 := by omega
      subst ek
      rw [hi_end hX]
      refine hg [8] 30 _ ?_
      exact br_c (fun _ => And.intro trivial (hp t ht)) (fun h => absurd ((cmp_0 _ _).mpr rfl) h)
    | succ d ih =>
      intro k t hk ht
      cases hb : X.testBit k with
      | false =>
        have := ih (k + 1) t (by omega) ht
        rw [hi_skip hb] at this
        exact this
      | true =>
        have ht4 := bit_lt hX ht
        have l1 : f k &&& X < 2 ^ 40 := Nat.lt_of_le_of_lt Nat.and_le_right hX
        have l2 : f t &&& X < 2 ^ 40 := Nat.lt_of_le_of_lt Nat.and_le_right hX
        refine hg [8] 60 _ ?_
        refine br_c (fun h => absurd h (hi_n0 hX hb)) (fun _ => ?_)
        refine h1 X k σ _ (p40 hX) hb ?_
        refine And.intro (vp_in_nI (by omega) (by omega)) ?_
        refine c_bc h2 (S := f k &&& X) (show σ.2 30 0 (nI k).toNatClampNeg &&& lN X = _ by rw [nI_clamp (by omega), hm k (hXn k hb), fb_andL]) (Nat.lt_trans l1 (by omega)) ?_
        refine And.intro (vp_in_nI (by omega) (by omega)) ?_
        refine c_bc h2 (S := f t &&& X) (show σ.2 30 0 (nI t).toNatClampNeg &&& lN X = _ by rw [nI_clamp (by omega), hm t (hXn t ht), fb_andL]) (Nat.lt_trans l2 (by omega)) ?_
        refine br_c (fun _ => ?_) (fun _ => ?_)
        · refine hw _ _ _ [some (jR 30 0), some (jJ (lN X)), none, some (jI (nI t)), some (jJ (lN (hi X k) &&& (lN (hi X k) - lN 1))), none, none] _ (by repeat' first | exact trivial | exact rfl | apply And.intro) ?_
          rw [nxt hb]
          exact ih (k + 1) t (by omega) ht
        · refine hw _ _ _ [some (jR 30 0), some (jJ (lN X)), none, some (jI (nI k)), some (jJ (lN (hi X k) &&& (lN (hi X k) - lN 1))), none, none] _ (by repeat' first | exact trivial | exact rfl | apply And.intro) ?_
          rw [nxt hb]
          exact ih (k + 1) k (by omega) hb
  have := gen 40 0 k0 (by omega) hb0
  rw [hi_0] at this
  exact this
