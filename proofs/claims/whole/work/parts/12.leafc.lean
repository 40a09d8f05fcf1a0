/-! the least methods of the component: bit, has, lowest, nthOf -/
theorem lN_neg {h : Nat} (h0 : 0 < h) : -(lN h) = lN (h - 1) ^^^ (-1) := by
  have e : lN h = lN (h - 1) + 1 := by rw [lN_1]; congr 1; omega
  rw [Int64.xor_neg_one, Int64.not_eq_neg_sub, e, Int64.neg_add]
theorem low_and {S k : Nat} (h : S.testBit k = true) : sD (hi S k) (hi S k - 1) = 2 ^ k := by
  have h1 := hi_step h
  have h2 : hi S (k + 1) = 2 ^ (k + 1) * (S / 2 ^ (k + 1)) := by unfold hi; rw [Nat.mul_comm]
  apply Nat.eq_of_testBit_eq
  intro i
  have hlt : 2 ^ k - 1 < 2 ^ (k + 1) := by rw [Nat.pow_succ]; have := Nat.two_pow_pos k; omega
  have e : hi S k - 1 = 2 ^ (k + 1) * (S / 2 ^ (k + 1)) + (2 ^ k - 1) := by have := Nat.two_pow_pos k; omega
  rw [sD_bit, e, Nat.testBit_two_pow_mul_add _ hlt, hi_bit, Nat.testBit_two_pow]
  by_cases hi1 : i < k + 1
  · rw [if_pos hi1, Nat.testBit_two_pow_sub_one]
    by_cases hik : i = k
    · subst hik; simp [h]
    · have h3 : decide (k ≤ i) = false := by simp; omega
      have h4 : decide (k = i) = false := by simp; omega
      simp [h3, h4]
  · rw [if_neg hi1, Nat.testBit_div_two_pow, show i - (k + 1) + (k + 1) = i by omega]
    have h4 : decide (k = i) = false := by simp; omega
    rw [h4]
    cases S.testBit i <;> simp
theorem hi_lt {S k n : Nat} (h : S < n) : hi S k < n := Nat.lt_of_le_of_lt (hi_le S k) h
theorem cnt_low {k n : Nat} (h : k ≤ n) : cnt (2 ^ k - 1) n = k := by
  induction n with
  | zero => have : k = 0 := by omega
            subst this; rfl
  | succ n ih =>
    rw [cnt_succ, Nat.testBit_two_pow_sub_one]
    by_cases hk : k ≤ n
    · have : decide (n < k) = false := by simp; omega
      rw [this, ih hk]; rfl
    · have hk : k = n + 1 := by omega
      subst hk
      have h1 : cnt (2 ^ (n + 1) - 1) n = n := by
        unfold cnt
        rw [fb_ct_all]
        intro i hi
        simp [Nat.testBit_two_pow_sub_one]
        omega
      rw [h1]
      simp
abbrev ct_bit (C : jm_C) : Prop := ∀ (k : Nat) (σ : jm_G) (post : Option jm_V → jm_G → Prop), k < 63 → post (some (jJ (lN (2 ^ k)))) σ → C kX9_bit [jI (nI k)] σ post
theorem T_bit (L : Nat) {C : jm_C} (hC : jm_mon C) : ct_bit (jm_up L C) := by
  intro k σ post hk hp
  refine jm_start rfl (Nat.le_of_ble_eq_true rfl) hC fun X hg hw => ?_
  refine hg [] 7 _ ?_
  refine And.intro trivial ?_
  show post (some (jJ (lN 1 <<< ((nI k).toInt64 &&& 63)))) σ
  rw [lN_shl1 (by omega)]
  exact hp
abbrev ct_has (C : jm_C) : Prop := ∀ (S n : Nat) (σ : jm_G) (post : Option jm_V → jm_G → Prop), S < 2 ^ 63 → n < 64 → post (some (jI (bI (S.testBit n)))) σ → C kX9_has [jJ (lN S), jI (nI n)] σ post
theorem T_has (L : Nat) {C : jm_C} (hC : jm_mon C) : ct_has (jm_up L C) := by
  intro S n σ post hS hn hp
  refine jm_start rfl (Nat.le_of_ble_eq_true rfl) hC fun X hg hw => ?_
  refine hg [7] 7 _ ?_
  show X (σ, 7, [some (jJ (lN S)), none, some (jI (nI n))], [jI (lg_cmp ((lN S >>> ((nI n).toInt64 &&& 63)) &&& lN 1) (lN 0))])
  rw [lN_shr hS hn, lN_and1, bit_div]
  refine hg [] 10 _ ?_
  refine br_c (fun h => ?_) (fun h => ?_)
  · have h := (cmp_0 _ _).mp h
    cases hb : S.testBit n with
    | false => rw [hb] at hp; exact ⟨Or.inl rfl, hp⟩
    | true => rw [hb] at h; exact absurd h (by decide)
  · have h := fun q => h ((cmp_0 _ _).mpr q)
    cases hb : S.testBit n with
    | false => rw [hb] at h; exact absurd rfl h
    | true => rw [hb] at hp; exact ⟨Or.inr rfl, hp⟩
abbrev ct_low (C : jm_C) : Prop := ∀ (S k : Nat) (σ : jm_G) (post : Option jm_V → jm_G → Prop), S < 2 ^ 63 → S.testBit k = true → post (some (jI (nI k))) σ → C kX9_lowest [jJ (lN (hi S k))] σ post
theorem T_low (L : Nat) {C : jm_C} (hC : jm_mon C) (h1 : ct_bc C) : ct_low (jm_up L C) := by
  intro S k σ post hS hb hp
  refine jm_start rfl (Nat.le_of_ble_eq_true rfl) hC fun X hg hw => ?_
  refine hg [6] 7 _ ?_
  show X (σ, 6, [some (jJ (lN (hi S k))), none], [jJ ((lN (hi S k) &&& -(lN (hi S k))) - lN 1)])
  have hk : k < 63 := bit_lt hS hb
  have h2 : 0 < hi S k := Nat.pos_of_ne_zero (hi_ne hb)
  rw [lN_neg h2, lN_andn, low_and hb, lN_sub (Nat.two_pow_pos k)]
  refine hg [] 7 _ ?_
  have h3 : 2 ^ k - 1 < 2 ^ 64 := by have := Nat.pow_lt_pow_right (a := 2) (by omega) (show k < 64 by omega); omega
  refine h1 (2 ^ k - 1) σ _ h3 ?_
  refine And.intro trivial ?_
  rw [cnt_low (by omega)]
  exact hp
/-- the n-th place of a set (from 0), if there is one -/
def nth (S n : Nat) : Option Nat := (List.range 63).find? fun i => S.testBit i && cnt S i == n
theorem nth_some {S n j : Nat} (hj : j < 63) (h1 : S.testBit j = true) (h2 : cnt S j = n) : nth S n = some j := by
  unfold nth
  rw [List.find?_range_eq_some]
  refine ⟨by simp [h1, h2], by simpa using hj, fun i hi => ?_⟩
  by_cases hb : S.testBit i = true
  · have h3 : cnt S i ≠ n := by
      intro e
      have h4 := fb_ct_mono (fun i => S.testBit i) (show i + 1 ≤ j by omega)
      have h5 : cnt S (i + 1) = cnt S i + 1 := by rw [cnt_succ, hb]; rfl
      have h6 : cnt S (i + 1) ≤ cnt S j := h4
      omega
    simp [hb, h3]
  · simp [hb]
theorem nth_none {S n : Nat} (h : cnt S 63 ≤ n) : nth S n = none := by
  unfold nth
  rw [List.find?_eq_none]
  intro i hi
  have hi : i < 63 := by simpa using hi
  by_cases hb : S.testBit i = true
  · have h4 := fb_ct_mono (fun i => S.testBit i) (show i + 1 ≤ 63 by omega)
    have h5 : cnt S (i + 1) = cnt S i + 1 := by rw [cnt_succ, hb]; rfl
    have h6 : cnt S (i + 1) ≤ cnt S 63 := h4
    have h7 : cnt S i ≠ n := by omega
    simp [hb, h7]
  · simp [hb]
/-- as an int: NONE is -1; asked by any int -/
def nthI (S : Nat) (x : Int32) : Int32 := if x < 0 then -(nI 1) else match nth S x.toNatClampNeg with
  | some j => nI j
  | none => -(nI 1)
theorem nthI_some {S n j : Nat} (hj : j < 63) (h1 : S.testBit j = true) (h2 : cnt S j = n) : nthI S (nI n) = nI j := by
  have hn : n < 2 ^ 31 := by have := cnt_le S j; omega
  unfold nthI
  rw [if_neg (nI_pos hn), nI_clamp hn, nth_some hj h1 h2]
theorem nthI_none {S : Nat} {x : Int32} (h : ∀ j, j < 63 → S.testBit j = true → x ≠ nI (cnt S j)) : nthI S x = -(nI 1) := by
  unfold nthI
  by_cases hx : x < 0
  · rw [if_pos hx]
  · rw [if_neg hx]
    obtain ⟨n, hn, rfl⟩ := nI_of hx
    rw [nI_clamp hn]
    cases hq : nth S n with
    | none => rfl
    | some j =>
      unfold nth at hq
      rw [List.find?_range_eq_some] at hq
      obtain ⟨h1, h2, -⟩ := hq
      simp at h1 h2
      exact absurd (by rw [h1.2]) (h j h2 h1.1)
abbrev ct_nth (C : jm_C) : Prop := ∀ (S : Nat) (x : Int32) (σ : jm_G) (post : Option jm_V → jm_G → Prop), S < 2 ^ 63 → post (some (jI (nthI S x))) σ → C kX9_nthOf [jJ (lN S), jI x] σ post
theorem lN_0 : lN 0 = 0 := rfl
theorem T_nth (L : Nat) {C : jm_C} (hC : jm_mon C) (h1 : ct_low C) : ct_nth (jm_up L C) := by
  intro S x σ post hS hp
  refine jm_start rfl (Nat.le_of_ble_eq_true rfl) hC fun X hg hw => ?_
  refine hg [5] 7 _ ?_
  show X (σ, 5, [some (jJ (lN S)), none, some (jI x), some (jI (nI 0)), some (jJ (lN S)), none], [])
  have main : (∀ j, j < 0 → S.testBit j = true → x ≠ nI (cnt S j)) → X (σ, 5, [some (jJ (lN S)), none, some (jI x), some (jI (nI (cnt S 0))), some (jJ (lN (hi S 0))), none], []) := by
    have gen : ∀ m k, k + m = 63 → (∀ j, j < k → S.testBit j = true → x ≠ nI (cnt S j)) → X (σ, 5, [some (jJ (lN S)), none, some (jI x), some (jI (nI (cnt S k))), some (jJ (lN (hi S k))), none], []) := by
      intro m
      induction m with
      | zero =>
        intro k hk hall
        have hk : k = 63 := by omega
        subst hk
        rw [hi_end hS]
        refine hg [] 20 _ ?_
        refine br_c (fun h => ?_) (fun h => ?_)
        · refine And.intro trivial ?_
          rw [nthI_none hall] at hp
          exact hp
        · exact absurd ((cmp_0 _ _).mpr rfl) h
      | succ m ih =>
        intro k hk hall
        cases hb : S.testBit k with
        | false =>
          have h2 := ih (k + 1) (by omega) (fun j hj hbj => by
            by_cases e : j = k
            · subst e; rw [hb] at hbj; cases hbj
            · exact hall j (by omega) hbj)
          rw [hi_skip hb, cnt_succ, hb] at h2
          exact h2
        | true =>
          have hlt : hi S k < 2 ^ 63 := hi_lt hS
          refine hg [5] 30 _ ?_
          refine br_c (fun h => ?_) (fun h => ?_)
          · exact absurd ((lN_inj (by omega) (by omega)).mp ((cmp_0 _ _).mp h)) (hi_ne hb)
          · refine br_c (fun h3 => ?_) (fun h3 => ?_)
            · refine h1 S k σ _ hS hb ?_
              refine And.intro trivial ?_
              have h3 : nI (cnt S k) = x := h3
              rw [← h3, nthI_some (by omega) hb rfl] at hp
              exact hp
            · have h2 := ih (k + 1) (by omega) (fun j hj hbj => by
                by_cases e : j = k
                · subst e; exact fun e => h3 e.symm
                · exact hall j (by omega) hbj)
              refine jm_eqv (X := X) h2 rfl rfl ?_ rfl
              have e1 : lN (hi S k) &&& (lN (hi S k) - lN 1) = lN (hi S (k + 1)) := by
                rw [lN_sub (Nat.pos_of_ne_zero (hi_ne hb)), fb_andL, hi_and hb]
              show [some (jJ (lN S)), none, some (jI x), some (jI (nI (cnt S k) + nI 1)), some (jJ (lN (hi S k) &&& (lN (hi S k) - lN 1))), none] = _
              rw [e1, nI_add, cnt_succ, hb]
              rfl
    exact gen 63 0 rfl
  have h2 := main (fun j hj => by omega)
  rw [hi_0] at h2
  exact h2
