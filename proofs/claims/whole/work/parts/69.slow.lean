/-! the component's Cover: usesOf, latestOf, onSlowWay -/
def amu (v : Nat → Nat) (n : Nat) : Option Nat → Option Nat
  | none => some n
  | some m => if v m < v n then some n else some m
/-- of a set: the lowest with the greatest -/
def amx (v : Nat → Nat) (S : Nat) : Nat → Option Nat
  | 0 => none
  | n + 1 => if S.testBit n then amu v n (amx v S n) else amx v S n
theorem amx_t {v : Nat → Nat} {S n : Nat} (h : S.testBit n = true) : amx v S (n + 1) = amu v n (amx v S n) := by rw [amx, if_pos h]
theorem amx_f {v : Nat → Nat} {S n : Nat} (h : S.testBit n = false) : amx v S (n + 1) = amx v S n := by rw [amx, h]; rfl
theorem amx_in {v : Nat → Nat} {S : Nat} : ∀ n m, amx v S n = some m → m < n ∧ S.testBit m = true
  | 0, m, h => by cases h
  | n + 1, m, h => by
    cases hb : S.testBit n with
    | false =>
      rw [amx_f hb] at h
      have := amx_in n m h
      exact ⟨by omega, this.2⟩
    | true =>
      rw [amx_t hb] at h
      cases q : amx v S n with
      | none =>
        rw [q] at h
        have h : some n = some m := h
        cases h
        exact ⟨by omega, hb⟩
      | some k =>
        rw [q] at h
        have h : (if v k < v n then some n else some k) = some m := h
        by_cases c : v k < v n
        · rw [if_pos c] at h
          cases h
          exact ⟨by omega, hb⟩
        · rw [if_neg c] at h
          have e := Option.some.inj h
          have := amx_in n k q
          rw [← e]
          exact ⟨by omega, this.2⟩
theorem amx_none {v : Nat → Nat} {S : Nat} : ∀ n, amx v S n = none ↔ ∀ j, j < n → S.testBit j = false
  | 0 => ⟨fun _ j hj => absurd hj (by omega), fun _ => rfl⟩
  | n + 1 => by
    cases hb : S.testBit n with
    | false =>
      rw [amx_f hb, amx_none n]
      constructor
      · intro h j hj
        by_cases e : j = n
        · rw [e]; exact hb
        · exact h j (by omega)
      · intro h j hj
        exact h j (by omega)
    | true =>
      rw [amx_t hb]
      constructor
      · intro h
        cases q : amx v S n with
        | none => rw [q] at h; cases h
        | some k =>
          rw [q] at h
          have h : (if v k < v n then some n else some k) = none := h
          by_cases c : v k < v n
          · rw [if_pos c] at h; cases h
          · rw [if_neg c] at h; cases h
      · intro h
        have := h n (by omega)
        rw [hb] at this
        cases this
theorem amx_end {v : Nat → Nat} {S n : Nat} (h : ∀ j, S.testBit j = true → j < n) : ∀ d, amx v S (n + d) = amx v S n
  | 0 => rfl
  | d + 1 => by
    rw [← Nat.add_assoc, amx_f, amx_end h d]
    cases hb : S.testBit (n + d) with
    | false => rfl
    | true => have := h _ hb; omega
theorem amx_40 {v : Nat → Nat} {S n : Nat} (hn : n ≤ 40) (h : ∀ j, S.testBit j = true → j < n) : amx v S n = amx v S 40 := by
  have := amx_end (v := v) h (40 - n)
  rw [show n + (40 - n) = 40 by omega] at this
  exact this.symm
theorem amx_cong {v w : Nat → Nat} {S : Nat} (h : ∀ j, S.testBit j = true → v j = w j) : ∀ n, amx v S n = amx w S n
  | 0 => rfl
  | n + 1 => by
    cases hb : S.testBit n with
    | false => rw [amx_f hb, amx_f hb, amx_cong h n]
    | true =>
      rw [amx_t hb, amx_t hb, amx_cong h n]
      cases q : amx w S n with
      | none => rfl
      | some k =>
        show (if v k < v n then some n else some k) = if w k < w n then some n else some k
        rw [h n hb, h k (amx_in n k q).2]
theorem low_ex {S : Nat} (h : S ≠ 0) : ∃ k, S.testBit k = true ∧ ∀ j, j < k → S.testBit j = false := by
  have h1 : ∃ i, S.testBit i = true := Nat.exists_testBit_of_ne_zero h
  obtain ⟨i, hi⟩ := h1
  obtain ⟨k, -, h2, h3⟩ := fb_first (p := fun i => S.testBit i = true) (n := i + 1) ⟨i, by omega, hi⟩
  exact ⟨k, h2, fun j hj => by
    cases hb : S.testBit j with
    | false => rfl
    | true => exact absurd hb (h3 j hj)⟩
theorem hi_low {S k : Nat} (h : ∀ j, j < k → S.testBit j = false) : hi S k = S := set_eq fun i => by
  rw [hi_bit]
  by_cases q : k ≤ i
  · simp [q]
  · rw [h i (by omega)]; simp
abbrev ct_uses (C : jm_C) : Prop := ∀ (N : nw) (ch : Nat → Nat) (T i : Nat) (σ : jm_G) (post : Option jm_V → jm_G → Prop), allG N T → T < 2 ^ 40 → cCh N ch σ → (∀ g, isG N g = true → ch g < 2 ^ 40) → σ.2 22 0 4 = lN T → i < 40 → post (some (jI (nI (cnt (mk (fun g => T.testBit g && (ch g).testBit i) 40) 40)))) σ → C kX3_usesOf [jR 22 0, jI (nI i)] σ post
theorem cnt_mk (p : Nat → Bool) {n k : Nat} (h : k ≤ n) : cnt (mk p n) k = fb_ct p k := by
  unfold cnt
  refine fb_ct_cong fun i hi => ?_
  rw [mk_bit]
  simp
  omega
theorem T_uses (L : Nat) {C : jm_C} (hC : jm_mon C) (h1 : ct_low C) (h2 : ct_has C) : ct_uses (jm_up L C) := by
  intro N ch T i σ post hT hT4 hch hlt h22 hi4 hp
  refine jm_start rfl (Nat.le_of_ble_eq_true rfl) hC fun X hg hw => ?_
  refine hg [7] 20 _ ?_
  show X (σ, 7, [some (jR 22 0), some (jI (nI i)), some (jI (nI 0)), some (jJ (σ.2 22 0 4)), none], [])
  rw [h22]
  rw [cnt_mk _ (Nat.le_refl 40)] at hp
  have main := jm_bits (X := X) T (fun k => (σ, 7, [some (jR 22 0), some (jI (nI i)), some (jI (nI (fb_ct (fun g => T.testBit g && (ch g).testBit i) k))), some (jJ (lN (hi T k))), none], [])) 40 ?_ ?_ ?_ 0 (by omega)
  · have main : X (σ, 7, [some (jR 22 0), some (jI (nI i)), some (jI (nI 0)), some (jJ (lN (hi T 0))), none], []) := main
    rw [hi_0] at main
    exact main
  · show X (σ, 7, [some (jR 22 0), some (jI (nI i)), some (jI (nI (fb_ct (fun g => T.testBit g && (ch g).testBit i) 40))), some (jJ (lN (hi T 40))), none], [])
    rw [hi_end hT4]
    refine hg [] 30 _ ?_
    refine br_c (fun h => ?_) (fun h => ?_)
    · exact And.intro trivial hp
    · exact absurd ((cmp_0 _ _).mpr rfl) h
  · intro k hk hb
    have e : fb_ct (fun g => T.testBit g && (ch g).testBit i) (k + 1) = fb_ct (fun g => T.testBit g && (ch g).testBit i) k := by rw [fb_ct_succ, hb]; rfl
    simp only [e, hi_skip hb]
  · intro k hk hb ih
    refine hg [7] 30 _ ?_
    refine br_c (fun h => ?_) (fun h => ?_)
    · exact absurd h (hi_n0 hT4 hb)
    · refine h1 T k σ _ (p40 hT4) hb ?_
      refine And.intro (vp_in_nI (by omega) (by omega)) ?_
      refine c_has h2 (S := ch k) (n := i) (show σ.2 24 0 (nI k).toNatClampNeg = lN (ch k) by rw [nI_clamp (by omega)]; exact hch k (hT k hb)) rfl (p40 (hlt k (hT k hb))) (by omega) ?_
      refine br_c (fun h3 => ?_) (fun h3 => ?_)
      · refine jm_eqv (X := X) ih rfl rfl ?_ rfl
        show [some (jR 22 0), some (jI (nI i)), some (jI (nI (fb_ct (fun g => T.testBit g && (ch g).testBit i) k))), some (jJ (lN (hi T k) &&& (lN (hi T k) - lN 1))), none] = _
        rw [nxt hb, fb_ct_succ, hb, bI_0.mp h3]
        rfl
      · refine jm_eqv (X := X) ih rfl rfl ?_ rfl
        show [some (jR 22 0), some (jI (nI i)), some (jI (nI (fb_ct (fun g => T.testBit g && (ch g).testBit i) k) + nI 1)), some (jJ (lN (hi T k) &&& (lN (hi T k) - lN 1))), none] = _
        rw [nxt hb, fb_ct_succ, hb, bI_n0.mp h3, nI_add]
        rfl
abbrev ct_latest (C : jm_C) : Prop := ∀ (S m : Nat) (l : Nat → Nat) (σ : jm_G) (v : Int64) (post : Option jm_V → jm_G → Prop), v = lN S → S < 2 ^ 40 → (∀ j, S.testBit j = true → σ.1 25 0 j = nI (l j) ∧ l j < 100) → amx l S 40 = some m → post (some (jI (nI m))) σ → C kX3_latestOf [jR 22 0, jJ v] σ post
theorem T_latest (L : Nat) {C : jm_C} (hC : jm_mon C) (h1 : ct_low C) : ct_latest (jm_up L C) := by
  intro S m l σ v post hv hS hl hm hp
  subst hv
  refine jm_start rfl (Nat.le_of_ble_eq_true rfl) hC fun X hg hw => ?_
  have hS0 : S ≠ 0 := by
    intro e
    have := (amx_in 40 m hm).2
    rw [e, Nat.zero_testBit] at this
    cases this
  obtain ⟨k0, hb0, hlow⟩ := low_ex hS0
  have hk0 : k0 < 40 := bit_lt hS hb0
  refine hg [8] 20 _ ?_
  refine c_low h1 (S := S) (k := k0) (by rw [hi_low hlow]) (p40 hS) hb0 ?_
  show X (σ, 8, [some (jR 22 0), some (jJ (lN S)), none, some (jI (nI k0)), some (jJ (lN S)), none, none], [])
  have main := jm_bits (X := X) S (fun k => (σ, 8, [some (jR 22 0), some (jJ (lN S)), none, some (jI (nI ((amx l S k).getD k0))), some (jJ (lN (hi S k))), none, none], [])) 40 ?_ ?_ ?_ 0 (by omega)
  · have main : X (σ, 8, [some (jR 22 0), some (jJ (lN S)), none, some (jI (nI k0)), some (jJ (lN (hi S 0))), none, none], []) := main
    rw [hi_0] at main
    exact main
  · show X (σ, 8, [some (jR 22 0), some (jJ (lN S)), none, some (jI (nI ((amx l S 40).getD k0))), some (jJ (lN (hi S 40))), none, none], [])
    rw [hi_end hS, hm]
    refine hg [] 30 _ ?_
    refine br_c (fun h => ?_) (fun h => ?_)
    · exact And.intro trivial hp
    · exact absurd ((cmp_0 _ _).mpr rfl) h
  · intro k hk hb
    simp only [amx_f hb, hi_skip hb]
  · intro k hk hb ih
    refine hg [8] 30 _ ?_
    refine br_c (fun h => ?_) (fun h => ?_)
    · exact absurd h (hi_n0 hS hb)
    · refine h1 S k σ _ (p40 hS) hb ?_
      have hq : S.testBit ((amx l S k).getD k0) = true ∧ (amx l S k).getD k0 < 40 := by
        cases q : amx l S k with
        | none => exact ⟨hb0, hk0⟩
        | some z => have := amx_in k z q; exact ⟨this.2, by show z < 40; omega⟩
      have l1 := hl k hb
      have l2 := hl _ hq.1
      refine And.intro (vp_in_nI (by omega) (by omega)) ?_
      refine And.intro (vp_in_nI hq.2 (by omega)) ?_
      have e1 : σ.1 25 0 (nI k).toNatClampNeg = nI (l k) := by rw [nI_clamp (by omega)]; exact l1.1
      have e2 : σ.1 25 0 (nI ((amx l S k).getD k0)).toNatClampNeg = nI (l ((amx l S k).getD k0)) := by rw [nI_clamp (by omega)]; exact l2.1
      refine br_c (fun h3 => ?_) (fun h3 => ?_)
      · have h3 : σ.1 25 0 (nI k).toNatClampNeg ≤ σ.1 25 0 (nI ((amx l S k).getD k0)).toNatClampNeg := h3
        rw [e1, e2, nI_leI (by omega) (by omega)] at h3
        refine hw _ _ _ [some (jR 22 0), some (jJ (lN S)), none, some (jI (nI ((amx l S k).getD k0))), some (jJ (lN (hi S k) &&& (lN (hi S k) - lN 1))), none, none] _ (by repeat' first | exact trivial | exact rfl | apply And.intro) ?_
        refine jm_eqv (X := X) ih rfl rfl ?_ rfl
        have e : (amx l S (k + 1)).getD k0 = (amx l S k).getD k0 := by
          rw [amx_t hb]
          cases q : amx l S k with
          | none =>
            show k = k0
            have := (amx_none k).mp q
            rcases Nat.lt_trichotomy k k0 with c | c | c
            · have := hlow k c; rw [hb] at this; cases this
            · exact c
            · have := this k0 c; rw [hb0] at this; cases this
          | some z =>
            rw [q] at h3
            have h3 : l k ≤ l z := h3
            show (if l z < l k then some k else some z).getD k0 = z
            rw [if_neg (by omega)]
            rfl
        rw [nxt hb, e]
      · have h3 : ¬ σ.1 25 0 (nI k).toNatClampNeg ≤ σ.1 25 0 (nI ((amx l S k).getD k0)).toNatClampNeg := h3
        rw [e1, e2, nI_leI (by omega) (by omega)] at h3
        refine hw _ _ _ [some (jR 22 0), some (jJ (lN S)), none, some (jI (nI k)), some (jJ (lN (hi S k) &&& (lN (hi S k) - lN 1))), none, none] _ (by repeat' first | exact trivial | exact rfl | apply And.intro) ?_
        refine jm_eqv (X := X) ih rfl rfl ?_ rfl
        have e : (amx l S (k + 1)).getD k0 = k := by
          rw [amx_t hb]
          cases q : amx l S k with
          | none => rfl
          | some z =>
            rw [q] at h3
            have h3 : ¬ l k ≤ l z := h3
            show (if l z < l k then some k else some z).getD k0 = k
            rw [if_pos (by omega)]
            rfl
        rw [nxt hb, e]
/-- the slow way -/
def slx (N : nw) (ch : Nat → Nat) (m : Nat) : Nat := if isG N m then ch m else 0
def slw (N : nw) (ch : Nat → Nat) : Nat → Option Nat
  | 0 => amx (arv N ch) (rts N) 40
  | i + 1 => (slw N ch i).bind fun m => amx (arv N ch) (slx N ch m) 40
theorem slw_some {N : nw} {ch : Nat → Nat} {i m : Nat} (h : slw N ch i = some m) : slw N ch (i + 1) = amx (arv N ch) (slx N ch m) 40 := by
  show (slw N ch i).bind _ = _
  rw [h]
  rfl
theorem slw_none {N : nw} {ch : Nat → Nat} {i : Nat} (h : slw N ch i = none) : ∀ d, slw N ch (i + d) = none
  | 0 => h
  | d + 1 => by
    show (slw N ch (i + d)).bind _ = none
    rw [slw_none h d]
    rfl
theorem slx_lt {N : nw} {ch : Nat → Nat} (hl : chL N ch) {m j : Nat} (h : (slx N ch m).testBit j = true) : j < m := by
  unfold slx at h
  cases hg : isG N m with
  | false => rw [hg] at h; simp at h
  | true => rw [hg, if_pos rfl] at h; exact hl m hg j h
theorem slw_lt {N : nw} {ch : Nat → Nat} (hl : chL N ch) (hok : nw_ok N) : ∀ i m, slw N ch i = some m → m + i < nN N
  | 0, m, h => by
    have := (amx_in 40 m h).2
    exact rts_lt hok this
  | i + 1, m, h => by
    cases q : slw N ch i with
    | none =>
      have := slw_none q 1
      rw [this] at h; cases h
    | some z =>
      rw [slw_some q] at h
      have h1 := slx_lt hl (amx_in 40 m h).2
      have h2 := slw_lt hl hok i z q
      omega
abbrev ct_onSlow (C : jm_C) : Prop := ∀ (N : nw) (ch : Nat → Nat) (i : Nat) (σ : jm_G) (post : Option jm_V → jm_G → Prop), nw_ok N → cN N σ → cCh N ch σ → chL N ch → (∀ j, j < nN N → σ.1 25 0 j = nI (arv N ch j)) → i < 40 → post (some (jI (oN (slw N ch i)))) σ → C kX3_onSlowWay [jR 22 0, jI (nI i)] σ post
theorem T_onSlow (L : Nat) {C : jm_C} (hC : jm_mon C) (h1 : ct_roots C) (h2 : ct_latest C) (h3 : ct_has C) : ct_onSlow (jm_up L C) := by
  intro N ch i σ post hok hN hch hl hav hi4 hp
  refine jm_start rfl (Nat.le_of_ble_eq_true rfl) hC fun X hg hw => ?_
  have hn := hok.1
  refine hg [14] 20 _ ?_
  refine h1 N σ _ hok hN ?_
  show X (σ, 14, [some (jR 22 0), some (jI (nI i)), some (jJ (lN (rts N))), none, some (jI (-(nI 1))), some (jI (nI 0))], [])
  have gen : ∀ (d s S : Nat) (x : Int32), s + d = i + 1 → S < 2 ^ 40 → (∀ j, S.testBit j = true → j < nN N) → (s ≤ i → slw N ch s = amx (arv N ch) S 40) → (s = i + 1 → x = oN (slw N ch i)) → X (σ, 14, [some (jR 22 0), some (jI (nI i)), some (jJ (lN S)), none, some (jI x), some (jI (nI s))], []) := by
    intro d
    induction d with
    | zero =>
      intro s S x hsd hS hSn h4 h5
      refine hg [14] 40 _ ?_
      refine br_c (fun h => ?_) (fun h => ?_)
      · refine And.intro trivial ?_
        rw [h5 (by omega)]
        exact hp
      · have h : ¬ nI i < nI s := h
        rw [nI_ltI (by omega) (by omega)] at h
        omega
    | succ d ih =>
      intro s S x hsd hS hSn h4 h5
      have h4 := h4 (by omega)
      refine hg [14] 40 _ ?_
      refine br_c (fun h => ?_) (fun _ => ?_)
      · have h : nI i < nI s := h
        rw [nI_ltI (by omega) (by omega)] at h
        omega
      · refine br_c (fun h => ?_) (fun h => ?_)
        · have h := (lN_inj (by omega) (by omega)).mp ((cmp_0 _ _).mp h)
          subst h
          have e : slw N ch s = none := by rw [h4, amx_none]; intro j _; exact Nat.zero_testBit j
          have e2 := slw_none e (i - s)
          rw [show s + (i - s) = i by omega] at e2
          rw [e2] at hp
          exact And.intro trivial hp
        · have h0 : S ≠ 0 := fun e => h ((cmp_0 _ _).mpr (by rw [e]; rfl))
          obtain ⟨k0, hb0, -⟩ := low_ex h0
          cases hm : amx (arv N ch) S 40 with
          | none =>
            have := (amx_none 40).mp hm k0 (bit_lt hS hb0)
            rw [hb0] at this; cases this
          | some m =>
            have hmS := amx_in 40 m hm
            have hmn := hSn m hmS.2
            refine h2 S m (arv N ch) σ _ _ rfl hS (fun j hj => ⟨hav j (hSn j hj), by have := arv_le hl j; have := hSn j hj; omega⟩) hm ?_
            refine c_has h3 (S := gM N) (n := m) hN.2.2.1 rfl (p40 (gM_lt hok)) (by omega) ?_
            rw [gM_bit]
            have hs := slw_some (h4.trans hm)
            refine br_c (fun h6 => ?_) (fun h6 => ?_)
            · have h6 := bI_0.mp h6
              have ex : slx N ch m = 0 := by unfold slx; rw [h6]; rfl
              rw [ex] at hs
              have := ih (s + 1) 0 (nI m) (by omega) (by omega) (fun j hj => by rw [Nat.zero_testBit] at hj; cases hj) (fun _ => hs) (fun e => by rw [show i = s by omega, h4, hm]; rfl)
              show X (σ, 14, [some (jR 22 0), some (jI (nI i)), some (jJ (lN 0)), none, some (jI (nI m)), some (jI (nI s + nI 1))], [])
              rw [nI_add]
              exact this
            · have h6 := bI_n0.mp h6
              have ex : slx N ch m = ch m := by unfold slx; rw [h6]; rfl
              rw [ex] at hs
              refine And.intro (vp_in_nI (by omega) (by omega)) ?_
              have hcl := hl m h6
              have := ih (s + 1) (ch m) (nI m) (by omega) (lt40 (g := 40) (by omega) fun j hj => by have := hcl j hj; omega) (fun j hj => by have := hcl j hj; omega) (fun _ => hs) (fun e => by rw [show i = s by omega, h4, hm]; rfl)
              show X (σ, 14, [some (jR 22 0), some (jI (nI i)), some (jJ (σ.2 24 0 (nI m).toNatClampNeg)), none, some (jI (nI m)), some (jI (nI s + nI 1))], [])
              rw [nI_add, nI_clamp (by omega), hch m h6]
              exact this
  exact gen (i + 1) 0 (rts N) (-(nI 1)) (by omega) (rts_lt40 hok) (fun j hj => rts_lt hok hj) (fun _ => rfl) (fun e => by omega)
