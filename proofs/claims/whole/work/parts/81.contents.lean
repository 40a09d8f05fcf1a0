/-! the component's Contents: told, findBits, bitsOf -/
def plM (i : Nat) : Nat := mk (fun p => p.testBit i) 64
theorem plM_lt (i : Nat) : plM i < 2 ^ 64 := mk_lt _ _
theorem plM_bit (i p : Nat) : (plM i).testBit p = (decide (p < 64) && p.testBit i) := mk_bit _ _ _
def cP (σ : jm_G) : Prop := ∀ i, i < 6 → σ.2 101 0 i = lN (plM i)
theorem cP_off {σ τ : jm_G} {lo hi : Nat} (h : cP σ) (ho : off lo hi σ τ) (h2 : hi < 100) : cP τ := fun i hi => by rw [(ho 101 0 (by omega)).2]; exact h i hi
abbrev ct_told (C : jm_C) : Prop := ∀ (S on : Nat) (f : Nat → Bool) (σ : jm_G) (v w : Int64) (post : Option jm_V → jm_G → Prop), v = lN S → w = lN on → S < 2 ^ 40 → on < 2 ^ 63 → cnt S 40 ≤ 6 → (∀ j, S.testBit j = true → on.testBit j = f j) → post (some (jI (nI (tld S f 40)))) σ → C kX2_told [jJ v, jJ w] σ post
theorem T_told (L : Nat) {C : jm_C} (hC : jm_mon C) (h1 : ct_low C) (h2 : ct_has C) : ct_told (jm_up L C) := by
  intro S on f σ v w post hv hw2 hS hon hc6 hf hp
  subst hv
  subst hw2
  refine jm_start rfl (Nat.le_of_ble_eq_true rfl) hC fun X hg hw => ?_
  refine hg [9] 30 _ ?_
  show X (σ, 9, [some (jJ (lN S)), none, some (jJ (lN on)), none, some (jI (nI 0)), some (jI (nI 0)), some (jJ (lN S)), none], [])
  have main := jm_bits (X := X) S (fun k => (σ, 9, [some (jJ (lN S)), none, some (jJ (lN on)), none, some (jI (nI (tld S f k))), some (jI (nI (cnt S k))), some (jJ (lN (hi S k))), none], [])) 40 ?_ ?_ ?_ 0 (by omega)
  · have main : X (σ, 9, [some (jJ (lN S)), none, some (jJ (lN on)), none, some (jI (nI 0)), some (jI (nI 0)), some (jJ (lN (hi S 0))), none], []) := main
    rw [hi_0] at main
    exact main
  · show X (σ, 9, [some (jJ (lN S)), none, some (jJ (lN on)), none, some (jI (nI (tld S f 40))), some (jI (nI (cnt S 40))), some (jJ (lN (hi S 40))), none], [])
    rw [hi_end hS]
    refine hg [] 30 _ ?_
    refine br_c (fun h => And.intro trivial hp) (fun h => absurd ((cmp_0 _ _).mpr rfl) h)
  · intro k hk hb
    have e : tld S f (k + 1) = tld S f k := by rw [tld, hb]; exact Nat.or_zero _
    have e2 : cnt S (k + 1) = cnt S k := by rw [cnt_succ, hb]; rfl
    simp only [e, e2, hi_skip hb]
  · intro k hk hb ih
    have ih : X (σ, 9, [some (jJ (lN S)), none, some (jJ (lN on)), none, some (jI (nI (tld S f (k + 1)))), some (jI (nI (cnt S (k + 1)))), some (jJ (lN (hi S (k + 1)))), none], []) := ih
    have hck := cnt_mono S (show k ≤ 40 by omega)
    rw [tld, cnt_succ, hb, Bool.true_and] at ih
    refine hg [9] 40 _ ?_
    refine br_c (fun h => absurd h (hi_n0 hS hb)) (fun _ => ?_)
    refine h1 S k σ _ (p40 hS) hb ?_
    refine h2 on k σ _ hon (by omega) ?_
    rw [hf k hb]
    refine br_c (fun z => ?_) (fun z => ?_)
    · rw [bI_0.mp z, if_neg (fun q => by cases q), Nat.or_zero] at ih
      show X (σ, 9, [some (jJ (lN S)), none, some (jJ (lN on)), none, some (jI (nI (tld S f k))), some (jI (nI (cnt S k) + nI 1)), some (jJ (lN (hi S k) &&& (lN (hi S k) - lN 1))), none], [])
      rw [nxt hb, nI_add]
      exact ih
    · rw [bI_n0.mp z, if_pos rfl] at ih
      show X (σ, 9, [some (jJ (lN S)), none, some (jJ (lN on)), none, some (jI (nI (tld S f k) ||| (nI 1 <<< (nI (cnt S k) &&& 31)))), some (jI (nI (cnt S k) + nI 1)), some (jJ (lN (hi S k) &&& (lN (hi S k) - lN 1))), none], [])
      rw [nxt hb, nI_add, shI1 (by omega), fb_orI]
      exact ih
theorem lN_mk (p : Nat → Bool) {n : Nat} {x : Int64} (hn : n ≤ 64) (h : ∀ q, q < 64 → bitL x q = (decide (q < n) && p q)) : x = lN (mk p n) := bitL_ext fun q hq => by rw [h q hq, bitL_lN _ _ hq, mk_bit]
abbrev ct_findBits (C : jm_C) : Prop := ∀ (N : nw) (K g : Nat) (ch : Nat → Nat) (σ : jm_G) (post : Option jm_V → jm_G → Prop), nw_ok N → cN N σ → cP σ → chOK N K ch → K ≤ 6 → cCh N ch σ → isG N g = true → (∀ σ', off 28 28 σ σ' → post (some (jJ (lN (hld N ch g)))) σ') → C kX2_findBits [jR 26 0, jI (nI g)] σ post
theorem T_findBits (L : Nat) {C : jm_C} (hC : jm_mon C) (h1 : ct_low C) (h2 : ct_reached C) (h3 : ct_valueOf 28 C) : ct_findBits (jm_up L C) := by
  intro N K g ch σ post hok hN hP hcO hK6 hch hgt hp
  refine jm_start rfl (Nat.le_of_ble_eq_true rfl) hC fun X hg hw => ?_
  have h40 := hok.1
  have hgn := isG_lt hgt
  obtain ⟨c1, c2, c3, -⟩ := (hcO g hgt).1
  have hsep := (hcO g hgt).2
  have hc6 : cnt (ch g) 40 ≤ 6 := by omega
  have eg : (nI g).toNatClampNeg = g := nI_clamp (by omega)
  have hin : vp_in (nI g) 40 := vp_in_nI (by omega) (by omega)
  have hRl := rch_lt hok g (ch g) hgn
  have hRG : rch N g (ch g) &&& gM N = rch N g (ch g) := set_eq fun i => by
    rw [Nat.testBit_and, gM_bit]
    cases hb : (rch N g (ch g)).testBit i with
    | false => rfl
    | true => rw [hsep.2 i hb]; rfl
  -- the second loop
  have snd : ∀ (m k : Nat), k + m = 40 → ∀ (τ : jm_G), off 28 28 σ τ → (∀ i, (ch g).testBit i = true ∨ ((rch N g (ch g)).testBit i = true ∧ i < k) → ∀ p, p < 64 → bitL (τ.2 28 0 i) p = vx N (ch g) (plc9 (ch g) p) (fun _ => false) i) → X (τ, 82, [some (jR 26 0), some (jI (nI g)), some (jJ (lN (ch g))), none, some (jI (nI (cnt (ch g) 40))), some (jJ (lN (hi (rch N g (ch g)) k))), none, none], []) := by
    intro m
    induction m with
    | zero =>
      intro k hk τ ho hr
      have ek : k = 40 := by omega
      subst ek
      rw [hi_end hRl]
      have hp := hp τ ho
      have hvg := hr g (Or.inr ⟨rch_self N g _, by omega⟩)
      refine hg [82] 40 _ ?_
      refine br_c (fun _ => ?_) (fun h => absurd ((cmp_0 _ _).mpr rfl) h)
      refine br_c (fun z => ?_) (fun z => ?_)
      · have z : nI (cnt (ch g) 40) = nI 6 := z
        rw [nI_eq (by omega) (by omega)] at z
        refine And.intro hin (And.intro trivial ?_)
        show post (some (jJ (τ.2 28 0 (nI g).toNatClampNeg))) τ
        rw [eg]
        have e : τ.2 28 0 g = lN (hld N ch g) := by
          unfold hld
          rw [z]
          refine lN_mk _ (by decide) fun q hq => ?_
          rw [hvg q hq]
          simp only [show (2 : Nat) ^ 6 = 64 from rfl, hq, decide_true, Bool.true_and]
          rfl
        rw [e]
        exact hp
      · have z : ¬ nI (cnt (ch g) 40) = nI 6 := z
        rw [nI_eq (by omega) (by omega)] at z
        have hm5 : cnt (ch g) 40 ≤ 5 := by omega
        have h32 : 2 ^ cnt (ch g) 40 ≤ 32 := Nat.le_trans (Nat.pow_le_pow_right (by omega) hm5) (by decide)
        refine And.intro hin (And.intro trivial ?_)
        show post (some (jJ (τ.2 28 0 (nI g).toNatClampNeg &&& ((lN 1 <<< ((nI 1 <<< (nI (cnt (ch g) 40) &&& 31)).toInt64 &&& 63)) - lN 1)))) τ
        rw [eg, shI1 (by omega), lN_shl1 (by omega), lN_sub (Nat.two_pow_pos _)]
        have e : τ.2 28 0 g &&& lN (2 ^ 2 ^ cnt (ch g) 40 - 1) = lN (hld N ch g) := by
          unfold hld
          refine lN_mk _ (by omega) fun q hq => ?_
          rw [bitL_and, hvg q hq, bitL_lN _ _ hq, Nat.testBit_two_pow_sub_one, Bool.and_comm]
          rfl
        rw [e]
        exact hp
    | succ m ih =>
      intro k hk τ ho hr
      cases hb : (rch N g (ch g)).testBit k with
      | false =>
        have := ih (k + 1) (by omega) τ ho (fun i hi => hr i (hi.imp id fun q => ⟨q.1, by
          by_cases e : i = k
          · rw [e, hb] at q; cases q.1
          · have := q.2; omega⟩))
        rw [hi_skip hb] at this
        exact this
      | true =>
        have hNt := cN_off hN ho (by omega) (by omega)
        have hgk := hsep.2 k hb
        have hns := rch_notS hok hsep hb
        have ek : (nI k).toNatClampNeg = k := nI_clamp (by omega)
        refine hg [82] 40 _ ?_
        refine br_c (fun h => absurd h (hi_n0 hRl hb)) (fun _ => ?_)
        refine h1 (rch N g (ch g)) k τ _ (p40 hRl) hb ?_
        refine h3 N k τ _ hok hNt hgk ?_
        refine And.intro (vp_in_nI (by omega) (by omega)) ?_
        refine hw _ _ _ [some (jR 26 0), some (jI (nI g)), some (jJ (lN (ch g))), none, some (jI (nI (cnt (ch g) 40))), some (jJ (lN (hi (rch N g (ch g)) k) &&& (lN (hi (rch N g (ch g)) k) - lN 1))), none, none] _ (by repeat' first | exact trivial | exact rfl | apply And.intro) ?_
        show X (wJ τ 28 0 (vp_updL (τ.2 28 0) (nI k).toNatClampNeg (gop (nK N k) (τ.2 28 0 (pl N k 0)) (τ.2 28 0 (pl N k 1)) (τ.2 28 0 (pl N k 2)))), 82, [some (jR 26 0), some (jI (nI g)), some (jJ (lN (ch g))), none, some (jI (nI (cnt (ch g) 40))), some (jJ (lN (hi (rch N g (ch g)) k) &&& (lN (hi (rch N g (ch g)) k) - lN 1))), none, none], [])
        rw [ek, nxt hb]
        refine ih (k + 1) (by omega) _ (off_wJ ho (by omega) (by omega)) fun i hi p hp64 => ?_
        rw [wJ2, if_pos ⟨rfl, rfl⟩, updL_at]
        by_cases e : i = k
        · rw [if_pos e, e, bitL_gop _ _ _ _ hp64, vx_gate hok hns hgk]
          have part : ∀ z, bitL (τ.2 28 0 (pl N k z)) p = vx N (ch g) (plc9 (ch g) p) (fun _ => false) (pl N k z) := fun z => by
            refine hr _ ?_ p hp64
            cases hc : (ch g).testBit (pl N k z) with
            | true => exact Or.inl rfl
            | false => exact Or.inr ⟨rch_closed hok hb (pl_src hgk z) hc, pl_lt hok hgk z⟩
          rw [part 0, part 1, part 2]
        · rw [if_neg e]
          exact hr i (hi.imp id fun q => ⟨q.1, by have := q.2; omega⟩) p hp64
  -- the first
  have fst : ∀ (m k : Nat), k + m = 40 → ∀ (τ : jm_G), off 28 28 σ τ → (∀ i, i < k → (ch g).testBit i = true → τ.2 28 0 i = lN (plM (cnt (ch g) i))) → X (τ, 16, [some (jR 26 0), some (jI (nI g)), some (jJ (lN (ch g))), none, some (jI (nI (cnt (ch g) k))), some (jJ (lN (hi (ch g) k))), none, none], []) := by
    intro m
    induction m with
    | zero =>
      intro k hk τ ho hr
      have ek : k = 40 := by omega
      subst ek
      rw [hi_end c1]
      have hNt := cN_off hN ho (by omega) (by omega)
      refine hg [16, 82] 40 _ ?_
      refine br_c (fun _ => ?_) (fun h => absurd ((cmp_0 _ _).mpr rfl) h)
      refine h2 N g (ch g) τ _ hok hNt hgn ?_
      show X (τ, 82, [some (jR 26 0), some (jI (nI g)), some (jJ (lN (ch g))), none, some (jI (nI (cnt (ch g) 40))), some (jJ (lN (rch N g (ch g)) &&& τ.2 2 0 6)), none, none], [])
      rw [hNt.2.2.1, fb_andL, hRG]
      have := snd 40 0 (by omega) τ ho (fun i hi p hp64 => by
        rcases hi with q | q
        · have hi4 := bit_lt c1 q
          have hci : cnt (ch g) i < cnt (ch g) 40 := by
            have := cnt_mono (ch g) (show i + 1 ≤ 40 by omega)
            rw [cnt_succ, q] at this
            exact this
          rw [hr i hi4 q, bitL_lN _ _ hp64, plM_bit, vx_S q]
          simp only [hp64, decide_true, Bool.true_and]
          rfl
        · omega)
      rw [hi_0] at this
      exact this
    | succ m ih =>
      intro k hk τ ho hr
      cases hb : (ch g).testBit k with
      | false =>
        have := ih (k + 1) (by omega) τ ho (fun i hi hbi => by
          by_cases e : i = k
          · rw [e, hb] at hbi; cases hbi
          · exact hr i (by omega) hbi)
        rw [hi_skip hb, cnt_succ, hb] at this
        exact this
      | true =>
        have hci : cnt (ch g) k < cnt (ch g) 40 := by
          have := cnt_mono (ch g) (show k + 1 ≤ 40 by omega)
          rw [cnt_succ, hb] at this
          exact this
        have ek : (nI k).toNatClampNeg = k := nI_clamp (by omega)
        have e101 : τ.2 101 0 (nI (cnt (ch g) k)).toNatClampNeg = lN (plM (cnt (ch g) k)) := by rw [nI_clamp (by omega)]; exact cP_off hP ho (by omega) _ (by omega)
        refine hg [16, 82] 60 _ ?_
        refine br_c (fun h => absurd h (hi_n0 c1 hb)) (fun _ => ?_)
        refine br_c (fun h => ?_) (fun _ => ?_)
        · have h : nI 6 ≤ nI (cnt (ch g) k) := h
          rw [nI_leI (by omega) (by omega)] at h
          omega
        · refine h1 (ch g) k τ _ (p40 c1) hb ?_
          refine And.intro (vp_in_nI (by omega) (by omega)) ?_
          refine And.intro (vp_in_nI (by omega) (by omega)) ?_
          show X (wJ τ 28 0 (vp_updL (τ.2 28 0) (nI k).toNatClampNeg (τ.2 101 0 (nI (cnt (ch g) k)).toNatClampNeg)), 16, [some (jR 26 0), some (jI (nI g)), some (jJ (lN (ch g))), none, some (jI (nI (cnt (ch g) k) + nI 1)), some (jJ (lN (hi (ch g) k) &&& (lN (hi (ch g) k) - lN 1))), none, none], [])
          rw [e101, ek, nxt hb, nI_add]
          have := ih (k + 1) (by omega) (wJ τ 28 0 (vp_updL (τ.2 28 0) k (lN (plM (cnt (ch g) k))))) (off_wJ ho (by omega) (by omega)) (fun i hi hbi => by
            rw [wJ2, if_pos ⟨rfl, rfl⟩, updL_at]
            by_cases e : i = k
            · rw [if_pos e, e]
            · rw [if_neg e]; exact hr i (by omega) hbi)
          rw [cnt_succ, hb] at this
          exact this
  refine hg [16] 40 _ ?_
  refine And.intro hin ?_
  show X (σ, 16, [some (jR 26 0), some (jI (nI g)), some (jJ (σ.2 24 0 (nI g).toNatClampNeg)), none, some (jI (nI 0)), some (jJ (σ.2 24 0 (nI g).toNatClampNeg)), none, none], [])
  rw [eg, hch g hgt]
  have := fst 40 0 (by omega) σ (off_refl _ _ _) (fun i hi => absurd hi (by omega))
  rw [hi_0] at this
  exact this
/-- what was found is kept -/
def cB (N : nw) (ch : Nat → Nat) (σ : jm_G) : Prop := ∃ kn, kn < 2 ^ 40 ∧ σ.2 26 0 4 = lN kn ∧ ∀ g, isG N g = true → kn.testBit g = true → σ.2 27 0 g = lN (hld N ch g)
abbrev ct_bitsOf (C : jm_C) : Prop := ∀ (N : nw) (K g : Nat) (ch : Nat → Nat) (σ : jm_G) (post : Option jm_V → jm_G → Prop), nw_ok N → cN N σ → cP σ → chOK N K ch → K ≤ 6 → cCh N ch σ → cB N ch σ → isG N g = true → (∀ σ', off 26 28 σ σ' → cB N ch σ' → post (some (jJ (lN (hld N ch g)))) σ') → C kX2_bitsOf [jR 26 0, jI (nI g)] σ post
theorem T_bitsOf (L : Nat) {C : jm_C} (hC : jm_mon C) (h1 : ct_has C) (h2 : ct_findBits C) (h3 : ct_bit C) : ct_bitsOf (jm_up L C) := by
  intro N K g ch σ post hok hN hP hcO hK6 hch hB hgt hp
  refine jm_start rfl (Nat.le_of_ble_eq_true rfl) hC fun X hg hw => ?_
  have h40 := hok.1
  have hgn := isG_lt hgt
  have eg : (nI g).toNatClampNeg = g := nI_clamp (by omega)
  have hin : vp_in (nI g) 40 := vp_in_nI (by omega) (by omega)
  obtain ⟨kn, k1, k2, k3⟩ := hB
  refine hg [] 60 _ ?_
  refine c_has h1 k2 rfl (p40 k1) (by omega) ?_
  refine br_c (fun h => ?_) (fun h => ?_)
  · refine h2 N K g ch σ _ hok hN hP hcO hK6 hch hgt fun τ ho => ?_
    refine And.intro hin ?_
    refine h3 g _ _ (by omega) ?_
    refine And.intro hin (And.intro trivial ?_)
    have e26 : τ.2 26 0 = σ.2 26 0 := (ho 26 0 (by omega)).2
    show post (some (jJ (vp_updL (τ.2 27 0) (nI g).toNatClampNeg (lN (hld N ch g)) (nI g).toNatClampNeg))) (wJ (wJ τ 27 0 (vp_updL (τ.2 27 0) (nI g).toNatClampNeg (lN (hld N ch g)))) 26 0 (vp_updL (τ.2 26 0) 4 (τ.2 26 0 4 ||| lN (2 ^ g))))
    rw [eg, pk_uLs]
    refine hp _ (off_wJ (off_wJ (off_wide ho (by omega) (by omega)) (by omega) (by omega)) (by omega) (by omega)) ⟨kn ||| 2 ^ g, or_lt k1 (pw_lt (by omega)), ?_, fun z hz hb => ?_⟩
    · show vp_updL (τ.2 26 0) 4 (τ.2 26 0 4 ||| lN (2 ^ g)) 4 = _
      rw [pk_uLs, e26, k2, fb_orL]
    · show vp_updL (τ.2 27 0) g (lN (hld N ch g)) z = _
      rw [updL_at]
      by_cases e : z = g
      · rw [if_pos e, e]
      · rw [if_neg e, (ho 27 0 (by omega)).2]
        refine k3 z hz ?_
        rw [or_bit] at hb
        simpa [e] using hb
  · refine And.intro hin (And.intro trivial ?_)
    show post (some (jJ (σ.2 27 0 (nI g).toNatClampNeg))) σ
    rw [eg, k3 g hgt (bI_n0.mp h)]
    exact hp σ (off_refl _ _ _) ⟨kn, k1, k2, k3⟩
