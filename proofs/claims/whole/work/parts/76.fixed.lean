/-! VALUES with some nodes fixed; the model's gateIs, works, fixes, has64 -/
theorem fb_orI (a b : Nat) : nI a ||| nI b = nI (a ||| b) := by
  apply Int32.toBitVec_inj.1
  show BitVec.ofNat 32 a ||| BitVec.ofNat 32 b = BitVec.ofNat 32 (a ||| b)
  apply BitVec.eq_of_getLsbD_eq
  intro i hi
  simp [hi]
theorem fb_andI (a b : Nat) : nI a &&& nI b = nI (a &&& b) := by
  apply Int32.toBitVec_inj.1
  show BitVec.ofNat 32 a &&& BitVec.ofNat 32 b = BitVec.ofNat 32 (a &&& b)
  apply BitVec.eq_of_getLsbD_eq
  intro i hi
  simp [hi]
theorem sh_sm : ∀ k, k < 32 → ((nI k &&& 31).toBitVec.smod 32).toNat = k := by decide +kernel
theorem shI1 {k : Nat} (h : k < 31) : nI 1 <<< (nI k &&& 31) = nI (2 ^ k) := by
  have h2 : 1 * 2 ^ k < 2 ^ 32 := by rw [Nat.one_mul]; exact Nat.pow_lt_pow_right (by omega) (by omega)
  rw [pk_shlN _ k (sh_sm k (by omega)) h2, Nat.one_mul]
theorem shrI {n k : Nat} (hn : n < 2 ^ 31) (h : k < 32) : nI n >>> (nI k &&& 31) = nI (n / 2 ^ k) := pk_shrN hn _ k (sh_sm k h)
theorem shrI1 {n k : Nat} (hn : n < 2 ^ 31) (h : k < 32) : (nI n >>> (nI k &&& 31)) &&& nI 1 = nI (n.testBit k).toNat := by
  rw [shrI hn h, fb_andI, Nat.and_one_is_mod, bit_div]
/-- what nodes are, those of a set being told -/
def vxT (N : nw) (S : Nat) (f lf : Nat → Bool) : Nat → Nat → Bool
  | 0 => fun _ => false
  | n + 1 => fun i => if i = n then (if S.testBit n then f n else if isG N n then bop (nK N n) (vxT N S f lf n (pl N n 0)) (vxT N S f lf n (pl N n 1)) (vxT N S f lf n (pl N n 2)) else lf n) else vxT N S f lf n i
def vx (N : nw) (S : Nat) (f lf : Nat → Bool) (i : Nat) : Bool := vxT N S f lf (i + 1) i
theorem vxT_lt (N : nw) (S : Nat) (f lf : Nat → Bool) : ∀ n i, i < n → vxT N S f lf n i = vx N S f lf i
  | 0, _, h => absurd h (by omega)
  | n + 1, i, h => by
    by_cases e : i = n
    · subst e; rfl
    · show (if i = n then _ else vxT N S f lf n i) = _
      rw [if_neg e]
      exact vxT_lt N S f lf n i (by omega)
theorem vx_S {N : nw} {S : Nat} {f lf : Nat → Bool} {i : Nat} (h : S.testBit i = true) : vx N S f lf i = f i := by
  show (if i = i then (if S.testBit i then f i else _) else _) = _
  rw [if_pos rfl, if_pos h]
theorem vx_leaf {N : nw} {S : Nat} {f lf : Nat → Bool} {i : Nat} (h : S.testBit i = false) (hg : isG N i = false) : vx N S f lf i = lf i := by
  show (if i = i then (if S.testBit i then f i else if isG N i then _ else lf i) else _) = _
  rw [if_pos rfl, h, hg]
  rfl
theorem vx_gate {N : nw} (hok : nw_ok N) {S : Nat} {f lf : Nat → Bool} {i : Nat} (h : S.testBit i = false) (hg : isG N i = true) : vx N S f lf i = bop (nK N i) (vx N S f lf (pl N i 0)) (vx N S f lf (pl N i 1)) (vx N S f lf (pl N i 2)) := by
  show (if i = i then (if S.testBit i then f i else if isG N i then bop (nK N i) (vxT N S f lf i (pl N i 0)) (vxT N S f lf i (pl N i 1)) (vxT N S f lf i (pl N i 2)) else lf i) else _) = _
  rw [if_pos rfl, h, if_neg (by simp), if_pos hg, vxT_lt N S f lf i _ (pl_lt hok hg 0), vxT_lt N S f lf i _ (pl_lt hok hg 1), vxT_lt N S f lf i _ (pl_lt hok hg 2)]
theorem vx_0 {N : nw} (hok : nw_ok N) {f lf : Nat → Bool} : ∀ i, vx N 0 f lf i = vl N lf i := by
  intro i
  induction i using Nat.strongRecOn with
  | ind i ih =>
    cases hg : isG N i with
    | false => rw [vx_leaf (Nat.zero_testBit i) hg, vl_leaf hg]
    | true => rw [vx_gate hok (Nat.zero_testBit i) hg, vl_gate hok hg, ih _ (pl_lt hok hg 0), ih _ (pl_lt hok hg 1), ih _ (pl_lt hok hg 2)]
theorem pl_src {N : nw} {i : Nat} (hg : isG N i = true) (k : Nat) : (sM N i).testBit (pl N i k) = true := by
  unfold pl
  apply nR_src hg
  split
  · assumption
  · exact (ar_pos _).1
theorem rch_notS {N : nw} (hok : nw_ok N) {g S i : Nat} (hS : Sep N g S) (h : (rch N g S).testBit i = true) : S.testBit i = false := by
  rcases rch_par hok h with e | e
  · cases hb : S.testBit i with
    | false => rfl
    | true => have := nB_lt hok _ _ (hS.1 i hb); omega
  · exact e.1
/-- of a gate that is cut off the leaves don't matter -/
theorem vx_sep {N : nw} (hok : nw_ok N) {g S : Nat} (hS : Sep N g S) {f lf lf' : Nat → Bool} : ∀ i, (rch N g S).testBit i = true → vx N S f lf i = vx N S f lf' i := by
  intro i
  induction i using Nat.strongRecOn with
  | ind i ih =>
    intro hi
    have hg := hS.2 i hi
    have hn := rch_notS hok hS hi
    have part : ∀ k, vx N S f lf (pl N i k) = vx N S f lf' (pl N i k) := fun k => by
      cases hb : S.testBit (pl N i k) with
      | true => rw [vx_S hb, vx_S hb]
      | false => exact ih _ (pl_lt hok hg k) (rch_closed hok hi (pl_src hg k) hb)
    rw [vx_gate hok hn hg, vx_gate hok hn hg, part 0, part 1, part 2]
theorem vx_f {N : nw} (hok : nw_ok N) {S : Nat} {f f' lf : Nat → Bool} (h : ∀ i, S.testBit i = true → f i = f' i) : ∀ i, vx N S f lf i = vx N S f' lf i := by
  intro i
  induction i using Nat.strongRecOn with
  | ind i ih =>
    cases hb : S.testBit i with
    | true => rw [vx_S hb, vx_S hb, h i hb]
    | false =>
      cases hg : isG N i with
      | false => rw [vx_leaf hb hg, vx_leaf hb hg]
      | true => rw [vx_gate hok hb hg, vx_gate hok hb hg, ih _ (pl_lt hok hg 0), ih _ (pl_lt hok hg 1), ih _ (pl_lt hok hg 2)]
theorem bop_ar {k : Nat} (hk : k < 7) {a b b' c c' : Bool} (h1 : 1 < ar k → b = b') (h2 : 2 < ar k → c = c') : bop k a b c = bop k a b' c' := by
  rcases (show k = 0 ∨ k = 1 ∨ k = 2 ∨ k = 3 ∨ k = 4 ∨ k = 5 ∨ k = 6 by omega) with rfl | rfl | rfl | rfl | rfl | rfl | rfl
  · rfl
  · rw [h1 (by decide)]; rfl
  · rw [h1 (by decide)]; rfl
  · rw [h1 (by decide)]; rfl
  · rw [h1 (by decide)]; rfl
  · rw [h1 (by decide), h2 (by decide)]
  · rw [h1 (by decide), h2 (by decide)]
abbrev ct_gateIs (C : jm_C) : Prop := ∀ (N : nw) (i : Nat) (v : Nat → Bool) (σ : jm_G) (post : Option jm_V → jm_G → Prop), nw_ok N → mN N σ → isG N i = true → (∀ j, j < i → σ.1 56 0 j = bI (v j)) → post (some (jI (bI (bop (nK N i) (v (pl N i 0)) (v (pl N i 1)) (v (pl N i 2)))))) σ → C kX10_gateIs [jR 38 0, jI (nI i)] σ post
theorem T_gateIs (L : Nat) {C : jm_C} (hC : jm_mon C) : ct_gateIs (jm_up L C) := by
  intro N i v σ post hok hN hgt hv hp
  refine jm_start rfl (Nat.le_of_ble_eq_true rfl) hC fun X hg hw => ?_
  have h40 := hok.1
  have hi := isG_lt hgt
  have hk7 := (hok.2.2.1 i hgt).1
  have har := ar_pos (nK N i)
  have ei : (nI i).toNatClampNeg = i := nI_clamp (by omega)
  have s0 : σ.1 41 0 (nI 3 * nI i).toNatClampNeg = nI (nR N i 0) := by
    rw [n3, nI_clamp (by omega)]
    have := mN_src hN hgt (k := 0) (by omega)
    unfold srcI at this
    rw [if_pos (by omega)] at this
    exact this
  have sk : ∀ k, k < 3 → σ.1 41 0 (nI 3 * nI i + nI k).toNatClampNeg = srcI N i k := fun k hk => by
    rw [n3I, nI_clamp (by omega)]
    exact mN_src hN hgt hk
  have r0 := nR_lt hok hgt (p := 0) (by omega)
  have v0 : σ.1 56 0 (σ.1 41 0 (nI 3 * nI i).toNatClampNeg).toNatClampNeg = bI (v (nR N i 0)) := by rw [s0, nI_clamp (by omega)]; exact hv _ r0
  have e40 : σ.1 40 0 (nI i).toNatClampNeg = nI (nK N i) := by rw [ei, hN.2.2.1 i hi, if_pos hgt]
  -- behind all three
  have fin : ∀ b c : Bool, bop (nK N i) (v (pl N i 0)) (v (pl N i 1)) (v (pl N i 2)) = bop (nK N i) (v (nR N i 0)) b c → X (σ, 89, [some (jR 38 0), some (jI (nI i)), some (jI (bI (v (nR N i 0)))), some (jI (bI b)), some (jI (bI c))], []) := by
    intro b c he
    rw [he] at hp
    generalize v (nR N i 0) = a at hp ⊢
    refine hg [95] 40 _ ?_
    refine And.intro (vp_in_nI (by omega) (by omega)) ?_
    show X (σ, 95, [some (jR 38 0), some (jI (nI i)), some (jI (bI a)), some (jI (bI b)), some (jI (bI c))], [jI (σ.1 40 0 (nI i).toNatClampNeg)])
    rw [e40]
    have hne : ∀ j, nI (nK N i) = nI j → j < 7 → nK N i = j := fun j h hj => (nI_eq (by omega) (by omega)).mp h
    refine hg [] 40 _ ?_
    refine And.intro (fun h => ?_) (And.intro (fun h => ?_) (And.intro (fun h => ?_) (And.intro (fun h => ?_) (And.intro (fun h => ?_) (And.intro (fun h => ?_) (And.intro (fun h => ?_) trivial))))))
    · have h : (nI (nK N i)).toInt < 0 ∨ 5 < (nI (nK N i)).toInt := h
      rw [nI_toInt (by omega)] at h
      have e : nK N i = 6 := by omega
      rw [e] at hp
      cases a <;> cases b <;> cases c <;> (repeat' first | exact And.intro (Or.inr rfl) hp | exact And.intro (Or.inl rfl) hp | exact absurd ‹bI _ = 0› (by decide) | exact absurd rfl ‹¬ bI _ = 0› | refine br_c (fun _ => ?_) (fun _ => ?_))
    · rw [hne 0 h (by omega)] at hp
      cases a <;> cases b <;> cases c <;> (repeat' first | exact And.intro (Or.inr rfl) hp | exact And.intro (Or.inl rfl) hp | exact absurd ‹bI _ = 0› (by decide) | exact absurd rfl ‹¬ bI _ = 0› | refine br_c (fun _ => ?_) (fun _ => ?_))
    · rw [hne 1 h (by omega)] at hp
      cases a <;> cases b <;> cases c <;> (repeat' first | exact And.intro (Or.inr rfl) hp | exact And.intro (Or.inl rfl) hp | exact absurd ‹bI _ = 0› (by decide) | exact absurd rfl ‹¬ bI _ = 0› | refine br_c (fun _ => ?_) (fun _ => ?_))
    · rw [hne 2 h (by omega)] at hp
      cases a <;> cases b <;> cases c <;> (repeat' first | exact And.intro (Or.inr rfl) hp | exact And.intro (Or.inl rfl) hp | exact absurd ‹bI _ = 0› (by decide) | exact absurd rfl ‹¬ bI _ = 0› | refine br_c (fun _ => ?_) (fun _ => ?_))
    · rw [hne 3 h (by omega)] at hp
      refine br_c (fun q => ?_) (fun q => ?_)
      · have q : a = b := bI_inj q
        rw [q] at hp
        cases b <;> exact And.intro (Or.inl rfl) hp
      · have q : ¬ a = b := fun z => q (by rw [z])
        cases a <;> cases b <;> first | exact absurd rfl q | exact And.intro (Or.inr rfl) hp
    · rw [hne 4 h (by omega)] at hp
      cases a <;> cases b <;> cases c <;> (repeat' first | exact And.intro (Or.inr rfl) hp | exact And.intro (Or.inl rfl) hp | exact absurd ‹bI _ = 0› (by decide) | exact absurd rfl ‹¬ bI _ = 0› | refine br_c (fun _ => ?_) (fun _ => ?_))
    · rw [hne 5 h (by omega)] at hp
      cases a <;> cases b <;> cases c <;> (repeat' first | exact And.intro (Or.inr rfl) hp | exact And.intro (Or.inl rfl) hp | exact absurd ‹bI _ = 0› (by decide) | exact absurd rfl ‹¬ bI _ = 0› | refine br_c (fun _ => ?_) (fun _ => ?_))
  -- the third
  have thd : ∀ b : Bool, (1 < ar (nK N i) → b = v (nR N i 1)) → X (σ, 51, [some (jR 38 0), some (jI (nI i)), some (jI (bI (v (nR N i 0)))), some (jI (bI b)), none], []) := by
    intro b hb
    have p0 : pl N i 0 = nR N i 0 := by unfold pl; rw [if_pos (by omega)]
    have p1 : 1 < ar (nK N i) → pl N i 1 = nR N i 1 := fun h => by unfold pl; rw [if_pos h]
    have p2 : 2 < ar (nK N i) → pl N i 2 = nR N i 2 := fun h => by unfold pl; rw [if_pos h]
    have he : ∀ c : Bool, (2 < ar (nK N i) → v (pl N i 2) = c) → X (σ, 89, [some (jR 38 0), some (jI (nI i)), some (jI (bI (v (nR N i 0)))), some (jI (bI b)), some (jI (bI c))], []) := fun c hc => fin b c (by
      rw [p0]
      exact bop_ar hk7 (fun q => by rw [p1 q, hb q]) hc)
    have s2 := sk 2 (by omega)
    unfold srcI at s2
    refine hg [89] 60 _ ?_
    refine And.intro (show vp_in (nI 3 * nI i + nI 2) 120 by rw [n3I]; exact vp_in_nI (by omega) (by omega)) ?_
    by_cases h2 : 2 < ar (nK N i)
    · rw [if_pos h2] at s2
      have r2 := nR_lt hok hgt h2
      refine br_c (fun h => ?_) (fun _ => ?_)
      · have h : σ.1 41 0 (nI 3 * nI i + nI 2).toNatClampNeg < 0 := h
        rw [s2] at h
        exact absurd h (nI_pos (by omega))
      · refine And.intro (show vp_in (nI 3 * nI i + nI 2) 120 by rw [n3I]; exact vp_in_nI (by omega) (by omega)) ?_
        refine And.intro (show vp_in (σ.1 41 0 (nI 3 * nI i + nI 2).toNatClampNeg) 40 by rw [s2]; exact vp_in_nI (by omega) (by omega)) ?_
        have v2 : σ.1 56 0 (σ.1 41 0 (nI 3 * nI i + nI 2).toNatClampNeg).toNatClampNeg = bI (v (nR N i 2)) := by rw [s2, nI_clamp (by omega)]; exact hv _ r2
        refine br_c (fun h => ?_) (fun h => ?_)
        · have h : σ.1 56 0 (σ.1 41 0 (nI 3 * nI i + nI 2).toNatClampNeg).toNatClampNeg = 0 := h
          rw [v2] at h
          exact he false fun q => by rw [p2 q, bI_0.mp h]
        · have h : ¬ σ.1 56 0 (σ.1 41 0 (nI 3 * nI i + nI 2).toNatClampNeg).toNatClampNeg = 0 := h
          rw [v2] at h
          exact he true fun q => by rw [p2 q, bI_n0.mp h]
    · rw [if_neg h2] at s2
      refine br_c (fun _ => ?_) (fun h => ?_)
      · exact he false fun q => absurd q h2
      · have h : ¬ σ.1 41 0 (nI 3 * nI i + nI 2).toNatClampNeg < 0 := h
        rw [s2] at h
        exact absurd m1_neg h
  -- the second
  have snd : X (σ, 14, [some (jR 38 0), some (jI (nI i)), some (jI (bI (v (nR N i 0)))), none, none], []) := by
    have s1 := sk 1 (by omega)
    unfold srcI at s1
    refine hg [51] 60 _ ?_
    refine And.intro (show vp_in (nI 3 * nI i + nI 1) 120 by rw [n3I]; exact vp_in_nI (by omega) (by omega)) ?_
    by_cases h1 : 1 < ar (nK N i)
    · rw [if_pos h1] at s1
      have r1 := nR_lt hok hgt h1
      refine br_c (fun h => ?_) (fun _ => ?_)
      · have h : σ.1 41 0 (nI 3 * nI i + nI 1).toNatClampNeg < 0 := h
        rw [s1] at h
        exact absurd h (nI_pos (by omega))
      · refine And.intro (show vp_in (nI 3 * nI i + nI 1) 120 by rw [n3I]; exact vp_in_nI (by omega) (by omega)) ?_
        refine And.intro (show vp_in (σ.1 41 0 (nI 3 * nI i + nI 1).toNatClampNeg) 40 by rw [s1]; exact vp_in_nI (by omega) (by omega)) ?_
        have v1 : σ.1 56 0 (σ.1 41 0 (nI 3 * nI i + nI 1).toNatClampNeg).toNatClampNeg = bI (v (nR N i 1)) := by rw [s1, nI_clamp (by omega)]; exact hv _ r1
        refine br_c (fun h => ?_) (fun h => ?_)
        · have h : σ.1 56 0 (σ.1 41 0 (nI 3 * nI i + nI 1).toNatClampNeg).toNatClampNeg = 0 := h
          rw [v1] at h
          exact thd false fun _ => (bI_0.mp h).symm
        · have h : ¬ σ.1 56 0 (σ.1 41 0 (nI 3 * nI i + nI 1).toNatClampNeg).toNatClampNeg = 0 := h
          rw [v1] at h
          exact thd true fun _ => (bI_n0.mp h).symm
    · rw [if_neg h1] at s1
      refine br_c (fun _ => ?_) (fun h => ?_)
      · exact thd false fun q => absurd q h1
      · have h : ¬ σ.1 41 0 (nI 3 * nI i + nI 1).toNatClampNeg < 0 := h
        rw [s1] at h
        exact absurd m1_neg h
  refine hg [14] 40 _ ?_
  refine And.intro (show vp_in (nI 3 * nI i) 120 by rw [n3]; exact vp_in_nI (by omega) (by omega)) ?_
  refine And.intro (show vp_in (σ.1 41 0 (nI 3 * nI i).toNatClampNeg) 40 by rw [s0]; exact vp_in_nI (by omega) (by omega)) ?_
  show X (σ, 14, [some (jR 38 0), some (jI (nI i)), some (jI (σ.1 56 0 (σ.1 41 0 (nI 3 * nI i).toNatClampNeg).toNatClampNeg)), none, none], [])
  rw [v0]
  exact snd
def mSt (N : nw) (on : Nat) (σ : jm_G) : Prop := ∀ i, i < nN N → σ.1 43 0 i = bI (on.testBit i)
abbrev ct_works (C : jm_C) : Prop := ∀ (N : nw) (S on : Nat) (f : Nat → Bool) (σ : jm_G) (w : Int64) (post : Option jm_V → jm_G → Prop), nw_ok N → mN N σ → mSt N on σ → w = lN S → S < 2 ^ 40 → (∀ i, i < nN N → S.testBit i = true → σ.1 56 0 i = bI (f i)) → (∀ σ', mf [56] [] σ σ' → (∀ i, i < nN N → σ'.1 56 0 i = bI (vx N S f (fun i => on.testBit i) i)) → post none σ') → C kX10_works [jR 38 0, jJ w] σ post
theorem T_works (L : Nat) {C : jm_C} (hC : jm_mon C) (h1 : ct_mhas C) (h2 : ct_gateIs C) : ct_works (jm_up L C) := by
  intro N S on f σ w post hok hN hst hw2 hS hf hp
  subst hw2
  refine jm_start rfl (Nat.le_of_ble_eq_true rfl) hC fun X hg hw => ?_
  have h40 := hok.1
  refine hg [2] 20 _ ?_
  show X (σ, 2, [some (jR 38 0), some (jJ (lN S)), none, some (jI (nI 0))], [])
  have gen : ∀ (d n : Nat), n + d = nN N → ∀ (τ : jm_G), mf [56] [] σ τ → (∀ i, i < n → τ.1 56 0 i = bI (vx N S f (fun i => on.testBit i) i)) → (∀ i, n ≤ i → i < nN N → S.testBit i = true → τ.1 56 0 i = bI (f i)) → X (τ, 2, [some (jR 38 0), some (jJ (lN S)), none, some (jI (nI n))], []) := by
    intro d
    induction d with
    | zero =>
      intro n hnd τ ho r1 r2
      have e : n = nN N := by omega
      subst e
      have hNt := mN_mf hN ho (by decide) (by decide)
      refine hg [2] 30 _ ?_
      refine br_c (fun _ => And.intro trivial (hp τ ho r1)) (fun h => ?_)
      have h : ¬ τ.1 38 0 1 ≤ nI (nN N) := h
      rw [hNt.1, nI_leI (by omega) (by omega)] at h
      omega
    | succ d ih =>
      intro n hnd τ ho r1 r2
      have hNt := mN_mf hN ho (by decide) (by decide)
      have en : (nI n).toNatClampNeg = n := nI_clamp (by omega)
      have hin : vp_in (nI n) 40 := vp_in_nI (by omega) (by omega)
      have go : ∀ z : Int32, z = bI (vx N S f (fun i => on.testBit i) n) → X (wI τ 56 0 (upd (τ.1 56 0) (nI n).toNatClampNeg z), 2, [some (jR 38 0), some (jJ (lN S)), none, some (jI (nI n + nI 1))], []) := by
        intro z hz
        rw [en, nI_add]
        refine ih (n + 1) (by omega) _ (mf_wI ho (by decide) (by decide)) (fun j hj => ?_) (fun j h1 h2 h3 => ?_)
        · rw [wI1, if_pos ⟨rfl, rfl⟩, upd_at]
          by_cases e : j = n
          · rw [if_pos e, e, hz]
          · rw [if_neg e]; exact r1 j (by omega)
        · rw [wI1, if_pos ⟨rfl, rfl⟩, upd_at, if_neg (by omega)]
          exact r2 j (by omega) h2 h3
      refine hg [2] 40 _ ?_
      refine br_c (fun h => ?_) (fun _ => ?_)
      · have h : τ.1 38 0 1 ≤ nI n := h
        rw [hNt.1, nI_leI (by omega) (by omega)] at h
        omega
      · refine h1 S n τ _ (p40 hS) (by omega) ?_
        refine br_c (fun h => ?_) (fun h => ?_)
        · have hb := bI_0.mp h
          refine And.intro hin ?_
          refine br_c (fun h => ?_) (fun h => ?_)
          · have h : τ.1 39 0 (nI n).toNatClampNeg = nI 1 := h
            rw [en, mN_gate hok hNt (by omega)] at h
            refine h2 N n (vx N S f (fun i => on.testBit i)) τ _ hok hNt h r1 ?_
            refine And.intro ⟨hin, bI_01 _⟩ ?_
            exact go _ (by rw [vx_gate hok hb h])
          · have h : ¬ τ.1 39 0 (nI n).toNatClampNeg = nI 1 := h
            rw [en, mN_gate hok hNt (by omega)] at h
            have h : isG N n = false := by simpa using h
            have e43 : τ.1 43 0 (nI n).toNatClampNeg = bI (on.testBit n) := by rw [en, (ho.1 43 0 (by omega) (by decide)).1]; exact hst n (by omega)
            refine And.intro hin ?_
            refine And.intro ⟨hin, show τ.1 43 0 (nI n).toNatClampNeg = 0 ∨ τ.1 43 0 (nI n).toNatClampNeg = 1 by rw [e43]; exact bI_01 _⟩ ?_
            exact go (τ.1 43 0 (nI n).toNatClampNeg) (by rw [e43, vx_leaf hb h])
        · have hb := bI_n0.mp h
          show X (τ, 2, [some (jR 38 0), some (jJ (lN S)), none, some (jI (nI n + nI 1))], [])
          rw [nI_add]
          refine ih (n + 1) (by omega) τ ho (fun j hj => ?_) (fun j h1 h2 h3 => r2 j (by omega) h2 h3)
          by_cases e : j = n
          · rw [e, vx_S hb]; exact r2 n (by omega) (by omega) hb
          · exact r1 j (by omega)
  exact gen (nN N) 0 (by omega) σ (mf_refl _ _ _) (fun j hj => absurd hj (by omega)) (fun j _ h2 h3 => hf j h2 h3)
abbrev ct_fixes (C : jm_C) : Prop := ∀ (N : nw) (S j : Nat) (σ : jm_G) (w : Int64) (post : Option jm_V → jm_G → Prop), nw_ok N → mN N σ → w = lN S → S < 2 ^ 40 → cnt S 40 ≤ 6 → j < 2 ^ 31 → (∀ σ', mf [56] [] σ σ' → (∀ i, i < nN N → S.testBit i = true → σ'.1 56 0 i = bI (j.testBit (cnt S i))) → post none σ') → C kX10_fixes [jR 38 0, jJ w, jI (nI j)] σ post
theorem cnt_mono (S : Nat) {a b : Nat} (h : a ≤ b) : cnt S a ≤ cnt S b := fb_ct_mono _ h
theorem T_fixes (L : Nat) {C : jm_C} (hC : jm_mon C) (h1 : ct_mhas C) : ct_fixes (jm_up L C) := by
  intro N S j σ w post hok hN hw2 hS hc6 hj hp
  subst hw2
  refine jm_start rfl (Nat.le_of_ble_eq_true rfl) hC fun X hg hw => ?_
  have h40 := hok.1
  refine hg [6] 20 _ ?_
  show X (σ, 6, [some (jR 38 0), some (jJ (lN S)), none, some (jI (nI j)), some (jI (nI (cnt S 0))), some (jI (nI 0))], [])
  have gen : ∀ (d n : Nat), n + d = nN N → ∀ (τ : jm_G), mf [56] [] σ τ → (∀ i, i < n → S.testBit i = true → τ.1 56 0 i = bI (j.testBit (cnt S i))) → X (τ, 6, [some (jR 38 0), some (jJ (lN S)), none, some (jI (nI j)), some (jI (nI (cnt S n))), some (jI (nI n))], []) := by
    intro d
    induction d with
    | zero =>
      intro n hnd τ ho r1
      have e : n = nN N := by omega
      subst e
      have hNt := mN_mf hN ho (by decide) (by decide)
      refine hg [6] 30 _ ?_
      refine br_c (fun _ => And.intro trivial (hp τ ho r1)) (fun h => ?_)
      have h : ¬ τ.1 38 0 1 ≤ nI (nN N) := h
      rw [hNt.1, nI_leI (by omega) (by omega)] at h
      omega
    | succ d ih =>
      intro n hnd τ ho r1
      have hNt := mN_mf hN ho (by decide) (by decide)
      have en : (nI n).toNatClampNeg = n := nI_clamp (by omega)
      have hin : vp_in (nI n) 40 := vp_in_nI (by omega) (by omega)
      have hcn := cnt_mono S (show n ≤ 40 by omega)
      have go : S.testBit n = true → ∀ z : Int32, z = bI (j.testBit (cnt S n)) → X (wI τ 56 0 (upd (τ.1 56 0) (nI n).toNatClampNeg z), 6, [some (jR 38 0), some (jJ (lN S)), none, some (jI (nI j)), some (jI (nI (cnt S n) + nI 1)), some (jI (nI n + nI 1))], []) := by
        intro hb z hz
        have := ih (n + 1) (by omega) (wI τ 56 0 (upd (τ.1 56 0) n z)) (mf_wI ho (by decide) (by decide)) (fun i hi hbi => by
          rw [wI1, if_pos ⟨rfl, rfl⟩, upd_at]
          by_cases e : i = n
          · rw [if_pos e, e, hz]
          · rw [if_neg e]; exact r1 i (by omega) hbi)
        rw [cnt_succ, hb] at this
        rw [en, nI_add, nI_add]
        exact this
      refine hg [6] 40 _ ?_
      refine br_c (fun h => ?_) (fun _ => ?_)
      · have h : τ.1 38 0 1 ≤ nI n := h
        rw [hNt.1, nI_leI (by omega) (by omega)] at h
        omega
      · refine h1 S n τ _ (p40 hS) (by omega) ?_
        refine br_c (fun h => ?_) (fun h => ?_)
        · have hb := bI_0.mp h
          have := ih (n + 1) (by omega) τ ho (fun i hi hbi => by
            by_cases e : i = n
            · rw [e, hb] at hbi; cases hbi
            · exact r1 i (by omega) hbi)
          rw [cnt_succ, hb] at this
          show X (τ, 6, [some (jR 38 0), some (jJ (lN S)), none, some (jI (nI j)), some (jI (nI (cnt S n))), some (jI (nI n + nI 1))], [])
          rw [nI_add]
          exact this
        · have hb := bI_n0.mp h
          have ev := shrI1 (k := cnt S n) hj (by omega)
          refine br_c (fun h => ?_) (fun h => ?_)
          · have h : (nI j >>> (nI (cnt S n) &&& 31)) &&& nI 1 = nI 1 := h
            rw [ev] at h
            refine And.intro ⟨hin, Or.inr rfl⟩ ?_
            refine go hb (nI 1) ?_
            cases q : j.testBit (cnt S n) with
            | true => rfl
            | false => rw [q] at h; exact absurd h (by decide)
          · have h : ¬ (nI j >>> (nI (cnt S n) &&& 31)) &&& nI 1 = nI 1 := h
            rw [ev] at h
            refine And.intro ⟨hin, Or.inl rfl⟩ ?_
            refine go hb (nI 0) ?_
            cases q : j.testBit (cnt S n) with
            | false => rfl
            | true => rw [q] at h; exact absurd rfl h
  exact gen (nN N) 0 (by omega) σ (mf_refl _ _ _) (fun j hj => absurd hj (by omega))
abbrev ct_has64 (C : jm_C) : Prop := ∀ (H j : Nat) (σ : jm_G) (post : Option jm_V → jm_G → Prop), H < 2 ^ 64 → j < 64 → post (some (jI (bI (H.testBit j)))) σ → C kX10_has64 [jJ (lN H), jI (nI j)] σ post
theorem T_has64 (L : Nat) {C : jm_C} (hC : jm_mon C) : ct_has64 (jm_up L C) := by
  intro S n σ post hS hn hp
  refine jm_start rfl (Nat.le_of_ble_eq_true rfl) hC fun X hg hw => ?_
  refine hg [7] 7 _ ?_
  show X (σ, 7, [some (jJ (lN S)), none, some (jI (nI n))], [jI (lg_cmp (((lN S).toUInt64 >>> ((nI n).toInt64.toUInt64 &&& Int64.toUInt64 63)).toInt64 &&& lN 1) (lN 1))])
  rw [wb_shr hS hn, lN_and1, bit_div]
  refine hg [] 10 _ ?_
  refine br_c (fun h => ?_) (fun h => ?_)
  · have h := (cmp_0 _ _).mp h
    cases hb : S.testBit n with
    | true => rw [hb] at hp; exact ⟨Or.inr rfl, hp⟩
    | false => rw [hb] at h; exact absurd h (by decide)
  · have h := fun q => h ((cmp_0 _ _).mpr q)
    cases hb : S.testBit n with
    | true => rw [hb] at h; exact absurd rfl h
    | false => rw [hb] at hp; exact ⟨Or.inl rfl, hp⟩
