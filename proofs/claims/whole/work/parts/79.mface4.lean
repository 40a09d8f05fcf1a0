/-! THE MODEL'S FACE: differs, holds, chosen, comes -/
def dfA (N : nw) (on : Nat) (x y : Int32) : Int32 := if inN (nN N) x && atN (nN N) y (isI N) then bI (vl N (fun i => on.testBit i) x.toNatClampNeg ^^ vl N (fun i => (on ^^^ 2 ^ y.toNatClampNeg).testBit i) x.toNatClampNeg) else -(nI 1)
abbrev ct_mdiffers (C : jm_C) : Prop := ∀ (N : nw) (K : Nat) (md : Bool) (ch : Nat → Nat) (on : Nat) (x y : Int32) (σ : jm_G) (post : Option jm_V → jm_G → Prop), aOK N K md ch on → mR N K md ch on σ → (∀ σ', mR N K md ch on σ' → off 38 70 σ σ' → post (some (jI (dfA N on x y))) σ') → C kX10_differs [jR 38 0, jI x, jI y] σ post
theorem T_mdiffers (L : Nat) {C : jm_C} (hC : jm_mon C) (h1 : ct_misNode C) (h2 : ct_works C) : ct_mdiffers (jm_up L C) := by
  intro N K md ch on x y σ post hA hR hp
  refine jm_start rfl (Nat.le_of_ble_eq_true rfl) hC fun X hg hw => ?_
  obtain ⟨hok, -, -, -, -⟩ := hA
  have h40 := hok.1
  have hR0 := mR_th hR (nI 0)
  unfold dfA at hp
  refine hg [44] 60 _ ?_
  refine h1 (nN N) x (sF σ 0 (nI 0)) _ hR0.1.1.1 ?_
  refine br_c (fun h => ?_) (fun h => ?_)
  · have h := bI_0.mp h
    rw [h, Bool.false_and, if_neg (fun q => by cases q)] at hp
    exact And.intro trivial (hp _ hR0 (off_th _ _))
  · have h := bI_n0.mp h
    rw [h, Bool.true_and] at hp
    obtain ⟨j, hj, rfl⟩ := inN_t (by omega) h
    have ej : (nI j).toNatClampNeg = j := nI_clamp (by omega)
    have hinj : vp_in (nI j) 40 := vp_in_nI (by omega) (by omega)
    rw [ej] at hp
    refine h1 (nN N) y (sF σ 0 (nI 0)) _ hR0.1.1.1 ?_
    refine br_c (fun h => ?_) (fun h => ?_)
    · have h := bI_0.mp h
      have e : atN (nN N) y (isI N) = false := by simp only [atN, h]; rfl
      rw [e, if_neg (fun q => by cases q)] at hp
      exact And.intro trivial (hp _ hR0 (off_th _ _))
    · obtain ⟨i, hi, rfl⟩ := inN_t (by omega) (bI_n0.mp h)
      have ei : (nI i).toNatClampNeg = i := nI_clamp (by omega)
      have hin : vp_in (nI i) 40 := vp_in_nI (by omega) (by omega)
      have eat : atN (nN N) (nI i) (isI N) = isI N i := by rw [atN_nI (by omega) (by omega)]; simp [hi]
      rw [eat, ei] at hp
      have e39 : σ.1 39 0 (nI i).toNatClampNeg = nI (nS N i) := by rw [ei]; exact hR.1.1.2.1 i hi
      refine And.intro hin ?_
      refine br_c (fun q => ?_) (fun q => ?_)
      · have q : σ.1 39 0 (nI i).toNatClampNeg = 0 := q
        rw [e39, show (0 : Int32) = nI 0 from rfl, nS_eq hok hi (by omega)] at q
        rw [isI_of hi, show decide (nS N i = 0) = true by simpa using q, if_pos rfl] at hp
        have f0 : mf [43, 56] [0] σ (sF σ 0 (nI 0)) := mf_sF (mf_refl _ _ _) (by decide)
        refine c_works h2 hok hR0.1.1 hR0.1.2.2.2 fun τ o1 o2 => ?_
        have fτ : mf [43, 56] [0] σ τ := mf_trans f0 (mf_wide o1 (by decide) (by decide))
        refine And.intro hinj ?_
        show X (τ, 44, [some (jR 38 0), some (jI (nI j)), some (jI (nI i)), some (jI (τ.1 56 0 (nI j).toNatClampNeg))], [])
        rw [ej, o2 j hj]
        have s43 : ∀ z, z < nN N → τ.1 43 0 z = bI (on.testBit z) := fun z hz => by rw [(o1.1 43 0 (by omega) (by decide)).1]; exact hR0.1.2.2.2 z hz
        -- the flipped state
        have hfl : ∀ z, (on ^^^ 2 ^ i).testBit z = if z = i then !on.testBit i else on.testBit z := fun z => by
          rw [fb_bit_flip]
          by_cases e : z = i
          · rw [if_pos e, e]; simp
          · rw [if_neg e]; simp [e]
        -- behind all
        have last : ∀ (υ : jm_G), mf [43, 56] [0] σ υ → mSt N on υ → (∀ z, z < nN N → υ.1 56 0 z = bI (vl N (fun i' => (on ^^^ 2 ^ i).testBit i') z)) → X (υ, 89, [some (jR 38 0), some (jI (nI j)), some (jI (nI i)), some (jI (bI (vl N (fun i => on.testBit i) j)))], []) := by
          intro υ fu su vu
          have hp := hp υ (mR_on hR fu (by decide) (by decide) su) (mf_off fu (by decide))
          have ev : υ.1 56 0 (nI j).toNatClampNeg = bI (vl N (fun i' => (on ^^^ 2 ^ i).testBit i') j) := by rw [ej]; exact vu j hj
          refine hg [] 40 _ ?_
          refine And.intro hinj ?_
          refine br_c (fun z => ?_) (fun z => ?_)
          · have z : υ.1 56 0 (nI j).toNatClampNeg = bI (vl N (fun i => on.testBit i) j) := z
            rw [ev] at z
            rw [bI_inj z, Bool.xor_self] at hp
            exact And.intro trivial hp
          · have z : ¬ υ.1 56 0 (nI j).toNatClampNeg = bI (vl N (fun i => on.testBit i) j) := z
            rw [ev] at z
            have e : (vl N (fun i => on.testBit i) j ^^ vl N (fun i' => (on ^^^ 2 ^ i).testBit i') j) = true := by
              revert z
              cases vl N (fun i => on.testBit i) j <;> cases vl N (fun i' => (on ^^^ 2 ^ i).testBit i') j <;> intro z
              · exact absurd rfl z
              · rfl
              · rfl
              · exact absurd rfl z
            rw [e] at hp
            exact And.intro trivial hp
        -- the second works, and back
        have mid : ∀ (υ : jm_G), mf [43, 56] [0] σ υ → mSt N (on ^^^ 2 ^ i) υ → X (υ, 64, [some (jR 38 0), some (jI (nI j)), some (jI (nI i)), some (jI (bI (vl N (fun i => on.testBit i) j)))], []) := by
          intro υ fu su
          refine hg [89] 60 _ ?_
          refine c_works h2 hok (mN_mf hR.1.1 fu (by decide) (by decide)) su fun ω w1 w2 => ?_
          have fw : mf [43, 56] [0] σ ω := mf_trans fu (mf_wide w1 (by decide) (by decide))
          have e43 : ω.1 43 0 (nI i).toNatClampNeg = bI (!on.testBit i) := by rw [ei, (w1.1 43 0 (by omega) (by decide)).1, su i hi, hfl i, if_pos rfl]
          have back : ∀ z : Int32, z = bI (on.testBit i) → X (wI ω 43 0 (upd (ω.1 43 0) (nI i).toNatClampNeg z), 89, [some (jR 38 0), some (jI (nI j)), some (jI (nI i)), some (jI (bI (vl N (fun i => on.testBit i) j)))], []) := by
            intro z hz
            rw [ei]
            refine last _ (mf_wI fw (by decide) (by decide)) (fun t ht => ?_) (fun t ht => w2 t ht)
            rw [wI1, if_pos ⟨rfl, rfl⟩, upd_at]
            by_cases e : t = i
            · rw [if_pos e, e, hz]
            · rw [if_neg e, (w1.1 43 0 (by omega) (by decide)).1, su t ht, hfl t, if_neg e]
          refine And.intro hin ?_
          refine br_c (fun z => ?_) (fun z => ?_)
          · have z : ω.1 43 0 (nI i).toNatClampNeg = 0 := z
            rw [e43] at z
            have z := bI_0.mp z
            refine And.intro ⟨hin, Or.inr rfl⟩ ?_
            refine back (nI 1) ?_
            rw [Bool.not_eq_false'] at z
            rw [z]; rfl
          · have z : ¬ ω.1 43 0 (nI i).toNatClampNeg = 0 := z
            rw [e43] at z
            have z := bI_n0.mp z
            refine And.intro ⟨hin, Or.inl rfl⟩ ?_
            refine back (nI 0) ?_
            rw [Bool.not_eq_true'] at z
            rw [z]; rfl
        have flip : ∀ z : Int32, z = bI (!on.testBit i) → X (wI τ 43 0 (upd (τ.1 43 0) (nI i).toNatClampNeg z), 64, [some (jR 38 0), some (jI (nI j)), some (jI (nI i)), some (jI (bI (vl N (fun i => on.testBit i) j)))], []) := by
          intro z hz
          rw [ei]
          refine mid _ (mf_wI fτ (by decide) (by decide)) fun t ht => ?_
          rw [wI1, if_pos ⟨rfl, rfl⟩, upd_at, hfl t]
          by_cases e : t = i
          · rw [if_pos e, if_pos e, hz]
          · rw [if_neg e, if_neg e]; exact s43 t ht
        have e43 : τ.1 43 0 (nI i).toNatClampNeg = bI (on.testBit i) := by rw [ei]; exact s43 i hi
        refine hg [64] 60 _ ?_
        refine And.intro hin ?_
        refine br_c (fun z => ?_) (fun z => ?_)
        · have z : τ.1 43 0 (nI i).toNatClampNeg = 0 := z
          rw [e43] at z
          refine And.intro ⟨hin, Or.inr rfl⟩ ?_
          exact flip (nI 1) (by rw [bI_0.mp z]; rfl)
        · have z : ¬ τ.1 43 0 (nI i).toNatClampNeg = 0 := z
          rw [e43] at z
          refine And.intro ⟨hin, Or.inl rfl⟩ ?_
          exact flip (nI 0) (by rw [bI_n0.mp z]; rfl)
      · have q : ¬ σ.1 39 0 (nI i).toNatClampNeg = 0 := q
        rw [e39, show (0 : Int32) = nI 0 from rfl, nS_eq hok hi (by omega)] at q
        rw [isI_of hi, show decide (nS N i = 0) = false by simpa using q, if_neg (fun q => by cases q)] at hp
        exact And.intro trivial (hp _ hR0 (off_th _ _))
/-- holds: whether it throws, what it answers -/
def hoT (N : nw) (md : Bool) (x : Int32) : Bool := !(atN (nN N) x (isG N) && md)
def hoA (N : nw) (md : Bool) (ch : Nat → Nat) (x : Int32) : Nat := if hoT N md x then 0 else hld N ch x.toNatClampNeg
abbrev ct_mholds (C : jm_C) : Prop := ∀ (N : nw) (K : Nat) (md : Bool) (ch : Nat → Nat) (on : Nat) (x : Int32) (σ : jm_G) (post : Option jm_V → jm_G → Prop), aOK N K md ch on → mR N K md ch on σ → (∀ σ', mR N K md ch on σ' → off 38 70 σ σ' → σ'.1 38 0 0 = bI (hoT N md x) → post (some (jJ (lN (hoA N md ch x)))) σ') → C kX10_holds [jR 38 0, jI x] σ post
theorem T_mholds (L : Nat) {C : jm_C} (hC : jm_mon C) (h1 : ct_misGate C) (h2 : ct_holdsOf C) : ct_mholds (jm_up L C) := by
  intro N K md ch on x σ post hA hR hp
  refine jm_start rfl (Nat.le_of_ble_eq_true rfl) hC fun X hg hw => ?_
  obtain ⟨hok, -, hK6, -, hmd⟩ := hA
  have h40 := hok.1
  unfold hoA at hp
  have thr : hoT N md x = true → post (some (jJ (lN 0))) (sF σ 0 (nI 1)) := fun q => by
    rw [q, if_pos rfl] at hp
    exact hp _ (mR_th hR _) (off_th _ _) (by rw [sF_1, if_pos rfl]; rfl)
  refine hg [] 40 _ ?_
  refine h1 N x σ _ hok hR.1.1 ?_
  refine br_c (fun h => ?_) (fun h => ?_)
  · have h := bI_0.mp h
    refine br_c (fun q => ?_) (fun _ => ?_)
    · have q : upd (σ.1 38 0) 0 (nI 1) 0 ≤ 0 := q
      rw [upd_at, if_pos rfl] at q
      exact absurd q (by decide)
    · exact And.intro trivial (thr (by unfold hoT; rw [h]; rfl))
  · have h := bI_n0.mp h
    obtain ⟨g, hgn, rfl, hgt⟩ := atN_t (by omega) h
    refine br_c (fun q => ?_) (fun q => ?_)
    · have q : σ.1 38 0 8 = 0 := q
      rw [hR.1.2.2.1] at q
      have q := bI_0.mp q
      refine br_c (fun z => ?_) (fun _ => ?_)
      · have z : upd (σ.1 38 0) 0 (nI 1) 0 ≤ 0 := z
        rw [upd_at, if_pos rfl] at z
        exact absurd z (by decide)
      · exact And.intro trivial (thr (by unfold hoT; rw [q, Bool.and_false]; rfl))
    · have q : ¬ σ.1 38 0 8 = 0 := q
      rw [hR.1.2.2.1] at q
      have q := bI_n0.mp q
      have eT : hoT N md (nI g) = false := by unfold hoT; rw [h, q]; rfl
      rw [eT, if_neg (fun q => by cases q), nI_clamp (by omega)] at hp
      refine br_c (fun _ => ?_) (fun z => ?_)
      · have hR0 := mR_th hR (nI 0)
        refine h2 N K g on ch (sF σ 0 (nI 0)) _ hok hR0.1.1 hR0.1.2.2.2 (hmd q) hK6 (hR0.2.2 q) hgt fun τ o1 => ?_
        refine And.intro trivial (hp τ (mR_mf hR0 o1 (by decide) (by decide)) (off_trans (off_th σ (nI 0)) (mf_off o1 (by decide))) ?_)
        rw [(o1.2 0 0 (by decide)).1, sF_1, if_pos rfl]
        rfl
      · have z : ¬ upd (σ.1 38 0) 0 (nI 0) 0 ≤ 0 := z
        rw [upd_at, if_pos rfl] at z
        exact absurd (by decide) z
def chA (N : nw) (md : Bool) (ch : Nat → Nat) (x : Int32) : Nat := if atN (nN N) x (isG N) && md then ch x.toNatClampNeg else 0
abbrev ct_mchosen (C : jm_C) : Prop := ∀ (N : nw) (K : Nat) (md : Bool) (ch : Nat → Nat) (on : Nat) (x : Int32) (σ : jm_G) (post : Option jm_V → jm_G → Prop), aOK N K md ch on → mR N K md ch on σ → (∀ σ', mR N K md ch on σ' → off 38 70 σ σ' → post (some (jJ (lN (chA N md ch x)))) σ') → C kX10_chosen [jR 38 0, jI x] σ post
theorem T_mchosen (L : Nat) {C : jm_C} (hC : jm_mon C) (h1 : ct_misGate C) : ct_mchosen (jm_up L C) := by
  intro N K md ch on x σ post hA hR hp
  refine jm_start rfl (Nat.le_of_ble_eq_true rfl) hC fun X hg hw => ?_
  obtain ⟨hok, -, -, -, -⟩ := hA
  have h40 := hok.1
  have hR0 := mR_th hR (nI 0)
  have hp := hp _ hR0 (off_th _ _)
  unfold chA at hp
  refine hg [] 40 _ ?_
  refine h1 N x (sF σ 0 (nI 0)) _ hok hR0.1.1 ?_
  refine br_c (fun h => ?_) (fun h => ?_)
  · rw [bI_0.mp h, Bool.false_and, if_neg (fun q => by cases q)] at hp
    exact And.intro trivial hp
  · have h := bI_n0.mp h
    rw [h, Bool.true_and] at hp
    obtain ⟨g, hgn, rfl, hgt⟩ := atN_t (by omega) h
    have eg : (nI g).toNatClampNeg = g := nI_clamp (by omega)
    rw [eg] at hp
    refine br_c (fun q => ?_) (fun q => ?_)
    · have q : σ.1 38 0 8 = 0 := q
      rw [hR.1.2.2.1] at q
      rw [bI_0.mp q, if_neg (fun q => by cases q)] at hp
      exact And.intro trivial hp
    · have q : ¬ σ.1 38 0 8 = 0 := q
      rw [hR.1.2.2.1] at q
      have q := bI_n0.mp q
      rw [q, if_pos rfl] at hp
      refine And.intro (vp_in_nI (by omega) (by omega)) (And.intro trivial ?_)
      show post (some (jJ (σ.2 53 0 (nI g).toNatClampNeg))) (sF σ 0 (nI 0))
      rw [eg, hR.2.2 q g hgt]
      exact hp
def cmA (N : nw) (md : Bool) (ch : Nat → Nat) (on : Nat) (x : Int32) : Int32 := if inN (nN N) x && md then bI (byV N ch (fun i => on.testBit i) x.toNatClampNeg) else -(nI 1)
abbrev ct_mcomesF (C : jm_C) : Prop := ∀ (N : nw) (K : Nat) (md : Bool) (ch : Nat → Nat) (on : Nat) (x : Int32) (σ : jm_G) (post : Option jm_V → jm_G → Prop), aOK N K md ch on → mR N K md ch on σ → (∀ σ', mR N K md ch on σ' → off 38 70 σ σ' → post (some (jI (cmA N md ch on x))) σ') → C kX10_comes_ [jR 38 0, jI x] σ post
theorem T_mcomesF (L : Nat) {C : jm_C} (hC : jm_mon C) (h1 : ct_misNode C) (h2 : ct_mhas C) (h3 : ct_holdsOf C) (h4 : ct_has64 C) : ct_mcomesF (jm_up L C) := by
  intro N K md ch on x σ post hA hR hp
  refine jm_start rfl (Nat.le_of_ble_eq_true rfl) hC fun X hg hw => ?_
  obtain ⟨hok, -, hK6, -, hmd⟩ := hA
  have h40 := hok.1
  have hR0 := mR_th hR (nI 0)
  unfold cmA at hp
  refine hg [24] 40 _ ?_
  refine h1 (nN N) x (sF σ 0 (nI 0)) _ hR0.1.1.1 ?_
  refine br_c (fun h => ?_) (fun h => ?_)
  · rw [bI_0.mp h, Bool.false_and, if_neg (fun q => by cases q)] at hp
    exact And.intro trivial (hp _ hR0 (off_th _ _))
  · have h := bI_n0.mp h
    rw [h, Bool.true_and] at hp
    obtain ⟨j, hj, rfl⟩ := inN_t (by omega) h
    have ej : (nI j).toNatClampNeg = j := nI_clamp (by omega)
    rw [ej] at hp
    refine br_c (fun q => ?_) (fun q => ?_)
    · have q : σ.1 38 0 8 = 0 := q
      rw [hR.1.2.2.1] at q
      have q := bI_0.mp q
      subst q
      rw [if_neg (fun q => by cases q)] at hp
      exact And.intro trivial (hp _ hR0 (off_th _ _))
    · have q : ¬ σ.1 38 0 8 = 0 := q
      rw [hR.1.2.2.1] at q
      have q := bI_n0.mp q
      subst q
      rw [if_pos rfl] at hp
      have hcO := hmd rfl
      have hl := chOK_L hcO
      have f0 : mf [56, 57] [0] σ (sF σ 0 (nI 0)) := mf_sF (mf_refl _ _ _) (by decide)
      show X (sF σ 0 (nI 0), 24, [some (jR 38 0), some (jI (nI j)), some (jI (nI 0)), none, none, none], [])
      have gen : ∀ (d n : Nat), n + d = j + 1 → ∀ (τ : jm_G), mf [56, 57] [0] σ τ → (∀ z, z < n → τ.1 57 0 z = bI (byV N ch (fun i => on.testBit i) z)) → X (τ, 24, [some (jR 38 0), some (jI (nI j)), some (jI (nI n)), none, none, none], []) := by
        intro d
        induction d with
        | zero =>
          intro n hnd τ ho hr
          have hp := hp τ (mR_mf hR ho (by decide) (by decide)) (mf_off ho (by decide))
          have ev : τ.1 57 0 (nI j).toNatClampNeg = bI (byV N ch (fun i => on.testBit i) j) := by rw [ej]; exact hr j (by omega)
          refine hg [24] 40 _ ?_
          refine br_c (fun _ => ?_) (fun h => absurd (show nI j < nI n from nI_lt (by omega) (by omega)) h)
          refine And.intro (vp_in_nI (by omega) (by omega)) ?_
          refine br_c (fun z => ?_) (fun z => ?_)
          · have z : τ.1 57 0 (nI j).toNatClampNeg = 0 := z
            rw [ev] at z
            rw [bI_0.mp z] at hp
            exact And.intro trivial hp
          · have z : ¬ τ.1 57 0 (nI j).toNatClampNeg = 0 := z
            rw [ev] at z
            rw [bI_n0.mp z] at hp
            exact And.intro trivial hp
        | succ d ih =>
          intro n hnd τ ho hr
          have hRt := mR_mf hR ho (by decide) (by decide)
          have hNt := hRt.1.1
          have en : (nI n).toNatClampNeg = n := nI_clamp (by omega)
          have hin : vp_in (nI n) 40 := vp_in_nI (by omega) (by omega)
          refine hg [24, 37] 40 _ ?_
          refine br_c (fun h => ?_) (fun _ => ?_)
          · have h : nI j < nI n := h
            rw [nI_ltI (by omega) (by omega)] at h
            omega
          · show X (τ, 37, [some (jR 38 0), some (jI (nI j)), some (jI (nI n)), some (jI (nI 0)), some (jI (nI 0)), some (jI (nI 0))], [])
            have next : ∀ (υ : jm_G) (z a b c : Int32), mf [56, 57] [0] σ υ → υ.1 57 0 = τ.1 57 0 → z = bI (byV N ch (fun i => on.testBit i) n) → X (wI υ 57 0 (upd (υ.1 57 0) (nI n).toNatClampNeg z), 24, [some (jR 38 0), some (jI (nI j)), some (jI (nI n + nI 1)), some (jI a), some (jI b), some (jI c)], []) := by
              intro υ z a b c hu h57 hz
              refine hw _ _ _ [some (jR 38 0), some (jI (nI j)), some (jI (nI n + nI 1)), none, none, none] _ (by repeat' first | exact trivial | exact rfl | apply And.intro) ?_
              rw [en, nI_add]
              refine ih (n + 1) (by omega) _ (mf_wI hu (by decide) (by decide)) fun t ht => ?_
              rw [wI1, if_pos ⟨rfl, rfl⟩, upd_at]
              by_cases e : t = n
              · rw [if_pos e, e, hz]
              · rw [if_neg e, h57]; exact hr t (by omega)
            cases hgt : isG N n with
            | false =>
              have e43 : τ.1 43 0 (nI n).toNatClampNeg = bI (on.testBit n) := by rw [en]; exact hRt.1.2.2.2 n (by omega)
              have loop : ∀ (e k : Nat), k + e = n → X (τ, 37, [some (jR 38 0), some (jI (nI j)), some (jI (nI n)), some (jI (nI 0)), some (jI (nI 0)), some (jI (nI k))], []) := by
                intro e
                induction e with
                | zero =>
                  intro k hk
                  refine hg [24, 37] 60 _ ?_
                  refine br_c (fun _ => ?_) (fun h => absurd (show nI n ≤ nI k from nI_le (by omega) (by omega)) h)
                  refine And.intro hin ?_
                  refine br_c (fun h => ?_) (fun _ => ?_)
                  · have h : τ.1 39 0 (nI n).toNatClampNeg = nI 1 := h
                    rw [en, mN_gate hok hNt (by omega), hgt] at h
                    cases h
                  · refine And.intro hin ?_
                    refine And.intro ⟨hin, show τ.1 43 0 (nI n).toNatClampNeg = 0 ∨ τ.1 43 0 (nI n).toNatClampNeg = 1 by rw [e43]; exact bI_01 _⟩ ?_
                    exact next τ (τ.1 43 0 (nI n).toNatClampNeg) _ _ _ ho rfl (by rw [e43, byV_leaf hgt])
                | succ e ihe =>
                  intro k hk
                  refine hg [24, 37] 60 _ ?_
                  refine br_c (fun h => ?_) (fun _ => ?_)
                  · have h : nI n ≤ nI k := h
                    rw [nI_leI (by omega) (by omega)] at h
                    omega
                  · refine And.intro hin ?_
                    refine br_c (fun h => ?_) (fun _ => ?_)
                    · have h : τ.1 39 0 (nI n).toNatClampNeg = nI 1 := h
                      rw [en, mN_gate hok hNt (by omega), hgt] at h
                      cases h
                    · show X (τ, 37, [some (jR 38 0), some (jI (nI j)), some (jI (nI n)), some (jI (nI 0)), some (jI (nI 0)), some (jI (nI k + nI 1))], [])
                      rw [nI_add]
                      exact ihe (k + 1) (by omega)
              exact loop n 0 (by omega)
            | true =>
              obtain ⟨c1, c2, c3, -⟩ := (hcO n hgt).1
              have e53 : τ.2 53 0 (nI n).toNatClampNeg = lN (ch n) := by rw [en]; exact hRt.2.2 rfl n hgt
              have hc6 : cnt (ch n) 40 ≤ 6 := by omega
              have loop : ∀ (e k : Nat), k + e = n → X (τ, 37, [some (jR 38 0), some (jI (nI j)), some (jI (nI n)), some (jI (nI (tld (ch n) (byV N ch (fun i => on.testBit i)) k))), some (jI (nI (cnt (ch n) k))), some (jI (nI k))], []) := by
                intro e
                induction e with
                | zero =>
                  intro k hk
                  have ek : k = n := by omega
                  subst ek
                  have et : tld (ch k) (byV N ch (fun i => on.testBit i)) k = tld (ch k) (byV N ch (fun i => on.testBit i)) 40 := by
                    have := tld_end (f := byV N ch (fun i => on.testBit i)) c3 (40 - k)
                    rw [show k + (40 - k) = 40 by omega] at this
                    exact this.symm
                  have hlt := tld_lt (ch k) (byV N ch (fun i => on.testBit i)) 40
                  have h64 := pw6 hc6
                  refine hg [24, 37] 60 _ ?_
                  refine br_c (fun _ => ?_) (fun h => absurd (show nI k ≤ nI k from nI_le (by omega) (by omega)) h)
                  refine And.intro hin ?_
                  refine br_c (fun _ => ?_) (fun h => ?_)
                  · refine h3 N K k on ch τ _ hok hNt hRt.1.2.2.2 hcO hK6 (hRt.2.2 rfl) hgt fun υ o1 => ?_
                    rw [et]
                    refine h4 _ _ υ _ (hld_lt hc6) (by omega) ?_
                    refine And.intro ⟨hin, bI_01 _⟩ ?_
                    exact next υ _ _ _ _ (mf_trans ho (mf_wide o1 (by decide) (by decide))) (o1.1 57 0 (by omega) (by decide)).1 (by rw [byV_gate c3 hgt])
                  · have h : ¬ τ.1 39 0 (nI k).toNatClampNeg = nI 1 := h
                    rw [en, mN_gate hok hNt (by omega), hgt] at h
                    exact absurd rfl h
                | succ e ihe =>
                  intro k hk
                  have hck := cnt_mono (ch n) (show k ≤ 40 by omega)
                  have nx := ihe (k + 1) (by omega)
                  rw [tld, cnt_succ] at nx
                  refine hg [24, 37] 60 _ ?_
                  refine br_c (fun h => ?_) (fun _ => ?_)
                  · have h : nI n ≤ nI k := h
                    rw [nI_leI (by omega) (by omega)] at h
                    omega
                  · refine And.intro hin ?_
                    refine br_c (fun _ => ?_) (fun h => ?_)
                    · refine And.intro hin ?_
                      refine c_mhas h2 e53 rfl (p40 c1) (by omega) ?_
                      refine br_c (fun z => ?_) (fun z => ?_)
                      · rw [bI_0.mp z, Bool.false_and, if_neg (fun q => by cases q), Nat.or_zero] at nx
                        show X (τ, 37, [some (jR 38 0), some (jI (nI j)), some (jI (nI n)), some (jI (nI (tld (ch n) (byV N ch (fun i => on.testBit i)) k))), some (jI (nI (cnt (ch n) k))), some (jI (nI k + nI 1))], [])
                        rw [nI_add]
                        exact nx
                      · rw [bI_n0.mp z, Bool.true_and] at nx
                        have e57 : τ.1 57 0 (nI k).toNatClampNeg = bI (byV N ch (fun i => on.testBit i) k) := by rw [nI_clamp (by omega)]; exact hr k (by omega)
                        refine And.intro (vp_in_nI (by omega) (by omega)) ?_
                        refine br_c (fun y => ?_) (fun y => ?_)
                        · have y : τ.1 57 0 (nI k).toNatClampNeg = 0 := y
                          rw [e57] at y
                          rw [bI_0.mp y, if_neg (fun q => by cases q)] at nx
                          show X (τ, 37, [some (jR 38 0), some (jI (nI j)), some (jI (nI n)), some (jI (nI (tld (ch n) (byV N ch (fun i => on.testBit i)) k) ||| nI 0)), some (jI (nI (cnt (ch n) k) + nI 1)), some (jI (nI k + nI 1))], [])
                          rw [fb_orI, nI_add, nI_add]
                          exact nx
                        · have y : ¬ τ.1 57 0 (nI k).toNatClampNeg = 0 := y
                          rw [e57] at y
                          rw [bI_n0.mp y, if_pos rfl] at nx
                          show X (τ, 37, [some (jR 38 0), some (jI (nI j)), some (jI (nI n)), some (jI (nI (tld (ch n) (byV N ch (fun i => on.testBit i)) k) ||| (nI 1 <<< (nI (cnt (ch n) k) &&& 31)))), some (jI (nI (cnt (ch n) k) + nI 1)), some (jI (nI k + nI 1))], [])
                          rw [shI1 (by omega), fb_orI, nI_add, nI_add]
                          exact nx
                    · have h : ¬ τ.1 39 0 (nI n).toNatClampNeg = nI 1 := h
                      rw [en, mN_gate hok hNt (by omega), hgt] at h
                      exact absurd rfl h
              exact loop n 0 (by omega)
      exact gen (j + 1) 0 (by omega) _ f0 (fun z hz => absurd hz (by omega))
