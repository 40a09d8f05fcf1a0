/-! the model's nextTo, laysClusters -/
def amW (v : Nat → Nat) (o : Option Nat) : Int32 := match o with
  | none => nI 0
  | some m => nI (v m)
abbrev ct_mnext (C : jm_C) : Prop := ∀ (s : clS) (nets k : Nat) (u : clu) (σ : jm_G) (post : Option jm_V → jm_G → Prop), mcC s σ → clB s → s.1 ≤ 40 → k < 40 → muR s.1 k u σ → (∀ c, u.1.testBit c = true → c < s.1) → (∀ c, c < s.1 → u.1.testBit c = false → u.2.1 c < 100) → u.2.2.1 < 2 ^ 40 → u.2.2.2 < 2 ^ 40 → nets ≤ 100 → post (some (jI (oN (nxC s nets u)))) σ → C kX10_nextTo [jR 38 0, jI (nI nets)] σ post
theorem T_mnext (L : Nat) {C : jm_C} (hC : jm_mon C) (h1 : ct_mmany C) : ct_mnext (jm_up L C) := by
  intro s nets kk u σ post hcl hB hs4 hkk hR hun hco hu3 hu4 hnets hp
  refine jm_start rfl (Nat.le_of_ble_eq_true rfl) hC fun X hg hw => ?_
  obtain ⟨r1, r2, r3, r4⟩ := hR
  have hu : u.1 < 2 ^ 40 := lt40 hs4 hun
  have e44 : σ.1 38 0 44 - nI 1 = nI kk := by rw [r1]; exact pk_sub (by omega)
  have ekk : (nI kk).toNatClampNeg = kk := nI_clamp (by omega)
  have hinK : vp_in (nI kk) 40 := vp_in_nI hkk (by omega)
  have nb := nxS_bit (s := s) (nets := nets) hu
  have hp : post (some (jI (oN (amx (csh s u.2.2.1 u.2.2.2) (nxS s nets u) 40)))) σ := hp
  rw [← amx_40 hs4 (fun j hj => by rw [nb, Bool.and_eq_true] at hj; exact hun j hj.1)] at hp
  have eS : ∀ k, cnt ((cuI s k ||| cuO s k) &&& (u.2.2.1 ||| u.2.2.2)) 40 = csh s u.2.2.1 u.2.2.2 k := fun _ => rfl
  have eO : ∀ k, cnt (sD (u.2.2.1 ||| cuI s k) (u.2.2.2 ||| cuO s k)) 40 = cou s u.2.2.1 u.2.2.2 k := fun _ => rfl
  have bS : ∀ k, csh s u.2.2.1 u.2.2.2 k ≤ 40 := fun _ => cnt_le _ _
  have bO : ∀ k, cou s u.2.2.1 u.2.2.2 k ≤ 40 := fun _ => cnt_le _ _
  generalize csh s u.2.2.1 u.2.2.2 = sh at hp eS bS
  generalize nxS s nets u = T at hp nb
  -- what is shared
  have late : ∀ (k : Nat), k < s.1 → X (σ, 15, [some (jR 38 0), some (jI (nI nets)), some (jI (oN (amx sh T (k + 1)))), some (jI (amW sh (amx sh T (k + 1)))), some (jI (nI kk)), some (jI (nI (k + 1))), none, none], []) → ∀ (vA vB : Int32), vA = oN (amx sh T k) → vB = amW sh (amx sh T k) → X (σ, 119, [some (jR 38 0), some (jI (nI nets)), some (jI vA), some (jI vB), some (jI (nI kk)), some (jI (nI k)), some (jI (bI (T.testBit k))), some (jI (nI (sh k)))], []) := by
    intro k hk ih vA vB hA hV
    rw [← nI_add] at ih
    have hq : ∀ z, amx sh T k = some z → z < 2 ^ 31 := fun z hz => by have := (amx_in k z hz).1; omega
    have bSk := bS k
    refine hg [15] 40 _ ?_
    refine br_c (fun z => ?_) (fun z => ?_)
    · have z := bI_0.mp z
      rw [amx_f z, ← hA, ← hV] at ih
      refine hw _ _ _ [some (jR 38 0), some (jI (nI nets)), some (jI vA), some (jI vB), some (jI (nI kk)), some (jI (nI k + nI 1)), none, none] _ (by repeat' first | exact trivial | exact rfl | apply And.intro) ?_
      exact ih
    · have z := bI_n0.mp z
      rw [amx_t z] at ih
      refine br_c (fun y => ?_) (fun y => ?_)
      · have y : vA < 0 := y
        rw [hA, oN_neg hq] at y
        rw [y] at ih
        refine hw _ _ _ [some (jR 38 0), some (jI (nI nets)), some (jI (nI k)), some (jI (nI (sh k))), some (jI (nI kk)), some (jI (nI k + nI 1)), none, none] _ (by repeat' first | exact trivial | exact rfl | apply And.intro) ?_
        exact ih
      · have y : ¬ vA < 0 := y
        rw [hA, oN_neg hq] at y
        cases q : amx sh T k with
        | none => exact absurd q y
        | some m =>
          rw [q] at ih hV hA
          have hV : vB = nI (sh m) := hV
          have ih : X (σ, 15, [some (jR 38 0), some (jI (nI nets)), some (jI (oN (if sh m < sh k then some k else some m))), some (jI (amW sh (if sh m < sh k then some k else some m))), some (jI (nI kk)), some (jI (nI k + nI 1)), none, none], []) := ih
          have bSm := bS m
          refine br_c (fun w => ?_) (fun w => ?_)
          · have w : nI (sh k) ≤ vB := w
            rw [hV, nI_leI (by omega) (by omega)] at w
            rw [if_neg (by omega)] at ih
            rw [hA, hV]
            refine hw _ _ _ [some (jR 38 0), some (jI (nI nets)), some (jI (oN (some m))), some (jI (nI (sh m))), some (jI (nI kk)), some (jI (nI k + nI 1)), none, none] _ (by repeat' first | exact trivial | exact rfl | apply And.intro) ?_
            exact ih
          · have w : ¬ nI (sh k) ≤ vB := w
            rw [hV, nI_leI (by omega) (by omega)] at w
            rw [if_pos (by omega)] at ih
            refine hw _ _ _ [some (jR 38 0), some (jI (nI nets)), some (jI (nI k)), some (jI (nI (sh k))), some (jI (nI kk)), some (jI (nI k + nI 1)), none, none] _ (by repeat' first | exact trivial | exact rfl | apply And.intro) ?_
            exact ih
  have mid : ∀ (k : Nat), k < s.1 → X (σ, 15, [some (jR 38 0), some (jI (nI nets)), some (jI (oN (amx sh T (k + 1)))), some (jI (amW sh (amx sh T (k + 1)))), some (jI (nI kk)), some (jI (nI (k + 1))), none, none], []) → ∀ (vA vB : Int32) (x : Option jm_V), vA = oN (amx sh T k) → vB = amW sh (amx sh T k) → X (σ, 83, [some (jR 38 0), some (jI (nI nets)), some (jI vA), some (jI vB), some (jI (nI kk)), some (jI (nI k)), some (jI (bI (T.testBit k))), none], []) := by
    intro k hk ih vA vB x hA hV
    have ek : (nI k).toNatClampNeg = k := nI_clamp (by omega)
    have q := (hcl.2 k hk).2.2
    have l1 := cuI_lt hB k
    have l2 := cuO_lt hB k
    have l3 : (cuI s k ||| cuO s k) &&& (u.2.2.1 ||| u.2.2.2) < 2 ^ 40 := Nat.lt_of_le_of_lt Nat.and_le_left (or_lt l1 l2)
    have hin : vp_in (nI k) 40 := vp_in_nI (by omega) (by omega)
    have e64 : σ.2 64 0 (nI k).toNatClampNeg = lN (cuI s k) := by rw [ek]; exact q.1
    have e65 : σ.2 65 0 (nI k).toNatClampNeg = lN (cuO s k) := by rw [ek]; exact q.2
    refine hg [119] 60 _ ?_
    refine And.intro hin (And.intro hin (And.intro hinK (And.intro hinK ?_)))
    refine c_mmany h1 (S := (cuI s k ||| cuO s k) &&& (u.2.2.1 ||| u.2.2.2)) (show (σ.2 64 0 (nI k).toNatClampNeg ||| σ.2 65 0 (nI k).toNatClampNeg) &&& (σ.2 69 0 (nI kk).toNatClampNeg ||| σ.2 70 0 (nI kk).toNatClampNeg) = _ by rw [e64, e65, ekk, r3, r4, fb_orL, fb_orL, fb_andL]) (p40 l3) ?_
    rw [eS]
    exact late k hk ih vA vB hA hV
  have loop : ∀ (d k : Nat), k + d = s.1 → X (σ, 15, [some (jR 38 0), some (jI (nI nets)), some (jI (oN (amx sh T k))), some (jI (amW sh (amx sh T k))), some (jI (nI kk)), some (jI (nI k)), none, none], []) := by
    intro d
    induction d with
    | zero =>
      intro k hk
      have e : k = s.1 := by omega
      subst e
      refine hg [15] 30 _ ?_
      refine br_c (fun _ => And.intro trivial hp) (fun h => ?_)
      have h : ¬ σ.1 38 0 36 ≤ nI s.1 := h
      rw [hcl.1] at h
      exact absurd (nI_le (Nat.le_refl _) (by omega)) h
    | succ d ih =>
      intro k hk
      have ek : (nI k).toNatClampNeg = k := nI_clamp (by omega)
      have hkn : k < s.1 := by omega
      have m1 := mid k hkn (ih (k + 1) (by omega)) _ _ none rfl rfl
      have lk := r2 k hkn
      have q := (hcl.2 k hkn).2.2
      have hin : vp_in (nI k) 40 := vp_in_nI (by omega) (by omega)
      have bOk := bO k
      generalize oN (amx sh T k) = vA at m1
      generalize amW sh (amx sh T k) = vB at m1
      refine hg [15, 83] 60 _ ?_
      refine br_c (fun h => ?_) (fun _ => ?_)
      · have h : σ.1 38 0 36 ≤ nI k := h
        rw [hcl.1, nI_leI (by omega) (by omega)] at h
        omega
      refine And.intro hin ?_
      cases hb : u.1.testBit k with
      | false =>
        rw [hb, if_neg (fun q => by cases q)] at lk
        refine br_c (fun _ => ?_) (fun h => ?_)
        · rw [nb, hb, Bool.false_and] at m1
          exact m1
        · have h : ¬ 0 ≤ σ.1 68 0 (nI k).toNatClampNeg := h
          rw [ek, lk] at h
          exact absurd (nI_pos' (by have := hco k hkn hb; omega)) h
      | true =>
        rw [hb, if_pos rfl] at lk
        rw [nb, hb, Bool.true_and] at m1
        refine br_c (fun h => ?_) (fun _ => ?_)
        · have h : 0 ≤ σ.1 68 0 (nI k).toNatClampNeg := h
          rw [ek, lk] at h
          exact absurd m1_neg (Int32.not_lt.mpr h)
        · have l4 : sD (u.2.2.1 ||| cuI s k) (u.2.2.2 ||| cuO s k) < 2 ^ 40 := sD_lt (or_lt hu3 (cuI_lt hB k))
          have e64 : σ.2 64 0 (nI k).toNatClampNeg = lN (cuI s k) := by rw [ek]; exact q.1
          have e65 : σ.2 65 0 (nI k).toNatClampNeg = lN (cuO s k) := by rw [ek]; exact q.2
          refine And.intro hinK (And.intro hin (And.intro hinK (And.intro hin ?_)))
          refine c_mmany h1 (S := sD (u.2.2.1 ||| cuI s k) (u.2.2.2 ||| cuO s k)) (show (σ.2 69 0 (nI kk).toNatClampNeg ||| σ.2 64 0 (nI k).toNatClampNeg) &&& ((σ.2 70 0 (nI kk).toNatClampNeg ||| σ.2 65 0 (nI k).toNatClampNeg) ^^^ (-1)) = _ by rw [e64, e65, ekk, r3, r4, fb_orL, fb_orL, lN_andn]) (p40 l4) ?_
          rw [eO]
          refine br_c (fun z => ?_) (fun z => ?_)
          · have z : nI nets < nI (cou s u.2.2.1 u.2.2.2 k) := z
            rw [nI_ltI (by omega) (by omega)] at z
            rw [show decide (cou s u.2.2.1 u.2.2.2 k ≤ nets) = false by simpa using z] at m1
            exact m1
          · have z : ¬ nI nets < nI (cou s u.2.2.1 u.2.2.2 k) := z
            rw [nI_ltI (by omega) (by omega)] at z
            rw [show decide (cou s u.2.2.1 u.2.2.2 k ≤ nets) = true by simpa using z] at m1
            exact m1
  refine hg [15] 40 _ ?_
  show X (σ, 15, [some (jR 38 0), some (jI (nI nets)), some (jI (-(nI 1))), some (jI (nI 0)), some (jI (σ.1 38 0 44 - nI 1)), some (jI (nI 0)), none, none], [])
  rw [e44]
  exact loop s.1 0 (by omega)
theorem ou_dec {s : clS} {nets most : Nat} (hm : 1 ≤ most) {w : ous} {c : Nat} (hb : bgC s w.2.1 = some c) : cnt (inL s nets w.1 most (some c) (w.2.1, w.2.2.1, 0, 0)).1 40 < cnt w.2.1 40 := by
  obtain ⟨f2, rfl⟩ : ∃ f2, most = f2 + 1 := ⟨most - 1, by omega⟩
  obtain ⟨c1, c2⟩ := amx_in 40 c hb
  have hs := inL_sub (s := s) (nets := nets) (k := w.1) f2 c (w.2.1, w.2.2.1, 0, 0)
  have hcd := cnt_del c1 c2
  have hle : cnt (inL s nets w.1 (f2 + 1) (some c) (w.2.1, w.2.2.1, 0, 0)).1 40 ≤ cnt (sD w.2.1 (2 ^ c)) 40 := cnt_sub fun i _ hi => by
    obtain ⟨q1, q2⟩ := hs i hi
    rw [sD_pw]
    have q1 : w.2.1.testBit i = true := q1
    rw [q1]
    simp [q2]
  omega
/-- between two clusters, in the model -/
def moR (n : Nat) (w : ous) (σ : jm_G) : Prop := σ.1 38 0 44 = nI w.1 ∧ muL n w.2.1 w.2.2.1 σ ∧ ∀ b, b < w.1 → σ.2 69 0 b = lN (w.2.2.2.1 b) ∧ σ.2 70 0 b = lN (w.2.2.2.2 b)
noncomputable def clX (N : nw) (K : Nat) (ch : Nat → Nat) : clS := clR N (tbs N ch) ch (prT (tbs N ch) K ch 40) 40
theorem clX_B {N : nw} {K : Nat} {ch : Nat → Nat} (hok : nw_ok N) (hcO : chOK N K ch) : clB (clX N K ch) ∧ (clX N K ch).1 ≤ 40 := ⟨clB_R hok (tbs_G N ch) (fun g hg => (hcO g hg).1.1) (prI_T (tbs_lt hok ch) 40 (Nat.le_refl _)) 40, clR_le (tbs_G N ch) (Nat.le_refl _)⟩
theorem mCl_mf {N : nw} {K : Nat} {ch : Nat → Nat} {σ τ : jm_G} (h : mCl N K ch σ) (hm : mf [68, 69, 70] [44] σ τ) : mCl N K ch τ := by
  obtain ⟨a1, a2, a3, a4, a5, a6, a7⟩ := h
  refine ⟨?_, mArr_mf a2 hm (by decide), fun i hi => ?_, fun i hi => ?_, ?_, mcC_mf a6 hm (by decide) (by decide), ?_⟩
  · rw [(hm.2 0 25 (by decide)).2]; exact a1
  · rw [(hm.1 58 0 (by omega) (by decide)).1]; exact a3 i hi
  · rw [(hm.1 59 0 (by omega) (by decide)).1]; exact a4 i hi
  · rw [(hm.2 0 38 (by decide)).1]; exact a5
  · rw [(hm.2 0 37 (by decide)).1]; exact a7
def mkA : List Nat := [54, 58, 59, 60, 61, 62, 63, 64, 65, 68, 69, 70]
def mkB : List Nat := [25, 36, 37, 38, 44]
abbrev ct_laysClu (C : jm_C) : Prop := ∀ (N : nw) (K : Nat) (md : Bool) (ch : Nat → Nat) (on : Nat) (x y : Int32) (σ : jm_G) (post : Option jm_V → jm_G → Prop), aOK N K md ch on → mR N K md ch on σ → ((md && isLm x y) = false → post (some (jI (nI 0))) σ) → (md = true → ∀ a b, x = nI a → y = nI b → 1 ≤ a → a ≤ 8 → 6 ≤ b → b ≤ 16 → ∀ σ', mf mkA mkB σ σ' → mCl N K ch σ' → moR (clX N K ch).1 (ouF (clX N K ch) b a) σ' → post (some (jI (nI 1))) σ') → C kX10_laysClusters [jR 38 0, jI x, jI y] σ post
theorem T_laysClu (L : Nat) {C : jm_C} (hC : jm_mon C) (h1 : ct_within C) (h2 : ct_laysC C) (h3 : ct_mbeg C) (h4 : ct_mjoins C) (h5 : ct_mnext C) : ct_laysClu (jm_up L C) := by
  intro N K md ch on x y σ post hA hR hp0 hp
  refine jm_start rfl (Nat.le_of_ble_eq_true rfl) hC fun X hg hw => ?_
  obtain ⟨hok, hK, hK6, -, hmd⟩ := hA
  have h40 := hok.1
  refine hg [41] 60 _ ?_
  refine br_c (fun q => ?_) (fun q => ?_)
  · have q : σ.1 38 0 8 = 0 := q
    rw [hR.1.2.2.1] at q
    have q := bI_0.mp q
    exact And.intro (Or.inl rfl) (hp0 (by rw [q]; rfl))
  have q : ¬ σ.1 38 0 8 = 0 := q
  rw [hR.1.2.2.1] at q
  have q := bI_n0.mp q
  subst q
  rw [Bool.true_and] at hp0
  have hcO := hmd rfl
  refine h1 x (nI 1) (nI 8) σ _ ?_
  refine br_c (fun z => ?_) (fun z => ?_)
  · have z := bI_0.mp z
    exact And.intro (Or.inl rfl) (hp0 (by unfold isLm; rw [z]; rfl))
  have z := bI_n0.mp z
  refine h1 y (nI 6) (nI 16) σ _ ?_
  refine br_c (fun z2 => ?_) (fun z2 => ?_)
  · have z2 := bI_0.mp z2
    exact And.intro (Or.inl rfl) (hp0 (by unfold isLm; rw [z, z2]; rfl))
  have z2 := bI_n0.mp z2
  obtain ⟨most, a1, a2, ex⟩ := wi_nI (a := 1) (b := 8) (by omega) (by omega) z
  obtain ⟨nets, b1, b2, ey⟩ := wi_nI (a := 6) (b := 16) (by omega) (by omega) z2
  have hp := hp rfl most nets ex ey a1 a2 b1 b2
  rw [ex, ey]
  refine h2 N K ch σ _ hok hR.1.1 (hR.2.2 rfl) hcO hK hK6 hR.1.2.1 fun τ0 o0 hC0 => ?_
  obtain ⟨hB, hs4⟩ := clX_B hok hcO
  have hcl0 : mcC (clX N K ch) τ0 := hC0.2.2.2.2.2.1
  have hp : ∀ σ', mf [68, 69, 70] [44] τ0 σ' → moR (clX N K ch).1 (ouF (clX N K ch) nets most) σ' → post (some (jI (nI 1))) σ' := fun σ' o m => hp σ' (mf_trans (mf_wide o0 (by decide) (by decide)) (mf_wide o (by decide) (by decide))) (mCl_mf hC0 o) m
  generalize clX N K ch = s at hB hs4 hcl0 hp
  have hF := (ouF_ok (nets := nets) (most := most) hB hs4 a1).2
  -- a cluster
  have outer : ∀ (d : Nat) (τ : jm_G) (w : ous), mf [68, 69, 70] [44] τ0 τ → moR s.1 w τ → ouI s s.1 w → cnt w.2.1 40 ≤ d → ouC s nets most d w = ouF s nets most → X (τ, 67, [some (jR 38 0), some (jI (nI most)), some (jI (nI nets)), some (jI (oN (bgC s w.2.1))), none], []) := by
    intro d
    induction d with
    | zero =>
      intro τ w ho hR2 hI hc hE
      rw [ouC] at hE
      have hb : bgC s w.2.1 = none := by
        rw [hE, (bg_none (by rw [hF]; omega)), hF]
      rw [hb]
      refine hg [67, 104] 40 _ ?_
      refine br_c (fun _ => And.intro (Or.inr rfl) (hp τ ho (by rw [← hE]; exact hR2))) (fun h => absurd m1_neg h)
    | succ d ih =>
      intro τ w ho hR2 hI hc hE
      cases hb : bgC s w.2.1 with
      | none =>
        rw [ouC_end hb] at hE
        refine hg [67, 104] 40 _ ?_
        refine br_c (fun _ => And.intro (Or.inr rfl) (hp τ ho (by rw [← hE]; exact hR2))) (fun h => absurd m1_neg h)
      | some c =>
        have hcc := (amx_in 40 c hb).2
        have hcn := hI.1 c hcc
        rw [ouC, hb] at hE
        obtain ⟨hIn, hw1⟩ := ouI_N (nets := nets) hB hs4 a1 hI hb
        have hdec := ou_dec (nets := nets) a1 hb
        have e44 : (τ.1 38 0 44).toNatClampNeg = w.1 := by rw [hR2.1]; exact nI_clamp (by omega)
        have hin : vp_in (τ.1 38 0 44) 40 := by rw [hR2.1]; exact vp_in_nI (by omega) (by omega)
        refine hg [67, 104] 60 _ ?_
        refine br_c (fun h => absurd h (nI_pos (by omega))) (fun _ => ?_)
        refine And.intro hin (And.intro hin ?_)
        show X (wI (wJ (wJ τ 69 0 (vp_updL (τ.2 69 0) (τ.1 38 0 44).toNatClampNeg (lN 0))) 70 0 (vp_updL (τ.2 70 0) (τ.1 38 0 44).toNatClampNeg (lN 0))) 38 0 (upd (τ.1 38 0) 44 (τ.1 38 0 44 + nI 1)), 104, [some (jR 38 0), some (jI (nI most)), some (jI (nI nets)), some (jI (oN (some c))), some (jI (nI 0))], [])
        rw [e44, hR2.1, nI_add]
        have o1 : mf [68, 69, 70] [44] τ (wI (wJ (wJ τ 69 0 (vp_updL (τ.2 69 0) w.1 (lN 0))) 70 0 (vp_updL (τ.2 70 0) w.1 (lN 0))) 38 0 (upd (τ.1 38 0) 44 (nI (w.1 + 1)))) := mf_sF (mf_wJ (mf_wJ (mf_refl _ _ _) (by decide) (by decide)) (by decide) (by decide)) (by decide)
        have R0 : muR s.1 w.1 (w.2.1, w.2.2.1, 0, 0) (wI (wJ (wJ τ 69 0 (vp_updL (τ.2 69 0) w.1 (lN 0))) 70 0 (vp_updL (τ.2 70 0) w.1 (lN 0))) 38 0 (upd (τ.1 38 0) 44 (nI (w.1 + 1)))) := ⟨rfl, hR2.2.1, by
          show vp_updL (τ.2 69 0) w.1 (lN 0) w.1 = lN 0
          rw [updL_at, if_pos rfl], by
          show vp_updL (τ.2 70 0) w.1 (lN 0) w.1 = lN 0
          rw [updL_at, if_pos rfl]⟩
        have B0 : ∀ b, b < w.1 → (wI (wJ (wJ τ 69 0 (vp_updL (τ.2 69 0) w.1 (lN 0))) 70 0 (vp_updL (τ.2 70 0) w.1 (lN 0))) 38 0 (upd (τ.1 38 0) 44 (nI (w.1 + 1)))).2 69 0 b = lN (w.2.2.2.1 b) ∧ (wI (wJ (wJ τ 69 0 (vp_updL (τ.2 69 0) w.1 (lN 0))) 70 0 (vp_updL (τ.2 70 0) w.1 (lN 0))) 38 0 (upd (τ.1 38 0) 44 (nI (w.1 + 1)))).2 70 0 b = lN (w.2.2.2.2 b) := fun b hb => by
          show vp_updL (τ.2 69 0) w.1 (lN 0) b = _ ∧ vp_updL (τ.2 70 0) w.1 (lN 0) b = _
          rw [updL_at, updL_at, if_neg (by omega), if_neg (by omega)]
          exact hR2.2.2 b hb
        generalize wI (wJ (wJ τ 69 0 (vp_updL (τ.2 69 0) w.1 (lN 0))) 70 0 (vp_updL (τ.2 70 0) w.1 (lN 0))) 38 0 (upd (τ.1 38 0) 44 (nI (w.1 + 1))) = τ1 at o1 R0 B0
        have hCo : ∀ u, inI s w.1 w.2.1 w.2.2.1 u → ∀ c, c < s.1 → u.1.testBit c = false → u.2.1 c < 100 := fun u Iu c hc hf => by
          cases hL : w.2.1.testBit c with
          | false => rw [Iu.2.1 c hL]; have := hI.2.1 c hc hL; omega
          | true => rw [Iu.2.2.1 c hL hf]; omega
        -- it is full
        have fin : ∀ (υ : jm_G) (u : clu) (j : Nat), mf [68, 69, 70] [44] τ0 υ → muR s.1 w.1 u υ → (∀ b, b < w.1 → υ.2 69 0 b = lN (w.2.2.2.1 b) ∧ υ.2 70 0 b = lN (w.2.2.2.2 b)) → inI s w.1 w.2.1 w.2.2.1 u → u = inL s nets w.1 most (some c) (w.2.1, w.2.2.1, 0, 0) → X (υ, 104, [some (jR 38 0), some (jI (nI most)), some (jI (nI nets)), some (jI (oN none)), some (jI (nI j))], []) := by
          intro υ u j ho2 Ru Bu Iu eu
          have clu2 := mcC_mf hcl0 ho2 (by decide) (by decide)
          refine hg [67, 104] 40 _ ?_
          refine br_c (fun _ => ?_) (fun h => absurd m1_neg h)
          refine h3 s u.1 u.2.1 υ _ clu2 hB hs4 Ru.2.1 (fun z hz => hI.1 z (Iu.1 z hz)) (hCo u Iu) ?_
          refine hw _ _ _ [some (jR 38 0), some (jI (nI most)), some (jI (nI nets)), some (jI (oN (bgC s u.1))), none] _ (by repeat' first | exact trivial | exact rfl | apply And.intro) ?_
          have g := ih υ (ouN s nets most (some c) w) ho2
          have e2 : ouN s nets most (some c) w = (w.1 + 1, u.1, u.2.1, add1 w.1 w.2.2.2.1 u.2.2.1, add1 w.1 w.2.2.2.2 u.2.2.2) := by rw [eu]; rfl
          rw [← eu] at hdec
          rw [e2] at g hIn hE
          refine g ⟨Ru.1, Ru.2.1, fun b hb => ?_⟩ hIn (show cnt u.1 40 ≤ d by omega) hE
          have hb : b < w.1 + 1 := hb
          show υ.2 69 0 b = lN (add1 w.1 w.2.2.2.1 u.2.2.1 b) ∧ υ.2 70 0 b = lN (add1 w.1 w.2.2.2.2 u.2.2.2 b)
          by_cases e3 : b = w.1
          · rw [e3, add1_q, add1_q]; exact Ru.2.2
          · rw [add1_lt (show b < w.1 by omega), add1_lt (show b < w.1 by omega)]; exact Bu b (by omega)
        have inner : ∀ (e j : Nat) (υ : jm_G) (o : Option Nat) (u : clu), j + e = most → mf [68, 69, 70] [44] τ0 υ → muR s.1 w.1 u υ → (∀ b, b < w.1 → υ.2 69 0 b = lN (w.2.2.2.1 b) ∧ υ.2 70 0 b = lN (w.2.2.2.2 b)) → inI s w.1 w.2.1 w.2.2.1 u → (∀ z, o = some z → u.1.testBit z = true ∧ 1 ≤ e) → inL s nets w.1 e o u = inL s nets w.1 most (some c) (w.2.1, w.2.2.1, 0, 0) → X (υ, 104, [some (jR 38 0), some (jI (nI most)), some (jI (nI nets)), some (jI (oN o)), some (jI (nI j))], []) := by
          intro e
          induction e with
          | zero =>
            intro j υ o u hje ho2 Ru Bu Iu ho hL
            cases o with
            | some z => have := (ho z rfl).2; omega
            | none =>
              rw [inL] at hL
              exact fin υ u j ho2 Ru Bu Iu hL
          | succ e ih2 =>
            intro j υ o u hje ho2 Ru Bu Iu ho hL
            cases o with
            | none =>
              rw [inL] at hL
              exact fin υ u j ho2 Ru Bu Iu hL
            | some z =>
              have hz := (ho z rfl).1
              have hzn := hI.1 z (Iu.1 z hz)
              rw [inL] at hL
              have clu2 := mcC_mf hcl0 ho2 (by decide) (by decide)
              refine hg [67, 104] 60 _ ?_
              refine br_c (fun h => absurd h (nI_pos (by omega))) (fun _ => ?_)
              refine h4 s w.1 z u υ _ clu2 hs4 hzn (by omega) Ru fun υ1 o4 b4 R4 => ?_
              have o5 : mf [68, 69, 70] [44] τ0 υ1 := mf_trans ho2 (mf_wide o4 (by decide) (by decide))
              have cl4 := mcC_mf hcl0 o5 (by decide) (by decide)
              have I4 := inI_j hB Iu hz
              have B4 : ∀ b, b < w.1 → υ1.2 69 0 b = lN (w.2.2.2.1 b) ∧ υ1.2 70 0 b = lN (w.2.2.2.2 b) := fun b hb => by
                rw [(b4 b (by omega)).1, (b4 b (by omega)).2]; exact Bu b hb
              refine br_c (fun h => ?_) (fun h => ?_)
              · have h : nI most ≤ nI j + nI 1 := h
                rw [nI_add, nI_leI (by omega) (by omega)] at h
                have e0 : e = 0 := by omega
                rw [e0, inL] at hL
                show X (υ1, 104, [some (jR 38 0), some (jI (nI most)), some (jI (nI nets)), some (jI (oN none)), some (jI (nI j + nI 1))], [])
                rw [nI_add]
                exact fin υ1 _ (j + 1) o5 R4 B4 I4 hL
              · have h : ¬ nI most ≤ nI j + nI 1 := h
                rw [nI_add, nI_leI (by omega) (by omega)] at h
                refine h5 s nets w.1 _ υ1 _ cl4 hB hs4 (by omega) R4 (fun t ht => hI.1 t (I4.1 t ht)) (hCo _ I4) I4.2.2.2.1 I4.2.2.2.2.1 (by omega) ?_
                show X (υ1, 104, [some (jR 38 0), some (jI (nI most)), some (jI (nI nets)), some (jI (oN (nxC s nets (jnC s w.1 z u)))), some (jI (nI j + nI 1))], [])
                rw [nI_add]
                exact ih2 (j + 1) υ1 _ _ (by omega) o5 R4 B4 I4 (fun t ht => ⟨(nxC_in ht).1, by omega⟩) hL
        exact inner most 0 τ1 (some c) _ (by omega) (mf_trans ho o1) R0 B0 (inI_0 s w.1 w.2.1 w.2.2.1) (fun z hz => ⟨by rw [← Option.some.inj hz]; exact hcc, a1⟩) rfl
  -- none is in a cluster
  have clear : ∀ (d k : Nat) (τ : jm_G), k + d = s.1 → mf [68, 69, 70] [44] τ0 τ → τ.1 38 0 44 = nI 0 → (∀ c, c < k → τ.1 68 0 c = -(nI 1)) → X (τ, 41, [some (jR 38 0), some (jI (nI most)), some (jI (nI nets)), some (jI (nI k)), none], []) := by
    intro d
    induction d with
    | zero =>
      intro k τ hk ho e44 h68
      have e : k = s.1 := by omega
      subst e
      have hcl := mcC_mf hcl0 ho (by decide) (by decide)
      have hall : ∀ c, c < s.1 → (2 ^ s.1 - 1).testBit c = true := fun c hc => by rw [Nat.testBit_two_pow_sub_one]; simpa using hc
      have hL : muL s.1 (2 ^ s.1 - 1) (fun _ => 0) τ := fun c hc => by rw [hall c hc, if_pos rfl]; exact h68 c hc
      have hI := ouI_0 (s := s) hs4
      refine hg [41, 67] 60 _ ?_
      refine br_c (fun _ => ?_) (fun h => ?_)
      · refine h3 s (2 ^ s.1 - 1) (fun _ => 0) τ _ hcl hB hs4 hL hI.1 (fun c hc hf => by show 0 < 100; omega) ?_
        exact outer 40 τ (ou0 s.1) ho ⟨e44, hL, fun b hb => absurd hb (Nat.not_lt_zero _)⟩ hI (cnt_le _ _) rfl
      · have h : ¬ τ.1 38 0 36 ≤ nI s.1 := h
        rw [hcl.1] at h
        exact absurd (nI_le (Nat.le_refl _) (by omega)) h
    | succ d ih =>
      intro k τ hk ho e44 h68
      have hcl := mcC_mf hcl0 ho (by decide) (by decide)
      have ek : (nI k).toNatClampNeg = k := nI_clamp (by omega)
      refine hg [41, 67] 60 _ ?_
      refine br_c (fun h => ?_) (fun _ => ?_)
      · have h : τ.1 38 0 36 ≤ nI k := h
        rw [hcl.1, nI_leI (by omega) (by omega)] at h
        omega
      · refine And.intro (vp_in_nI (by omega) (by omega)) ?_
        show X (wI τ 68 0 (upd (τ.1 68 0) (nI k).toNatClampNeg (-(nI 1))), 41, [some (jR 38 0), some (jI (nI most)), some (jI (nI nets)), some (jI (nI k + nI 1)), none], [])
        rw [nI_add, ek]
        refine ih (k + 1) _ (by omega) (mf_wI ho (by decide) (by decide)) e44 fun c hc => ?_
        rw [wI1, if_pos ⟨rfl, rfl⟩, upd_at]
        by_cases e : c = k
        · rw [if_pos e]
        · rw [if_neg e]; exact h68 c (by omega)
  exact clear s.1 0 _ (by omega) (mf_sF (mf_refl _ _ _) (by decide)) rfl fun c hc => absurd hc (by omega)
