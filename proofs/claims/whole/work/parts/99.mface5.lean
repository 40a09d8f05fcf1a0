/-! the model's table, mapped, cell, count, clusters, cluster, cross -/
def swA (w : Int32) (l : List Int32) (d : Int32) : Int32 := if w.toInt < 0 then d else l.getD w.toInt.toNat d
theorem swA_o {w : Int32} {l : List Int32} {d : Int32} {n : Int} (h : w.toInt < 0 ∨ n < w.toInt) (hl : (l.length : Int) = n + 1) : swA w l d = d := by
  unfold swA
  rcases h with h | h
  · rw [if_pos h]
  · by_cases h2 : w.toInt < 0
    · rw [if_pos h2]
    · rw [if_neg h2, List.getD_eq_getElem?_getD, List.getElem?_eq_none (by omega)]
      rfl
theorem swA_n {k : Nat} {l : List Int32} {d : Int32} (hk : k < 2 ^ 31) : swA (nI k) l d = l.getD k d := by
  unfold swA
  rw [nI_toInt hk, if_neg (by omega), Int.toNat_natCast]
def usN (N : nw) (ch : Nat → Nat) (i : Nat) : Nat := cnt (mk (fun g => (tbs N ch).testBit g && (ch g).testBit i) 40) 40
noncomputable def tbA (N : nw) (K : Nat) (md : Bool) (ch : Nat → Nat) (x w : Int32) : Int32 := if atN (nN N) x (isG N) && md then swA w [bI ((tbs N ch).testBit x.toNatClampNeg), nI (arv N ch x.toNatClampNeg), nI (usN N ch x.toNatClampNeg), oN (prT (tbs N ch) K ch 40 x.toNatClampNeg), (if (tbs N ch).testBit x.toNatClampNeg then nI (ceI (tbs N ch) (prT (tbs N ch) K ch 40) x.toNatClampNeg) else -(nI 1)), nI (crs (hld N ch x.toNatClampNeg) (cnt (ch x.toNatClampNeg) 40))] (-(nI 1)) else -(nI 1)
abbrev ct_mtable (C : jm_C) : Prop := ∀ (N : nw) (K : Nat) (md : Bool) (ch : Nat → Nat) (on : Nat) (x w : Int32) (σ : jm_G) (post : Option jm_V → jm_G → Prop), aOK N K md ch on → mR N K md ch on σ → (∀ σ', mR N K md ch on σ' → off 38 70 σ σ' → post (some (jI (tbA N K md ch x w))) σ') → C kX10_table [jR 38 0, jI x, jI w] σ post
theorem T_mtable (L : Nat) {C : jm_C} (hC : jm_mon C) (h1 : ct_misGate C) (h2 : ct_laysC C) (h3 : ct_mhas C) (h4 : ct_muses C) (h5 : ct_mcares C) : ct_mtable (jm_up L C) := by
  intro N K md ch on x w σ post hA hR hp
  refine jm_start rfl (Nat.le_of_ble_eq_true rfl) hC fun X hg hw => ?_
  obtain ⟨hok, hK, hK6, -, hmd⟩ := hA
  have h40 := hok.1
  have hR0 := mR_th hR (nI 0)
  unfold tbA at hp
  refine hg [] 60 _ ?_
  refine h1 N x (sF σ 0 (nI 0)) _ hok hR0.1.1 ?_
  refine br_c (fun h => ?_) (fun h => ?_)
  · have h := bI_0.mp h
    rw [h, Bool.false_and, if_neg (fun q => by cases q)] at hp
    exact And.intro trivial (hp _ hR0 (off_th _ _))
  have h := bI_n0.mp h
  rw [h, Bool.true_and] at hp
  obtain ⟨i, hi, ex, hgi⟩ := atN_t (by omega) h
  refine br_c (fun q => ?_) (fun q => ?_)
  · have q : σ.1 38 0 8 = 0 := q
    rw [hR.1.2.2.1] at q
    have q := bI_0.mp q
    subst q
    rw [if_neg (fun q => by cases q)] at hp
    exact And.intro trivial (hp _ hR0 (off_th _ _))
  have q : ¬ σ.1 38 0 8 = 0 := q
  rw [hR.1.2.2.1] at q
  have q := bI_n0.mp q
  subst q
  rw [if_pos rfl] at hp
  have hcO := hmd rfl
  have ei : x.toNatClampNeg = i := by rw [ex]; exact nI_clamp (by omega)
  rw [ei] at hp
  rw [ex]
  have ei : (nI i).toNatClampNeg = i := nI_clamp (by omega)
  have hin : vp_in (nI i) 40 := vp_in_nI (by omega) (by omega)
  refine h2 N K ch (sF σ 0 (nI 0)) _ hok hR0.1.1 (hR0.2.2 rfl) hcO hK hK6 hR0.1.2.1 fun τ o1 hc => ?_
  have hRt := mR_mf hR0 o1 (by decide) (by decide)
  have hof := off_trans (off_th σ (nI 0)) (mf_off o1 (by decide))
  have hp0 := hp τ hRt hof
  obtain ⟨c1, c2, c3, c4, c5, c6, c7⟩ := hc
  have hT := tbs_G N ch
  have hT4 := tbs_lt hok ch
  refine And.intro (fun h => ?_) (And.intro (fun h => ?_) (And.intro (fun h => ?_) (And.intro (fun h => ?_) (And.intro (fun h => ?_) (And.intro (fun h => ?_) (And.intro (fun h => ?_) trivial))))))
  · have h : w.toInt < 0 ∨ 5 < w.toInt := h
    rw [swA_o h rfl] at hp0
    exact And.intro trivial hp0
  · have h : w = nI 0 := h
    rw [h, swA_n (by omega)] at hp0
    have hp0 : post (some (jI (bI ((tbs N ch).testBit i)))) τ := hp0
    refine c_mhas h3 (S := tbs N ch) (n := i) c1 rfl (p40 hT4) (by omega) ?_
    refine br_c (fun z => ?_) (fun z => ?_)
    · have z := bI_0.mp z
      rw [z] at hp0
      exact And.intro trivial hp0
    · have z := bI_n0.mp z
      rw [z] at hp0
      exact And.intro trivial hp0
  · have h : w = nI 1 := h
    rw [h, swA_n (by omega)] at hp0
    refine And.intro hin (And.intro trivial ?_)
    show post (some (jI (τ.1 54 0 (nI i).toNatClampNeg))) τ
    rw [ei, c2 i hi]
    exact hp0
  · have h : w = nI 2 := h
    rw [h, swA_n (by omega)] at hp0
    refine h4 N ch (tbs N ch) i τ _ hok hRt.1.1 hT (hRt.2.2 rfl) (fun g hgg => (hcO g hgg).1.1) c1 (by omega) ?_
    exact And.intro trivial hp0
  · have h : w = nI 3 := h
    rw [h, swA_n (by omega)] at hp0
    refine And.intro hin (And.intro trivial ?_)
    show post (some (jI (τ.1 58 0 (nI i).toNatClampNeg))) τ
    rw [ei, c3 i hi]
    exact hp0
  · have h : w = nI 4 := h
    rw [h, swA_n (by omega)] at hp0
    refine And.intro hin (And.intro trivial ?_)
    show post (some (jI (τ.1 59 0 (nI i).toNatClampNeg))) τ
    rw [ei, c4 i hi]
    exact hp0
  · have h : w = nI 5 := h
    rw [h, swA_n (by omega)] at hp
    refine h5 N K i on ch τ _ hok hRt.1.1 hRt.1.2.2.2 hcO hK6 (hRt.2.2 rfl) hgi fun υ o2 => ?_
    exact And.intro trivial (hp υ (mR_mf hRt o2 (by decide) (by decide)) (off_trans hof (mf_off o2 (by decide))))
noncomputable def mpA (N : nw) (K : Nat) (md : Bool) (ch : Nat → Nat) (w : Int32) : Int32 := if md then swA w [nI (cnt (tbs N ch) 40), nI (mxL (arv N ch) (rts N) 40), nI (prN (tbs N ch) K ch 40), mpI N K ch, nI (clX N K ch).1, nI (cnt (clX N K ch).2.2.2.2 40)] (-(nI 1)) else -(nI 1)
abbrev ct_mmapped (C : jm_C) : Prop := ∀ (N : nw) (K : Nat) (md : Bool) (ch : Nat → Nat) (on : Nat) (w : Int32) (σ : jm_G) (post : Option jm_V → jm_G → Prop), aOK N K md ch on → mR N K md ch on σ → (∀ σ', mR N K md ch on σ' → off 38 70 σ σ' → post (some (jI (mpA N K md ch w))) σ') → C kX10_mapped [jR 38 0, jI w] σ post
theorem T_mmapped (L : Nat) {C : jm_C} (hC : jm_mon C) (h1 : ct_laysC C) (h2 : ct_mmany C) (h3 : ct_slowest C) (h4 : ct_mmost C) : ct_mmapped (jm_up L C) := by
  intro N K md ch on w σ post hA hR hp
  refine jm_start rfl (Nat.le_of_ble_eq_true rfl) hC fun X hg hw => ?_
  obtain ⟨hok, hK, hK6, -, hmd⟩ := hA
  have h40 := hok.1
  have hR0 := mR_th hR (nI 0)
  unfold mpA at hp
  refine hg [] 60 _ ?_
  refine br_c (fun q => ?_) (fun q => ?_)
  · have q : σ.1 38 0 8 = 0 := q
    rw [hR.1.2.2.1] at q
    have q := bI_0.mp q
    subst q
    rw [if_neg (fun q => by cases q)] at hp
    exact And.intro trivial (hp _ hR0 (off_th _ _))
  have q : ¬ σ.1 38 0 8 = 0 := q
  rw [hR.1.2.2.1] at q
  have q := bI_n0.mp q
  subst q
  rw [if_pos rfl] at hp
  have hcO := hmd rfl
  refine h1 N K ch (sF σ 0 (nI 0)) _ hok hR0.1.1 (hR0.2.2 rfl) hcO hK hK6 hR0.1.2.1 fun τ o1 hc => ?_
  have hRt := mR_mf hR0 o1 (by decide) (by decide)
  have hof := off_trans (off_th σ (nI 0)) (mf_off o1 (by decide))
  have hp0 := hp τ hRt hof
  obtain ⟨c1, c2, c3, c4, c5, c6, c7⟩ := hc
  have hT4 := tbs_lt hok ch
  refine And.intro (fun h => ?_) (And.intro (fun h => ?_) (And.intro (fun h => ?_) (And.intro (fun h => ?_) (And.intro (fun h => ?_) (And.intro (fun h => ?_) (And.intro (fun h => ?_) trivial))))))
  · have h : w.toInt < 0 ∨ 5 < w.toInt := h
    rw [swA_o h rfl] at hp0
    exact And.intro trivial hp0
  · have h : w = nI 0 := h
    rw [h, swA_n (by omega)] at hp0
    refine c_mmany h2 (S := tbs N ch) c1 (p40 hT4) ?_
    exact And.intro trivial hp0
  · have h : w = nI 1 := h
    rw [h, swA_n (by omega)] at hp0
    refine h3 N ch τ _ hok hRt.1.1 (chOK_L hcO) c2 ?_
    exact And.intro trivial hp0
  · have h : w = nI 2 := h
    rw [h, swA_n (by omega)] at hp0
    refine And.intro trivial ?_
    show post (some (jI (τ.1 38 0 38))) τ
    rw [c5]
    exact hp0
  · have h : w = nI 3 := h
    rw [h, swA_n (by omega)] at hp
    refine h4 N K ch τ _ hok hRt.1.1 (hRt.2.2 rfl) hcO hK hK6 hRt.1.2.1 c1 fun υ o2 => ?_
    exact And.intro trivial (hp υ (mR_mf hRt o2 (by decide) (by decide)) (off_trans hof (mf_off o2 (by decide))))
  · have h : w = nI 4 := h
    rw [h, swA_n (by omega)] at hp0
    refine And.intro trivial ?_
    show post (some (jI (τ.1 38 0 36))) τ
    rw [c6.1]
    exact hp0
  · have h : w = nI 5 := h
    rw [h, swA_n (by omega)] at hp0
    refine And.intro trivial ?_
    show post (some (jI (τ.1 38 0 37))) τ
    rw [c7]
    exact hp0
noncomputable def ceA (N : nw) (K : Nat) (md : Bool) (ch : Nat → Nat) (x w : Int32) : Int32 := if md && inN (clX N K ch).1 x then swA w [nthI ((clX N K ch).2.1 x.toNatClampNeg) (nI 0), nthI ((clX N K ch).2.1 x.toNatClampNeg) (nI 1), nthI ((clX N K ch).2.2.1 x.toNatClampNeg) (nI 0), nthI ((clX N K ch).2.2.1 x.toNatClampNeg) (nI 1), nI (cnt (cuI (clX N K ch) x.toNatClampNeg) 40)] (-(nI 2)) else -(nI 2)
theorem wi_out {w : Int32} {n : Nat} (hn : n < 2 ^ 31) (h : (decide (¬ w < nI 0) && decide (¬ nI n < w)) = false) : w.toInt < 0 ∨ (n : Int) < w.toInt := by
  rcases Int.lt_or_le w.toInt 0 with q | q
  · exact Or.inl q
  · refine Or.inr ?_
    have q1 : ¬ w < nI 0 := by
      rw [Int32.lt_iff_toInt_lt, nI_toInt (by omega)]
      omega
    rw [show decide (¬ w < nI 0) = true by simpa using q1, Bool.true_and, decide_eq_false_iff_not, Classical.not_not, Int32.lt_iff_toInt_lt, nI_toInt hn] at h
    exact h
abbrev ct_mcell (C : jm_C) : Prop := ∀ (N : nw) (K : Nat) (md : Bool) (ch : Nat → Nat) (on : Nat) (x w : Int32) (σ : jm_G) (post : Option jm_V → jm_G → Prop), aOK N K md ch on → mR N K md ch on σ → (∀ σ', mR N K md ch on σ' → off 38 70 σ σ' → post (some (jI (ceA N K md ch x w))) σ') → C kX10_cell [jR 38 0, jI x, jI w] σ post
theorem T_mcell (L : Nat) {C : jm_C} (hC : jm_mon C) (h1 : ct_within C) (h2 : ct_laysC C) (h3 : ct_mmany C) : ct_mcell (jm_up L C) := by
  intro N K md ch on x w σ post hA hR hp
  refine jm_start rfl (Nat.le_of_ble_eq_true rfl) hC fun X hg hw => ?_
  obtain ⟨hok, hK, hK6, -, hmd⟩ := hA
  have h40 := hok.1
  have hR0 := mR_th hR (nI 0)
  unfold ceA at hp
  refine hg [] 90 _ ?_
  refine br_c (fun q => ?_) (fun q => ?_)
  · have q : σ.1 38 0 8 = 0 := q
    rw [hR.1.2.2.1] at q
    have q := bI_0.mp q
    subst q
    rw [Bool.false_and, if_neg (fun q => by cases q)] at hp
    exact And.intro trivial (hp _ hR0 (off_th _ _))
  have q : ¬ σ.1 38 0 8 = 0 := q
  rw [hR.1.2.2.1] at q
  have q := bI_n0.mp q
  subst q
  rw [Bool.true_and] at hp
  have hcO := hmd rfl
  obtain ⟨hB, hs4⟩ := clX_B hok hcO
  refine h1 w (nI 0) (nI 4) (sF σ 0 (nI 0)) _ ?_
  refine br_c (fun z => ?_) (fun z => ?_)
  · have z := bI_0.mp z
    have hp0 := hp _ hR0 (off_th _ _)
    rw [swA_o (wi_out (by omega) z) rfl, ite_self] at hp0
    exact And.intro trivial hp0
  have z := bI_n0.mp z
  obtain ⟨j, -, hj, ew⟩ := wi_nI (a := 0) (b := 4) (by omega) (by omega) z
  rw [ew, swA_n (by omega)] at hp
  rw [ew]
  refine h2 N K ch (sF σ 0 (nI 0)) _ hok hR0.1.1 (hR0.2.2 rfl) hcO hK hK6 hR0.1.2.1 fun τ o1 hc => ?_
  have hRt := mR_mf hR0 o1 (by decide) (by decide)
  have hp0 := hp τ hRt (off_trans (off_th σ (nI 0)) (mf_off o1 (by decide)))
  have hcl : mcC (clX N K ch) τ := hc.2.2.2.2.2.1
  generalize clX N K ch = s at hB hs4 hp0 hcl
  refine br_c (fun y => ?_) (fun y => ?_)
  · have y : x < 0 := y
    have e : inN s.1 x = false := by simp [inN, y]
    rw [e, if_neg (fun q => by cases q)] at hp0
    exact And.intro trivial hp0
  have y : ¬ x < 0 := y
  refine br_c (fun y2 => ?_) (fun y2 => ?_)
  · have y2 : x < τ.1 38 0 36 := y2
    rw [hcl.1] at y2
    have e : inN s.1 x = true := by
      have := Int32.not_le.mpr y2
      simp [inN, y, this]
    rw [e, if_pos rfl] at hp0
    obtain ⟨i, hi, ex⟩ := inN_t (by omega) e
    have ei : x.toNatClampNeg = i := by rw [ex]; exact nI_clamp (by omega)
    rw [ei] at hp0
    rw [ex]
    have ei : (nI i).toNatClampNeg = i := nI_clamp (by omega)
    have hin : vp_in (nI i) 40 := vp_in_nI (by omega) (by omega)
    obtain ⟨⟨a0, a1⟩, ⟨a2, a3⟩, a4, a5⟩ := hcl.2 i hi
    have hne : ∀ k, k < 5 → (nI j = nI k ↔ j = k) := fun k hk => nI_eq (by omega) (by omega)
    refine br_c (fun z => ?_) (fun z => ?_)
    · have z : nI j = nI 0 := z
      have z := (hne 0 (by omega)).mp z
      rw [z] at hp0
      refine And.intro hin (And.intro trivial ?_)
      show post (some (jI (τ.1 60 0 (nI i).toNatClampNeg))) τ
      rw [ei, a0]
      exact hp0
    have z : ¬ nI j = nI 0 := z
    rw [hne 0 (by omega)] at z
    refine br_c (fun z1 => ?_) (fun z1 => ?_)
    · have z1 : nI j = nI 1 := z1
      have z1 := (hne 1 (by omega)).mp z1
      rw [z1] at hp0
      refine And.intro hin (And.intro trivial ?_)
      show post (some (jI (τ.1 61 0 (nI i).toNatClampNeg))) τ
      rw [ei, a1]
      exact hp0
    have z1 : ¬ nI j = nI 1 := z1
    rw [hne 1 (by omega)] at z1
    refine br_c (fun z2 => ?_) (fun z2 => ?_)
    · have z2 : nI j = nI 2 := z2
      have z2 := (hne 2 (by omega)).mp z2
      rw [z2] at hp0
      refine And.intro hin (And.intro trivial ?_)
      show post (some (jI (τ.1 62 0 (nI i).toNatClampNeg))) τ
      rw [ei, a2]
      exact hp0
    have z2 : ¬ nI j = nI 2 := z2
    rw [hne 2 (by omega)] at z2
    refine br_c (fun z3 => ?_) (fun z3 => ?_)
    · have z3 : nI j = nI 3 := z3
      have z3 := (hne 3 (by omega)).mp z3
      rw [z3] at hp0
      refine And.intro hin (And.intro trivial ?_)
      show post (some (jI (τ.1 63 0 (nI i).toNatClampNeg))) τ
      rw [ei, a3]
      exact hp0
    have z3 : ¬ nI j = nI 3 := z3
    rw [hne 3 (by omega)] at z3
    rw [show j = 4 by omega] at hp0
    refine And.intro hin ?_
    refine c_mmany h3 (S := cuI s i) (show τ.2 64 0 (nI i).toNatClampNeg = _ by rw [ei]; exact a4) (p40 (cuI_lt hB i)) ?_
    exact And.intro trivial hp0
  · have y2 : ¬ x < τ.1 38 0 36 := y2
    rw [hcl.1] at y2
    have e : inN s.1 x = false := by
      have := Int32.not_lt.mp y2
      simp [inN, this]
    rw [e, if_neg (fun q => by cases q)] at hp0
    exact And.intro trivial hp0
noncomputable def cuF (N : nw) (K : Nat) (ch : Nat → Nat) (x y : Int32) : ous := ouF (clX N K ch) y.toNatClampNeg x.toNatClampNeg
noncomputable def cuA (N : nw) (K : Nat) (md : Bool) (ch : Nat → Nat) (x y : Int32) : Int32 := if md && isLm x y then nI (cuF N K ch x y).1 else -(nI 1)
noncomputable def cuB (N : nw) (K : Nat) (md : Bool) (ch : Nat → Nat) (x y z : Int32) : Int32 := if (md && isLm x y) && inN (clX N K ch).1 z then nI ((cuF N K ch x y).2.2.1 z.toNatClampNeg) else -(nI 1)
noncomputable def cuC (N : nw) (K : Nat) (md : Bool) (ch : Nat → Nat) (x y : Int32) : Int32 := if md && isLm x y then nI (cnt (crX (clX N K ch) (cuF N K ch x y).2.2.1) 40) else -(nI 1)
theorem cuF_n {N : nw} {K : Nat} {ch : Nat → Nat} {x y : Int32} {a b : Nat} (hx : x = nI a) (hy : y = nI b) (ha : a ≤ 8) (hb : b ≤ 16) : cuF N K ch x y = ouF (clX N K ch) b a := by
  unfold cuF
  rw [hx, hy, nI_clamp (by omega), nI_clamp (by omega)]
theorem isLm_n {a b : Nat} (h1 : 1 ≤ a) (h2 : a ≤ 8) (h3 : 6 ≤ b) (h4 : b ≤ 16) : isLm (nI a) (nI b) = true := by
  unfold isLm
  rw [wi_in (by omega) h1 h2, wi_in (by omega) h3 h4]
  rfl
abbrev ct_mclusters (C : jm_C) : Prop := ∀ (N : nw) (K : Nat) (md : Bool) (ch : Nat → Nat) (on : Nat) (x y : Int32) (σ : jm_G) (post : Option jm_V → jm_G → Prop), aOK N K md ch on → mR N K md ch on σ → (∀ σ', mR N K md ch on σ' → off 38 70 σ σ' → post (some (jI (cuA N K md ch x y))) σ') → C kX10_clusters [jR 38 0, jI x, jI y] σ post
theorem T_mclusters (L : Nat) {C : jm_C} (hC : jm_mon C) (h1 : ct_laysClu C) : ct_mclusters (jm_up L C) := by
  intro N K md ch on x y σ post hA hR hp
  refine jm_start rfl (Nat.le_of_ble_eq_true rfl) hC fun X hg hw => ?_
  have hR0 := mR_th hR (nI 0)
  unfold cuA at hp
  refine hg [] 60 _ ?_
  refine h1 N K md ch on x y (sF σ 0 (nI 0)) _ hA hR0 (fun e => ?_) (fun em a b hx hy ha1 ha hb1 hb τ o1 hc hm => ?_)
  · rw [e, if_neg (fun q => by cases q)] at hp
    exact br_c (fun _ => And.intro trivial (hp _ hR0 (off_th _ _))) (fun h => absurd rfl h)
  · have hp0 := hp τ (mR_mf hR0 o1 (by decide) (by decide)) (off_trans (off_th σ (nI 0)) (mf_off o1 (by decide)))
    rw [em, hx, hy, isLm_n ha1 ha hb1 hb, Bool.true_and, if_pos rfl, cuF_n rfl rfl ha hb] at hp0
    refine br_c (fun h => absurd (show nI 1 = 0 from h) (by decide)) (fun _ => And.intro trivial ?_)
    show post (some (jI (τ.1 38 0 44))) τ
    rw [hm.1]
    exact hp0
abbrev ct_mcluster (C : jm_C) : Prop := ∀ (N : nw) (K : Nat) (md : Bool) (ch : Nat → Nat) (on : Nat) (x y z : Int32) (σ : jm_G) (post : Option jm_V → jm_G → Prop), aOK N K md ch on → mR N K md ch on σ → (∀ σ', mR N K md ch on σ' → off 38 70 σ σ' → post (some (jI (cuB N K md ch x y z))) σ') → C kX10_cluster [jR 38 0, jI x, jI y, jI z] σ post
theorem T_mcluster (L : Nat) {C : jm_C} (hC : jm_mon C) (h1 : ct_laysClu C) : ct_mcluster (jm_up L C) := by
  intro N K md ch on x y z σ post hA hR hp
  refine jm_start rfl (Nat.le_of_ble_eq_true rfl) hC fun X hg hw => ?_
  have hR0 := mR_th hR (nI 0)
  unfold cuB at hp
  refine hg [] 60 _ ?_
  refine h1 N K md ch on x y (sF σ 0 (nI 0)) _ hA hR0 (fun e => ?_) (fun em a b hx hy ha1 ha hb1 hb τ o1 hc hm => ?_)
  · rw [e, Bool.false_and, if_neg (fun q => by cases q)] at hp
    exact br_c (fun _ => And.intro trivial (hp _ hR0 (off_th _ _))) (fun h => absurd rfl h)
  · have hp0 := hp τ (mR_mf hR0 o1 (by decide) (by decide)) (off_trans (off_th σ (nI 0)) (mf_off o1 (by decide)))
    rw [em, hx, hy, isLm_n ha1 ha hb1 hb, Bool.true_and, Bool.true_and, cuF_n rfl rfl ha hb] at hp0
    have hcl : mcC (clX N K ch) τ := hc.2.2.2.2.2.1
    obtain ⟨hB, hs4⟩ := clX_B hA.1 (hA.2.2.2.2 em)
    have hF := (ouF_ok (nets := b) (most := a) hB hs4 ha1).2
    generalize clX N K ch = s at hp0 hcl hB hs4 hm hF
    refine br_c (fun h => absurd (show nI 1 = 0 from h) (by decide)) (fun _ => ?_)
    refine br_c (fun q => ?_) (fun q => ?_)
    · have q : z < 0 := q
      have e : inN s.1 z = false := by simp [inN, q]
      rw [e, if_neg (fun q => by cases q)] at hp0
      exact And.intro trivial hp0
    have q : ¬ z < 0 := q
    refine br_c (fun q2 => ?_) (fun q2 => ?_)
    · have q2 : τ.1 38 0 36 ≤ z := q2
      rw [hcl.1] at q2
      have e : inN s.1 z = false := by simp [inN, q2]
      rw [e, if_neg (fun q => by cases q)] at hp0
      exact And.intro trivial hp0
    · have q2 : ¬ τ.1 38 0 36 ≤ z := q2
      rw [hcl.1] at q2
      have e : inN s.1 z = true := by simp [inN, q, q2]
      rw [e, if_pos rfl] at hp0
      obtain ⟨i, hi, ex⟩ := inN_t (by omega) e
      have ei : z.toNatClampNeg = i := by rw [ex]; exact nI_clamp (by omega)
      rw [ei] at hp0
      refine And.intro (by rw [ex]; exact vp_in_nI (by omega) (by omega)) (And.intro trivial ?_)
      show post (some (jI (τ.1 68 0 z.toNatClampNeg))) τ
      rw [ei, hm.2.1 i hi, hF, Nat.zero_testBit, if_neg (fun q => by cases q)]
      exact hp0
