/-! the component's Clustering: countCrossing, isLimit, forget -/
def crI (s : clS) (co : Nat → Nat) (i j V : Nat) : Prop := ∀ z, V.testBit z = true ↔ ∃ f t, (f < i ∨ (f = i ∧ t < j)) ∧ f < s.1 ∧ t < s.1 ∧ co f ≠ co t ∧ (cuO s f).testBit z = true ∧ (cuI s t).testBit z = true
theorem crI_row {s : clS} {co : Nat → Nat} {i V : Nat} (h : crI s co i s.1 V) : crI s co (i + 1) 0 V := fun z => by
  rw [h z]
  constructor
  · rintro ⟨f, t, h1, h2, h3, h4⟩
    exact ⟨f, t, by omega, h2, h3, h4⟩
  · rintro ⟨f, t, h1, h2, h3, h4⟩
    exact ⟨f, t, by omega, h2, h3, h4⟩
theorem crI_same {s : clS} {co : Nat → Nat} {i j V : Nat} (h : crI s co i j V) (e : co i = co j) : crI s co i (j + 1) V := fun z => by
  rw [h z]
  constructor
  · rintro ⟨f, t, h1, h2, h3, h4⟩
    exact ⟨f, t, by omega, h2, h3, h4⟩
  · rintro ⟨f, t, h1, h2, h3, h4⟩
    refine ⟨f, t, ?_, h2, h3, h4⟩
    rcases h1 with h1 | ⟨h1, h5⟩
    · exact Or.inl h1
    · by_cases e2 : t = j
      · rw [h1, e2] at h4; exact absurd e h4.1
      · exact Or.inr ⟨h1, by omega⟩
theorem crI_new {s : clS} {co : Nat → Nat} {i j V : Nat} (h : crI s co i j V) (hi : i < s.1) (hj : j < s.1) (e : co i ≠ co j) : crI s co i (j + 1) (V ||| (cuO s i &&& cuI s j)) := fun z => by
  rw [Nat.testBit_or, Bool.or_eq_true, Nat.testBit_and, Bool.and_eq_true, h z]
  constructor
  · rintro (⟨f, t, h1, h2, h3, h4⟩ | ⟨h1, h2⟩)
    · exact ⟨f, t, by omega, h2, h3, h4⟩
    · exact ⟨i, j, by omega, hi, hj, e, h1, h2⟩
  · rintro ⟨f, t, h1, h2, h3, h4⟩
    rcases h1 with h1 | ⟨h1, h5⟩
    · exact Or.inl ⟨f, t, Or.inl h1, h2, h3, h4⟩
    · by_cases e2 : t = j
      · rw [h1, e2] at h4; exact Or.inr h4.2
      · exact Or.inl ⟨f, t, Or.inr ⟨h1, by omega⟩, h2, h3, h4⟩
theorem crI_end {s : clS} {co : Nat → Nat} {V : Nat} (hB : clB s) (h : crI s co s.1 0 V) : V = crX s co := set_eq fun z => by
  rw [Bool.eq_iff_iff, h z, crX_bit hB]
  constructor
  · rintro ⟨f, t, h1, h2, h3, h4⟩
    exact ⟨f, t, h2, h3, h4⟩
  · rintro ⟨f, t, h2, h3, h4⟩
    exact ⟨f, t, Or.inl h2, h2, h3, h4⟩
abbrev ct_ccross (C : jm_C) : Prop := ∀ (s : clS) (co : Nat → Nat) (σ : jm_G) (post : Option jm_V → jm_G → Prop), clC s σ → clB s → s.1 ≤ 40 → (∀ c, c < s.1 → σ.1 37 0 c = nI (co c) ∧ co c < 100) → post (some (jI (nI (cnt (crX s co) 40)))) σ → C kX1_countCrossing [jR 36 0] σ post
theorem T_ccross (L : Nat) {C : jm_C} (hC : jm_mon C) (h1 : ct_bc C) (h2 : ct_netsOut C) : ct_ccross (jm_up L C) := by
  intro s co σ post hcl hB hs4 hco hp
  refine jm_start rfl (Nat.le_of_ble_eq_true rfl) hC fun X hg hw => ?_
  have outer : ∀ (d i V : Nat), i + d = s.1 → V < 2 ^ 40 → crI s co i 0 V → X (σ, 4, [some (jR 36 0), some (jJ (lN V)), none, some (jI (nI i)), none], []) := by
    intro d
    induction d with
    | zero =>
      intro i V hid hV hI
      have ei : i = s.1 := by omega
      subst ei
      rw [crI_end hB hI]
      have hx := crX_lt s co
      refine hg [4, 18] 30 _ ?_
      refine br_c (fun _ => ?_) (fun h => ?_)
      · refine h1 (crX s co) σ _ (Nat.lt_trans hx (by omega)) ?_
        rw [cnt64 hx]
        exact And.intro trivial hp
      · have h : ¬ σ.1 29 0 10 ≤ nI s.1 := h
        rw [hcl.1] at h
        exact absurd (nI_le (Nat.le_refl _) (by omega)) h
    | succ d ih =>
      intro i V hid hV hI
      have ei : (nI i).toNatClampNeg = i := nI_clamp (by omega)
      refine hg [4, 18] 30 _ ?_
      refine br_c (fun h => ?_) (fun _ => ?_)
      · have h : σ.1 29 0 10 ≤ nI i := h
        rw [hcl.1, nI_leI (by omega) (by omega)] at h
        omega
      have inner : ∀ (e j V : Nat), j + e = s.1 → V < 2 ^ 40 → crI s co i j V → X (σ, 18, [some (jR 36 0), some (jJ (lN V)), none, some (jI (nI i)), some (jI (nI j))], []) := by
        intro e
        induction e with
        | zero =>
          intro j V hje hV hI
          have ej : j = s.1 := by omega
          rw [ej] at hI
          refine hg [4, 18] 30 _ ?_
          refine br_c (fun _ => ?_) (fun h => ?_)
          · show X (σ, 4, [some (jR 36 0), some (jJ (lN V)), none, some (jI (nI i + nI 1)), some (jI (nI j))], [])
            refine hw _ _ _ [some (jR 36 0), some (jJ (lN V)), none, some (jI (nI i + nI 1)), none] _ (by repeat' first | exact trivial | exact rfl | apply And.intro) ?_
            rw [nI_add]
            exact ih (i + 1) V (by omega) hV (crI_row hI)
          · have h : ¬ σ.1 29 0 10 ≤ nI j := h
            rw [hcl.1] at h
            exact absurd (nI_le (by omega) (by omega)) h
        | succ e ih2 =>
          intro j V hje hV hI
          have ej : (nI j).toNatClampNeg = j := nI_clamp (by omega)
          have ci := hco i (by omega)
          have cj := hco j (by omega)
          refine hg [4, 18] 60 _ ?_
          refine br_c (fun h => ?_) (fun _ => ?_)
          · have h : σ.1 29 0 10 ≤ nI j := h
            rw [hcl.1, nI_leI (by omega) (by omega)] at h
            omega
          refine And.intro (vp_in_nI (by omega) (by omega)) ?_
          refine And.intro (vp_in_nI (by omega) (by omega)) ?_
          refine br_c (fun z => ?_) (fun z => ?_)
          · have z : σ.1 37 0 (nI i).toNatClampNeg = σ.1 37 0 (nI j).toNatClampNeg := z
            rw [ei, ej, ci.1, cj.1, nI_eq (by omega) (by omega)] at z
            show X (σ, 18, [some (jR 36 0), some (jJ (lN V)), none, some (jI (nI i)), some (jI (nI j + nI 1))], [])
            rw [nI_add]
            exact ih2 (j + 1) V (by omega) hV (crI_same hI z)
          · have z : ¬ σ.1 37 0 (nI i).toNatClampNeg = σ.1 37 0 (nI j).toNatClampNeg := z
            rw [ei, ej, ci.1, cj.1, nI_eq (by omega) (by omega)] at z
            refine h2 s i σ _ hcl (by omega) hs4 ?_
            refine And.intro (vp_in_nI (by omega) (by omega)) ?_
            show X (σ, 18, [some (jR 36 0), some (jJ (lN V ||| (lN (cuO s i) &&& σ.2 35 0 (nI j).toNatClampNeg))), none, some (jI (nI i)), some (jI (nI j + nI 1))], [])
            rw [nI_add, ej, (hcl.2 j (by omega)).2.2, fb_andL, fb_orL]
            exact ih2 (j + 1) _ (by omega) (or_lt hV (Nat.lt_of_le_of_lt Nat.and_le_left (cuO_lt hB i))) (crI_new hI (by omega) (by omega) z)
      exact inner s.1 0 V (by omega) hV hI
  refine hg [4, 18] 30 _ ?_
  exact outer s.1 0 0 (by omega) (Nat.two_pow_pos 40) fun z => by
    rw [Nat.zero_testBit]
    exact ⟨fun h => (by cases h), fun ⟨f, t, h, _⟩ => by omega⟩
/-- limits of a cluster -/
def isLm (x y : Int32) : Bool := (decide (¬ x < nI 1) && decide (¬ nI 8 < x)) && (decide (¬ y < nI 6) && decide (¬ nI 16 < y))
theorem isLm_t {x y : Int32} (h : isLm x y = true) : ∃ a b, x = nI a ∧ y = nI b ∧ 1 ≤ a ∧ a ≤ 8 ∧ 6 ≤ b ∧ b ≤ 16 := by
  unfold isLm at h
  rw [Bool.and_eq_true] at h
  obtain ⟨a, a1, a2, a3⟩ := wi_nI (a := 1) (b := 8) (by omega) (by omega) h.1
  obtain ⟨b, b1, b2, b3⟩ := wi_nI (a := 6) (b := 16) (by omega) (by omega) h.2
  exact ⟨a, b, a3, b3, a1, a2, b1, b2⟩
abbrev ct_isLim (C : jm_C) : Prop := ∀ (x y : Int32) (σ : jm_G) (post : Option jm_V → jm_G → Prop), post (some (jI (bI (isLm x y)))) σ → C kX1_isLimit [jI x, jI y] σ post
theorem T_isLim (L : Nat) {C : jm_C} (hC : jm_mon C) : ct_isLim (jm_up L C) := by
  intro x y σ post hp
  refine jm_start rfl (Nat.le_of_ble_eq_true rfl) hC fun X hg hw => ?_
  unfold isLm at hp
  refine hg [] 30 _ ?_
  refine br_c (fun h => ?_) (fun h => ?_)
  · have h : x < nI 1 := h
    simp only [h, not_true_eq_false, decide_false, Bool.false_and] at hp
    exact And.intro (Or.inl rfl) hp
  refine br_c (fun h2 => ?_) (fun h2 => ?_)
  · have h2 : nI 8 < x := h2
    simp only [h2, not_true_eq_false, decide_false, Bool.and_false, Bool.false_and] at hp
    exact And.intro (Or.inl rfl) hp
  refine br_c (fun h3 => ?_) (fun h3 => ?_)
  · have h3 : y < nI 6 := h3
    simp only [h3, not_true_eq_false, decide_false, Bool.and_false, Bool.false_and] at hp
    exact And.intro (Or.inl rfl) hp
  refine br_c (fun h4 => ?_) (fun h4 => ?_)
  · have h4 : nI 16 < y := h4
    simp only [h4, not_true_eq_false, decide_false, Bool.and_false, Bool.false_and] at hp
    exact And.intro (Or.inl rfl) hp
  · have h : ¬ x < nI 1 := h
    have h2 : ¬ nI 8 < x := h2
    have h3 : ¬ y < nI 6 := h3
    have h4 : ¬ nI 16 < y := h4
    simp only [h, h2, h3, h4, not_false_eq_true, decide_true, Bool.and_true] at hp
    exact And.intro (Or.inr rfl) hp
abbrev ct_forget (C : jm_C) : Prop := ∀ (σ : jm_G) (post : Option jm_V → jm_G → Prop), (∀ σ', off 36 36 σ σ' → (∀ s, cU s σ') → post none σ') → C kX1_forget [jR 36 0] σ post
theorem T_forget (L : Nat) {C : jm_C} (hC : jm_mon C) : ct_forget (jm_up L C) := by
  intro σ post hp
  refine jm_start rfl (Nat.le_of_ble_eq_true rfl) hC fun X hg hw => ?_
  refine hg [] 30 _ ?_
  refine And.intro trivial (hp _ (off_wI (off_wI (off_refl _ _ _) (by omega) (by omega)) (by omega) (by omega)) fun s => ⟨0, 0, ?_, ?_, by omega, by omega, fun h => absurd rfl h⟩)
  · rfl
  · rfl
/-! the model's beginning, nextTo, joins -/
def muL (n l : Nat) (co : Nat → Nat) (σ : jm_G) : Prop := ∀ c, c < n → σ.1 68 0 c = if l.testBit c then -(nI 1) else nI (co c)
def muR (n k : Nat) (u : clu) (σ : jm_G) : Prop := σ.1 38 0 44 = nI (k + 1) ∧ muL n u.1 u.2.1 σ ∧ σ.2 69 0 k = lN u.2.2.1 ∧ σ.2 70 0 k = lN u.2.2.2
theorem mcC_mf {s : clS} {A B : List Nat} {σ τ : jm_G} (h : mcC s σ) (hm : mf A B σ τ) (h1 : ∀ t, t ∈ A → ¬ t ∈ [60, 61, 62, 63, 64, 65]) (h2 : ∀ t, t ∈ B → ¬ t ∈ [36]) : mcC s τ := by
  refine ⟨?_, fun c hc => ?_⟩
  · rw [(hm.2 0 36 (fun q => h2 36 q (by decide))).1]; exact h.1
  · rw [(hm.1 60 0 (by omega) (fun q => h1 60 q (by decide))).1, (hm.1 61 0 (by omega) (fun q => h1 61 q (by decide))).1, (hm.1 62 0 (by omega) (fun q => h1 62 q (by decide))).1, (hm.1 63 0 (by omega) (fun q => h1 63 q (by decide))).1, (hm.1 64 0 (by omega) (fun q => h1 64 q (by decide))).2, (hm.1 65 0 (by omega) (fun q => h1 65 q (by decide))).2]
    exact h.2 c hc
abbrev ct_mbeg (C : jm_C) : Prop := ∀ (s : clS) (l : Nat) (co : Nat → Nat) (σ : jm_G) (post : Option jm_V → jm_G → Prop), mcC s σ → clB s → s.1 ≤ 40 → muL s.1 l co σ → (∀ c, l.testBit c = true → c < s.1) → (∀ c, c < s.1 → l.testBit c = false → co c < 100) → post (some (jI (oN (bgC s l)))) σ → C kX10_beginning [jR 38 0] σ post
theorem T_mbeg (L : Nat) {C : jm_C} (hC : jm_mon C) (h1 : ct_mmany C) : ct_mbeg (jm_up L C) := by
  intro s l co σ post hcl hB hs4 hL hln hco hp
  refine jm_start rfl (Nat.le_of_ble_eq_true rfl) hC fun X hg hw => ?_
  have hp : post (some (jI (oN (amx (fun c => cnt (cuI s c) 40) l 40)))) σ := hp
  have bS : ∀ c, (fun c => cnt (cuI s c) 40) c ≤ 40 := fun _ => cnt_le _ _
  have eS : ∀ c, cnt (cuI s c) 40 = (fun c => cnt (cuI s c) 40) c := fun _ => rfl
  rw [← amx_40 hs4 hln] at hp
  generalize (fun c => cnt (cuI s c) 40) = v at hp bS eS
  have loop : ∀ (d k : Nat), k + d = s.1 → X (σ, 4, [some (jR 38 0), some (jI (oN (amx v l k))), some (jI (nI k))], []) := by
    intro d
    induction d with
    | zero =>
      intro k hk
      have e : k = s.1 := by omega
      subst e
      refine hg [4] 30 _ ?_
      refine br_c (fun _ => And.intro trivial hp) (fun h => ?_)
      have h : ¬ σ.1 38 0 36 ≤ nI s.1 := h
      rw [hcl.1] at h
      exact absurd (nI_le (Nat.le_refl _) (by omega)) h
    | succ d ih =>
      intro k hk
      have ek : (nI k).toNatClampNeg = k := nI_clamp (by omega)
      have ih := ih (k + 1) (by omega)
      rw [← nI_add] at ih
      have hq : ∀ z, amx v l k = some z → z < 2 ^ 31 := fun z hz => by have := (amx_in k z hz).1; omega
      have lk := hL k (by omega)
      refine hg [4] 60 _ ?_
      refine br_c (fun h => ?_) (fun _ => ?_)
      · have h : σ.1 38 0 36 ≤ nI k := h
        rw [hcl.1, nI_leI (by omega) (by omega)] at h
        omega
      refine And.intro (vp_in_nI (by omega) (by omega)) ?_
      cases hb : l.testBit k with
      | false =>
        rw [hb, if_neg (fun q => by cases q)] at lk
        refine br_c (fun _ => ?_) (fun h => ?_)
        · rw [amx_f hb] at ih
          exact ih
        · have h : ¬ 0 ≤ σ.1 68 0 (nI k).toNatClampNeg := h
          rw [ek, lk] at h
          exact absurd (nI_pos' (by have := hco k (by omega) hb; omega)) h
      | true =>
        rw [hb, if_pos rfl] at lk
        rw [amx_t hb] at ih
        refine br_c (fun h => ?_) (fun _ => ?_)
        · have h : 0 ≤ σ.1 68 0 (nI k).toNatClampNeg := h
          rw [ek, lk] at h
          exact absurd m1_neg (Int32.not_lt.mpr h)
        · refine br_c (fun h => ?_) (fun h => ?_)
          · have h : oN (amx v l k) < 0 := h
            rw [oN_neg hq] at h
            rw [h] at ih
            exact ih
          · have h : ¬ oN (amx v l k) < 0 := h
            rw [oN_neg hq] at h
            cases q : amx v l k with
            | none => exact absurd q h
            | some m =>
              rw [q] at ih
              have ih : X (σ, 4, [some (jR 38 0), some (jI (oN (if v m < v k then some k else some m))), some (jI (nI k + nI 1))], []) := ih
              have hm := amx_in k m q
              have em : (nI m).toNatClampNeg = m := nI_clamp (by omega)
              have b1 := bS k
              have b2 := bS m
              refine And.intro (vp_in_nI (by omega) (by omega)) ?_
              refine c_mmany h1 (S := cuI s k) (by rw [ek]; exact (hcl.2 k (by omega)).2.2.1) (p40 (cuI_lt hB k)) ?_
              refine And.intro (vp_in_nI (show m < 40 by omega) (by omega)) ?_
              refine c_mmany h1 (S := cuI s m) (show σ.2 64 0 (nI m).toNatClampNeg = _ by rw [em]; exact (hcl.2 m (by omega)).2.2.1) (p40 (cuI_lt hB m)) ?_
              rw [eS, eS]
              refine br_c (fun z => ?_) (fun z => ?_)
              · have z : nI (v k) ≤ nI (v m) := z
                rw [nI_leI (by omega) (by omega)] at z
                rw [if_neg (by omega)] at ih
                exact ih
              · have z : ¬ nI (v k) ≤ nI (v m) := z
                rw [nI_leI (by omega) (by omega)] at z
                rw [if_pos (by omega)] at ih
                exact ih
  refine hg [4] 30 _ ?_
  exact loop s.1 0 (by omega)
abbrev ct_mjoins (C : jm_C) : Prop := ∀ (s : clS) (k c : Nat) (u : clu) (σ : jm_G) (post : Option jm_V → jm_G → Prop), mcC s σ → s.1 ≤ 40 → c < s.1 → k < 40 → muR s.1 k u σ → (∀ σ', mf [68, 69, 70] [] σ σ' → (∀ b, b ≠ k → σ'.2 69 0 b = σ.2 69 0 b ∧ σ'.2 70 0 b = σ.2 70 0 b) → muR s.1 k (jnC s k c u) σ' → post none σ') → C kX10_joins [jR 38 0, jI (nI c)] σ post
theorem T_mjoins (L : Nat) {C : jm_C} (hC : jm_mon C) : ct_mjoins (jm_up L C) := by
  intro s k c u σ post hcl hs4 hc hk hR hp
  refine jm_start rfl (Nat.le_of_ble_eq_true rfl) hC fun X hg hw => ?_
  have ec : (nI c).toNatClampNeg = c := nI_clamp (by omega)
  obtain ⟨r1, r2, r3, r4⟩ := hR
  have e44 : σ.1 38 0 44 - nI 1 = nI k := by rw [r1]; exact pk_sub (by omega)
  have ek : (σ.1 38 0 44 - nI 1).toNatClampNeg = k := by rw [e44]; exact nI_clamp (by omega)
  have hin : vp_in (nI c) 40 := vp_in_nI (by omega) (by omega)
  have hik : vp_in (σ.1 38 0 44 - nI 1) 40 := by rw [e44]; exact vp_in_nI hk (by omega)
  have q := (hcl.2 c hc).2.2
  refine hg [] 90 _ ?_
  refine And.intro hin (And.intro hik (And.intro hin (And.intro hik (And.intro hik (And.intro hin (And.intro hik (And.intro trivial ?_)))))))
  refine hp _ (mf_wJ (mf_wJ (mf_wI (mf_refl _ _ _) (by decide) (by decide)) (by decide) (by decide)) (by decide) (by decide)) (fun b hb => ⟨?_, ?_⟩) ⟨r1, fun z hz => ?_, ?_, ?_⟩
  · show vp_updL (σ.2 69 0) (σ.1 38 0 44 - nI 1).toNatClampNeg (σ.2 69 0 (σ.1 38 0 44 - nI 1).toNatClampNeg ||| σ.2 64 0 (nI c).toNatClampNeg) b = _
    rw [ek, updL_at, if_neg hb]
  · show vp_updL (σ.2 70 0) (σ.1 38 0 44 - nI 1).toNatClampNeg (σ.2 70 0 (σ.1 38 0 44 - nI 1).toNatClampNeg ||| σ.2 65 0 (nI c).toNatClampNeg) b = _
    rw [ek, updL_at, if_neg hb]
  · show upd (σ.1 68 0) (nI c).toNatClampNeg (σ.1 38 0 44 - nI 1) z = if (sD u.1 (2 ^ c)).testBit z then -(nI 1) else nI (if z = c then k else u.2.1 z)
    rw [ec, e44, upd_at, sD_pw]
    by_cases e : z = c
    · rw [if_pos e, if_pos e]; simp [e]
    · rw [if_neg e, if_neg e, r2 z hz]; simp [e]
  · show vp_updL (σ.2 69 0) (σ.1 38 0 44 - nI 1).toNatClampNeg (σ.2 69 0 (σ.1 38 0 44 - nI 1).toNatClampNeg ||| σ.2 64 0 (nI c).toNatClampNeg) k = lN (u.2.2.1 ||| cuI s c)
    rw [ek, updL_at, if_pos rfl, r3, ec, q.1, fb_orL]
    rfl
  · show vp_updL (σ.2 70 0) (σ.1 38 0 44 - nI 1).toNatClampNeg (σ.2 70 0 (σ.1 38 0 44 - nI 1).toNatClampNeg ||| σ.2 65 0 (nI c).toNatClampNeg) k = lN (u.2.2.2 ||| cuO s c)
    rw [ek, updL_at, if_pos rfl, r4, ec, q.2, fb_orL]
    rfl
