/-! layWay, nearestCut -/
theorem onC_succ {cf : Nat → Option Nat} {s n x y : Nat} (h : ch cf s n = some x) : onC cf s (n + 1) y ↔ onC cf s n y ∨ y = x := by
  constructor
  · rintro ⟨k, hk, e⟩
    by_cases hkn : k = n
    · subst hkn
      rw [h] at e
      exact Or.inr (Option.some.inj e).symm
    · exact Or.inl ⟨k, by omega, e⟩
  · rintro (⟨k, hk, e⟩ | e)
    · exact ⟨k, by omega, e⟩
    · subst e; exact ⟨n, by omega, h⟩
theorem onC_all {cf : Nat → Option Nat} {s n x : Nat} (h : ch cf s n = none) : onC cf s n x ↔ inC cf s x := by
  constructor
  · rintro ⟨k, -, e⟩; exact ⟨k, e⟩
  · rintro ⟨k, e⟩
    refine ⟨k, ?_, e⟩
    by_cases hk : k < n
    · exact hk
    · have := ch_end h (k - n)
      rw [show n + (k - n) = k by omega, e] at this
      cases this
/-- an end and the one that it was come to from, not both ways round -/
theorem cf_asym {N : nw} {g C on : Nat} {ah : Nat → Option Nat} {Q : Nat → Nat} {q p : Nat} {cf : Nat → Option Nat} (hb : bQ N g C on ah Q q p cf) {x y : Nat} (hx : ∃ i, i < q ∧ Q i = x) (hy : ∃ i, i < q ∧ Q i = y) (h1 : cf x = some y) (h2 : cf y = some x) : False := by
  obtain ⟨i, hi, e⟩ := hx
  obtain ⟨j, hj, f⟩ := hy
  have a : j < i := by
    rcases hb.2.2.1 i hi with ⟨h3, -⟩ | ⟨l, hl, h3, -⟩
    · rw [e, h1] at h3; cases h3
    · rw [e, h1] at h3
      have := hb.1 j l hj (by omega) (by rw [f]; exact Option.some.inj h3)
      omega
  have b : i < j := by
    rcases hb.2.2.1 j hj with ⟨h3, -⟩ | ⟨l, hl, h3, -⟩
    · rw [f, h2] at h3; cases h3
    · rw [f, h2] at h3
      have := hb.1 i l hi (by omega) (by rw [e]; exact Option.some.inj h3)
      omega
  omega
def lay (on on' : Nat) (cf : Nat → Option Nat) (D : Nat → Prop) : Prop := ∀ v, v < 40 → (D (40 + v) → cf (40 + v) = some v → on'.testBit v = true) ∧ (D v → cf v = some (40 + v) → on'.testBit v = false) ∧ (¬ (D (40 + v) ∧ cf (40 + v) = some v) → ¬ (D v ∧ cf v = some (40 + v)) → on'.testBit v = on.testBit v)
def layA (a a' : Nat → Int32) (cf : Nat → Option Nat) (D : Nat → Prop) : Prop := ∀ v, v < 40 → (D v → cf v ≠ some (40 + v) → a' v = oN ((cf v).map fun z => z - 40)) ∧ (¬ (D v ∧ cf v ≠ some (40 + v)) → a' v = a v)
abbrev ct_layWay (C : jm_C) : Prop := ∀ (N : nw) (g Cs on leaf q p : Nat) (Q : Nat → Nat) (ah cf : Nat → Option Nat) (σ : jm_G) (post : Option jm_V → jm_G → Prop), nw_ok N → C_ok N g Cs → wS N g Cs on ah → on < 2 ^ 40 → σ.2 10 0 4 = lN on → ahR σ on ah → sQ σ q Q cf → bQ N g Cs on ah Q q p cf → p < q → Q p = 40 + leaf → isG N leaf = false → leaf < 40 →
  (∀ σ' on' ah', off 10 13 σ σ' → on' < 2 ^ 40 → σ'.2 10 0 4 = lN on' → ahR σ' on' ah' → wS N g Cs on' ah' → fb_sm (wsrc on' ah') 40 = fb_sm (wsrc on ah) 40 + 1 → post none σ') → C kX8_layWay [jR 10 0, jI (nI (40 + leaf))] σ post
theorem sD_pw (S k i : Nat) : (sD S (2 ^ k)).testBit i = (S.testBit i && !decide (i = k)) := by
  rw [sD_bit, Nat.testBit_two_pow]
  by_cases e : k = i
  · subst e; simp
  · have : ¬ i = k := fun h => e h.symm
    simp [e, this]
theorem T_layWay (L : Nat) {C : jm_C} (hC : jm_mon C) (h1 : ct_bit C) : ct_layWay (jm_up L C) := by
  intro N g Cs on leaf q p Q ah cf σ post hok hCs hws hon h4 hah hQ hb hpq hQp hlf hl4 hp
  refine jm_start rfl (Nat.le_of_ble_eq_true rfl) hC fun X hg hw => ?_
  have hn := hok.1
  have hq80 := sQ_le hQ
  refine hg [4] 30 _ ?_
  show X (σ, 4, [some (jR 10 0), some (jI (nI (40 + leaf))), some (jI (nI (40 + leaf))), some (jI (nI 0)), none], [])
  have hpth := ch_pth hb hpq hQp hlf hl4
  have fin : ∀ n τ onN, ch cf (40 + leaf) n = none → off 10 13 σ τ → onN < 2 ^ 40 → τ.2 10 0 4 = lN onN → lay on onN cf (onC cf (40 + leaf) n) → layA (σ.1 13 0) (τ.1 13 0) cf (onC cf (40 + leaf) n) → post none τ := by
    intro n τ onN hnone ho ho4 e4 hl ha
    have hP : ∀ x, onC cf (40 + leaf) n x ↔ inC cf (40 + leaf) x := fun x => onC_all hnone
    obtain ⟨D, hD⟩ : ∃ D : Nat → Bool, ∀ v, D v = true ↔ (inC cf (40 + leaf) v ∧ cf v ≠ some (40 + v)) := pick _
    have hnew : pNew on onN ah (fun v => if D v then (cf v).map (fun z => z - 40) else ah v) cf (inC cf (40 + leaf)) := by
      intro v hv
      obtain ⟨l1, l2, l3⟩ := hl v hv
      rw [hP, hP] at l3
      rw [hP] at l1 l2
      refine ⟨⟨fun h => l1 h.1 h.2, fun h => l2 h.1 h.2, l3⟩, fun h => ?_, fun h => ?_⟩
      · show (if D v then _ else _) = _
        rw [if_pos ((hD v).mpr h)]
      · show (if D v then _ else _) = _
        rw [if_neg (fun e => h ((hD v).mp e))]
    obtain ⟨w1, w2⟩ := pth_ws hok hCs hws hpth hnew ho4
    refine hp τ onN _ ho ho4 e4 ?_ w1 w2
    intro v hv
    have hv4 := bit_lt ho4 hv
    obtain ⟨a1, a2⟩ := ha v hv4
    rw [hP] at a1 a2
    show _ = oN (if D v then _ else _)
    by_cases hd : D v = true
    · rw [if_pos hd]
      exact a1 ((hD v).mp hd).1 ((hD v).mp hd).2
    · rw [if_neg hd, a2 (fun e => hd ((hD v).mpr e))]
      apply hah
      obtain ⟨l1, l2, l3⟩ := hl v hv4
      rw [hP] at l2
      rw [hP, hP] at l3
      rw [← l3 ?_ ?_]
      · exact hv
      · rintro ⟨k1, k2⟩
        have hPv := (hpth.2.1 _ _ k1 k2).1
        apply hd
        refine (hD v).mpr ⟨hPv, fun e => ?_⟩
        obtain ⟨n1, c1⟩ := k1
        obtain ⟨n2, c2⟩ := hPv
        rw [← hQp] at c1 c2
        exact cf_asym hb (ch_at hb hpq c1) (ch_at hb hpq c2) k2 e
      · rintro ⟨k1, k2⟩
        rw [l2 k1 k2] at hv
        cases hv
  have gen : ∀ (m n : Nat), n + m = 80 → ∀ (τ : jm_G) (onN : Nat), off 10 13 σ τ → τ.1 11 0 = σ.1 11 0 → onN < 2 ^ 40 → τ.2 10 0 4 = lN onN → lay on onN cf (onC cf (40 + leaf) n) → layA (σ.1 13 0) (τ.1 13 0) cf (onC cf (40 + leaf) n) →
      X (τ, 4, [some (jR 10 0), some (jI (nI (40 + leaf))), some (jI (oN (ch cf (40 + leaf) n))), some (jI (nI n)), none], []) := by
    intro m
    induction m with
    | zero =>
      intro n hnm τ onN ho e11 ho4 e4 hl ha
      have e : n = 80 := by omega
      subst e
      refine hg [4] 60 _ ?_
      refine br_c (fun h => ?_) (fun h => ?_)
      · exact And.intro trivial (fin 80 τ onN (by rw [← hQp]; exact ch_far hb hpq (by omega)) ho ho4 e4 hl ha)
      · exact absurd (show nI 80 ≤ nI 80 from (nI_leI (by omega) (by omega)).mpr (Nat.le_refl _)) h
    | succ m ih =>
      intro n hnm τ onN ho e11 ho4 e4 hl ha
      cases hcx : ch cf (40 + leaf) n with
      | none =>
        refine hg [4] 60 _ ?_
        refine br_c (fun h => ?_) (fun h => ?_)
        · have h : nI 80 ≤ nI n := h
          rw [nI_leI (by omega) (by omega)] at h
          omega
        · refine br_c (fun h => ?_) (fun h => ?_)
          · exact And.intro trivial (fin n τ onN hcx ho ho4 e4 hl ha)
          · exact absurd rfl h
      | some x =>
        obtain ⟨i, hi, hix⟩ := ch_at hb hpq (n := n) (x := x) (by rw [hQp]; exact hcx)
        obtain ⟨hx80, -, hcf⟩ := hQ.2.1 i hi
        rw [hix] at hx80 hcf
        have hfr : τ.1 11 0 (nI x).toNatClampNeg = oN (cf x) := by rw [nI_clamp (by omega), e11]; exact hcf
        have hnx : ch cf (40 + leaf) (n + 1) = cf x := ch_succ hcx
        have hPx : inC cf (40 + leaf) x := ⟨n, hcx⟩
        have hz80 : ∀ z, cf x = some z → z < 2 ^ 31 := by
          intro z hz
          obtain ⟨j, hj, e⟩ := ch_at hb hpq (n := n + 1) (x := z) (by rw [hQp, hnx, hz])
          have := (hQ.2.1 j hj).1
          omega
        have asym : ∀ v, onC cf (40 + leaf) (n + 1) (40 + v) → cf (40 + v) = some v → cf v = some (40 + v) → False := by
          rintro v ⟨k1, -, c1⟩ k2 k3
          have c2 := ch_succ c1
          rw [k2] at c2
          rw [← hQp] at c1 c2
          exact cf_asym hb (ch_at hb hpq c1) (ch_at hb hpq c2) k2 k3
        have hst : ∀ y, onC cf (40 + leaf) (n + 1) y ↔ onC cf (40 + leaf) n y ∨ y = x := fun y => onC_succ hcx
        refine hg [4] 60 _ ?_
        refine br_c (fun h => ?_) (fun h => ?_)
        · have h : nI 80 ≤ nI n := h
          rw [nI_leI (by omega) (by omega)] at h
          omega
        · refine br_c (fun h => ?_) (fun h => ?_)
          · exact absurd h (oN_none (by omega))
          · refine And.intro (vp_in_nI (by omega) (by omega)) ?_
            have nxtS : ∀ (τ' : jm_G) (onN' : Nat), off 10 13 σ τ' → τ'.1 11 0 = σ.1 11 0 → onN' < 2 ^ 40 → τ'.2 10 0 4 = lN onN' → lay on onN' cf (onC cf (40 + leaf) (n + 1)) → layA (σ.1 13 0) (τ'.1 13 0) cf (onC cf (40 + leaf) (n + 1)) →
                X (τ', 4, [some (jR 10 0), some (jI (nI (40 + leaf))), some (jI (τ.1 11 0 (nI x).toNatClampNeg)), some (jI (nI n + nI 1)), some (jI (τ.1 11 0 (nI x).toNatClampNeg))], []) := by
              intro τ' onN' o1 o2 o3 o4 o5 o6
              refine hw _ _ _ [some (jR 10 0), some (jI (nI (40 + leaf))), some (jI (τ.1 11 0 (nI x).toNatClampNeg)), some (jI (nI n + nI 1)), none] _ (by repeat' first | exact trivial | exact rfl | apply And.intro) ?_
              rw [hfr, ← hnx, nI_add]
              exact ih (n + 1) (by omega) τ' onN' o1 o2 o3 o4 o5 o6
            refine br_c (fun h => ?_) (fun h => ?_)
            · have h : nI x < nI 40 := h
              rw [nI_ltI (by omega) (by omega)] at h
              have e40 : nI x + nI 40 = nI (40 + x) := by rw [nI_add, Nat.add_comm]
              refine br_c (fun h5 => ?_) (fun h5 => ?_)
              · have h5 : τ.1 11 0 (nI x).toNatClampNeg = nI x + nI 40 := h5
                rw [hfr, e40] at h5
                have hcx4 : cf x = some (40 + x) := oN_inj hz80 (fun z e => by have := Option.some.inj e; omega) h5
                refine c_bit h1 rfl (show x < 63 by omega) ?_
                refine nxtS _ (sD onN (2 ^ x)) (off_wJ ho (by omega) (by omega)) e11 (sD_lt ho4) ?_ ?_ ?_
                · show vp_updL (τ.2 10 0) 4 (τ.2 10 0 4 &&& (lN (2 ^ x) ^^^ (-1))) 4 = _
                  rw [updL_at, if_pos rfl, e4, lN_andn]
                · intro v hv
                  obtain ⟨l1, l2, l3⟩ := hl v hv
                  by_cases e : v = x
                  · subst e
                    refine ⟨fun h6 h7 => (asym v h6 h7 hcx4).elim, fun _ _ => ?_, fun _ h6 => absurd ⟨(hst v).mpr (Or.inr rfl), hcx4⟩ h6⟩
                    rw [sD_pw]; simp
                  · have s1 : onC cf (40 + leaf) (n + 1) (40 + v) ↔ onC cf (40 + leaf) n (40 + v) := by rw [hst]; exact ⟨fun h => h.resolve_right (by omega), Or.inl⟩
                    have s2 : onC cf (40 + leaf) (n + 1) v ↔ onC cf (40 + leaf) n v := by rw [hst]; exact ⟨fun h => h.resolve_right e, Or.inl⟩
                    rw [s1, s2, sD_pw]
                    simp only [e, decide_false, Bool.not_false, Bool.and_true]
                    exact ⟨l1, l2, l3⟩
                · intro v hv
                  obtain ⟨a1, a2⟩ := ha v hv
                  by_cases e : v = x
                  · subst e
                    exact ⟨fun _ h7 => absurd hcx4 h7, fun _ => a2 fun h8 => h8.2 hcx4⟩
                  · have s2 : onC cf (40 + leaf) (n + 1) v ↔ onC cf (40 + leaf) n v := by rw [hst]; exact ⟨fun h => h.resolve_right e, Or.inl⟩
                    rw [s2]
                    exact ⟨a1, a2⟩
              · have h5 : ¬ τ.1 11 0 (nI x).toNatClampNeg = nI x + nI 40 := h5
                rw [hfr, e40] at h5
                have hne : cf x ≠ some (40 + x) := fun e => h5 (by rw [e]; rfl)
                have layS : lay on onN cf (onC cf (40 + leaf) (n + 1)) := by
                  intro v hv
                  obtain ⟨l1, l2, l3⟩ := hl v hv
                  have s1 : onC cf (40 + leaf) (n + 1) (40 + v) ↔ onC cf (40 + leaf) n (40 + v) := by rw [hst]; exact ⟨fun h => h.resolve_right (by omega), Or.inl⟩
                  rw [s1]
                  by_cases e : v = x
                  · subst e
                    exact ⟨l1, fun _ h7 => absurd h7 hne, fun h6 _ => l3 h6 fun h8 => hne h8.2⟩
                  · have s2 : onC cf (40 + leaf) (n + 1) v ↔ onC cf (40 + leaf) n v := by rw [hst]; exact ⟨fun h => h.resolve_right e, Or.inl⟩
                    rw [s2]
                    exact ⟨l1, l2, l3⟩
                have layT : ∀ w, w = oN ((cf x).map fun z => z - 40) → layA (σ.1 13 0) (upd (τ.1 13 0) (nI x).toNatClampNeg w) cf (onC cf (40 + leaf) (n + 1)) := by
                  intro w hw9 v hv
                  obtain ⟨a1, a2⟩ := ha v hv
                  rw [nI_clamp (by omega), upd_at]
                  by_cases e : v = x
                  · subst e
                    rw [if_pos rfl]
                    exact ⟨fun _ _ => hw9, fun h8 => absurd ⟨(hst v).mpr (Or.inr rfl), hne⟩ h8⟩
                  · have s2 : onC cf (40 + leaf) (n + 1) v ↔ onC cf (40 + leaf) n v := by rw [hst]; exact ⟨fun h => h.resolve_right e, Or.inl⟩
                    rw [s2, if_neg e]
                    exact ⟨a1, a2⟩
                refine br_c (fun h6 => ?_) (fun h6 => ?_)
                · have h6 : τ.1 11 0 (nI x).toNatClampNeg = -(nI 1) := h6
                  rw [hfr] at h6
                  have hcn : cf x = none := oN_inj (p := none) hz80 (fun z e => by cases e) h6
                  refine And.intro (vp_in_nI (by omega) (by omega)) ?_
                  refine nxtS _ onN (off_wI ho (by omega) (by omega)) e11 ho4 e4 layS ?_
                  refine layT _ ?_
                  rw [hcn]; rfl
                · have h6 : ¬ τ.1 11 0 (nI x).toNatClampNeg = -(nI 1) := h6
                  rw [hfr] at h6
                  refine And.intro (vp_in_nI (by omega) (by omega)) ?_
                  refine nxtS _ onN (off_wI ho (by omega) (by omega)) e11 ho4 e4 layS ?_
                  refine layT _ ?_
                  show τ.1 11 0 (nI x).toNatClampNeg - nI 40 = _
                  rw [hfr]
                  cases hcz : cf x with
                  | none => rw [hcz] at h6; exact absurd rfl h6
                  | some z =>
                    have hr := (hpth.2.1 x z hPx hcz).2
                    have hz40 : 40 ≤ z := by
                      rcases hr with ⟨_, _, e⟩ | ⟨u, _, _, _, e⟩ | ⟨u, e, _⟩ | ⟨u, e, _, _, _⟩ <;> omega
                    show nI z - nI 40 = nI (z - 40)
                    exact pk_sub hz40
            · have h : ¬ nI x < nI 40 := h
              rw [nI_ltI (by omega) (by omega)] at h
              have e40 : nI x - nI 40 = nI (x - 40) := pk_sub (by omega)
              have layU : layA (σ.1 13 0) (τ.1 13 0) cf (onC cf (40 + leaf) (n + 1)) := by
                intro v hv
                have s2 : onC cf (40 + leaf) (n + 1) v ↔ onC cf (40 + leaf) n v := by rw [hst]; exact ⟨fun h => h.resolve_right (by omega), Or.inl⟩
                rw [s2]
                exact ha v hv
              refine br_c (fun h5 => ?_) (fun h5 => ?_)
              · have h5 : τ.1 11 0 (nI x).toNatClampNeg = nI x - nI 40 := h5
                have h5' := h5
                rw [hfr, e40] at h5'
                have hcx4 : cf x = some (x - 40) := oN_inj hz80 (fun z e => by have := Option.some.inj e; omega) h5'
                refine c_bit h1 (h5.trans e40) (by omega) ?_
                refine nxtS _ (onN ||| 2 ^ (x - 40)) (off_wJ ho (by omega) (by omega)) e11 (or_lt ho4 (pw_lt (by omega))) ?_ ?_ layU
                · show vp_updL (τ.2 10 0) 4 (τ.2 10 0 4 ||| lN (2 ^ (x - 40))) 4 = _
                  rw [updL_at, if_pos rfl, e4, fb_orL]
                · intro v hv
                  obtain ⟨l1, l2, l3⟩ := hl v hv
                  have s2 : onC cf (40 + leaf) (n + 1) v ↔ onC cf (40 + leaf) n v := by rw [hst]; exact ⟨fun h => h.resolve_right (by omega), Or.inl⟩
                  by_cases e : v = x - 40
                  · have ex : 40 + v = x := by omega
                    have hon2 : onC cf (40 + leaf) (n + 1) (40 + v) := (hst _).mpr (Or.inr ex)
                    have hcv : cf (40 + v) = some v := by rw [ex, hcx4, e]
                    refine ⟨fun _ _ => ?_, fun _ h7 => (asym v hon2 hcv h7).elim, fun h6 _ => absurd ⟨hon2, hcv⟩ h6⟩
                    rw [or_bit]; simp [e]
                  · have s1 : onC cf (40 + leaf) (n + 1) (40 + v) ↔ onC cf (40 + leaf) n (40 + v) := by rw [hst]; exact ⟨fun h => h.resolve_right (by omega), Or.inl⟩
                    rw [s1, s2, or_bit]
                    simp only [e, decide_false, Bool.or_false]
                    exact ⟨l1, l2, l3⟩
              · have h5 : ¬ τ.1 11 0 (nI x).toNatClampNeg = nI x - nI 40 := h5
                rw [hfr, e40] at h5
                refine nxtS τ onN ho e11 ho4 e4 ?_ layU
                intro v hv
                obtain ⟨l1, l2, l3⟩ := hl v hv
                have s2 : onC cf (40 + leaf) (n + 1) v ↔ onC cf (40 + leaf) n v := by rw [hst]; exact ⟨fun h => h.resolve_right (by omega), Or.inl⟩
                rw [s2]
                by_cases e : v = x - 40
                · have ex : 40 + v = x := by omega
                  have hcv : cf (40 + v) ≠ some v := fun h8 => h5 (by rw [ex] at h8; rw [h8, e]; rfl)
                  exact ⟨fun _ h8 => absurd h8 hcv, l2, fun _ h8 => l3 (fun h9 => hcv h9.2) h8⟩
                · have s1 : onC cf (40 + leaf) (n + 1) (40 + v) ↔ onC cf (40 + leaf) n (40 + v) := by rw [hst]; exact ⟨fun h => h.resolve_right (by omega), Or.inl⟩
                  rw [s1]
                  exact ⟨l1, l2, l3⟩
  exact gen 80 0 (by omega) σ on (off_refl _ _ _) rfl hon h4 (fun v hv => ⟨fun h => absurd h (by rintro ⟨k, hk, -⟩; omega), fun h => absurd h (by rintro ⟨k, hk, -⟩; omega), fun _ _ => rfl⟩) (fun v hv => ⟨fun h => absurd h (by rintro ⟨k, hk, -⟩; omega), fun _ => rfl⟩)
