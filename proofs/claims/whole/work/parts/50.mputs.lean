/-! the model's kept cuts: puts -/
def f8 (l : Nat → Nat) (P : Nat → Prop) (n : Nat) (kc : Nat → Nat) : Prop :=
  n ≤ 8 ∧ (∀ i, i < n → P (kc i)) ∧ (∀ i j, i < j → j < n → plc l (kc i) < plc l (kc j)) ∧ ∀ x, P x → (∃ i, i < n ∧ kc i = x) ∨ (n = 8 ∧ ∀ i, i < n → plc l (kc i) < plc l x)
theorem f8_kept {l : Nat → Nat} {M : Nat → Prop} {n : Nat} {kc : Nat → Nat} : f8 l (mn M) n kc ↔ isKept l M n kc := Iff.rfl
def insR (l : Nat → Nat) (n : Nat) (kc : Nat → Nat) (x n' : Nat) (kc' : Nat → Nat) : Prop :=
  ∃ p, p ≤ n ∧ (∀ i, i < p → plc l (kc i) ≤ plc l x) ∧ (∀ i, p ≤ i → i < n → plc l x < plc l (kc i)) ∧ ((p = 8 ∧ n' = n ∧ ∀ i, i < n → kc' i = kc i) ∨ (p < 8 ∧ n' = (if n < 8 then n + 1 else 8) ∧ ∀ i, i < n' → kc' i = if i < p then kc i else if i = p then x else kc (i - 1)))
theorem ins_f8 {l : Nat → Nat} {P : Nat → Prop} {n n' x : Nat} {kc kc' : Nat → Nat} (h : f8 l P n kc) (hne : ∀ y, P y → plc l y ≠ plc l x) (hi : insR l n kc x n' kc') : f8 l (fun y => P y ∨ y = x) n' kc' := by
  obtain ⟨a1, a2, a3, a4⟩ := h
  obtain ⟨p, p1, p2, p3, p4⟩ := hi
  have p2 : ∀ i, i < p → plc l (kc i) < plc l x := fun i hi => Nat.lt_of_le_of_ne (p2 i hi) (hne _ (a2 i (by omega)))
  rcases p4 with ⟨e1, e2, e3⟩ | ⟨e1, e2, e3⟩
  · have e8 : n = 8 := by omega
    rw [e2]
    refine ⟨a1, fun i hi => ?_, fun i j hi hj => ?_, fun y hy => ?_⟩
    · rw [e3 i hi]; exact Or.inl (a2 i hi)
    · rw [e3 i (by omega), e3 j hj]; exact a3 i j hi hj
    · rcases hy with hy | hy
      · rcases a4 y hy with ⟨i, hi, e⟩ | ⟨q1, q2⟩
        · exact Or.inl ⟨i, hi, by rw [e3 i hi]; exact e⟩
        · exact Or.inr ⟨q1, fun i hi => by rw [e3 i hi]; exact q2 i hi⟩
      · refine Or.inr ⟨e8, fun i hi => ?_⟩
        rw [e3 i hi, hy]; exact p2 i (by omega)
  · have hn' : n' ≤ 8 ∧ n' ≤ n + 1 ∧ p < n' ∧ (n < 8 → n' = n + 1) ∧ (¬ n < 8 → n' = 8 ∧ n = 8) := by
      rw [e2]
      split <;> omega
    obtain ⟨n1, n2, n3, n4, n5⟩ := hn'
    have kv : ∀ i, i < n' → (i < p ∧ kc' i = kc i) ∨ (i = p ∧ kc' i = x) ∨ (p < i ∧ kc' i = kc (i - 1)) := by
      intro i hi
      rw [e3 i hi]
      by_cases q : i < p
      · rw [if_pos q]; exact Or.inl ⟨q, rfl⟩
      · rw [if_neg q]
        by_cases q2 : i = p
        · rw [if_pos q2]; exact Or.inr (Or.inl ⟨q2, rfl⟩)
        · rw [if_neg q2]; exact Or.inr (Or.inr ⟨by omega, rfl⟩)
    refine ⟨n1, fun i hi => ?_, fun i j hi hj => ?_, fun y hy => ?_⟩
    · rcases kv i hi with ⟨q, e⟩ | ⟨q, e⟩ | ⟨q, e⟩
      · rw [e]; exact Or.inl (a2 i (by omega))
      · exact Or.inr e
      · rw [e]; exact Or.inl (a2 (i - 1) (by omega))
    · rcases kv i (by omega) with ⟨q, e⟩ | ⟨q, e⟩ | ⟨q, e⟩
      · rcases kv j hj with ⟨r, f⟩ | ⟨r, f⟩ | ⟨r, f⟩
        · rw [e, f]; exact a3 i j hi (by omega)
        · rw [e, f]; exact p2 i q
        · rw [e, f]; exact a3 i (j - 1) (by omega) (by omega)
      · rcases kv j hj with ⟨r, f⟩ | ⟨r, f⟩ | ⟨r, f⟩
        · omega
        · omega
        · rw [e, f]; exact p3 (j - 1) (by omega) (by omega)
      · rcases kv j hj with ⟨r, f⟩ | ⟨r, f⟩ | ⟨r, f⟩
        · omega
        · omega
        · rw [e, f]; exact a3 (i - 1) (j - 1) (by omega) (by omega)
    · -- all of them are before one that falls out
      have before : ∀ y, ¬ n < 8 → (∀ i, i < 7 → plc l (kc i) < plc l y) → plc l x < plc l y → n' = 8 ∧ ∀ i, i < n' → plc l (kc' i) < plc l y := by
        intro y q1 q2 q3
        refine ⟨(n5 q1).1, fun i hi => ?_⟩
        rcases kv i hi with ⟨q, e⟩ | ⟨q, e⟩ | ⟨q, e⟩
        · rw [e]; exact q2 i (by omega)
        · rw [e]; exact q3
        · rw [e]; exact q2 (i - 1) (by omega)
      rcases hy with hy | hy
      · rcases a4 y hy with ⟨i, hi, e⟩ | ⟨q1, q2⟩
        · by_cases q : i < p
          · refine Or.inl ⟨i, by omega, ?_⟩
            rw [e3 i (by omega), if_pos q]; exact e
          · by_cases q3 : i + 1 < n'
            · refine Or.inl ⟨i + 1, q3, ?_⟩
              rw [e3 (i + 1) q3, if_neg (by omega), if_neg (by omega)]
              exact e
            · have hn8 : ¬ n < 8 := fun q4 => by have := n4 q4; omega
              have hi7 : i = 7 := by have := n5 hn8; omega
              refine Or.inr (before y hn8 (fun j hj => ?_) ?_)
              · rw [← e]; exact a3 j i (by omega) hi
              · rw [← e]; exact p3 i (by omega) hi
        · refine Or.inr (before y (by omega) (fun j hj => q2 j (by omega)) ?_)
          exact Nat.lt_trans (p3 7 (by omega) (by omega)) (q2 7 (by omega))
      · refine Or.inl ⟨p, n3, ?_⟩
        rw [e3 p n3, if_neg (by omega), if_pos rfl, hy]
abbrev ct_puts (C : jm_C) : Prop := ∀ (N : nw) (g x n : Nat) (kc l : Nat → Nat) (σ : jm_G) (post : Option jm_V → jm_G → Prop), nw_ok N → mN N σ → g < nN N → n ≤ 8 → x < 2 ^ 40 → cnt x 40 ≤ 6 → (∀ c, c < n → kc c < 2 ^ 40 ∧ cnt (kc c) 40 ≤ 6) → (∀ j, (x.testBit j = true ∨ ∃ c, c < n ∧ (kc c).testBit j = true) → j < nN N ∧ σ.1 44 0 j = nI (l j) ∧ l j < 100) → (∀ i j, i < j → j < n → plc l (kc i) < plc l (kc j)) → (∀ c, c < n → σ.2 50 0 (8 * g + c) = lN (kc c)) →
  (∀ σ' n' kc', mf [50] [] σ σ' → (∀ j, (j < 8 * g ∨ 8 * g + 8 ≤ j) → σ'.2 50 0 j = σ.2 50 0 j) → (∀ c, c < n' → σ'.2 50 0 (8 * g + c) = lN (kc' c)) → insR l n kc x n' kc' → post (some (jI (nI n'))) σ') → C kX10_puts [jR 38 0, jI (nI g), jJ (lN x), jI (nI n)] σ post
theorem T_puts (L : Nat) {C : jm_C} (hC : jm_mon C) (h1 : ct_ahead C) : ct_puts (jm_up L C) := by
  intro N g x n kc l σ post hok hN hgn hn hx hx6 hkc hl hso h50 hp
  refine jm_start rfl (Nat.le_of_ble_eq_true rfl) hC fun X hg hw => ?_
  have h40 := hok.1
  refine hg [4, 67] 30 _ ?_
  show X (σ, 4, [some (jR 38 0), some (jI (nI g)), some (jJ (lN x)), none, some (jI (nI n)), some (jI (nI n)), none, none], [])
  -- the place is found
  have put : ∀ p, p ≤ n → p < 8 → (∀ i, i < p → plc l (kc i) ≤ plc l x) → (∀ i, p ≤ i → i < n → plc l x < plc l (kc i)) → ∀ (last : Nat), last = (if n < 8 then n else 7) → ∀ (d k : Nat), p + d = k → k ≤ last → ∀ (τ : jm_G), mf [50] [] σ τ → (∀ j, (j < 8 * g ∨ 8 * g + 8 ≤ j) → τ.2 50 0 j = σ.2 50 0 j) → (∀ c, c ≤ k → c < n → τ.2 50 0 (8 * g + c) = lN (kc c)) → (∀ c, k < c → c ≤ last → τ.2 50 0 (8 * g + c) = lN (kc (c - 1))) →
      X (τ, 67, [some (jR 38 0), some (jI (nI g)), some (jJ (lN x)), none, some (jI (nI n)), some (jI (nI p)), some (jI (nI last)), some (jI (nI k))], []) := by
    intro p hp1 hp8 hp2 hp3 last hlast d
    have hl7 : last ≤ 7 := by rw [hlast]; split <;> omega
    induction d with
    | zero =>
      intro k hkd hkl τ q1 q2 q3 q4
      have e : k = p := by omega
      subst e
      have e8 : nI 8 * nI g + nI k = nI (8 * g + k) := by rw [pk_mul, nI_add]
      have fin : ∀ n', n' = (if n < 8 then n + 1 else 8) → post (some (jI (nI n'))) (wJ τ 50 0 (vp_updL (τ.2 50 0) (nI 8 * nI g + nI k).toNatClampNeg (lN x))) := by
        intro n' hn'
        have hn2 : n' = last + 1 := by rw [hn', hlast]; split <;> omega
        rw [e8, nI_clamp (by omega)]
        refine hp _ n' (fun i => if i < k then kc i else if i = k then x else kc (i - 1)) (mf_wJ q1 (by decide) (by decide)) (fun j hj => ?_) (fun c hc => ?_) ⟨k, hp1, hp2, hp3, Or.inr ⟨hp8, hn', fun i _ => rfl⟩⟩
        · rw [wJ2, if_pos ⟨rfl, rfl⟩, updL_at, if_neg (by omega)]; exact q2 j hj
        · rw [wJ2, if_pos ⟨rfl, rfl⟩, updL_at]
          by_cases e1 : c < k
          · rw [if_neg (by omega), if_pos e1]; exact q3 c (by omega) (by omega)
          · rw [if_neg e1]
            by_cases e2 : c = k
            · rw [if_pos (by omega), if_pos e2]
            · rw [if_neg (by omega), if_neg e2]; exact q4 c (by omega) (by omega)
      refine hg [67] 60 _ ?_
      refine br_c (fun _ => ?_) (fun h => ?_)
      · refine And.intro (show vp_in (nI 8 * nI g + nI k) 320 by rw [e8]; exact vp_in_nI (by omega) (by omega)) ?_
        refine br_c (fun h => ?_) (fun h => ?_)
        · have h : nI 8 ≤ nI n := h
          rw [nI_leI (by omega) (by omega)] at h
          refine And.intro trivial (fin n ?_)
          rw [if_neg (by omega)]; omega
        · have h : ¬ nI 8 ≤ nI n := h
          rw [nI_leI (by omega) (by omega)] at h
          refine And.intro trivial ?_
          have := fin (n + 1) (by rw [if_pos (by omega)])
          rw [← nI_add] at this
          exact this
      · have h : ¬ nI k ≤ nI k := h
        rw [nI_leI (by omega) (by omega)] at h
        omega
    | succ d ih =>
      intro k hkd hkl τ q1 q2 q3 q4
      have e8 : nI 8 * nI g + nI k = nI (8 * g + k) := by rw [pk_mul, nI_add]
      have e8' : nI 8 * nI g + nI k - nI 1 = nI (8 * g + (k - 1)) := by rw [e8, pk_sub (by omega), show 8 * g + k - 1 = 8 * g + (k - 1) by omega]
      have hln : last ≤ n := by rw [hlast]; split <;> omega
      refine hg [67] 60 _ ?_
      refine br_c (fun h => ?_) (fun _ => ?_)
      · have h : nI k ≤ nI p := h
        rw [nI_leI (by omega) (by omega)] at h
        omega
      · refine And.intro (show vp_in (nI 8 * nI g + nI k - nI 1) 320 by rw [e8']; exact vp_in_nI (by omega) (by omega)) ?_
        refine And.intro (show vp_in (nI 8 * nI g + nI k) 320 by rw [e8]; exact vp_in_nI (by omega) (by omega)) ?_
        show X (wJ τ 50 0 (vp_updL (τ.2 50 0) (nI 8 * nI g + nI k).toNatClampNeg (τ.2 50 0 (nI 8 * nI g + nI k - nI 1).toNatClampNeg)), 67, [some (jR 38 0), some (jI (nI g)), some (jJ (lN x)), none, some (jI (nI n)), some (jI (nI p)), some (jI (nI last)), some (jI (nI k + -(nI 1)))], [])
        rw [e8', e8, nI_clamp (by omega), nI_clamp (by omega), q3 (k - 1) (by omega) (by omega), show nI k = nI ((k - 1) + 1) by rw [show k - 1 + 1 = k by omega], nI_m1]
        refine ih (k - 1) (by omega) (by omega) _ (mf_wJ q1 (by decide) (by decide)) (fun j hj => ?_) (fun c h1 h2 => ?_) (fun c h1 h2 => ?_)
        · rw [wJ2, if_pos ⟨rfl, rfl⟩, updL_at, if_neg (by omega)]; exact q2 j hj
        · rw [wJ2, if_pos ⟨rfl, rfl⟩, updL_at, if_neg (by omega)]; exact q3 c (by omega) h2
        · rw [wJ2, if_pos ⟨rfl, rfl⟩, updL_at]
          by_cases e : c = k
          · rw [if_pos (by omega), e]
          · rw [if_neg (by omega)]; exact q4 c (by omega) h2
  -- from the place on
  have go : ∀ p, p ≤ n → p < 8 → (∀ i, i < p → plc l (kc i) ≤ plc l x) → (∀ i, p ≤ i → i < n → plc l x < plc l (kc i)) → ∀ (last : Nat), last = (if n < 8 then n else 7) → X (σ, 67, [some (jR 38 0), some (jI (nI g)), some (jJ (lN x)), none, some (jI (nI n)), some (jI (nI p)), some (jI (nI last)), some (jI (nI last))], []) := by
    intro p q1 q2 q3 q4 last hlast
    have hpl : p ≤ last := by rw [hlast]; split <;> omega
    refine put p q1 q2 q3 q4 last hlast (last - p) last (by omega) (Nat.le_refl _) σ (mf_refl _ _ _) (fun _ _ => rfl) (fun c _ hc => h50 c hc) (fun c h1 h2 => by omega)
  have gen : ∀ (p : Nat), p ≤ n → (∀ i, p ≤ i → i < n → plc l x < plc l (kc i)) → X (σ, 4, [some (jR 38 0), some (jI (nI g)), some (jJ (lN x)), none, some (jI (nI n)), some (jI (nI p)), none, none], []) := by
    intro p
    induction p with
    | zero =>
      intro hp1 hp3
      refine hg [4, 67] 60 _ ?_
      refine br_c (fun _ => ?_) (fun h => absurd (show nI 0 ≤ nI 0 from (nI_leI (by omega) (by omega)).mpr (Nat.le_refl _)) h)
      refine br_c (fun h => ?_) (fun _ => ?_)
      · have h : nI 0 = nI 8 := h
        rw [nI_eq (by omega) (by omega)] at h
        omega
      · refine br_c (fun h => ?_) (fun h => ?_)
        · have h : nI 8 ≤ nI n := h
          rw [nI_leI (by omega) (by omega)] at h
          exact go 0 hp1 (by omega) (fun i hi => absurd hi (by omega)) hp3 7 (by rw [if_neg (by omega)])
        · have h : ¬ nI 8 ≤ nI n := h
          rw [nI_leI (by omega) (by omega)] at h
          exact go 0 hp1 (by omega) (fun i hi => absurd hi (by omega)) hp3 n (by rw [if_pos (by omega)])
    | succ p ih =>
      intro hp1 hp3
      have e8' : nI 8 * nI g + nI (p + 1) - nI 1 = nI (8 * g + p) := by rw [pk_mul, nI_add, pk_sub (by omega), show 8 * g + (p + 1) - 1 = 8 * g + p by omega]
      have ev : σ.2 50 0 (nI 8 * nI g + nI (p + 1) - nI 1).toNatClampNeg = lN (kc p) := by rw [e8', nI_clamp (by omega)]; exact h50 p (by omega)
      refine hg [4, 67] 80 _ ?_
      refine br_c (fun h => ?_) (fun _ => ?_)
      · have h : nI (p + 1) ≤ 0 := h
        rw [pos_0 (by omega)] at h
        omega
      · refine And.intro (show vp_in (nI 8 * nI g + nI (p + 1) - nI 1) 320 by rw [e8']; exact vp_in_nI (by omega) (by omega)) ?_
        have call : ∀ {post' : Option jm_V → jm_G → Prop}, (∀ v υ, post' v υ → post' v υ) → C kX10_isAhead [jR 38 0, jJ (lN x), jJ (lN (kc p))] σ post' → C kX10_isAhead [jR 38 0, jJ (lN x), jJ (σ.2 50 0 (nI 8 * nI g + nI (p + 1) - nI 1).toNatClampNeg)] σ post' := fun _ h => by rw [ev]; exact h
        refine call (fun _ _ h => h) ?_
        obtain ⟨k1, k2⟩ := hkc p (by omega)
        refine h1 N x (kc p) l σ _ hok hN hx k1 hx6 k2 (fun j hj => hl j (hj.elim Or.inl fun q => Or.inr ⟨p, by omega, q⟩)) ?_
        refine br_c (fun h => ?_) (fun h => ?_)
        · have h := bI_0.mp h
          have h := of_decide_eq_false h
          have hall : ∀ i, i < p + 1 → plc l (kc i) ≤ plc l x := fun i hi => by
            by_cases e : i = p
            · rw [e]; omega
            · have := hso i p (by omega) (by omega); omega
          refine br_c (fun h5 => ?_) (fun h5 => ?_)
          · have h5 : nI (p + 1) = nI 8 := h5
            rw [nI_eq (by omega) (by omega)] at h5
            refine And.intro trivial (hp σ n kc (mf_refl _ _ _) (fun _ _ => rfl) h50 ⟨8, by omega, fun i hi => hall i (by omega), fun i q1 q2 => by omega, Or.inl ⟨rfl, rfl, fun _ _ => rfl⟩⟩)
          · have h5 : ¬ nI (p + 1) = nI 8 := h5
            rw [nI_eq (by omega) (by omega)] at h5
            refine br_c (fun h6 => ?_) (fun h6 => ?_)
            · have h6 : nI 8 ≤ nI n := h6
              rw [nI_leI (by omega) (by omega)] at h6
              exact go (p + 1) hp1 (by omega) hall hp3 7 (by rw [if_neg (by omega)])
            · have h6 : ¬ nI 8 ≤ nI n := h6
              rw [nI_leI (by omega) (by omega)] at h6
              exact go (p + 1) hp1 (by omega) hall hp3 n (by rw [if_pos (by omega)])
        · have h := bI_n0.mp h
          have h := of_decide_eq_true h
          show X (σ, 4, [some (jR 38 0), some (jI (nI g)), some (jJ (lN x)), none, some (jI (nI n)), some (jI (nI (p + 1) + -(nI 1))), none, none], [])
          rw [nI_m1]
          refine ih (by omega) fun i q1 q2 => ?_
          by_cases e : i = p
          · rw [e]; exact h
          · exact hp3 i (by omega) q2
  exact gen n (Nat.le_refl _) fun i q1 q2 => by omega
