/-! KEPT CUTS, gate by gate -/
def chN (N : nw) (g : Nat) (kp : Nat → Nat × (Nat → Nat)) (p : Nat) : Nat := if p < ar (nK N g) then 1 + (kp (nR N g p)).1 else 1
def chC (N : nw) (g : Nat) (kp : Nat → Nat × (Nat → Nat)) (p i : Nat) : Nat := if p < ar (nK N g) then (if i = 0 then 2 ^ nR N g p else (kp (nR N g p)).2 (i - 1)) else 0
def cand (N : nw) (K g : Nat) (kp : Nat → Nat × (Nat → Nat)) (x : Nat) : Prop := x = nea N K g ∨ (cnt x 40 ≤ K ∧ ∃ a b c, a < chN N g kp 0 ∧ b < chN N g kp 1 ∧ c < chN N g kp 2 ∧ x = chC N g kp 0 a ||| chC N g kp 1 b ||| chC N g kp 2 c)
noncomputable def keep (l : Nat → Nat) (M : Nat → Prop) : Nat × (Nat → Nat) := @dite _ (∃ p : Nat × (Nat → Nat), isKept l M p.1 p.2) (Classical.propDecidable _) (fun h => Classical.choose h) (fun _ => (0, fun _ => 0))
theorem keep_eq {l : Nat → Nat} {M : Nat → Prop} {n : Nat} {kc : Nat → Nat} (h : isKept l M n kc) : (keep l M).1 = n ∧ ∀ i, i < n → (keep l M).2 i = kc i := by
  have hex : ∃ p : Nat × (Nat → Nat), isKept l M p.1 p.2 := ⟨(n, kc), h⟩
  unfold keep
  rw [dif_pos hex]
  obtain ⟨h1, h2⟩ := kept_one (Classical.choose_spec hex) h
  exact ⟨h1, fun i hi => h2 i (by omega)⟩
theorem keep_in {l : Nat → Nat} {M : Nat → Prop} : (keep l M).1 ≤ 8 ∧ ∀ i, i < (keep l M).1 → M ((keep l M).2 i) := by
  by_cases h : ∃ p : Nat × (Nat → Nat), isKept l M p.1 p.2
  · obtain ⟨⟨n, kc⟩, hk⟩ := h
    obtain ⟨h1, h2⟩ := keep_eq hk
    rw [h1]
    refine ⟨hk.1, fun i hi => ?_⟩
    rw [h2 i hi]
    exact (hk.2.1 i hi).1
  · have e : keep l M = (0, fun _ => 0) := by unfold keep; rw [dif_neg h]
    rw [e]
    exact ⟨by omega, fun i hi => absurd hi (Nat.not_lt_zero _)⟩
noncomputable def kpT (N : nw) (K : Nat) : Nat → Nat → Nat × (Nat → Nat)
  | 0 => fun _ => (0, fun _ => 0)
  | n + 1 => fun i => if i = n then (if isG N n then keep (lev N K) (cand N K n (kpT N K n)) else (0, fun _ => 0)) else kpT N K n i
noncomputable def kp (N : nw) (K i : Nat) : Nat × (Nat → Nat) := kpT N K (i + 1) i
theorem kpT_lt (N : nw) (K : Nat) : ∀ (n i : Nat), i < n → kpT N K n i = kp N K i
  | 0, i, h => absurd h (by omega)
  | n + 1, i, h => by
    by_cases e : i = n
    · subst e; rfl
    · show (if i = n then _ else kpT N K n i) = _
      rw [if_neg e]
      exact kpT_lt N K n i (by omega)
theorem nR_lt {N : nw} (hok : nw_ok N) {g p : Nat} (hg : isG N g = true) (hp : p < ar (nK N g)) : nR N g p < g := by
  apply sM_lt hok (i := g)
  rw [sM_bit, hg]
  simp
  exact ⟨p, hp, rfl⟩
theorem nR_src {N : nw} {g p : Nat} (hg : isG N g = true) (hp : p < ar (nK N g)) : (sM N g).testBit (nR N g p) = true := by
  rw [sM_bit, hg]
  simp
  exact ⟨p, hp, rfl⟩
theorem chN_cong {N : nw} (hok : nw_ok N) {g : Nat} {k1 k2 : Nat → Nat × (Nat → Nat)} (hg : isG N g = true) (h : ∀ s, s < g → k1 s = k2 s) (p : Nat) : chN N g k1 p = chN N g k2 p := by
  unfold chN
  split
  · rename_i q; rw [h _ (nR_lt hok hg q)]
  · rfl
theorem chC_cong {N : nw} (hok : nw_ok N) {g : Nat} {k1 k2 : Nat → Nat × (Nat → Nat)} (hg : isG N g = true) (h : ∀ s, s < g → k1 s = k2 s) (p i : Nat) : chC N g k1 p i = chC N g k2 p i := by
  unfold chC
  split
  · rename_i q; rw [h _ (nR_lt hok hg q)]
  · rfl
theorem kp_leaf {N : nw} {K i : Nat} (h : isG N i = false) : kp N K i = (0, fun _ => 0) := by
  show (if i = i then (if isG N i then _ else _) else _) = _
  rw [if_pos rfl, h]
  rfl
theorem kp_gate {N : nw} {K i : Nat} (hok : nw_ok N) (h : isG N i = true) : kp N K i = keep (lev N K) (cand N K i (kp N K)) := by
  show (if i = i then (if isG N i then _ else _) else _) = _
  rw [if_pos rfl, h, if_pos rfl]
  congr 1
  funext x
  have hc := kpT_lt N K i
  unfold cand
  simp only [chN_cong hok h hc, chC_cong hok h hc]
theorem kp_le {N : nw} {K i : Nat} (hok : nw_ok N) : (kp N K i).1 ≤ 8 := by
  cases h : isG N i with
  | false => rw [kp_leaf h]; exact Nat.zero_le _
  | true => rw [kp_gate hok h]; exact keep_in.1
/-- the near cuts of the gates below a number are what they should be -/
def nOK (N : nw) (K n : Nat) : Prop := ∀ g, g < n → isG N g = true → nearC N g (Cm N (lev N K) g (lev N K g)) (nea N K g) ∧ cnt (nea N K g) 40 ≤ K
/-- what is so of every cut that can be kept -/
def cOK (K g x : Nat) : Prop := x < 2 ^ 40 ∧ cnt x 40 ≤ K ∧ (∀ j, x.testBit j = true → j < g) ∧ ∃ j, x.testBit j = true
theorem cand_ok {N : nw} {K g : Nat} (hok : nw_ok N) (hg : isG N g = true) (hn : nOK N K (g + 1)) (ih : ∀ s, s < g → ∀ i, i < (kp N K s).1 → cOK K s ((kp N K s).2 i)) {x : Nat} (hx : cand N K g (kp N K) x) : cOK K g x := by
  have h40 := isG_lt hg
  have hn40 := hok.1
  rcases hx with e | ⟨h1, a, b, c, ha, hb, hc, e⟩
  · subst e
    obtain ⟨q1, q2⟩ := hn g (by omega) hg
    exact ⟨Sep_lt hok q1.1, q2, fun j hj => nB_lt hok _ _ (q1.1.1 j hj), Sep_ne hok hg q1.1⟩
  · have part : ∀ p i, i < chN N g (kp N K) p → ∀ j, (chC N g (kp N K) p i).testBit j = true → j < g := by
      intro p i hi j hj
      unfold chN at hi
      unfold chC at hj
      by_cases hp : p < ar (nK N g)
      · rw [if_pos hp] at hi hj
        have hs := nR_lt hok hg hp
        by_cases h0 : i = 0
        · rw [if_pos h0, Nat.testBit_two_pow, decide_eq_true_eq] at hj
          omega
        · rw [if_neg h0] at hj
          have := (ih _ hs (i - 1) (by omega)).2.2.1 j hj
          omega
      · rw [if_neg hp, Nat.zero_testBit] at hj
        cases hj
    have hlt : ∀ j, x.testBit j = true → j < g := by
      intro j hj
      rw [e, Nat.testBit_or, Nat.testBit_or, Bool.or_eq_true, Bool.or_eq_true] at hj
      rcases hj with (h | h) | h
      · exact part 0 a ha j h
      · exact part 1 b hb j h
      · exact part 2 c hc j h
    refine ⟨set_lt fun j hj => ?_, h1, hlt, ?_⟩
    · cases h : x.testBit j with
      | false => rfl
      | true => have := hlt j h; omega
    · have har := ar_pos (nK N g)
      have hp : 0 < ar (nK N g) := by omega
      have : ∃ j, (chC N g (kp N K) 0 a).testBit j = true := by
        unfold chN at ha
        unfold chC
        rw [if_pos hp] at ha ⊢
        by_cases h0 : a = 0
        · rw [if_pos h0]
          exact ⟨nR N g 0, by rw [Nat.testBit_two_pow]; simp⟩
        · rw [if_neg h0]
          exact (ih _ (nR_lt hok hg hp) (a - 1) (by omega)).2.2.2
      obtain ⟨j, hj⟩ := this
      exact ⟨j, by rw [e, Nat.testBit_or, Nat.testBit_or, hj]; rfl⟩
theorem kp_ok {N : nw} {K n : Nat} (hok : nw_ok N) (hn : nOK N K n) : ∀ s, s < n → ∀ i, i < (kp N K s).1 → cOK K s ((kp N K s).2 i) := by
  intro s
  induction s using Nat.strongRecOn with
  | ind s ih =>
    intro hs i hi
    cases h : isG N s with
    | false => rw [kp_leaf h] at hi; exact absurd hi (Nat.not_lt_zero _)
    | true =>
      have hk := kp_gate (K := K) hok h
      have hin := (keep_in (l := lev N K) (M := cand N K s (kp N K))).2
      rw [← hk] at hin
      exact cand_ok hok h (fun g hg => hn g (by omega)) (fun t ht => ih t ht (by omega)) (hin i hi)
/-- taking the first in ROW and dropping all with its nodes, over and over -/
def tkI (l : Nat → Nat) (M : Nat → Prop) (t : Nat) (kc : Nat → Nat) (n : Nat) (R : Nat → Nat) : Prop :=
  (∀ i, i < t → mn M (kc i)) ∧ (∀ i j, i < j → j < t → plc l (kc i) < plc l (kc j)) ∧ (∀ j, j < n → M (R j) ∧ ∀ i, i < t → ¬ sub (kc i) (R j) ∧ plc l (kc i) < plc l (R j)) ∧ ∀ x, M x → (∀ i, i < t → ¬ sub (kc i) x) → ∃ j, j < n ∧ R j = x
theorem sub_refl (a : Nat) : sub a a := fun _ h => h
theorem sub_anti {a b : Nat} (h1 : sub a b) (h2 : sub b a) : a = b := set_eq fun i => by
  cases ha : a.testBit i with
  | true => exact (h1 i ha).symm
  | false =>
    cases hb : b.testBit i with
    | true => have := h2 i hb; rw [ha] at this; cases this
    | false => rfl
theorem tkI_step {l : Nat → Nat} {M : Nat → Prop} {t n n' f : Nat} {kc R R' : Nat → Nat} (hM : ∀ x, M x → x < 2 ^ 40 ∧ cnt x 40 ≤ 6) (h : tkI l M t kc n R) (hf : f < n) (hmin : ∀ i, i < n → plc l (R f) ≤ plc l (R i)) (hd : dropped n R (R f) n' R') : tkI l M (t + 1) (add1 t kc (R f)) n' R' := by
  obtain ⟨h1, h2, h3, h4⟩ := h
  obtain ⟨hMf, hff⟩ := h3 f hf
  refine ⟨fun i hi => ?_, fun i j hi hj => ?_, fun j hj => ?_, fun x hx hno => ?_⟩
  · by_cases e : i = t
    · rw [e, add1_q]
      refine ⟨hMf, fun y hy hs => ?_⟩
      apply Classical.byContradiction
      intro hne
      have hlt := plc_sub (l := l) (hM y hy).1 (hM _ hMf).1 (hM y hy).2 (hM _ hMf).2 hs hne
      by_cases hq : ∀ i, i < t → ¬ sub (kc i) y
      · obtain ⟨j, hj, e2⟩ := h4 y hy hq
        have := hmin j hj
        rw [e2] at this
        omega
      · apply hq
        intro i hi hs2
        exact (hff i hi).1 fun k hk => hs k (hs2 k hk)
    · rw [add1_lt (by omega)]; exact h1 i (by omega)
  · by_cases e : j = t
    · rw [e, add1_q, add1_lt (by omega)]; exact (hff i (by omega)).2
    · rw [add1_lt (by omega), add1_lt (by omega)]; exact h2 i j hi (by omega)
  · obtain ⟨k, hk, e, hs⟩ := hd.1 j hj
    rw [e]
    refine ⟨(h3 k hk).1, fun i hi => ?_⟩
    by_cases e2 : i = t
    · rw [e2, add1_q]
      refine ⟨hs, ?_⟩
      rcases Nat.lt_or_ge (plc l (R f)) (plc l (R k)) with q | q
      · exact q
      · have e3 : plc l (R f) = plc l (R k) := Nat.le_antisymm (hmin k hk) q
        have hk2 := hM _ (h3 k hk).1
        have := plc_inj (hM _ hMf).1 hk2.1 (hM _ hMf).2 hk2.2 e3
        rw [this] at hs
        exact absurd (sub_refl _) hs
    · rw [add1_lt (by omega)]; exact (h3 k hk).2 i (by omega)
  · obtain ⟨k, hk, e⟩ := h4 x hx (fun i hi => by have := hno i (by omega); rw [add1_lt hi] at this; exact this)
    have ht := hno t (by omega)
    rw [add1_q, ← e] at ht
    obtain ⟨j, hj, e2⟩ := hd.2 k hk ht
    exact ⟨j, hj, by rw [e2, e]⟩
theorem tkI_end {l : Nat → Nat} {M : Nat → Prop} {t n : Nat} {kc R : Nat → Nat} (h : tkI l M t kc n R) (ht : t ≤ 8) (he : n = 0 ∨ t = 8) : isKept l M t kc := by
  obtain ⟨h1, h2, h3, h4⟩ := h
  refine ⟨ht, h1, h2, fun x hx => ?_⟩
  by_cases hq : ∃ i, i < t ∧ kc i = x
  · exact Or.inl hq
  · obtain ⟨j, hj, e⟩ := h4 x hx.1 (fun i hi hs => hq ⟨i, hi, hx.2 _ (h1 i hi).1 hs⟩)
    rcases he with e0 | e8
    · omega
    · refine Or.inr ⟨e8, fun i hi => ?_⟩
      have := ((h3 j hj).2 i hi).2
      rw [e] at this
      exact this
theorem tkI_0 {l : Nat → Nat} {M : Nat → Prop} {n : Nat} {R : Nat → Nat} (h1 : ∀ j, j < n → M (R j)) (h2 : ∀ x, M x → ∃ j, j < n ∧ R j = x) : tkI l M 0 (fun _ => 0) n R :=
  ⟨fun i hi => absurd hi (by omega), fun i j _ hj => absurd hj (by omega), fun j hj => ⟨h1 j hj, fun i hi => absurd hi (by omega)⟩, fun x hx _ => h2 x hx⟩
