/-! ROW and KEPT CUTS, as the document says them -/
/-- the nodes of a cut as digits, from below; m: how many places are left to look at, r: how many digits -/
def dg (c : Nat) : Nat → Nat → Nat
  | 0, _ => 0
  | m + 1, r => if c.testBit (39 - m) then (match r with
    | 0 => 0
    | r + 1 => (39 - m) * 64 ^ r + dg c m r) else dg c m r
def cu (c : Nat) : Nat → Nat
  | 0 => 0
  | m + 1 => cu c m + (c.testBit (39 - m)).toNat
theorem cu_cnt (c : Nat) : ∀ m, m ≤ 40 → cu c m + cnt c (40 - m) = cnt c 40
  | 0, _ => by show 0 + _ = _; rw [Nat.zero_add]
  | m + 1, h => by
    have ih := cu_cnt c m (by omega)
    rw [show 40 - m = (40 - (m + 1)) + 1 by omega, cnt_succ] at ih
    rw [cu, show 39 - m = 40 - (m + 1) by omega]
    omega
theorem dg_t {c m : Nat} (r : Nat) (h : c.testBit (39 - m) = true) : dg c (m + 1) (r + 1) = (39 - m) * 64 ^ r + dg c m r := by
  show (if c.testBit (39 - m) then (39 - m) * 64 ^ r + dg c m r else dg c m (r + 1)) = _
  rw [if_pos h]
theorem dg_t0 {c m : Nat} (h : c.testBit (39 - m) = true) : dg c (m + 1) 0 = 0 := by
  show (if c.testBit (39 - m) then 0 else dg c m 0) = _
  rw [if_pos h]
theorem dg_f {c m : Nat} (r : Nat) (h : c.testBit (39 - m) = false) : dg c (m + 1) r = dg c m r := by
  cases r with
  | zero =>
    show (if c.testBit (39 - m) then 0 else dg c m 0) = _
    rw [if_neg (by rw [h]; exact fun q => by cases q)]
  | succ r =>
    show (if c.testBit (39 - m) then (39 - m) * 64 ^ r + dg c m r else dg c m (r + 1)) = _
    rw [if_neg (by rw [h]; exact fun q => by cases q)]
theorem dg_lt (c : Nat) : ∀ m, m ≤ 40 → ∀ r, dg c m r < 64 ^ r
  | 0, _, r => Nat.pow_pos (by omega)
  | m + 1, hm, r => by
    cases h : c.testBit (39 - m) with
    | true =>
      cases r with
      | zero => rw [dg_t0 h]; exact Nat.pow_pos (by omega)
      | succ r =>
        have ih := dg_lt c m (by omega) r
        rw [dg_t r h]
        have h1 : (39 - m) * 64 ^ r ≤ 39 * 64 ^ r := Nat.mul_le_mul_right _ (by omega)
        rw [Nat.pow_succ]
        omega
    | false => rw [dg_f r h]; exact dg_lt c m (by omega) r
theorem dg_ge (c : Nat) : ∀ m, m ≤ 40 → ∀ r, (∃ i, 40 - m ≤ i ∧ i < 40 ∧ c.testBit i = true) → (40 - m) * 64 ^ r ≤ dg c m (r + 1)
  | 0, _, r, ⟨i, h1, h2, _⟩ => absurd h1 (by omega)
  | m + 1, hm, r, ⟨i, h1, h2, h3⟩ => by
    cases h : c.testBit (39 - m) with
    | true =>
      rw [dg_t r h, show 40 - (m + 1) = 39 - m by omega]
      exact Nat.le_add_right _ _
    | false =>
      rw [dg_f _ h]
      have hne : i ≠ 39 - m := fun e => by rw [e, h] at h3; cases h3
      have ih := dg_ge c m (by omega) r ⟨i, by omega, h2, h3⟩
      have h4 : (40 - (m + 1)) * 64 ^ r ≤ (40 - m) * 64 ^ r := Nat.mul_le_mul_right _ (by omega)
      exact Nat.le_trans h4 ih
theorem dg_cmp {a b j : Nat} (ha : a.testBit j = true) (hb : b.testBit j = false) (hj : ∃ i, j < i ∧ i < 40 ∧ b.testBit i = true) : ∀ m, m ≤ 40 → ∀ r, 40 - m ≤ j → (∀ i, 40 - m ≤ i → i < j → a.testBit i = b.testBit i) → cu a m ≤ r → dg a m r < dg b m r
  | 0, _, r, h1, _, _ => by obtain ⟨i, h2, h3, _⟩ := hj; omega
  | m + 1, hm, r, h1, h2, h3 => by
    obtain ⟨i0, j1, j2, j3⟩ := id hj
    by_cases e : 39 - m = j
    · rw [cu, e, ha] at h3
      have h3 : cu a m + 1 ≤ r := h3
      obtain ⟨r', rfl⟩ : ∃ r', r = r' + 1 := ⟨r - 1, by omega⟩
      rw [dg_t r' (by rw [e]; exact ha), dg_f _ (by rw [e]; exact hb), e]
      have h4 := dg_lt a m (by omega) r'
      have h5 := dg_ge b m (by omega) r' ⟨i0, by omega, j2, j3⟩
      have h6 : (j + 1) * 64 ^ r' ≤ (40 - m) * 64 ^ r' := Nat.mul_le_mul_right _ (by omega)
      have h7 : (j + 1) * 64 ^ r' = j * 64 ^ r' + 64 ^ r' := by rw [Nat.add_mul, Nat.one_mul]
      rw [h7] at h6
      refine Nat.lt_of_lt_of_le ?_ (Nat.le_trans h6 h5)
      exact Nat.add_lt_add_left h4 _
    · have h4 := h2 (39 - m) (by omega) (by omega)
      rw [cu] at h3
      cases hq : a.testBit (39 - m) with
      | true =>
        rw [hq] at h3
        have h3 : cu a m + 1 ≤ r := h3
        obtain ⟨r', rfl⟩ : ∃ r', r = r' + 1 := ⟨r - 1, by omega⟩
        rw [dg_t r' hq, dg_t r' (by rw [← h4]; exact hq)]
        exact Nat.add_lt_add_left (dg_cmp ha hb hj m (by omega) r' (by omega) (fun i p q => h2 i (by omega) q) (by omega)) _
      | false =>
        rw [hq] at h3
        have h3 : cu a m + 0 ≤ r := h3
        rw [dg_f r hq, dg_f r (by rw [← h4]; exact hq)]
        exact dg_cmp ha hb hj m (by omega) r (by omega) (fun i p q => h2 i (by omega) q) (by omega)
/-- the place of a cut in ROW -/
def plc (l : Nat → Nat) (c : Nat) : Nat := (mxL l c 40 * 8 + cnt c 40) * 64 ^ 6 + dg c 40 6
/-- the first place where two sets differ -/
theorem dif_bit {a b : Nat} (ha : a < 2 ^ 40) (hb : b < 2 ^ 40) (h : a ≠ b) : ∃ j, j < 40 ∧ a.testBit j ≠ b.testBit j ∧ ∀ i, i < j → a.testBit i = b.testBit i := by
  have hex : ∃ j, j < 40 ∧ a.testBit j ≠ b.testBit j := by
    apply Classical.byContradiction
    intro hno
    apply h
    apply set_eq
    intro i
    apply Classical.byContradiction
    intro hi
    by_cases h4 : i < 40
    · exact hno ⟨i, h4, hi⟩
    · apply hi
      have h1 : a.testBit i = false := by
        cases q : a.testBit i with
        | false => rfl
        | true => exact absurd (bit_lt ha q) h4
      have h2 : b.testBit i = false := by
        cases q : b.testBit i with
        | false => rfl
        | true => exact absurd (bit_lt hb q) h4
      rw [h1, h2]
  obtain ⟨j, h1, h2, h3⟩ := fb_first (p := fun j => a.testBit j ≠ b.testBit j) hex
  exact ⟨j, h1, h2, fun i hi => Classical.byContradiction fun q => h3 i hi q⟩
theorem cnt_cong {a b n : Nat} (h : ∀ i, i < n → a.testBit i = b.testBit i) : cnt a n = cnt b n := fb_ct_cong h
/-- of two sets with as many nodes, the other one has one behind -/
theorem dif_more {a b j : Nat} (hj : j < 40) (ha : a.testBit j = true) (hb : b.testBit j = false) (h : ∀ i, i < j → a.testBit i = b.testBit i) (hc : cnt a 40 = cnt b 40) : ∃ i, j < i ∧ i < 40 ∧ b.testBit i = true := by
  apply Classical.byContradiction
  intro hno
  have h1 : ∀ n, j + 1 + n ≤ 40 → cnt b (j + 1 + n) = cnt b (j + 1) := by
    intro n
    induction n with
    | zero => intro _; rfl
    | succ n ih =>
      intro hn
      rw [← Nat.add_assoc, cnt_succ, ih (by omega)]
      have : b.testBit (j + 1 + n) = false := by
        cases q : b.testBit (j + 1 + n) with
        | false => rfl
        | true => exact absurd ⟨_, by omega, by omega, q⟩ hno
      rw [this]; rfl
  have h2 := h1 (39 - j) (by omega)
  rw [show j + 1 + (39 - j) = 40 by omega, cnt_succ b j, hb] at h2
  have h3 : cnt a (j + 1) ≤ cnt a 40 := fb_ct_mono _ (by omega)
  rw [cnt_succ a j, ha, cnt_cong h] at h3
  have h2 : cnt b 40 = cnt b j + 0 := h2
  have h3 : cnt b j + 1 ≤ cnt a 40 := h3
  omega
def ahd (l : Nat → Nat) (a b : Nat) : Prop := mxL l a 40 < mxL l b 40 ∨ (mxL l a 40 = mxL l b 40 ∧ (cnt a 40 < cnt b 40 ∨ (cnt a 40 = cnt b 40 ∧ ∃ j, a.testBit j = true ∧ b.testBit j = false ∧ ∀ i, i < j → a.testBit i = b.testBit i)))
theorem plc_of {l : Nat → Nat} {a b : Nat} (ha : a < 2 ^ 40) (ha6 : cnt a 40 ≤ 6) (hb6 : cnt b 40 ≤ 6) (h : ahd l a b) : plc l a < plc l b := by
  have d1 := dg_lt a 40 (by omega) 6
  have d2 := dg_lt b 40 (by omega) 6
  have key : ∀ x y, x < y → x * 64 ^ 6 + dg a 40 6 < y * 64 ^ 6 + dg b 40 6 := by
    intro x y hxy
    have : (x + 1) * 64 ^ 6 ≤ y * 64 ^ 6 := Nat.mul_le_mul_right _ hxy
    rw [Nat.add_mul] at this
    omega
  unfold plc
  rcases h with h | ⟨h, h2 | ⟨h2, j, h3, h4, h5⟩⟩
  · exact key _ _ (by omega)
  · exact key _ _ (by omega)
  · rw [h, h2]
    have hj := bit_lt ha h3
    have hu := cu_cnt a 40 (by omega)
    have h0 : cnt a 0 = 0 := rfl
    rw [Nat.sub_self, h0] at hu
    have := dg_cmp h3 h4 (dif_more hj h3 h4 h5 h2) 40 (by omega) 6 (by omega) (fun i _ q => h5 i q) (by omega)
    omega
theorem ahd_tri {l : Nat → Nat} {a b : Nat} (ha : a < 2 ^ 40) (hb : b < 2 ^ 40) : ahd l a b ∨ a = b ∨ ahd l b a := by
  rcases Nat.lt_trichotomy (mxL l a 40) (mxL l b 40) with h | h | h
  · exact Or.inl (Or.inl h)
  · rcases Nat.lt_trichotomy (cnt a 40) (cnt b 40) with h2 | h2 | h2
    · exact Or.inl (Or.inr ⟨h, Or.inl h2⟩)
    · by_cases e : a = b
      · exact Or.inr (Or.inl e)
      · obtain ⟨j, h3, h4, h5⟩ := dif_bit ha hb e
        cases q : a.testBit j with
        | true =>
          rw [q] at h4
          exact Or.inl (Or.inr ⟨h, Or.inr ⟨h2, j, q, by cases p : b.testBit j with | true => exact absurd p.symm h4 | false => rfl, h5⟩⟩)
        | false =>
          rw [q] at h4
          exact Or.inr (Or.inr (Or.inr ⟨h.symm, Or.inr ⟨h2.symm, j, by cases p : b.testBit j with | false => exact absurd p.symm h4 | true => rfl, q, fun i hi => (h5 i hi).symm⟩⟩))
    · exact Or.inr (Or.inr (Or.inr ⟨h.symm, Or.inl h2⟩))
  · exact Or.inr (Or.inr (Or.inl h))
theorem plc_iff {l : Nat → Nat} {a b : Nat} (ha : a < 2 ^ 40) (hb : b < 2 ^ 40) (ha6 : cnt a 40 ≤ 6) (hb6 : cnt b 40 ≤ 6) : plc l a < plc l b ↔ ahd l a b := by
  refine ⟨fun h => ?_, plc_of ha ha6 hb6⟩
  rcases ahd_tri (l := l) ha hb with q | q | q
  · exact q
  · subst q; omega
  · have := plc_of hb hb6 ha6 q; omega
theorem plc_inj {l : Nat → Nat} {a b : Nat} (ha : a < 2 ^ 40) (hb : b < 2 ^ 40) (ha6 : cnt a 40 ≤ 6) (hb6 : cnt b 40 ≤ 6) (h : plc l a = plc l b) : a = b := by
  rcases ahd_tri (l := l) ha hb with q | q | q
  · have := plc_of ha ha6 hb6 q; omega
  · exact q
  · have := plc_of hb hb6 ha6 q; omega
def sub (a b : Nat) : Prop := ∀ i, a.testBit i = true → b.testBit i = true
theorem plc_sub {l : Nat → Nat} {a b : Nat} (ha : a < 2 ^ 40) (hb : b < 2 ^ 40) (ha6 : cnt a 40 ≤ 6) (hb6 : cnt b 40 ≤ 6) (h : sub a b) (hne : a ≠ b) : plc l a < plc l b := by
  apply plc_of ha ha6 hb6
  have h1 : mxL l a 40 ≤ mxL l b 40 := mxL_le (fun j hj => mxL_ge (h j hj) 40 (bit_lt ha hj)) 40
  have h2 : cnt a 40 < cnt b 40 := by
    refine Nat.lt_of_not_le fun q => hne (cnt_eq_sub ha hb h q)
  rcases Nat.lt_or_ge (mxL l a 40) (mxL l b 40) with q | q
  · exact Or.inl q
  · exact Or.inr ⟨by omega, Or.inl h2⟩
/-- of some sets, those without all nodes of another one -/
def mn (M : Nat → Prop) (x : Nat) : Prop := M x ∧ ∀ y, M y → sub y x → y = x
def isKept (l : Nat → Nat) (M : Nat → Prop) (n : Nat) (kc : Nat → Nat) : Prop :=
  n ≤ 8 ∧ (∀ i, i < n → mn M (kc i)) ∧ (∀ i j, i < j → j < n → plc l (kc i) < plc l (kc j)) ∧ ∀ x, mn M x → (∃ i, i < n ∧ kc i = x) ∨ (n = 8 ∧ ∀ i, i < n → plc l (kc i) < plc l x)
theorem kept_one {l : Nat → Nat} {M : Nat → Prop} {n n' : Nat} {kc kc' : Nat → Nat} (h : isKept l M n kc) (h' : isKept l M n' kc') : n = n' ∧ ∀ i, i < n → kc i = kc' i := by
  obtain ⟨a1, a2, a3, a4⟩ := h
  obtain ⟨b1, b2, b3, b4⟩ := h'
  have same : ∀ i, i < n → i < n' → kc i = kc' i := by
    intro i
    induction i using Nat.strongRecOn with
    | ind i ih =>
      intro hi hi'
      have h1 : ¬ plc l (kc i) < plc l (kc' i) := by
        intro q
        rcases b4 (kc i) (a2 i hi) with ⟨j, hj, e⟩ | ⟨-, hall⟩
        · rcases Nat.lt_trichotomy j i with q2 | q2 | q2
          · have := a3 j i q2 hi
            rw [ih j q2 (by omega) hj, e] at this
            omega
          · subst q2; rw [e] at q; omega
          · have := b3 i j q2 hj
            rw [e] at this
            omega
        · have := hall i hi'
          omega
      rcases a4 (kc' i) (b2 i hi') with ⟨j, hj, e⟩ | ⟨-, hall⟩
      · rcases Nat.lt_trichotomy j i with q2 | q2 | q2
        · have := b3 j i q2 hi'
          rw [← ih j q2 hj (by omega), e] at this
          omega
        · subst q2; exact e
        · have := a3 i j q2 hj
          rw [e] at this
          omega
      · have := hall i hi
        omega
  refine ⟨?_, ?_⟩
  · rcases Nat.lt_trichotomy n n' with q | q | q
    · rcases a4 (kc' n) (b2 n q) with ⟨j, hj, e⟩ | ⟨e, -⟩
      · have := b3 j n hj q
        rw [← same j hj (by omega), e] at this
        omega
      · omega
    · exact q
    · rcases b4 (kc n') (a2 n' q) with ⟨j, hj, e⟩ | ⟨e, -⟩
      · have := a3 j n' hj q
        rw [same j (by omega) hj, e] at this
        omega
      · omega
  · intro i hi
    by_cases hi' : i < n'
    · exact same i hi hi'
    · rcases b4 (kc n') (a2 n' (by omega)) with ⟨j, hj, e⟩ | ⟨e, -⟩
      · have := a3 j n' hj (by omega)
        rw [same j (by omega) hj, e] at this
        omega
      · omega
theorem mn_iff {M M' : Nat → Prop} (h : ∀ x, M x ↔ M' x) (x : Nat) : mn M x ↔ mn M' x := by
  unfold mn
  rw [h x]
  exact and_congr Iff.rfl ⟨fun q y hy => q y ((h y).mpr hy), fun q y hy => q y ((h y).mp hy)⟩
theorem kept_iff {l : Nat → Nat} {M M' : Nat → Prop} {n : Nat} {kc : Nat → Nat} (h : ∀ x, M x ↔ M' x) (hk : isKept l M n kc) : isKept l M' n kc := by
  obtain ⟨a1, a2, a3, a4⟩ := hk
  exact ⟨a1, fun i hi => (mn_iff h _).mp (a2 i hi), a3, fun x hx => a4 x ((mn_iff h x).mpr hx)⟩
theorem kept_cong {l l' : Nat → Nat} {M : Nat → Prop} {n : Nat} {kc : Nat → Nat} (h : ∀ x, M x → plc l x = plc l' x) (hk : isKept l M n kc) : isKept l' M n kc := by
  obtain ⟨a1, a2, a3, a4⟩ := hk
  refine ⟨a1, a2, fun i j hi hj => ?_, fun x hx => ?_⟩
  · rw [← h _ (a2 i (by omega)).1, ← h _ (a2 j hj).1]; exact a3 i j hi hj
  · rcases a4 x hx with q | ⟨q1, q2⟩
    · exact Or.inl q
    · refine Or.inr ⟨q1, fun i hi => ?_⟩
      rw [← h _ (a2 i hi).1, ← h _ hx.1]; exact q2 i hi
