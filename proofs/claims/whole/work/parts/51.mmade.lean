/-! the model's kept cuts: which sets are made -/
def mva (N : nw) (g : Nat) (kp : Nat → Nat × (Nat → Nat)) (k : Nat) : Nat := stO kp (nR N g 0) (k % 9)
def mvb (N : nw) (g : Nat) (kp : Nat → Nat × (Nat → Nat)) (k : Nat) : Nat := if 1 < ar (nK N g) then stO kp (nR N g 1) (k / 9 % 9) else mva N g kp k
def mvc (N : nw) (g : Nat) (kp : Nat → Nat × (Nat → Nat)) (k : Nat) : Nat := if 2 < ar (nK N g) then stO kp (nR N g 2) (k / 9 / 9) else mva N g kp k
def mOK (N : nw) (g : Nat) (kp : Nat → Nat × (Nat → Nat)) (k x : Nat) : Prop := mva N g kp k ≠ 0 ∧ mvb N g kp k ≠ 0 ∧ mvc N g kp k ≠ 0 ∧ x = mva N g kp k ||| mvb N g kp k ||| mvc N g kp k
def mlim (N : nw) (g : Nat) : Nat := if ar (nK N g) = 1 then 9 else if ar (nK N g) = 2 then 81 else 729
theorem stO_ch {N : nw} {g p i : Nat} {kp : Nat → Nat × (Nat → Nat)} (hp : p < ar (nK N g)) (h : stO kp (nR N g p) i ≠ 0) : i < chN N g kp p ∧ stO kp (nR N g p) i = chC N g kp p i := by
  unfold stO at h ⊢
  unfold chN chC
  rw [if_pos hp, if_pos hp]
  by_cases e : i = 0
  · rw [if_pos e, if_pos e]; exact ⟨by omega, rfl⟩
  · rw [if_neg e] at h ⊢
    rw [if_neg e]
    by_cases e2 : i ≤ (kp (nR N g p)).1
    · rw [if_pos e2]; exact ⟨by omega, rfl⟩
    · rw [if_neg e2] at h; exact absurd rfl h
theorem ch_stO {N : nw} {g p i : Nat} {kp : Nat → Nat × (Nat → Nat)} (hp : p < ar (nK N g)) (hz : ∀ c, c < (kp (nR N g p)).1 → (kp (nR N g p)).2 c ≠ 0) (h : i < chN N g kp p) : stO kp (nR N g p) i = chC N g kp p i ∧ stO kp (nR N g p) i ≠ 0 := by
  unfold chN at h
  unfold stO chC
  rw [if_pos hp] at h ⊢
  by_cases e : i = 0
  · rw [if_pos e, if_pos e]
    exact ⟨rfl, Nat.ne_of_gt (Nat.two_pow_pos _)⟩
  · rw [if_neg e, if_neg e, if_pos (by omega)]
    exact ⟨rfl, hz _ (by omega)⟩
theorem chN_1 {N : nw} {g p : Nat} {kp : Nat → Nat × (Nat → Nat)} (hp : ¬ p < ar (nK N g)) : chN N g kp p = 1 ∧ ∀ i, chC N g kp p i = 0 := by
  unfold chN chC
  rw [if_neg hp]
  exact ⟨rfl, fun i => if_neg hp⟩
theorem or_self3 (a : Nat) : a ||| a ||| a = a ||| 0 ||| 0 := set_eq fun i => by
  simp only [Nat.testBit_or, Nat.zero_testBit]
  cases a.testBit i <;> rfl
theorem or_aba (a b : Nat) : a ||| b ||| a = a ||| b ||| 0 := set_eq fun i => by
  simp only [Nat.testBit_or, Nat.zero_testBit]
  cases a.testBit i <;> cases b.testBit i <;> rfl
theorem mOK_cand {N : nw} {K g k x : Nat} {kp : Nat → Nat × (Nat → Nat)} (h : mOK N g kp k x) (hc : cnt x 40 ≤ K) : cand N K g kp x := by
  obtain ⟨h1, h2, h3, h4⟩ := h
  have har := ar_pos (nK N g)
  obtain ⟨a1, a2⟩ := stO_ch (N := N) (g := g) (p := 0) (kp := kp) (by omega) h1
  refine Or.inr ⟨hc, ?_⟩
  unfold mvb at h2 h4
  unfold mvc at h3 h4
  by_cases q1 : 1 < ar (nK N g)
  · rw [if_pos q1] at h2 h4
    obtain ⟨b1, b2⟩ := stO_ch q1 h2
    by_cases q2 : 2 < ar (nK N g)
    · rw [if_pos q2] at h3 h4
      obtain ⟨c1, c2⟩ := stO_ch q2 h3
      refine ⟨_, _, _, a1, b1, c1, ?_⟩
      rw [h4, ← a2, ← b2, ← c2]
      rfl
    · rw [if_neg q2] at h4
      obtain ⟨n1, n2⟩ := chN_1 (kp := kp) q2
      refine ⟨_, _, 0, a1, b1, by omega, ?_⟩
      rw [h4, n2, ← a2, ← b2]
      exact or_aba _ _
  · rw [if_neg q1] at h4
    rw [if_neg (by omega)] at h4
    obtain ⟨n1, n2⟩ := chN_1 (kp := kp) q1
    obtain ⟨m1, m2⟩ := chN_1 (N := N) (g := g) (p := 2) (kp := kp) (by omega)
    refine ⟨_, 0, 0, a1, by omega, by omega, ?_⟩
    rw [h4, n2, m2, ← a2]
    exact or_self3 _
theorem cand_mOK {N : nw} {g x a b c : Nat} {kp : Nat → Nat × (Nat → Nat)} (hz : ∀ p, p < ar (nK N g) → (kp (nR N g p)).1 ≤ 8 ∧ ∀ c, c < (kp (nR N g p)).1 → (kp (nR N g p)).2 c ≠ 0) (ha : a < chN N g kp 0) (hb : b < chN N g kp 1) (hc : c < chN N g kp 2) (hx : x = chC N g kp 0 a ||| chC N g kp 1 b ||| chC N g kp 2 c) : ∃ k, k < mlim N g ∧ mOK N g kp k x := by
  have har := ar_pos (nK N g)
  have h9 : ∀ p i, p < ar (nK N g) → i < chN N g kp p → i < 9 := fun p i hp hi => by
    unfold chN at hi
    rw [if_pos hp] at hi
    have := (hz p hp).1
    omega
  have ha9 := h9 0 a (by omega) ha
  obtain ⟨a1, a2⟩ := ch_stO (p := 0) (by omega) (hz 0 (by omega)).2 ha
  unfold mlim mOK mvb mvc mva
  by_cases q1 : 1 < ar (nK N g)
  · have hb9 := h9 1 b q1 hb
    obtain ⟨b1, b2⟩ := ch_stO q1 (hz 1 q1).2 hb
    by_cases q2 : 2 < ar (nK N g)
    · have hc9 := h9 2 c q2 hc
      obtain ⟨c1, c2⟩ := ch_stO q2 (hz 2 q2).2 hc
      refine ⟨a + 9 * (b + 9 * c), by rw [if_neg (by omega), if_neg (by omega)]; omega, ?_⟩
      rw [if_pos q1, if_pos q2, show (a + 9 * (b + 9 * c)) % 9 = a by omega, show (a + 9 * (b + 9 * c)) / 9 % 9 = b by omega, show (a + 9 * (b + 9 * c)) / 9 / 9 = c by omega, hx, a1, b1, c1]
      rw [a1] at a2
      rw [b1] at b2
      rw [c1] at c2
      exact ⟨a2, b2, c2, rfl⟩
    · obtain ⟨n1, n2⟩ := chN_1 (kp := kp) q2
      refine ⟨a + 9 * b, by rw [if_neg (by omega), if_pos (by omega)]; omega, ?_⟩
      rw [if_pos q1, if_neg q2, show (a + 9 * b) % 9 = a by omega, show (a + 9 * b) / 9 % 9 = b by omega, hx, a1, b1, n2]
      rw [a1] at a2
      rw [b1] at b2
      exact ⟨a2, b2, a2, (or_aba _ _).symm⟩
  · obtain ⟨n1, n2⟩ := chN_1 (kp := kp) q1
    obtain ⟨m1, m2⟩ := chN_1 (N := N) (g := g) (p := 2) (kp := kp) (by omega)
    refine ⟨a, by rw [if_pos (by omega)]; omega, ?_⟩
    rw [if_neg q1, if_neg (by omega), show a % 9 = a by omega, hx, a1, n2, m2]
    rw [a1] at a2
    exact ⟨a2, a2, a2, (or_self3 _).symm⟩
