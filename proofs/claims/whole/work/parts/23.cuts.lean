/-! REACH AND CUTS -/
theorem rdn_mono (N : nw) (S : Nat) : ∀ (k R i : Nat), R.testBit i = true → (rdn N S k R).testBit i = true
  | 0, _, _, h => h
  | k + 1, R, i, h => by
    rw [rdn]
    apply rdn_mono N S k
    split
    · rw [Nat.testBit_or, h]; rfl
    · exact h
theorem rdn_hi {N : nw} (hok : nw_ok N) (S : Nat) : ∀ (k R i : Nat), k ≤ i → (rdn N S k R).testBit i = R.testBit i
  | 0, _, _, _ => rfl
  | k + 1, R, i, h => by
    rw [rdn, rdn_hi hok S k _ i (by omega)]
    split
    · rw [Nat.testBit_or, sD_bit]
      cases hb : (sM N k).testBit i with
      | false => simp
      | true => have := sM_lt hok hb; omega
    · rfl
theorem rdn_closed {N : nw} (hok : nw_ok N) (S : Nat) : ∀ (k R i j : Nat), i < k → (rdn N S k R).testBit i = true → (sM N i).testBit j = true → S.testBit j = false → (rdn N S k R).testBit j = true
  | 0, _, _, _, h, _, _, _ => absurd h (by omega)
  | k + 1, R, i, j, h, hi, hs, hc => by
    rw [rdn] at hi ⊢
    by_cases e : i = k
    · subst e
      rw [rdn_hi hok S i _ i (Nat.le_refl _)] at hi
      have hR : R.testBit i = true := by
        split at hi
        · assumption
        · exact hi
      rw [if_pos hR]
      apply rdn_mono
      rw [Nat.testBit_or, sD_bit, hs, hc]
      simp
    · exact rdn_closed hok S k _ i j (by omega) hi hs hc
theorem rdn_min {N : nw} (S : Nat) (P : Nat → Prop) (hP : ∀ i j, P i → (sM N i).testBit j = true → S.testBit j = false → P j) : ∀ (k R : Nat), (∀ i, R.testBit i = true → P i) → ∀ i, (rdn N S k R).testBit i = true → P i
  | 0, _, h => h
  | k + 1, R, h => by
    rw [rdn]
    apply rdn_min S P hP k
    intro i hi
    split at hi
    · rename_i hk
      rw [Nat.testBit_or, Bool.or_eq_true] at hi
      rcases hi with hi | hi
      · exact h i hi
      · rw [sD_bit] at hi
        simp at hi
        exact hP k i (h k hk) hi.1 hi.2
    · exact h i hi
theorem rch_self (N : nw) (g S : Nat) : (rch N g S).testBit g = true := rdn_mono N S _ _ _ (by rw [Nat.testBit_two_pow]; simp)
theorem rch_le {N : nw} (hok : nw_ok N) (g S : Nat) : ∀ i, (rch N g S).testBit i = true → i ≤ g := by
  refine rdn_min S (fun i => i ≤ g) (fun i j hi hs _ => by have := sM_lt hok hs; omega) _ _ ?_
  intro i hi
  rw [Nat.testBit_two_pow] at hi
  simp at hi
  omega
theorem rch_closed {N : nw} (hok : nw_ok N) {g S i j : Nat} (hi : (rch N g S).testBit i = true) (hs : (sM N i).testBit j = true) (hc : S.testBit j = false) : (rch N g S).testBit j = true :=
  rdn_closed hok S (g + 1) _ i j (by have := rch_le hok g S i hi; omega) hi hs hc
theorem rch_min {N : nw} {g S : Nat} (P : Nat → Prop) (hg : P g) (hP : ∀ i j, P i → (sM N i).testBit j = true → S.testBit j = false → P j) : ∀ i, (rch N g S).testBit i = true → P i := by
  refine rdn_min S P hP _ _ ?_
  intro i hi
  rw [Nat.testBit_two_pow] at hi
  simp at hi
  subst hi
  exact hg
/-- what is reached, but for the gate, is reached by a source's step -/
theorem rch_par {N : nw} (hok : nw_ok N) {g S i : Nat} (h : (rch N g S).testBit i = true) : i = g ∨ (S.testBit i = false ∧ ∃ p, (rch N g S).testBit p = true ∧ (sM N p).testBit i = true) := by
  have h2 := rch_min (N := N) (g := g) (S := S) (fun i => (rch N g S).testBit i = true ∧ (i = g ∨ (S.testBit i = false ∧ ∃ p, (rch N g S).testBit p = true ∧ (sM N p).testBit i = true))) ⟨rch_self N g S, Or.inl rfl⟩ (fun i j hi hs hc => ⟨rch_closed hok hi.1 hs hc, Or.inr ⟨hc, i, hi.1, hs⟩⟩) i h
  exact h2.2
theorem src_of {N : nw} {i j : Nat} (h : (sM N i).testBit j = true) : isG N i = true ∧ ∃ k, k < ar (nK N i) ∧ nR N i k = j := by
  rw [sM_bit] at h
  simp at h
  exact h
theorem nB_src {N : nw} (hok : nw_ok N) {i j : Nat} (h : (sM N i).testBit j = true) : (nB N i).testBit j = true := by
  obtain ⟨hg, k, hk, e⟩ := src_of h
  rw [nB_bit hok, hg]
  simp
  exact ⟨k, hk, Or.inl e⟩
theorem nB_via {N : nw} (hok : nw_ok N) {i s j : Nat} (h : (sM N i).testBit s = true) (h2 : (nB N s).testBit j = true) : (nB N i).testBit j = true := by
  obtain ⟨hg, k, hk, e⟩ := src_of h
  rw [nB_bit hok, hg]
  simp
  exact ⟨k, hk, Or.inr (by rw [e]; exact h2)⟩
theorem nB_inv {N : nw} (hok : nw_ok N) {i j : Nat} (h : (nB N i).testBit j = true) : isG N i = true ∧ ∃ s, (sM N i).testBit s = true ∧ (s = j ∨ (nB N s).testBit j = true) := by
  rw [nB_bit hok] at h
  simp at h
  obtain ⟨hg, k, hk, h⟩ := h
  exact ⟨hg, nR N i k, by rw [sM_bit, hg]; simp; exact ⟨k, hk, rfl⟩, h⟩
theorem nB_trans {N : nw} (hok : nw_ok N) : ∀ (i j l : Nat), (nB N i).testBit j = true → (sM N j).testBit l = true → (nB N i).testBit l = true := by
  intro i
  induction i using Nat.strongRecOn with
  | ind i ih =>
    intro j l h1 h2
    obtain ⟨hg, s, hs, h⟩ := nB_inv hok h1
    rcases h with rfl | h
    · exact nB_via hok hs (nB_src hok h2)
    · exact nB_via hok hs (ih s (sM_lt hok hs) j l h h2)
theorem nB_min {N : nw} (hok : nw_ok N) (P : Nat → Prop) : ∀ (i : Nat), (∀ j, (sM N i).testBit j = true → P j) → (∀ j l, P j → (sM N j).testBit l = true → P l) → ∀ j, (nB N i).testBit j = true → P j := by
  intro i
  induction i using Nat.strongRecOn with
  | ind i ih =>
    intro h1 h2 j hj
    obtain ⟨hg, s, hs, h⟩ := nB_inv hok hj
    rcases h with rfl | h
    · exact h1 _ hs
    · exact ih s (sM_lt hok hs) (fun l hl => h2 s l (h1 s hs) hl) h2 j h
theorem rch_nB {N : nw} (hok : nw_ok N) {g S i : Nat} (h : (rch N g S).testBit i = true) : i = g ∨ (nB N g).testBit i = true := by
  refine rch_min (N := N) (g := g) (S := S) (fun i => i = g ∨ (nB N g).testBit i = true) (Or.inl rfl) (fun i j hi hs _ => ?_) i h
  rcases hi with rfl | hi
  · exact Or.inr (nB_src hok hs)
  · exact Or.inr (nB_trans hok g i j hi hs)
/-- a set that cuts a gate off -/
def Sep (N : nw) (g S : Nat) : Prop := (∀ j, S.testBit j = true → (nB N g).testBit j = true) ∧ ∀ i, (rch N g S).testBit i = true → isG N i = true
theorem sD_0 {a b : Nat} : sD a b = 0 ↔ ∀ i, a.testBit i = true → b.testBit i = true := by
  constructor
  · intro h i hi
    have h2 := sD_bit a b i
    rw [h, hi] at h2
    simpa using h2
  · intro h
    apply set_eq
    intro i
    rw [sD_bit]
    cases ha : a.testBit i with
    | false => simp
    | true => simp [h i ha]
theorem seps_iff (N : nw) (g S : Nat) : seps N g S = true ↔ Sep N g S := by
  unfold seps Sep
  rw [Bool.and_eq_true, beq_iff_eq, beq_iff_eq, sD_0, sD_0]
  simp only [gM_bit]
theorem nB_lt_n {N : nw} (hok : nw_ok N) {g j : Nat} (h : (nB N g).testBit j = true) : j < nN N := by
  have h1 := nB_lt hok g j h
  have h2 := isG_lt (nB_inv hok h).1
  omega
theorem Sep_lt {N : nw} (hok : nw_ok N) {g S : Nat} (h : Sep N g S) : S < 2 ^ 40 := set_lt fun i hi => by
  cases hb : S.testBit i with
  | false => rfl
  | true => have := nB_lt_n hok (h.1 i hb); have := hok.1; omega
/-! sums -/
theorem sm_0 (n : Nat) : fb_sm (fun _ => 0) n = 0 := by induction n with
  | zero => rfl
  | succ n ih => rw [fb_sm_succ, ih]
theorem sm_swap (f : Nat → Nat → Nat) (m : Nat) : ∀ n, fb_sm (fun v => fb_sm (fun u => f u v) m) n = fb_sm (fun u => fb_sm (fun v => f u v) n) m
  | 0 => by
    show 0 = fb_sm (fun u => 0) m
    rw [sm_0]
  | n + 1 => by
    rw [fb_sm_succ, sm_swap f m n, ← fb_sm_add]
    rfl
theorem sm_if (p : Nat → Bool) (f : Nat → Nat) (n : Nat) : fb_sm f n = fb_sm (fun k => if p k then f k else 0) n + fb_sm (fun k => if p k then 0 else f k) n := by
  rw [← fb_sm_add]
  apply fb_sm_cong
  intro k _
  cases p k <;> simp
theorem cnt_sm (S n : Nat) : cnt S n = fb_sm (fun k => if S.testBit k then 1 else 0) n := by
  induction n with
  | zero => rfl
  | succ n ih => rw [cnt_succ, fb_sm_succ, ih]; cases S.testBit n <;> rfl
theorem cnt_sub {S T n : Nat} (h : ∀ i, i < n → S.testBit i = true → T.testBit i = true) : cnt S n ≤ cnt T n := fb_ct_sub h
theorem cnt_eq_sub {S T n : Nat} (hS : S < 2 ^ n) (hT : T < 2 ^ n) (h : ∀ i, S.testBit i = true → T.testBit i = true) (hc : cnt T n ≤ cnt S n) : S = T := by
  apply set_eq
  intro i
  cases hs : S.testBit i with
  | true => rw [h i hs]
  | false =>
    cases ht : T.testBit i with
    | false => rfl
    | true =>
      exfalso
      have hi := bit_lt hT ht
      have h1 : cnt S n + 1 ≤ cnt T n := by
        have h2 : ∀ m, i < m → m ≤ n → cnt S m + 1 ≤ cnt T m := by
          intro m
          induction m with
          | zero => intro q; omega
          | succ m ih =>
            intro q1 q2
            rw [cnt_succ, cnt_succ]
            by_cases e : i = m
            · subst e
              have := cnt_sub (S := S) (T := T) (n := i) (fun j _ hj => h j hj)
              rw [hs, ht]
              simp
              omega
            · have := ih (by omega) (by omega)
              have h3 : (S.testBit m).toNat ≤ (T.testBit m).toNat := by
                cases hq : S.testBit m with
                | false => simp
                | true => rw [h m hq]; simp
              omega
        exact h2 n hi (Nat.le_refl _)
      omega
