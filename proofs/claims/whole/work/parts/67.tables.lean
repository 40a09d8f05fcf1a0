/-! CHOSEN, TABLES, ARRIVALS: what both sides compute -/
/-- a number's turn: if it is a table, what it asks for is one, too -/
def tst (N : nw) (ch : Nat → Nat) (k R : Nat) : Nat := if R.testBit k then R ||| (ch k &&& gM N) else R
def tdr (N : nw) (ch : Nat → Nat) (lo : Nat) : Nat → Nat → Nat
  | 0, R => R
  | k + 1, R => if k < lo then R else tdr N ch lo k (tst N ch k R)
def tbs (N : nw) (ch : Nat → Nat) : Nat := tdr N ch 0 (nN N) (rts N &&& gM N)
/-- chosen are told ahead -/
def chL (N : nw) (ch : Nat → Nat) : Prop := ∀ g, isG N g = true → ∀ j, (ch g).testBit j = true → j < g
def chOK (N : nw) (K : Nat) (ch : Nat → Nat) : Prop := ∀ g, isG N g = true → cOK K g (ch g) ∧ Sep N g (ch g)
theorem chOK_L {N : nw} {K : Nat} {ch : Nat → Nat} (h : chOK N K ch) : chL N ch := fun g hg j hj => (h g hg).1.2.2.1 j hj
def allG (N : nw) (R : Nat) : Prop := ∀ i, R.testBit i = true → isG N i = true
theorem allG_lt {N : nw} (hok : nw_ok N) {R : Nat} (h : allG N R) : R < 2 ^ 40 := set_lt fun i hi => by
  cases hb : R.testBit i with
  | false => rfl
  | true => have := isG_lt (h i hb); have := hok.1; omega
theorem allG_and (N : nw) (R : Nat) : allG N (R &&& gM N) := fun i hi => by
  rw [Nat.testBit_and, Bool.and_eq_true, gM_bit] at hi
  exact hi.2
theorem allG_or {N : nw} {a b : Nat} (h1 : allG N a) (h2 : allG N b) : allG N (a ||| b) := fun i hi => by
  rw [Nat.testBit_or, Bool.or_eq_true] at hi
  rcases hi with q | q
  · exact h1 i q
  · exact h2 i q
theorem allG_tst {N : nw} {ch : Nat → Nat} {k R : Nat} (h : allG N R) : allG N (tst N ch k R) := by
  unfold tst
  split
  · exact allG_or h (allG_and N _)
  · exact h
theorem allG_tdr {N : nw} {ch : Nat → Nat} {lo : Nat} : ∀ k R, allG N R → allG N (tdr N ch lo k R)
  | 0, R, h => h
  | k + 1, R, h => by
    rw [tdr]
    split
    · exact h
    · exact allG_tdr k _ (allG_tst h)
theorem tst_hi {N : nw} {ch : Nat → Nat} (hl : chL N ch) {k R i : Nat} (h : allG N R) (hi : k ≤ i) : (tst N ch k R).testBit i = R.testBit i := by
  unfold tst
  split
  · rename_i q
    rw [Nat.testBit_or, Nat.testBit_and]
    cases hb : (ch k).testBit i with
    | false => simp
    | true => have := hl k (h k q) i hb; omega
  · rfl
theorem tdr_hi {N : nw} {ch : Nat → Nat} (hl : chL N ch) {lo : Nat} : ∀ k R i, allG N R → k ≤ i → (tdr N ch lo k R).testBit i = R.testBit i
  | 0, _, _, _, _ => rfl
  | k + 1, R, i, h, hi => by
    rw [tdr]
    split
    · rfl
    · rw [tdr_hi hl k _ i (allG_tst h) (by omega), tst_hi hl h (by omega)]
theorem tdr_split {N : nw} {ch : Nat → Nat} {lo : Nat} : ∀ k R, lo ≤ k → tdr N ch 0 k R = tdr N ch 0 lo (tdr N ch lo k R)
  | 0, R, h => by
    have e : lo = 0 := by omega
    subst e
    rfl
  | k + 1, R, h => by
    by_cases q : k < lo
    · have e : lo = k + 1 := by omega
      subst e
      have e2 : tdr N ch (k + 1) (k + 1) R = R := by rw [tdr, if_pos q]
      rw [e2]
    · have e2 : tdr N ch lo (k + 1) R = tdr N ch lo k (tst N ch k R) := by rw [tdr, if_neg q]
      have e3 : tdr N ch 0 (k + 1) R = tdr N ch 0 k (tst N ch k R) := by rw [tdr, if_neg (by omega)]
      rw [e2, e3]
      exact tdr_split k _ (by omega)
theorem tdr_cong {N : nw} {ch ch' : Nat → Nat} {lo : Nat} : ∀ k R, (∀ j, lo ≤ j → j < k → ch j = ch' j) → tdr N ch lo k R = tdr N ch' lo k R
  | 0, R, h => rfl
  | k + 1, R, h => by
    rw [tdr, tdr]
    by_cases q : k < lo
    · rw [if_pos q, if_pos q]
    · rw [if_neg q, if_neg q]
      have e : tst N ch k R = tst N ch' k R := by unfold tst; rw [h k (by omega) (by omega)]
      rw [e]
      exact tdr_cong k _ fun j h1 h2 => h j h1 (by omega)
/-- those that are tables whatever a gate and those below it choose -/
def hgr (N : nw) (ch : Nat → Nat) (g : Nat) : Nat := tdr N ch (g + 1) (nN N) (rts N &&& gM N)
theorem hgr_G (N : nw) (ch : Nat → Nat) (g : Nat) : allG N (hgr N ch g) := allG_tdr _ _ (allG_and N _)
theorem tbs_G (N : nw) (ch : Nat → Nat) : allG N (tbs N ch) := allG_tdr _ _ (allG_and N _)
theorem tbs_lt {N : nw} (hok : nw_ok N) (ch : Nat → Nat) : tbs N ch < 2 ^ 40 := allG_lt hok (tbs_G N ch)
theorem hgr_lt {N : nw} (hok : nw_ok N) (ch : Nat → Nat) (g : Nat) : hgr N ch g < 2 ^ 40 := allG_lt hok (hgr_G N ch g)
theorem hgr_bit {N : nw} {ch : Nat → Nat} (hl : chL N ch) {g : Nat} (hg : g < nN N) : (hgr N ch g).testBit g = (tbs N ch).testBit g := by
  unfold tbs
  rw [tdr_split (lo := g + 1) (nN N) _ (by omega)]
  show _ = (tdr N ch 0 (g + 1) (hgr N ch g)).testBit g
  have e3 : tdr N ch 0 (g + 1) (hgr N ch g) = tdr N ch 0 g (tst N ch g (hgr N ch g)) := by rw [tdr, if_neg (by omega)]
  rw [e3, tdr_hi hl g _ g (allG_tst (hgr_G N ch g)) (Nat.le_refl _), tst_hi hl (hgr_G N ch g) (Nat.le_refl _)]
theorem tbs_put {N : nw} {ch : Nat → Nat} (hl : chL N ch) {g : Nat} (hg : g < nN N) (hb : (tbs N ch).testBit g = true) (c : Nat) : tbs N (add1 g ch c) = tdr N ch 0 g (hgr N ch g ||| (c &&& gM N)) := by
  rw [← hgr_bit hl hg] at hb
  show tdr N (add1 g ch c) 0 (nN N) (rts N &&& gM N) = _
  rw [tdr_split (lo := g + 1) (nN N) _ (by omega), tdr_cong (ch := add1 g ch c) (ch' := ch) (lo := g + 1) (nN N) _ (fun j h1 h2 => if_neg (by omega))]
  show tdr N (add1 g ch c) 0 (g + 1) (hgr N ch g) = _
  have e3 : tdr N (add1 g ch c) 0 (g + 1) (hgr N ch g) = tdr N (add1 g ch c) 0 g (tst N (add1 g ch c) g (hgr N ch g)) := by rw [tdr, if_neg (by omega)]
  have e4 : tst N (add1 g ch c) g (hgr N ch g) = hgr N ch g ||| (c &&& gM N) := by
    unfold tst
    rw [if_pos hb, add1_q]
  rw [e3, e4]
  exact tdr_cong _ _ fun j _ h2 => add1_lt h2
theorem add1_self (g : Nat) (ch : Nat → Nat) : add1 g ch (ch g) = ch := funext fun i => by
  unfold add1
  split
  · rename_i e; rw [e]
  · rfl
/-! ARRIVALS -/
def arT (N : nw) (ch : Nat → Nat) : Nat → Nat → Nat
  | 0 => fun _ => 0
  | n + 1 => fun i => if i = n then (if isG N n then 1 + mxL (arT N ch n) (ch n) 40 else 0) else arT N ch n i
def arv (N : nw) (ch : Nat → Nat) (i : Nat) : Nat := arT N ch (i + 1) i
theorem arT_lt (N : nw) (ch : Nat → Nat) : ∀ (n i : Nat), i < n → arT N ch n i = arv N ch i
  | 0, _, h => absurd h (by omega)
  | n + 1, i, h => by
    by_cases e : i = n
    · subst e; rfl
    · show (if i = n then _ else arT N ch n i) = _
      rw [if_neg e]
      exact arT_lt N ch n i (by omega)
theorem arv_leaf {N : nw} {ch : Nat → Nat} {i : Nat} (h : isG N i = false) : arv N ch i = 0 := by
  show (if i = i then (if isG N i then _ else 0) else _) = _
  rw [if_pos rfl, h]
  rfl
theorem arv_gate {N : nw} {ch : Nat → Nat} {i : Nat} (hl : ∀ j, (ch i).testBit j = true → j < i) (h : isG N i = true) : arv N ch i = 1 + mxL (arv N ch) (ch i) 40 := by
  show (if i = i then (if isG N i then 1 + mxL (arT N ch i) (ch i) 40 else 0) else _) = _
  rw [if_pos rfl, if_pos h, mxL_cong fun j hj => arT_lt N ch i j (hl j hj)]
theorem arv_le {N : nw} {ch : Nat → Nat} (hl : chL N ch) : ∀ i, arv N ch i ≤ i + 1 := by
  intro i
  induction i using Nat.strongRecOn with
  | ind i ih =>
    cases h : isG N i with
    | false => rw [arv_leaf h]; omega
    | true =>
      rw [arv_gate (hl i h) h]
      have := mxL_le (l := arv N ch) (S := ch i) (m := i) (fun j hj => by have := hl i h j hj; have := ih j this; omega) 40
      omega
theorem arv_cong {N : nw} {ch ch' : Nat → Nat} : ∀ n, (∀ j, j < n → isG N j = true → ch j = ch' j) → arT N ch n = arT N ch' n
  | 0, _ => rfl
  | n + 1, h => by
    have e := arv_cong (N := N) (ch := ch) (ch' := ch') n fun j hj => h j (by omega)
    funext i
    show (if i = n then (if isG N n then 1 + mxL (arT N ch n) (ch n) 40 else 0) else arT N ch n i) = (if i = n then (if isG N n then 1 + mxL (arT N ch' n) (ch' n) 40 else 0) else arT N ch' n i)
    rw [e]
    cases hg : isG N n with
    | false => rfl
    | true => rw [h n (by omega) hg]
theorem arv_congr {N : nw} {ch ch' : Nat → Nat} {i : Nat} (h : ∀ j, j ≤ i → isG N j = true → ch j = ch' j) : arv N ch i = arv N ch' i := by
  unfold arv
  rw [arv_cong (i + 1) fun j hj => h j (by omega)]
/-! cuts that can be kept cut off -/
theorem cand_sep {N : nw} {K g : Nat} (hok : nw_ok N) (hg : isG N g = true) (hn : nOK N K (g + 1)) (ih : ∀ s, s < g → ∀ i, i < (kp N K s).1 → Sep N s ((kp N K s).2 i)) {x : Nat} (hx : cand N K g (kp N K) x) : Sep N g x := by
  rcases hx with e | ⟨-, a, b, c, ha, hb, hc, e⟩
  · subst e
    exact (hn g (by omega) hg).1.1
  · -- a set of each source
    have part : ∀ p, p < ar (nK N g) → ∃ y, sub y x ∧ (y.testBit (nR N g p) = true ∨ Sep N (nR N g p) y) := by
      intro p hp
      have har := ar_pos (nK N g)
      have one3 : ∀ q i, i < chN N g (kp N K) q → q < ar (nK N g) → (chC N g (kp N K) q i).testBit (nR N g q) = true ∨ Sep N (nR N g q) (chC N g (kp N K) q i) := by
        intro q i hi hq
        unfold chN at hi
        unfold chC
        rw [if_pos hq] at hi ⊢
        by_cases h0 : i = 0
        · rw [if_pos h0, Nat.testBit_two_pow]; simp
        · rw [if_neg h0]
          exact Or.inr (ih _ (nR_lt hok hg hq) (i - 1) (by omega))
      have sub0 : sub (chC N g (kp N K) 0 a) x := fun j hj => by rw [e, Nat.testBit_or, Nat.testBit_or, hj]; rfl
      have sub1 : sub (chC N g (kp N K) 1 b) x := fun j hj => by rw [e, Nat.testBit_or, Nat.testBit_or, hj]; simp
      have sub2 : sub (chC N g (kp N K) 2 c) x := fun j hj => by rw [e, Nat.testBit_or, Nat.testBit_or, hj]; simp
      rcases (show p = 0 ∨ p = 1 ∨ p = 2 by omega) with rfl | rfl | rfl
      · exact ⟨_, sub0, one3 0 a ha hp⟩
      · exact ⟨_, sub1, one3 1 b hb hp⟩
      · exact ⟨_, sub2, one3 2 c hc hp⟩
    have bel : ∀ p i, i < chN N g (kp N K) p → ∀ j, (chC N g (kp N K) p i).testBit j = true → (nB N g).testBit j = true := by
      intro p i hi j hj
      unfold chN at hi
      unfold chC at hj
      by_cases hp : p < ar (nK N g)
      · rw [if_pos hp] at hi hj
        have hs := nR_src hg hp
        by_cases h0 : i = 0
        · rw [if_pos h0, Nat.testBit_two_pow, decide_eq_true_eq] at hj
          rw [← hj]
          exact nB_src hok hs
        · rw [if_neg h0] at hj
          exact nB_via hok hs ((ih _ (nR_lt hok hg hp) (i - 1) (by omega)).1 j hj)
      · rw [if_neg hp, Nat.zero_testBit] at hj
        cases hj
    refine ⟨fun j hj => ?_, fun i hi => ?_⟩
    · rw [e, Nat.testBit_or, Nat.testBit_or, Bool.or_eq_true, Bool.or_eq_true] at hj
      rcases hj with (h | h) | h
      · exact bel 0 a ha j h
      · exact bel 1 b hb j h
      · exact bel 2 c hc j h
    · have key := rch_min (N := N) (g := g) (S := x) (fun i => i = g ∨ ∃ s y, sub y x ∧ Sep N s y ∧ (rch N s y).testBit i = true) (Or.inl rfl) (fun i j hi hs hc2 => ?_) i hi
      · rcases key with rfl | ⟨s, y, -, h2, h3⟩
        · exact hg
        · exact h2.2 i h3
      · right
        rcases hi with rfl | ⟨s, y, h1, h2, h3⟩
        · obtain ⟨-, k, hk, rfl⟩ := src_of hs
          obtain ⟨y, h1, h2⟩ := part k hk
          rcases h2 with h2 | h2
          · rw [h1 _ h2] at hc2; cases hc2
          · exact ⟨_, y, h1, h2, rch_self N _ y⟩
        · refine ⟨s, y, h1, h2, rch_closed hok h3 hs ?_⟩
          cases hb : y.testBit j with
          | false => rfl
          | true => rw [h1 j hb] at hc2; cases hc2
theorem kp_sep {N : nw} {K n : Nat} (hok : nw_ok N) (hn : nOK N K n) : ∀ s, s < n → ∀ i, i < (kp N K s).1 → Sep N s ((kp N K s).2 i) := by
  intro s
  induction s using Nat.strongRecOn with
  | ind s ih =>
    intro hs i hi
    cases h : isG N s with
    | false => rw [kp_leaf h] at hi; exact absurd hi (Nat.not_lt_zero _)
    | true =>
      have hk := kp_gate (K := K) hok h
      have hin := (keep_in (l := lev N K) (M := cand N K s (kp N K))).2
      rw [← hk] at hin
      exact cand_sep hok h (fun g hg => hn g (by omega)) (fun t ht => ih t ht (by omega)) (hin i hi)
