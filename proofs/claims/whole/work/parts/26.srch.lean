/-! the search for one more way, step by step; the chain back from its end -/
def oN (o : Option Nat) : Int32 := match o with
  | some z => nI z
  | none => -(nI 1)
theorem oN_none {z : Nat} (h : z < 2 ^ 31) : nI z ≠ -(nI 1) := fun e => nI_pos h (by rw [e]; exact m1_neg)
theorem oN_inj {o p : Option Nat} (ho : ∀ z, o = some z → z < 2 ^ 31) (hp : ∀ z, p = some z → z < 2 ^ 31) (h : oN o = oN p) : o = p := by
  cases o with
  | none =>
    cases p with
    | none => rfl
    | some z => exact absurd h.symm (oN_none (hp z rfl))
  | some y =>
    cases p with
    | none => exact absurd h (oN_none (ho y rfl))
    | some z =>
      have h : nI y = nI z := h
      rw [nI_eq (ho y rfl) (hp z rfl)] at h
      rw [h]
/-- some ends more, all come to from the same -/
def sX (q : Nat) (Q : Nat → Nat) (cf : Nat → Option Nat) (q' : Nat) (Q' : Nat → Nat) (cf' : Nat → Option Nat) (fr : Option Nat) (A : Nat → Prop) : Prop :=
  q ≤ q' ∧ (∀ i, i < q → Q' i = Q i) ∧ (∀ i, i < q → cf' (Q i) = cf (Q i)) ∧ (∀ i, q ≤ i → i < q' → A (Q' i) ∧ cf' (Q' i) = fr) ∧ ∀ y, A y → ∃ j, j < q' ∧ Q' j = y
def one (q : Nat) (Q : Nat → Nat) : Prop := ∀ i j, i < q → j < q → Q i = Q j → i = j
def eV (N : nw) (g C y : Nat) : Prop := (y < 40 ∧ fV N g C y) ∨ (40 ≤ y ∧ fV N g C (y - 40))
theorem rS_fV {N : nw} (hok : nw_ok N) {g C y : Nat} (hC : C_ok N g C) (h : rS N C y) : fV N g C y := by
  obtain ⟨h1, c, hc, hs⟩ := h
  refine ⟨?_, h1⟩
  rcases (hC.2.1 c hc).2 with e | ⟨e, -⟩
  · subst e; exact nB_src hok hs
  · exact nB_trans hok _ _ _ e hs
theorem rE_eV {N : nw} (hok : nw_ok N) {g C on x y : Nat} {ah : Nat → Option Nat} (hC : C_ok N g C) (hw : wS N g C on ah) (hx : eV N g C x) (h : rE N on ah x y) : eV N g C y := by
  rcases h with ⟨hx4, hon, e⟩ | ⟨u, hx4, hon, ha, e⟩ | ⟨u, e, hs⟩ | ⟨u, e, hg, hon, e2⟩
  · rcases hx with ⟨-, hv⟩ | ⟨q, -⟩
    · refine Or.inr ⟨by omega, ?_⟩
      rw [e, show 40 + x - 40 = x by omega]; exact hv
    · omega
  · have := hw.1 u (hw.2.2.1 x u hon ha).1
    refine Or.inr ⟨by omega, ?_⟩
    rw [e, show 40 + u - 40 = u by omega]; exact this
  · rcases hx with ⟨q, -⟩ | ⟨-, hv⟩
    · omega
    · rw [e, show 40 + u - 40 = u by omega] at hv
      have hf : fV N g C y := by
        refine ⟨nB_trans hok _ _ _ hv.1 hs, ?_⟩
        cases hc : C.testBit y with
        | false => rfl
        | true =>
          have := hC.2.2 u y hv.1 hs hc
          rw [hv.2] at this
          cases this
      exact Or.inl ⟨fV_lt hok hf, hf⟩
  · have hf := hw.1 u hon
    subst e2
    exact Or.inl ⟨fV_lt hok hf, hf⟩
theorem bQ_start {N : nw} (hok : nw_ok N) {g C on : Nat} {ah : Nat → Option Nat} {Q Q' : Nat → Nat} {q' : Nat} {cf cf' : Nat → Option Nat} (hC : C_ok N g C) (hd : one q' Q') (hx : sX 0 Q cf q' Q' cf' none (rS N C)) : bQ N g C on ah Q' q' 0 cf' := by
  obtain ⟨-, -, -, h4, h5⟩ := hx
  refine ⟨hd, fun i hi => ?_, fun i hi => ?_, fun y hy => h5 y hy, Nat.zero_le _, fun i hi => absurd hi (by omega)⟩
  · have hf := rS_fV hok hC (h4 i (by omega) hi).1
    exact Or.inl ⟨fV_lt hok hf, hf⟩
  · have h := h4 i (by omega) hi
    exact Or.inl ⟨h.2, h.1, fV_lt hok (rS_fV hok hC h.1)⟩
theorem bQ_step {N : nw} (hok : nw_ok N) {g C on : Nat} {ah : Nat → Option Nat} {Q Q' : Nat → Nat} {q q' p : Nat} {cf cf' : Nat → Option Nat} (hC : C_ok N g C) (hw : wS N g C on ah) (hb : bQ N g C on ah Q q p cf) (hp : p < q) (hd : one q' Q') (hx : sX q Q cf q' Q' cf' (some (Q p)) (rE N on ah (Q p))) (hgt : ∀ u, Q p = 40 + u → isG N u = true) : bQ N g C on ah Q' q' (p + 1) cf' := by
  obtain ⟨b1, b2, b3, b4, b5, b6⟩ := hb
  obtain ⟨x1, x2, x3, x4, x5⟩ := hx
  have old : ∀ y, (∃ j, j < q ∧ Q j = y) → ∃ j, j < q' ∧ Q' j = y := fun y ⟨j, hj, e⟩ => ⟨j, by omega, by rw [x2 j hj]; exact e⟩
  refine ⟨hd, fun i hi => ?_, fun i hi => ?_, fun y hy => old y (b4 y hy), by omega, fun i hi => ?_⟩
  · by_cases h : i < q
    · rw [x2 i h]; exact b2 i h
    · exact rE_eV hok hC hw (b2 p hp) (x4 i (by omega) hi).1
  · by_cases h : i < q
    · rw [x2 i h, x3 i h]
      rcases b3 i h with h3 | ⟨j, hj, h3⟩
      · exact Or.inl h3
      · exact Or.inr ⟨j, hj, by rw [x2 j (by omega)]; exact h3⟩
    · obtain ⟨h3, h4⟩ := x4 i (by omega) hi
      exact Or.inr ⟨p, by omega, by rw [x2 p hp]; exact ⟨h4, h3⟩⟩
  · rw [x2 i (by omega)]
    by_cases h : i < p
    · exact ⟨fun y hy => old y ((b6 i h).1 y hy), (b6 i h).2⟩
    · have e : i = p := by omega
      subst e
      exact ⟨fun y hy => x5 y hy, hgt⟩
/-- back from an end -/
def ch (cf : Nat → Option Nat) (s : Nat) : Nat → Option Nat
  | 0 => some s
  | n + 1 => (ch cf s n).bind cf
theorem ch_succ {cf : Nat → Option Nat} {s n x : Nat} (h : ch cf s n = some x) : ch cf s (n + 1) = cf x := by show (ch cf s n).bind cf = cf x; rw [h]; rfl
theorem ch_pred {cf : Nat → Option Nat} {s n x : Nat} (h : ch cf s (n + 1) = some x) : ∃ y, ch cf s n = some y ∧ cf y = some x := by
  have h : (ch cf s n).bind cf = some x := h
  cases hc : ch cf s n with
  | none => rw [hc] at h; cases h
  | some y => rw [hc] at h; exact ⟨y, rfl, h⟩
theorem ch_down {N : nw} {g C on : Nat} {ah : Nat → Option Nat} {Q : Nat → Nat} {q p : Nat} {cf : Nat → Option Nat} (hb : bQ N g C on ah Q q p cf) {s a i : Nat} (ha : ch cf s a = some (Q i)) (hi : i < q) : ∀ (k x : Nat), ch cf s (a + k) = some x → ∃ j, j + k ≤ i ∧ Q j = x := by
  intro k
  induction k with
  | zero =>
    intro x hx
    rw [Nat.add_zero, ha] at hx
    exact ⟨i, by omega, Option.some.inj hx⟩
  | succ k ih =>
    intro x hx
    obtain ⟨y, h1, h2⟩ := ch_pred (n := a + k) hx
    obtain ⟨j, hj, e⟩ := ih y h1
    rcases hb.2.2.1 j (by omega) with ⟨h3, -⟩ | ⟨l, hl, h3, -⟩
    · rw [e, h2] at h3; cases h3
    · rw [e, h2] at h3
      exact ⟨l, by omega, (Option.some.inj h3).symm⟩
theorem ch_end {cf : Nat → Option Nat} {s n : Nat} (h : ch cf s n = none) : ∀ k, ch cf s (n + k) = none
  | 0 => h
  | k + 1 => by show (ch cf s (n + k)).bind cf = none; rw [ch_end h k]; rfl
/-- whether an end is on the chain, among so many -/
def onC (cf : Nat → Option Nat) (s n x : Nat) : Prop := ∃ k, k < n ∧ ch cf s k = some x
def inC (cf : Nat → Option Nat) (s x : Nat) : Prop := ∃ k, ch cf s k = some x
theorem ch_one {N : nw} {g C on : Nat} {ah : Nat → Option Nat} {Q : Nat → Nat} {q p : Nat} {cf : Nat → Option Nat} (hb : bQ N g C on ah Q q p cf) (hp : p < q) {a b x : Nat} (h1 : ch cf (Q p) a = some x) (h2 : ch cf (Q p) b = some x) : a = b := by
  have key : ∀ a b, a < b → ch cf (Q p) a = some x → ch cf (Q p) b = some x → False := by
    intro a b hab h1 h2
    obtain ⟨i, hi, e⟩ := ch_down hb (a := 0) (i := p) rfl hp a x (by rw [Nat.zero_add]; exact h1)
    have h1' := h1
    rw [← e] at h1'
    obtain ⟨j, hj, e2⟩ := ch_down hb h1' (by omega) (b - a) x (by rw [show a + (b - a) = b by omega]; exact h2)
    have := hb.1 i j (by omega) (by omega) (by rw [e, e2])
    omega
  rcases Nat.lt_trichotomy a b with h | h | h
  · exact (key a b h h1 h2).elim
  · exact h
  · exact (key b a h h2 h1).elim
theorem ch_far {N : nw} {g C on : Nat} {ah : Nat → Option Nat} {Q : Nat → Nat} {q p : Nat} {cf : Nat → Option Nat} (hb : bQ N g C on ah Q q p cf) (hp : p < q) {n : Nat} (hn : p < n) : ch cf (Q p) n = none := by
  cases h : ch cf (Q p) n with
  | none => rfl
  | some x =>
    obtain ⟨j, hj, -⟩ := ch_down hb (a := 0) (i := p) rfl hp n x (by rw [Nat.zero_add]; exact h)
    omega
theorem ch_at {N : nw} {g C on : Nat} {ah : Nat → Option Nat} {Q : Nat → Nat} {q p : Nat} {cf : Nat → Option Nat} (hb : bQ N g C on ah Q q p cf) (hp : p < q) {n x : Nat} (h : ch cf (Q p) n = some x) : ∃ i, i < q ∧ Q i = x := by
  obtain ⟨j, hj, e⟩ := ch_down hb (a := 0) (i := p) rfl hp n x (by rw [Nat.zero_add]; exact h)
  exact ⟨j, by omega, e⟩
theorem ch_pth {N : nw} {g C on : Nat} {ah : Nat → Option Nat} {Q : Nat → Nat} {q p : Nat} {cf : Nat → Option Nat} {leaf : Nat} (hb : bQ N g C on ah Q q p cf) (hp : p < q) (he : Q p = 40 + leaf) (hl : isG N leaf = false) (hl4 : leaf < 40) : pth N g C on ah cf leaf (inC cf (40 + leaf)) := by
  rw [← he]
  obtain ⟨b1, b2, b3, -, -, -⟩ := id hb
  refine ⟨⟨0, by rw [he]; rfl⟩, fun x z ⟨n, hx⟩ hc => ?_, fun x ⟨n, hx⟩ hc => ?_, fun x ⟨n, hx⟩ hne => ?_, fun x y ⟨n, hx⟩ ⟨m, hy⟩ hc => ?_, fun x ⟨n, hx⟩ => ?_, hl, hl4, ?_⟩
  · refine ⟨⟨n + 1, by rw [ch_succ hx, hc]⟩, ?_⟩
    obtain ⟨i, hi, e⟩ := ch_at hb hp hx
    rcases b3 i hi with ⟨h3, -⟩ | ⟨l, -, h3, h4⟩
    · rw [e, hc] at h3; cases h3
    · rw [e, hc] at h3
      rw [e, ← Option.some.inj h3] at h4
      exact h4
  · obtain ⟨i, hi, e⟩ := ch_at hb hp hx
    rcases b3 i hi with ⟨-, h3, h4⟩ | ⟨l, -, h3, -⟩
    · rw [e] at h3 h4; exact ⟨h4, h3⟩
    · rw [e, hc] at h3; cases h3
  · cases n with
    | zero => exact absurd (Option.some.inj hx).symm (by rw [he]; exact hne)
    | succ n =>
      obtain ⟨y, h1, h2⟩ := ch_pred hx
      exact ⟨y, ⟨n, h1⟩, h2⟩
  · cases hcx : cf x with
    | none =>
      have e1 : ch cf (Q p) (n + 1) = none := by rw [ch_succ hx, hcx]
      have e2 : ch cf (Q p) (m + 1) = none := by rw [ch_succ hy, ← hc, hcx]
      have a1 : ¬ n < m := fun h => by
        have := ch_end e1 (m - n - 1)
        rw [show n + 1 + (m - n - 1) = m by omega, hy] at this
        cases this
      have a2 : ¬ m < n := fun h => by
        have := ch_end e2 (n - m - 1)
        rw [show m + 1 + (n - m - 1) = n by omega, hx] at this
        cases this
      have : n = m := by omega
      subst this
      rw [hx] at hy
      exact Option.some.inj hy
    | some z =>
      have := ch_one hb hp (a := n + 1) (b := m + 1) (x := z) (by rw [ch_succ hx, hcx]) (by rw [ch_succ hy, ← hc, hcx])
      have : n = m := by omega
      subst this
      rw [hx] at hy
      exact Option.some.inj hy
  · obtain ⟨i, hi, e⟩ := ch_at hb hp hx
    rw [← e]
    exact b2 i hi
  · have hfar := ch_far hb hp (n := p + 1) (by omega)
    have : ∀ n, ch cf (Q p) n = none → ∃ x, inC cf (Q p) x ∧ cf x = none := by
      intro n
      induction n with
      | zero => intro h; cases h
      | succ n ih =>
        intro h
        cases hc : ch cf (Q p) n with
        | none => exact ih hc
        | some x => exact ⟨x, ⟨n, hc⟩, by rw [← ch_succ hc]; exact h⟩
    exact this _ hfar
