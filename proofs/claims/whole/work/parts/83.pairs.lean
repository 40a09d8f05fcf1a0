/-! PAIRS and CELLS: what both sides compute -/
def frs (q : Nat → Bool) : Nat → Option Nat
  | 0 => none
  | n + 1 => match frs q n with
    | some i => some i
    | none => if q n then some n else none
theorem frs_some {q : Nat → Bool} : ∀ n i, frs q n = some i → i < n ∧ q i = true ∧ ∀ j, j < i → q j = false
  | 0, i, h => by cases h
  | n + 1, i, h => by
    unfold frs at h
    cases e : frs q n with
    | some z =>
      rw [e] at h
      have h2 := Option.some.inj h
      have := frs_some n z e
      rw [← h2]
      exact ⟨by omega, this.2⟩
    | none =>
      rw [e] at h
      have h : (if q n then some n else none) = some i := h
      by_cases c : q n = true
      · rw [if_pos c] at h
        have h2 := Option.some.inj h
        rw [← h2]
        refine ⟨by omega, c, fun j hj => ?_⟩
        cases hq : q j with
        | false => rfl
        | true =>
          have : ∀ m, j < m → frs q m ≠ none := by
            intro m
            induction m with
            | zero => intro hjm; omega
            | succ m ihm =>
              intro hjm hn
              unfold frs at hn
              cases e2 : frs q m with
              | some z => rw [e2] at hn; cases hn
              | none =>
                rw [e2] at hn
                have hn : (if q m then some m else none) = none := hn
                by_cases e3 : j = m
                · rw [← e3, hq, if_pos rfl] at hn; cases hn
                · exact ihm (by omega) e2
          exact absurd e (this n hj)
      · rw [if_neg c] at h
        cases h
theorem frs_none {q : Nat → Bool} {n : Nat} (h : ∀ j, j < n → q j = false) : frs q n = none := by
  cases e : frs q n with
  | none => rfl
  | some i =>
    have := frs_some n i e
    rw [h i this.1] at this
    cases this.2.1
theorem frs_is {q : Nat → Bool} {n i : Nat} (hi : i < n) (h1 : q i = true) (h2 : ∀ j, j < i → q j = false) : frs q n = some i := by
  cases e : frs q n with
  | none =>
    exfalso
    have : ∀ m, i < m → frs q m ≠ none := by
      intro m
      induction m with
      | zero => intro hjm; omega
      | succ m ihm =>
        intro hjm hn
        unfold frs at hn
        cases e2 : frs q m with
        | some z => rw [e2] at hn; cases hn
        | none =>
          rw [e2] at hn
          have hn : (if q m then some m else none) = none := hn
          by_cases e3 : i = m
          · rw [← e3, h1, if_pos rfl] at hn; cases hn
          · exact ihm (by omega) e2
    exact this n hi e
  | some z =>
    have := frs_some n z e
    rcases Nat.lt_trichotomy i z with c | c | c
    · rw [this.2.2 i c] at h1; cases h1
    · rw [c]
    · rw [h2 z c] at this; cases this.2.1
/-- two tables can be a pair -/
def prB (K : Nat) (ch : Nat → Nat) (a b : Nat) : Bool := !(ch a).testBit b && !(ch b).testBit a && decide (cnt (ch a ||| ch b) 40 ≤ K - 1)
theorem prB_symm (K : Nat) (ch : Nat → Nat) (a b : Nat) : prB K ch a b = prB K ch b a := by
  unfold prB
  rw [Nat.or_comm (ch a) (ch b), Bool.and_comm (!(ch a).testBit b)]
def isN (o : Option Nat) : Bool := match o with
  | none => true
  | some _ => false
theorem isN_t {o : Option Nat} : isN o = true ↔ o = none := by cases o <;> simp [isN]
theorem isN_f {o : Option Nat} : isN o = false ↔ ∃ z, o = some z := by cases o <;> simp [isN]
def prq (T K : Nat) (ch : Nat → Nat) (p : Nat → Option Nat) (a b : Nat) : Bool := decide (a < b) && T.testBit b && isN (p b) && prB K ch a b
def prS (a : Nat) (o : Option Nat) (p : Nat → Option Nat) (i : Nat) : Option Nat := match o with
  | some b => if i = a then some b else if i = b then some a else p i
  | none => p i
def prT (T K : Nat) (ch : Nat → Nat) : Nat → Nat → Option Nat
  | 0 => fun _ => none
  | a + 1 => if T.testBit a && isN (prT T K ch a a) then prS a (frs (prq T K ch (prT T K ch a) a) 40) (prT T K ch a) else prT T K ch a
def prN (T K : Nat) (ch : Nat → Nat) : Nat → Nat
  | 0 => 0
  | a + 1 => prN T K ch a + (if T.testBit a && isN (prT T K ch a a) && !isN (frs (prq T K ch (prT T K ch a) a) 40) then 1 else 0)
theorem prN_le (T K : Nat) (ch : Nat → Nat) : ∀ n, prN T K ch n ≤ n
  | 0 => Nat.le_refl _
  | n + 1 => by
    rw [prN]
    have := prN_le T K ch n
    split <;> omega
theorem prT_f {T K : Nat} {ch : Nat → Nat} {a : Nat} (h : (T.testBit a && isN (prT T K ch a a)) = false) : prT T K ch (a + 1) = prT T K ch a ∧ prN T K ch (a + 1) = prN T K ch a := by
  constructor
  · rw [prT, h]; rfl
  · rw [prN, h]; rfl
theorem prT_n {T K : Nat} {ch : Nat → Nat} {a : Nat} (h : (T.testBit a && isN (prT T K ch a a)) = true) (h2 : frs (prq T K ch (prT T K ch a) a) 40 = none) : prT T K ch (a + 1) = prT T K ch a ∧ prN T K ch (a + 1) = prN T K ch a := by
  constructor
  · rw [prT, if_pos h, h2]; rfl
  · rw [prN, h, h2]; rfl
theorem prT_s {T K : Nat} {ch : Nat → Nat} {a b : Nat} (h : (T.testBit a && isN (prT T K ch a a)) = true) (h2 : frs (prq T K ch (prT T K ch a) a) 40 = some b) : prT T K ch (a + 1) = prS a (some b) (prT T K ch a) ∧ prN T K ch (a + 1) = prN T K ch a + 1 := by
  constructor
  · rw [prT, if_pos h, h2]
  · rw [prN, h, h2]; rfl
/-- what is so of partners -/
def prI (T n : Nat) (p : Nat → Option Nat) : Prop := ∀ i q, p i = some q → T.testBit i = true ∧ T.testBit q = true ∧ i ≠ q ∧ p q = some i ∧ (i < n ∨ q < n) ∧ i < 40 ∧ q < 40
theorem prI_T {T K : Nat} {ch : Nat → Nat} (hT : T < 2 ^ 40) : ∀ n, n ≤ 40 → prI T n (prT T K ch n)
  | 0, _ => fun i q h => by cases h
  | n + 1, hn => by
    have ih := prI_T (K := K) (ch := ch) hT n (by omega)
    have wk : prI T (n + 1) (prT T K ch n) := fun i q h => by
      obtain ⟨a, b, c, d, e, f⟩ := ih i q h
      exact ⟨a, b, c, d, by omega, f⟩
    cases h : (T.testBit n && isN (prT T K ch n n)) with
    | false => rw [(prT_f h).1]; exact wk
    | true =>
      cases h2 : frs (prq T K ch (prT T K ch n) n) 40 with
      | none => rw [(prT_n h h2).1]; exact wk
      | some b =>
        rw [(prT_s h h2).1]
        obtain ⟨b1, b2, -⟩ := frs_some 40 b h2
        unfold prq at b2
        simp only [Bool.and_eq_true, decide_eq_true_eq] at b2 h
        obtain ⟨⟨⟨hab, hTb⟩, hpb⟩, -⟩ := b2
        have hpn := isN_t.mp h.2
        have hpb := isN_t.mp hpb
        intro i q hq
        have hq : (if i = n then some b else if i = b then some n else prT T K ch n i) = some q := hq
        by_cases e1 : i = n
        · rw [if_pos e1] at hq
          have hq := Option.some.inj hq
          rw [e1, ← hq]
          refine ⟨h.1, hTb, by omega, ?_, by omega, by omega, by omega⟩
          show (if b = n then _ else if b = b then some n else _) = _
          rw [if_neg (by omega), if_pos rfl]
        · rw [if_neg e1] at hq
          by_cases e2 : i = b
          · rw [if_pos e2] at hq
            have hq := Option.some.inj hq
            rw [e2, ← hq]
            refine ⟨hTb, h.1, by omega, ?_, by omega, by omega, by omega⟩
            show (if n = n then some b else _) = _
            rw [if_pos rfl]
          · rw [if_neg e2] at hq
            obtain ⟨a1, a2, a3, a4, a5, a6⟩ := ih i q hq
            refine ⟨a1, a2, a3, ?_, by omega, a6⟩
            show (if q = n then some b else if q = b then some n else prT T K ch n q) = some i
            have n1 : q ≠ n := fun e => by rw [e, hpn] at a4; cases a4
            have n2 : q ≠ b := fun e => by rw [e, hpb] at a4; cases a4
            rw [if_neg n1, if_neg n2]
            exact a4
/-- beyond the last node nothing changes -/
theorem prT_end {T K n : Nat} {ch : Nat → Nat} (h : ∀ j, T.testBit j = true → j < n) : ∀ d, prT T K ch (n + d) = prT T K ch n ∧ prN T K ch (n + d) = prN T K ch n
  | 0 => ⟨rfl, rfl⟩
  | d + 1 => by
    have hb : T.testBit (n + d) = false := by
      cases q : T.testBit (n + d) with
      | false => rfl
      | true => have := h _ q; omega
    have := prT_f (T := T) (K := K) (ch := ch) (a := n + d) (by rw [hb]; rfl)
    rw [← Nat.add_assoc, this.1, this.2]
    exact prT_end h d
/-- the lower of a table and its partner; which tables begin a cell; the cell of a table -/
def low2 (p : Nat → Option Nat) (i : Nat) : Nat := match p i with
  | none => i
  | some q => min i q
theorem low2_n {p : Nat → Option Nat} {i : Nat} (h : p i = none) : low2 p i = i := by unfold low2; rw [h]
theorem low2_s {p : Nat → Option Nat} {i q : Nat} (h : p i = some q) : low2 p i = min i q := by unfold low2; rw [h]
def nwT (T : Nat) (p : Nat → Option Nat) : Nat := mk (fun i => T.testBit i && decide (low2 p i = i)) 40
theorem nwT_bit {T : Nat} {p : Nat → Option Nat} (hT : T < 2 ^ 40) (i : Nat) : (nwT T p).testBit i = (T.testBit i && decide (low2 p i = i)) := by
  unfold nwT
  rw [mk_bit]
  by_cases h : i < 40
  · simp [h]
  · have : T.testBit i = false := by
      cases q : T.testBit i with
      | false => rfl
      | true => have := bit_lt hT q; omega
    simp [h, this]
theorem nwT_lt (T : Nat) (p : Nat → Option Nat) : nwT T p < 2 ^ 40 := mk_lt _ _
def ceI (T : Nat) (p : Nat → Option Nat) (i : Nat) : Nat := cnt (nwT T p) (low2 p i)
theorem low2_in {T n : Nat} {p : Nat → Option Nat} (hT : T < 2 ^ 40) (hp : prI T n p) {i : Nat} (hi : T.testBit i = true) : (nwT T p).testBit (low2 p i) = true ∧ low2 p i ≤ i := by
  rw [nwT_bit hT, Bool.and_eq_true, decide_eq_true_eq]
  cases h : p i with
  | none => rw [low2_n h]; exact ⟨⟨hi, low2_n h⟩, Nat.le_refl _⟩
  | some q =>
    obtain ⟨a1, a2, a3, a4, -⟩ := hp i q h
    rw [low2_s h]
    rcases Nat.lt_or_ge i q with c | c
    · rw [Nat.min_eq_left (by omega)]
      exact ⟨⟨hi, by rw [low2_s h, Nat.min_eq_left (by omega)]⟩, Nat.le_refl _⟩
    · rw [Nat.min_eq_right c]
      exact ⟨⟨a2, by rw [low2_s a4, Nat.min_eq_left c]⟩, c⟩
theorem ceI_lt {T n : Nat} {p : Nat → Option Nat} (hT : T < 2 ^ 40) (hp : prI T n p) {i : Nat} (hi : T.testBit i = true) : ceI T p i < cnt (nwT T p) 40 := by
  obtain ⟨h1, h2⟩ := low2_in hT hp hi
  have h3 := bit_lt hT hi
  have := cnt_mono (nwT T p) (show low2 p i + 1 ≤ 40 by omega)
  rw [cnt_succ, h1] at this
  exact this
/-- two tables of one cell are partners -/
theorem ceI_two {T n : Nat} {p : Nat → Option Nat} (hT : T < 2 ^ 40) (hp : prI T n p) {i j : Nat} (hi : T.testBit i = true) (hj : T.testBit j = true) (hne : i ≠ j) (he : ceI T p i = ceI T p j) : p i = some j := by
  obtain ⟨h1, -⟩ := low2_in hT hp hi
  obtain ⟨h2, -⟩ := low2_in hT hp hj
  have e : low2 p i = low2 p j := fb_ct_kth_one (p := fun i => (nwT T p).testBit i) h1 h2 he
  cases ci : p i with
  | none =>
    rw [low2_n ci] at e
    cases cj : p j with
    | none => rw [low2_n cj] at e; exact absurd e hne
    | some q =>
      obtain ⟨-, -, -, a4, -⟩ := hp j q cj
      rw [low2_s cj] at e
      have : q = i := by omega
      rw [this, ci] at a4
      cases a4
  | some q =>
    obtain ⟨-, -, a3, a4, -⟩ := hp i q ci
    rw [low2_s ci] at e
    cases cj : p j with
    | none =>
      rw [low2_n cj] at e
      have : q = j := by omega
      rw [this]
    | some r =>
      obtain ⟨-, -, b3, b4, -⟩ := hp j r cj
      rw [low2_s cj] at e
      rcases (show q = j ∨ (i = r) ∨ (i ≠ r ∧ q = r ∧ q ≠ j) by omega) with c | c | c
      · rw [c]
      · rw [← c, ci] at b4
        have := Option.some.inj b4
        rw [this]
      · rw [c.2.1, b4] at a4
        have := Option.some.inj a4
        exact absurd this.symm hne
/-- cells of tables -/
def teS (p : Nat → Option Nat) (n : Nat) : Nat := match p n with
  | none => 2 ^ n
  | some q => 2 ^ n ||| 2 ^ q
def neS (ch : Nat → Nat) (p : Nat → Option Nat) (n : Nat) : Nat := match p n with
  | none => ch n
  | some q => ch n ||| ch q
theorem teS_n {p : Nat → Option Nat} {n : Nat} (h : p n = none) : teS p n = 2 ^ n := by unfold teS; rw [h]
theorem teS_s {p : Nat → Option Nat} {n q : Nat} (h : p n = some q) : teS p n = 2 ^ n ||| 2 ^ q := by unfold teS; rw [h]
theorem neS_n {ch : Nat → Nat} {p : Nat → Option Nat} {n : Nat} (h : p n = none) : neS ch p n = ch n := by unfold neS; rw [h]
theorem neS_s {ch : Nat → Nat} {p : Nat → Option Nat} {n q : Nat} (h : p n = some q) : neS ch p n = ch n ||| ch q := by unfold neS; rw [h]
/-- how many cells, tables in each, registers in each, nets in, packed -/
abbrev clS : Type := Nat × (Nat → Nat) × (Nat → Nat) × (Nat → Nat) × Nat
def clN (t r i : Nat) (s : clS) : clS := (s.1 + 1, add1 s.1 s.2.1 t, add1 s.1 s.2.2.1 r, add1 s.1 s.2.2.2.1 i, s.2.2.2.2)
def clT (T : Nat) (ch : Nat → Nat) (p : Nat → Option Nat) : Nat → clS
  | 0 => (0, fun _ => 0, fun _ => 0, fun _ => 0, 0)
  | n + 1 => if (nwT T p).testBit n then clN (teS p n) 0 (neS ch p n) (clT T ch p n) else clT T ch p n
theorem clT_1 (T : Nat) (ch : Nat → Nat) (p : Nat → Option Nat) : ∀ n, (clT T ch p n).1 = cnt (nwT T p) n
  | 0 => rfl
  | n + 1 => by
    rw [clT, cnt_succ]
    cases h : (nwT T p).testBit n with
    | true => rw [if_pos rfl]; show (clT T ch p n).1 + 1 = _; rw [clT_1 T ch p n]; rfl
    | false => rw [if_neg (by simp), clT_1 T ch p n]; rfl
/-- feeds of several registers; tables into whose cells a register goes -/
def usM (T : Nat) (ch : Nat → Nat) : Nat → Nat
  | 0 => 0
  | n + 1 => usM T ch n ||| (if T.testBit n then ch n else 0)
theorem usM_bit (T : Nat) (ch : Nat → Nat) (j : Nat) : ∀ n, (usM T ch n).testBit j = true ↔ ∃ g, g < n ∧ T.testBit g = true ∧ (ch g).testBit j = true
  | 0 => by
    show (0 : Nat).testBit j = true ↔ _
    rw [Nat.zero_testBit]
    exact ⟨fun h => (by cases h), fun ⟨g, h, _⟩ => absurd h (by omega)⟩
  | n + 1 => by
    rw [usM, Nat.testBit_or, Bool.or_eq_true, usM_bit T ch j n]
    constructor
    · rintro (⟨g, h1, h2⟩ | h)
      · exact ⟨g, by omega, h2⟩
      · by_cases q : T.testBit n = true
        · rw [if_pos q] at h
          exact ⟨n, by omega, q, h⟩
        · rw [if_neg q, Nat.zero_testBit] at h
          cases h
    · rintro ⟨g, h1, h2, h3⟩
      by_cases e : g = n
      · rw [e] at h2 h3
        rw [if_pos h2]
        exact Or.inr h3
      · exact Or.inl ⟨g, by omega, h2, h3⟩
def svM (N : nw) : Nat → Nat
  | 0 => 0
  | r + 1 => svM N r ||| (if isR N r then fdM N r &&& 2 ^ nF N r else 0)
theorem svM_bit (N : nw) (j : Nat) : ∀ n, (svM N n).testBit j = true ↔ ∃ a b, a < b ∧ b < n ∧ isR N a = true ∧ isR N b = true ∧ nF N a = j ∧ nF N b = j
  | 0 => by
    show (0 : Nat).testBit j = true ↔ _
    rw [Nat.zero_testBit]
    exact ⟨fun h => (by cases h), fun ⟨a, b, _, h, _⟩ => absurd h (by omega)⟩
  | n + 1 => by
    rw [svM, Nat.testBit_or, Bool.or_eq_true, svM_bit N j n]
    constructor
    · rintro (⟨a, b, h1, h2, h3⟩ | h)
      · exact ⟨a, b, h1, by omega, h3⟩
      · by_cases q : isR N n = true
        · rw [if_pos q, Nat.testBit_and, Nat.testBit_two_pow, Bool.and_eq_true, fdM_bit, decide_eq_true_eq, decide_eq_true_eq] at h
          obtain ⟨⟨a, a1, a2, a3⟩, e⟩ := h
          exact ⟨a, n, a1, by omega, a2, q, a3, e⟩
        · rw [if_neg q, Nat.zero_testBit] at h
          cases h
    · rintro ⟨a, b, h1, h2, h3, h4, h5, h6⟩
      by_cases e : b = n
      · rw [e] at h1 h4 h6
        rw [if_pos h4, Nat.testBit_and, Nat.testBit_two_pow, Bool.and_eq_true, fdM_bit, decide_eq_true_eq, decide_eq_true_eq]
        exact Or.inr ⟨⟨a, h1, h3, h5⟩, h6⟩
      · exact Or.inl ⟨a, b, h1, by omega, h3, h4, h5, h6⟩
def frM (N : nw) (T : Nat) (ch : Nat → Nat) : Nat := sD (sD (sD T (nO N)) (usM T ch 40)) (svM N 40)
theorem frM_bit (N : nw) (T : Nat) (ch : Nat → Nat) (f : Nat) : (frM N T ch).testBit f = (T.testBit f && !(nO N).testBit f && !(usM T ch 40).testBit f && !(svM N 40).testBit f) := by
  unfold frM
  rw [sD_bit, sD_bit, sD_bit]
def clP (c r : Nat) (s : clS) : clS := (s.1, s.2.1, (fun z => if z = c then s.2.2.1 z ||| 2 ^ r else s.2.2.1 z), s.2.2.2.1, s.2.2.2.2 ||| 2 ^ r)
def clR (N : nw) (T : Nat) (ch : Nat → Nat) (p : Nat → Option Nat) : Nat → clS
  | 0 => clT T ch p 40
  | r + 1 => if isR N r then (if (frM N T ch).testBit (nF N r) then clP (ceI T p (nF N r)) r (clR N T ch p r) else clN 0 (2 ^ r) (2 ^ nF N r) (clR N T ch p r)) else clR N T ch p r
theorem clR_f {N : nw} {T : Nat} {ch : Nat → Nat} {p : Nat → Option Nat} {r : Nat} (h : isR N r = false) : clR N T ch p (r + 1) = clR N T ch p r := by rw [clR, h]; rfl
theorem clR_p {N : nw} {T : Nat} {ch : Nat → Nat} {p : Nat → Option Nat} {r : Nat} (h : isR N r = true) (h2 : (frM N T ch).testBit (nF N r) = true) : clR N T ch p (r + 1) = clP (ceI T p (nF N r)) r (clR N T ch p r) := by rw [clR, if_pos h, if_pos h2]
theorem clR_n {N : nw} {T : Nat} {ch : Nat → Nat} {p : Nat → Option Nat} {r : Nat} (h : isR N r = true) (h2 : (frM N T ch).testBit (nF N r) = false) : clR N T ch p (r + 1) = clN 0 (2 ^ r) (2 ^ nF N r) (clR N T ch p r) := by rw [clR, if_pos h, h2]; rfl
theorem clR_end {N : nw} {T : Nat} {ch : Nat → Nat} {p : Nat → Option Nat} : ∀ d, clR N T ch p (nN N + d) = clR N T ch p (nN N)
  | 0 => rfl
  | d + 1 => by rw [← Nat.add_assoc, clR_f (by simp [isR]; omega), clR_end d]
/-- not more cells than nodes -/
theorem cl_room {N : nw} {T : Nat} {p : Nat → Option Nat} (hT : allG N T) : cnt (nwT T p) 40 + cnt (rM N) 40 ≤ 40 := by
  have h := fb_ct_or (p := fun i => (nwT T p).testBit i) (q := fun i => (rM N).testBit i) (n := 40) (fun k hk hh => by
    have h1 : (nwT T p).testBit k = true := hh.1
    have h2 : (rM N).testBit k = true := hh.2
    unfold nwT at h1
    rw [mk_bit, Bool.and_eq_true, Bool.and_eq_true] at h1
    have hg := hT k h1.2.1
    rw [rM_bit] at h2
    have := isG_lt hg
    rw [isG_of this] at hg
    rw [isR_of this] at h2
    simp at hg h2
    omega)
  have h2 := fb_ct_le (fun k => (nwT T p).testBit k || (rM N).testBit k) 40
  unfold cnt
  omega
theorem clR_1 {N : nw} {T : Nat} {ch : Nat → Nat} {p : Nat → Option Nat} : ∀ r, cnt (nwT T p) 40 ≤ (clR N T ch p r).1 ∧ (clR N T ch p r).1 ≤ cnt (nwT T p) 40 + cnt (rM N) r
  | 0 => by
    have := clT_1 T ch p 40
    show cnt (nwT T p) 40 ≤ (clT T ch p 40).1 ∧ (clT T ch p 40).1 ≤ _
    omega
  | r + 1 => by
    have ih := clR_1 (N := N) (T := T) (ch := ch) (p := p) r
    have hb := rM_bit N r
    rw [cnt_succ (rM N) r, hb]
    cases h : isR N r with
    | false => rw [clR_f h]; exact ⟨ih.1, by show _ ≤ _ + (_ + 0); omega⟩
    | true =>
      cases h2 : (frM N T ch).testBit (nF N r) with
      | true => rw [clR_p h h2]; exact ⟨ih.1, by show (clR N T ch p r).1 ≤ _ + (_ + 1); omega⟩
      | false => rw [clR_n h h2]; exact ⟨by show _ ≤ (clR N T ch p r).1 + 1; omega, by show (clR N T ch p r).1 + 1 ≤ _ + (_ + 1); omega⟩
theorem clR_lt {N : nw} {T : Nat} {ch : Nat → Nat} {p : Nat → Option Nat} (hT : allG N T) {r : Nat} (hr : r < 40) (h : isR N r = true) : (clR N T ch p r).1 < 40 := by
  have h1 := cl_room (p := p) hT
  have h2 := (clR_1 (N := N) (T := T) (ch := ch) (p := p) r).2
  have h3 := cnt_mono (rM N) (show r + 1 ≤ 40 by omega)
  rw [cnt_succ, rM_bit, h] at h3
  have h3 : cnt (rM N) r + 1 ≤ cnt (rM N) 40 := h3
  omega
theorem clR_le {N : nw} {T : Nat} {ch : Nat → Nat} {p : Nat → Option Nat} (hT : allG N T) {r : Nat} (hr : r ≤ 40) : (clR N T ch p r).1 ≤ 40 := by
  have h1 := cl_room (p := p) hT
  have h2 := (clR_1 (N := N) (T := T) (ch := ch) (p := p) r).2
  have h3 := cnt_mono (rM N) hr
  omega
