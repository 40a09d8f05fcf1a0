/-! the model's coneOf -/
/-- gates one comes to, those below a number looked at from above -/
def cdn (N : nw) (cut : Nat) : Nat → Nat → Nat
  | 0, R => R
  | k + 1, R => cdn N cut k (if R.testBit k then R ||| (sD (sM N k) cut &&& gM N) else R)
def cne (N : nw) (g cut : Nat) : Nat := cdn N cut (g + 1) (2 ^ g)
/-- of a node, so many sources looked at -/
def cpt (N : nw) (cut i : Nat) : Nat → Nat
  | 0 => 0
  | k + 1 => cpt N cut i k ||| (if slB N i k && isG N (nR N i k) && !cut.testBit (nR N i k) then 2 ^ nR N i k else 0)
theorem cpt_bit (N : nw) (cut i j : Nat) : ∀ n, (cpt N cut i n).testBit j = true ↔ ∃ k, k < n ∧ slB N i k = true ∧ nR N i k = j ∧ isG N j = true ∧ cut.testBit j = false
  | 0 => by
    show (0 : Nat).testBit j = true ↔ _
    rw [Nat.zero_testBit]
    exact ⟨fun h => (by cases h), fun ⟨k, h, _⟩ => absurd h (by omega)⟩
  | n + 1 => by
    rw [cpt, Nat.testBit_or, Bool.or_eq_true, cpt_bit N cut i j n]
    constructor
    · rintro (⟨k, h1, h2⟩ | h)
      · exact ⟨k, by omega, h2⟩
      · by_cases q : (slB N i n && isG N (nR N i n) && !cut.testBit (nR N i n)) = true
        · rw [if_pos q, Nat.testBit_two_pow, decide_eq_true_eq] at h
          rw [h, Bool.and_eq_true, Bool.and_eq_true, Bool.not_eq_true'] at q
          exact ⟨n, by omega, q.1.1, h, q.1.2, q.2⟩
        · rw [if_neg q, Nat.zero_testBit] at h
          cases h
    · rintro ⟨k, h1, h2, h3, h4, h5⟩
      by_cases e : k = n
      · subst e
        right
        rw [if_pos (by rw [h2, h3, h4, h5]; rfl), h3, Nat.testBit_two_pow]
        simp
      · exact Or.inl ⟨k, by omega, h2, h3, h4, h5⟩
theorem cpt_3 {N : nw} (hok : nw_ok N) (cut i : Nat) : cpt N cut i 3 = sD (sM N i) cut &&& gM N := set_eq fun j => by
  apply Bool.eq_iff_iff.mpr
  rw [cpt_bit, Nat.testBit_and, sD_bit, Bool.and_eq_true, Bool.and_eq_true, Bool.not_eq_true', gM_bit]
  constructor
  · rintro ⟨k, h1, h2, h3, h4, h5⟩
    exact ⟨⟨by rw [← h3]; exact nR_src (slB_iff.mp h2).1 (slB_iff.mp h2).2, h5⟩, h4⟩
  · rintro ⟨⟨h1, h2⟩, h3⟩
    obtain ⟨hg, k, hk, e⟩ := src_of h1
    have := ar_pos (nK N i)
    exact ⟨k, by omega, slB_iff.mpr ⟨hg, hk⟩, e, h3, h2⟩
theorem cdn_gate {N : nw} {cut : Nat} : ∀ k R, (∀ i, R.testBit i = true → isG N i = true) → ∀ i, (cdn N cut k R).testBit i = true → isG N i = true
  | 0, R, h => h
  | k + 1, R, h => by
    rw [cdn]
    apply cdn_gate k
    intro i hi
    split at hi
    · rw [Nat.testBit_or, Nat.testBit_and, Bool.or_eq_true, Bool.and_eq_true, gM_bit] at hi
      rcases hi with q | q
      · exact h i q
      · exact q.2
    · exact h i hi
theorem cdn_rdn {N : nw} {cut : Nat} : ∀ k R, (∀ i, (rdn N cut k R).testBit i = true → isG N i = true) → cdn N cut k R = rdn N cut k R
  | 0, R, _ => rfl
  | k + 1, R, h => by
    rw [cdn, rdn]
    rw [rdn] at h
    by_cases q : R.testBit k = true
    · rw [if_pos q] at h ⊢
      have e : R ||| (sD (sM N k) cut &&& gM N) = R ||| sD (sM N k) cut := set_eq fun i => by
        rw [Nat.testBit_or, Nat.testBit_or, Nat.testBit_and]
        cases hs : (sD (sM N k) cut).testBit i with
        | false => simp
        | true =>
          have := h i (rdn_mono N cut k _ i (by rw [Nat.testBit_or, hs, Bool.or_true]))
          rw [gM_bit, this]
          rfl
      rw [e]
      exact (by rw [if_pos q]; exact cdn_rdn k _ h)
    · rw [if_neg q] at h ⊢
      exact (by rw [if_neg q]; exact cdn_rdn k _ h)
/-- a cut that cuts a gate off: its cone is all that one comes to -/
theorem cne_sep {N : nw} {g cut : Nat} (h : Sep N g cut) : cne N g cut = rch N g cut := cdn_rdn _ _ h.2
