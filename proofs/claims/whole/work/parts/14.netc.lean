/-! the component's Network: what adds to it, what reads it -/
theorem wI1 (σ : jm_G) (t i : Nat) (f : Nat → Int32) (a b : Nat) : (wI σ t i f).1 a b = if a = t ∧ b = i then f else σ.1 a b := rfl
theorem wI2 (σ : jm_G) (t i : Nat) (f : Nat → Int32) : (wI σ t i f).2 = σ.2 := rfl
theorem wJ1 (σ : jm_G) (t i : Nat) (f : Nat → Int64) : (wJ σ t i f).1 = σ.1 := rfl
theorem wJ2 (σ : jm_G) (t i : Nat) (f : Nat → Int64) (a b : Nat) : (wJ σ t i f).2 a b = if a = t ∧ b = i then f else σ.2 a b := rfl
/-- outside of some kinds of cells all is as it was -/
def off (lo hi : Nat) (σ τ : jm_G) : Prop := ∀ t i, (t < lo ∨ hi < t) → τ.1 t i = σ.1 t i ∧ τ.2 t i = σ.2 t i
theorem off_refl (lo hi : Nat) (σ : jm_G) : off lo hi σ σ := fun _ _ _ => ⟨rfl, rfl⟩
theorem off_trans {lo hi : Nat} {σ τ υ : jm_G} (h1 : off lo hi σ τ) (h2 : off lo hi τ υ) : off lo hi σ υ := fun t i h => ⟨((h2 t i h).1).trans (h1 t i h).1, ((h2 t i h).2).trans (h1 t i h).2⟩
theorem off_wide {lo hi lo' hi' : Nat} {σ τ : jm_G} (h : off lo hi σ τ) (h1 : lo' ≤ lo) (h2 : hi ≤ hi') : off lo' hi' σ τ := fun t i q => h t i (by omega)
theorem off_wI {lo hi : Nat} {σ τ : jm_G} {t i : Nat} {f : Nat → Int32} (h : off lo hi σ τ) (h1 : lo ≤ t) (h2 : t ≤ hi) : off lo hi σ (wI τ t i f) := fun a b q => ⟨by rw [wI1, if_neg (by omega)]; exact (h a b q).1, by rw [wI2]; exact (h a b q).2⟩
theorem off_wJ {lo hi : Nat} {σ τ : jm_G} {t i : Nat} {f : Nat → Int64} (h : off lo hi σ τ) (h1 : lo ≤ t) (h2 : t ≤ hi) : off lo hi σ (wJ τ t i f) := fun a b q => ⟨by rw [wJ1]; exact (h a b q).1, by rw [wJ2, if_neg (by omega)]; exact (h a b q).2⟩
theorem nI3 {i k : Nat} : nI i * nI 3 + nI k = nI (i * 3 + k) := by rw [pk_mul, nI_add]
/-! new nodes -/
def addI (N : nw) : nw := (nN N + 1, fun i => if i = nN N then 0 else nS N i, nK N, nR N, nF N, nO N, nB N)
def addR (N : nw) : nw := (nN N + 1, fun i => if i = nN N then 2 else nS N i, nK N, nR N, fun i => if i = nN N then nN N else nF N i, nO N, nB N)
def addG (N : nw) (k a b c : Nat) : nw := (nN N + 1, fun i => if i = nN N then 1 else nS N i, fun i => if i = nN N then k else nK N i, fun i j => if i = nN N then (if j = 0 then a else if j = 1 then b else c) else nR N i j, nF N, nO N,
  fun i => if i = nN N then (2 ^ a ||| nB N a) ||| (if 1 < ar k then 2 ^ b ||| nB N b else 0) ||| (if 2 < ar k then 2 ^ c ||| nB N c else 0) else nB N i)
def setF (N : nw) (r x : Nat) : nw := (nN N, nS N, nK N, nR N, fun i => if i = r then x else nF N i, nO N, nB N)
def addO (N : nw) (x : Nat) : nw := (nN N, nS N, nK N, nR N, nF N, nO N ||| 2 ^ x, nB N)
theorem add_lt {n i : Nat} (h : i ≠ n) : decide (i < n + 1) = decide (i < n) := by simp; omega
theorem isG_addI (N : nw) (i : Nat) : isG (addI N) i = isG N i := by
  show (decide (i < nN N + 1) && (if i = nN N then 0 else nS N i) == 1) = _
  by_cases h : i = nN N
  · rw [if_pos h]; subst h; simp [isG]
  · rw [if_neg h, add_lt h]; simp [isG, h]
theorem isR_addI (N : nw) (i : Nat) : isR (addI N) i = isR N i := by
  show (decide (i < nN N + 1) && (if i = nN N then 0 else nS N i) == 2) = _
  by_cases h : i = nN N
  · rw [if_pos h]; subst h; simp [isR]
  · rw [if_neg h, add_lt h]; simp [isR, h]
theorem isI_addI (N : nw) (i : Nat) : isI (addI N) i = (isI N i || decide (i = nN N)) := by
  show (decide (i < nN N + 1) && (if i = nN N then 0 else nS N i) == 0) = _
  by_cases h : i = nN N
  · rw [if_pos h]; subst h; simp [isI]
  · rw [if_neg h, add_lt h]; simp [isI, h]
theorem isG_addR (N : nw) (i : Nat) : isG (addR N) i = isG N i := by
  show (decide (i < nN N + 1) && (if i = nN N then 2 else nS N i) == 1) = _
  by_cases h : i = nN N
  · rw [if_pos h]; subst h; simp [isG]
  · rw [if_neg h, add_lt h]; simp [isG, h]
theorem isR_addR (N : nw) (i : Nat) : isR (addR N) i = (isR N i || decide (i = nN N)) := by
  show (decide (i < nN N + 1) && (if i = nN N then 2 else nS N i) == 2) = _
  by_cases h : i = nN N
  · rw [if_pos h]; subst h; simp [isR]
  · rw [if_neg h, add_lt h]; simp [isR, h]
theorem isI_addR (N : nw) (i : Nat) : isI (addR N) i = isI N i := by
  show (decide (i < nN N + 1) && (if i = nN N then 2 else nS N i) == 0) = _
  by_cases h : i = nN N
  · rw [if_pos h]; subst h; simp [isI]
  · rw [if_neg h, add_lt h]; simp [isI, h]
theorem isG_addG (N : nw) (k a b c : Nat) (i : Nat) : isG (addG N k a b c) i = (isG N i || decide (i = nN N)) := by
  show (decide (i < nN N + 1) && (if i = nN N then 1 else nS N i) == 1) = _
  by_cases h : i = nN N
  · rw [if_pos h]; subst h; simp [isG]
  · rw [if_neg h, add_lt h]; simp [isG, h]
theorem isR_addG (N : nw) (k a b c : Nat) (i : Nat) : isR (addG N k a b c) i = isR N i := by
  show (decide (i < nN N + 1) && (if i = nN N then 1 else nS N i) == 2) = _
  by_cases h : i = nN N
  · rw [if_pos h]; subst h; simp [isR]
  · rw [if_neg h, add_lt h]; simp [isR, h]
theorem isI_addG (N : nw) (k a b c : Nat) (i : Nat) : isI (addG N k a b c) i = isI N i := by
  show (decide (i < nN N + 1) && (if i = nN N then 1 else nS N i) == 0) = _
  by_cases h : i = nN N
  · rw [if_pos h]; subst h; simp [isI]
  · rw [if_neg h, add_lt h]; simp [isI, h]
theorem set_eq {a b : Nat} (h : ∀ i, a.testBit i = b.testBit i) : a = b := Nat.eq_of_testBit_eq h
theorem or_bit (S k i : Nat) : (S ||| 2 ^ k).testBit i = (S.testBit i || decide (i = k)) := by
  rw [Nat.testBit_or, Nat.testBit_two_pow]
  congr 1
  simp only [eq_comm]
theorem iM_addI (N : nw) : iM (addI N) = iM N ||| 2 ^ nN N := set_eq fun i => by rw [iM_bit, or_bit, iM_bit, isI_addI]
theorem gM_addI (N : nw) : gM (addI N) = gM N := set_eq fun i => by rw [gM_bit, gM_bit, isG_addI]
theorem rM_addI (N : nw) : rM (addI N) = rM N := set_eq fun i => by rw [rM_bit, rM_bit, isR_addI]
theorem iM_addR (N : nw) : iM (addR N) = iM N := set_eq fun i => by rw [iM_bit, iM_bit, isI_addR]
theorem gM_addR (N : nw) : gM (addR N) = gM N := set_eq fun i => by rw [gM_bit, gM_bit, isG_addR]
theorem rM_addR (N : nw) : rM (addR N) = rM N ||| 2 ^ nN N := set_eq fun i => by rw [rM_bit, or_bit, rM_bit, isR_addR]
theorem iM_addG (N : nw) (k a b c : Nat) : iM (addG N k a b c) = iM N := set_eq fun i => by rw [iM_bit, iM_bit, isI_addG]
theorem rM_addG (N : nw) (k a b c : Nat) : rM (addG N k a b c) = rM N := set_eq fun i => by rw [rM_bit, rM_bit, isR_addG]
theorem gM_addG (N : nw) (k a b c : Nat) : gM (addG N k a b c) = gM N ||| 2 ^ nN N := set_eq fun i => by rw [gM_bit, or_bit, gM_bit, isG_addG]
theorem sMk_eq {N M : nw} {i : Nat} (h : ∀ k, nR N i k = nR M i k) : ∀ n, sMk N i n = sMk M i n
  | 0 => rfl
  | n + 1 => by rw [sMk, sMk, sMk_eq h n, h n]
theorem bMk_eq {N M : nw} {i : Nat} (h : ∀ k, nR N i k = nR M i k) (h2 : nB N = nB M) : ∀ n, bMk N i n = bMk M i n
  | 0 => rfl
  | n + 1 => by rw [bMk, bMk, bMk_eq h h2 n, h n, h2]
theorem sM_addI (N : nw) (i : Nat) : sM (addI N) i = sM N i := by
  unfold sM; rw [isG_addI, sMk_eq (N := addI N) (M := N) fun _ => rfl]; rfl
theorem sM_addR (N : nw) (i : Nat) : sM (addR N) i = sM N i := by
  unfold sM; rw [isG_addR, sMk_eq (N := addR N) (M := N) fun _ => rfl]; rfl
theorem isG_n (N : nw) : isG N (nN N) = false := by simp [isG]
theorem isR_n (N : nw) : isR N (nN N) = false := by simp [isR]
theorem ok_addI {N : nw} (h : nw_ok N) (hn : nN N < 40) : nw_ok (addI N) := by
  obtain ⟨h1, h2, h3, h4, h5, h6, h7⟩ := h
  refine ⟨show nN N + 1 ≤ 40 by omega, fun i hi => ?_, fun i hi => ?_, fun i hi => ?_, fun i hi => ?_, h6, fun i => ?_⟩
  · have hi : i < nN N + 1 := hi
    show (if i = nN N then 0 else nS N i) < 3
    by_cases e : i = nN N
    · rw [if_pos e]; omega
    · rw [if_neg e]; exact h2 i (by omega)
  · rw [isG_addI] at hi; exact h3 i hi
  · rw [isR_addI] at hi; exact Nat.lt_succ_of_lt (h4 i hi)
  · exact Nat.lt_succ_of_lt (h5 i hi)
  · rw [isG_addI, bMk_eq (N := addI N) (M := N) (fun _ => rfl) rfl]; exact h7 i
theorem ok_addR {N : nw} (h : nw_ok N) (hn : nN N < 40) : nw_ok (addR N) := by
  obtain ⟨h1, h2, h3, h4, h5, h6, h7⟩ := h
  refine ⟨show nN N + 1 ≤ 40 by omega, fun i hi => ?_, fun i hi => ?_, fun i hi => ?_, fun i hi => ?_, h6, fun i => ?_⟩
  · have hi : i < nN N + 1 := hi
    show (if i = nN N then 2 else nS N i) < 3
    by_cases e : i = nN N
    · rw [if_pos e]; omega
    · rw [if_neg e]; exact h2 i (by omega)
  · rw [isG_addR] at hi; exact h3 i hi
  · rw [isR_addR] at hi
    show (if i = nN N then nN N else nF N i) < nN N + 1
    by_cases e : i = nN N
    · rw [if_pos e]; omega
    · rw [if_neg e]; exact Nat.lt_succ_of_lt (h4 i (by simpa [e] using hi))
  · exact Nat.lt_succ_of_lt (h5 i hi)
  · rw [isG_addR, bMk_eq (N := addR N) (M := N) (fun _ => rfl) rfl]; exact h7 i
theorem ok_addG {N : nw} (h : nw_ok N) (hn : nN N < 40) {k a b c : Nat} (hk : k < 7) (ha : a < nN N) (hb : 1 < ar k → b < nN N) (hc : 2 < ar k → c < nN N) : nw_ok (addG N k a b c) := by
  obtain ⟨h1, h2, h3, h4, h5, h6, h7⟩ := h
  refine ⟨show nN N + 1 ≤ 40 by omega, fun i hi => ?_, fun i hi => ?_, fun i hi => ?_, fun i hi => ?_, h6, fun i => ?_⟩
  · have hi : i < nN N + 1 := hi
    show (if i = nN N then 1 else nS N i) < 3
    by_cases e : i = nN N
    · rw [if_pos e]; omega
    · rw [if_neg e]; exact h2 i (by omega)
  · rw [isG_addG] at hi
    by_cases e : i = nN N
    · subst e
      have hK : nK (addG N k a b c) (nN N) = k := if_pos rfl
      rw [hK]
      refine ⟨hk, fun j hj => ?_⟩
      show (if nN N = nN N then (if j = 0 then a else if j = 1 then b else c) else nR N (nN N) j) < nN N
      rw [if_pos rfl]
      by_cases e0 : j = 0
      · rw [if_pos e0]; exact ha
      · by_cases e1 : j = 1
        · subst e1; rw [if_neg e0, if_pos rfl]; exact hb hj
        · have e2 : j = 2 := by have := (ar_pos k).2; omega
          subst e2; rw [if_neg e0, if_neg e1]; exact hc hj
    · have hg : isG N i = true := by simpa [e] using hi
      have hK : nK (addG N k a b c) i = nK N i := if_neg e
      have hR : ∀ j, nR (addG N k a b c) i j = nR N i j := fun j => if_neg e
      rw [hK]
      exact ⟨(h3 i hg).1, fun j hj => by rw [hR]; exact (h3 i hg).2 j hj⟩
  · rw [isR_addG] at hi; exact Nat.lt_succ_of_lt (h4 i hi)
  · exact Nat.lt_succ_of_lt (h5 i hi)
  · rw [isG_addG]
    have hB : ∀ j, j < nN N → nB (addG N k a b c) j = nB N j := fun j hj => if_neg (by omega)
    by_cases e : i = nN N
    · subst e
      have hK : nK (addG N k a b c) (nN N) = k := if_pos rfl
      have hR0 : nR (addG N k a b c) (nN N) 0 = a := if_pos rfl
      have hR1 : nR (addG N k a b c) (nN N) 1 = b := if_pos rfl
      have hR2 : nR (addG N k a b c) (nN N) 2 = c := if_pos rfl
      have hBn : nB (addG N k a b c) (nN N) = (2 ^ a ||| nB N a) ||| (if 1 < ar k then 2 ^ b ||| nB N b else 0) ||| (if 2 < ar k then 2 ^ c ||| nB N c else 0) := if_pos rfl
      rw [hK, hBn]
      simp only [decide_true, Bool.or_true, if_true]
      have har := ar_pos k
      by_cases q1 : 1 < ar k
      · by_cases q2 : 2 < ar k
        · have e3 : ar k = 3 := by omega
          rw [if_pos q1, if_pos q2, e3]
          simp only [bMk, hR0, hR1, hR2, hB a ha, hB b (hb q1), hB c (hc q2), Nat.zero_or]
        · have e3 : ar k = 2 := by omega
          rw [if_pos q1, if_neg q2, e3]
          simp only [bMk, hR0, hR1, hB a ha, hB b (hb q1), Nat.zero_or, Nat.or_zero]
      · have e3 : ar k = 1 := by omega
        rw [if_neg q1, if_neg (by omega), e3]
        simp only [bMk, hR0, hB a ha, Nat.zero_or, Nat.or_zero]
    · have hBi : nB (addG N k a b c) i = nB N i := if_neg e
      rw [hBi, h7 i]
      simp only [e, decide_false, Bool.or_false]
      cases hg : isG N i with
      | false => rfl
      | true =>
        simp only [if_true]
        have hK : nK (addG N k a b c) i = nK N i := if_neg e
        rw [hK]
        have hle : ∀ m, m ≤ ar (nK N i) → bMk N i m = bMk (addG N k a b c) i m := by
          intro m
          induction m with
          | zero => intro _; rfl
          | succ m ih =>
            intro hm
            have hs := (h3 i hg).2 m (by omega)
            have hi := isG_lt hg
            have hRm : nR (addG N k a b c) i m = nR N i m := if_neg e
            rw [bMk, bMk, ih (by omega), hRm, hB _ (by omega)]
        exact hle _ (Nat.le_refl _)
theorem ok_setF {N : nw} (h : nw_ok N) {r x : Nat} (hx : x < nN N) : nw_ok (setF N r x) := by
  obtain ⟨h1, h2, h3, h4, h5, h6, h7⟩ := h
  refine ⟨h1, h2, h3, fun i hi => ?_, h5, h6, fun i => ?_⟩
  · show (if i = r then x else nF N i) < nN N
    by_cases e : i = r
    · rw [if_pos e]; exact hx
    · rw [if_neg e]; exact h4 i hi
  · rw [bMk_eq (N := setF N r x) (M := N) (fun _ => rfl) rfl]; exact h7 i
