/-! THE NETWORK, told once: how many nodes, sorts (0 input, 1 gate, 2 register), kinds, sources, feeds, outputs, what is below -/
abbrev nw : Type := Nat × (Nat → Nat) × (Nat → Nat) × (Nat → Nat → Nat) × (Nat → Nat) × Nat × (Nat → Nat)
def nN (N : nw) : Nat := N.1
def nS (N : nw) : Nat → Nat := N.2.1
def nK (N : nw) : Nat → Nat := N.2.2.1
def nR (N : nw) : Nat → Nat → Nat := N.2.2.2.1
def nF (N : nw) : Nat → Nat := N.2.2.2.2.1
def nO (N : nw) : Nat := N.2.2.2.2.2.1
def nB (N : nw) : Nat → Nat := N.2.2.2.2.2.2
def ar (k : Nat) : Nat := if k = 0 then 1 else if k < 5 then 2 else 3
theorem ar_pos (k : Nat) : 0 < ar k ∧ ar k ≤ 3 := by unfold ar; by_cases h : k = 0 <;> by_cases h2 : k < 5 <;> simp [h, h2]
def isI (N : nw) (i : Nat) : Bool := decide (i < nN N) && nS N i == 0
def isG (N : nw) (i : Nat) : Bool := decide (i < nN N) && nS N i == 1
def isR (N : nw) (i : Nat) : Bool := decide (i < nN N) && nS N i == 2
/-- a set out of a property -/
def mk (p : Nat → Bool) : Nat → Nat
  | 0 => 0
  | n + 1 => mk p n ||| (if p n then 2 ^ n else 0)
theorem mk_bit (p : Nat → Bool) : ∀ n i, (mk p n).testBit i = (decide (i < n) && p i)
  | 0, i => by simp [mk]
  | n + 1, i => by
    rw [mk, Nat.testBit_or, mk_bit p n i]
    by_cases h : p n = true
    · rw [if_pos h, Nat.testBit_two_pow]
      by_cases e : n = i
      · subst e; simp [h]
      · have h1 : decide (n = i) = false := by simp [e]
        have h2 : decide (i < n + 1) = decide (i < n) := by simp; omega
        simp [h1, h2]
    · rw [if_neg h]
      by_cases e : n = i
      · subst e; simp [h]
      · have h2 : decide (i < n + 1) = decide (i < n) := by simp; omega
        simp [h2]
theorem mk_lt (p : Nat → Bool) (n : Nat) : mk p n < 2 ^ n := set_lt fun i hi => by rw [mk_bit]; simp; omega
theorem mk_lt40 (p : Nat → Bool) {n : Nat} (h : n ≤ 40) : mk p n < 2 ^ 40 := Nat.lt_of_lt_of_le (mk_lt p n) (Nat.pow_le_pow_right (by omega) h)
def iM (N : nw) : Nat := mk (isI N) (nN N)
def gM (N : nw) : Nat := mk (isG N) (nN N)
def rM (N : nw) : Nat := mk (isR N) (nN N)
theorem iM_bit (N : nw) (i : Nat) : (iM N).testBit i = isI N i := by rw [iM, mk_bit]; simp [isI]
theorem gM_bit (N : nw) (i : Nat) : (gM N).testBit i = isG N i := by rw [gM, mk_bit]; simp [isG]
theorem rM_bit (N : nw) (i : Nat) : (rM N).testBit i = isR N i := by rw [rM, mk_bit]; simp [isR]
def sMk (N : nw) (i : Nat) : Nat → Nat
  | 0 => 0
  | k + 1 => sMk N i k ||| 2 ^ (nR N i k)
def sM (N : nw) (i : Nat) : Nat := if isG N i then sMk N i (ar (nK N i)) else 0
def bMk (N : nw) (i : Nat) : Nat → Nat
  | 0 => 0
  | k + 1 => bMk N i k ||| (2 ^ (nR N i k) ||| nB N (nR N i k))
def nw_ok (N : nw) : Prop := nN N ≤ 40 ∧ (∀ i, i < nN N → nS N i < 3) ∧ (∀ i, isG N i = true → nK N i < 7 ∧ ∀ k, k < ar (nK N i) → nR N i k < i) ∧ (∀ i, isR N i = true → nF N i < nN N) ∧ (∀ i, (nO N).testBit i = true → i < nN N) ∧ cnt (nO N) 40 ≤ 12 ∧ ∀ i, nB N i = if isG N i then bMk N i (ar (nK N i)) else 0
theorem sMk_bit (N : nw) (i j : Nat) : ∀ n, (sMk N i n).testBit j = decide (∃ k, k < n ∧ nR N i k = j)
  | 0 => by simp [sMk]
  | n + 1 => by
    rw [sMk, Nat.testBit_or, sMk_bit N i j n, Nat.testBit_two_pow]
    by_cases h : nR N i n = j
    · have h2 : ∃ k, k < n + 1 ∧ nR N i k = j := ⟨n, by omega, h⟩
      simp [h, h2]
    · have h2 : (∃ k, k < n + 1 ∧ nR N i k = j) ↔ ∃ k, k < n ∧ nR N i k = j :=
        ⟨fun ⟨k, a, b⟩ => ⟨k, by rcases Nat.lt_succ_iff_lt_or_eq.mp a with q | q; exact q; subst q; exact absurd b h, b⟩, fun ⟨k, a, b⟩ => ⟨k, by omega, b⟩⟩
      simp [h, h2]
theorem isG_lt {N : nw} {i : Nat} (h : isG N i = true) : i < nN N := by simp [isG] at h; exact h.1
theorem isR_lt {N : nw} {i : Nat} (h : isR N i = true) : i < nN N := by simp [isR] at h; exact h.1
theorem isI_lt {N : nw} {i : Nat} (h : isI N i = true) : i < nN N := by simp [isI] at h; exact h.1
/-- j is a source of i -/
theorem sM_bit (N : nw) (i j : Nat) : (sM N i).testBit j = (isG N i && decide (∃ k, k < ar (nK N i) ∧ nR N i k = j)) := by
  unfold sM
  cases h : isG N i with
  | true => rw [if_pos rfl, sMk_bit]; simp
  | false => simp
theorem sM_lt {N : nw} (h : nw_ok N) {i j : Nat} (hb : (sM N i).testBit j = true) : j < i := by
  rw [sM_bit] at hb
  simp at hb
  obtain ⟨hg, k, hk, rfl⟩ := hb
  exact (h.2.2.1 i hg).2 k hk
theorem bMk_bit (N : nw) (i j : Nat) : ∀ n, (bMk N i n).testBit j = decide (∃ k, k < n ∧ (nR N i k = j ∨ (nB N (nR N i k)).testBit j = true))
  | 0 => by simp [bMk]
  | n + 1 => by
    rw [bMk, Nat.testBit_or, bMk_bit N i j n, Nat.testBit_or, Nat.testBit_two_pow]
    by_cases h : nR N i n = j ∨ (nB N (nR N i n)).testBit j = true
    · have h2 : ∃ k, k < n + 1 ∧ (nR N i k = j ∨ (nB N (nR N i k)).testBit j = true) := ⟨n, by omega, h⟩
      rcases h with h | h <;> simp [h, h2]
    · have h2 : (∃ k, k < n + 1 ∧ (nR N i k = j ∨ (nB N (nR N i k)).testBit j = true)) ↔ ∃ k, k < n ∧ (nR N i k = j ∨ (nB N (nR N i k)).testBit j = true) :=
        ⟨fun ⟨k, a, b⟩ => ⟨k, by rcases Nat.lt_succ_iff_lt_or_eq.mp a with q | q; exact q; subst q; exact absurd b h, b⟩, fun ⟨k, a, b⟩ => ⟨k, by omega, b⟩⟩
      rw [show (decide (nR N i n = j) || (nB N (nR N i n)).testBit j) = false from by simpa [not_or] using h]
      simp [h2]
theorem nB_bit {N : nw} (h : nw_ok N) (i j : Nat) : (nB N i).testBit j = (isG N i && decide (∃ k, k < ar (nK N i) ∧ (nR N i k = j ∨ (nB N (nR N i k)).testBit j = true))) := by
  rw [h.2.2.2.2.2.2 i]
  cases hg : isG N i with
  | true => rw [if_pos rfl, bMk_bit]; simp
  | false => simp
theorem nB_lt {N : nw} (h : nw_ok N) : ∀ (i j : Nat), (nB N i).testBit j = true → j < i := by
  intro i
  induction i using Nat.strongRecOn with
  | ind i ih =>
    intro j hb
    rw [nB_bit h] at hb
    simp at hb
    obtain ⟨hg, k, hk, hj⟩ := hb
    have h1 := (h.2.2.1 i hg).2 k hk
    rcases hj with rfl | hj
    · exact h1
    · exact Nat.lt_trans (ih _ h1 _ hj) h1
theorem nB_lt40 {N : nw} (h : nw_ok N) (i : Nat) : nB N i < 2 ^ 40 := set_lt fun j hj => by
  cases hb : (nB N i).testBit j with
  | false => rfl
  | true =>
    have h1 := nB_lt h i j hb
    have h2 : isG N i = true := by rw [nB_bit h] at hb; simp at hb; exact hb.1
    have h3 := isG_lt h2
    have h4 := h.1
    omega
theorem sM_lt40 {N : nw} (h : nw_ok N) (i : Nat) : sM N i < 2 ^ 40 := set_lt fun j hj => by
  cases hb : (sM N i).testBit j with
  | false => rfl
  | true =>
    have h1 := sM_lt h hb
    have h2 : isG N i = true := by rw [sM_bit] at hb; simp at hb; exact hb.1
    have h3 := isG_lt h2
    have h4 := h.1
    omega
/-- an int that numbers a node -/
def inN (n : Nat) (x : Int32) : Bool := decide (¬ x < 0) && decide (¬ nI n ≤ x)
theorem inN_t {n : Nat} {x : Int32} (hn : n < 2 ^ 31) (h : inN n x = true) : ∃ j, j < n ∧ x = nI j := by
  simp only [inN, Bool.and_eq_true, decide_eq_true_eq] at h
  obtain ⟨j, hj, rfl⟩ := nI_of h.1
  exact ⟨j, by
    rcases Nat.lt_or_ge j n with q | q
    · exact q
    · exact absurd (nI_le q hj) h.2, rfl⟩
theorem inN_nI {n j : Nat} (hn : n < 2 ^ 31) (hj : j < 2 ^ 31) : inN n (nI j) = decide (j < n) := by
  unfold inN
  have h1 : ¬ nI j < 0 := nI_pos hj
  by_cases h : j < n
  · have h2 : ¬ nI n ≤ nI j := nI_ge h hn
    simp [h1, h2, h]
  · have h2 : nI n ≤ nI j := nI_le (by omega) hj
    simp [h2, h]
/-- .. and has a property -/
def atN (n : Nat) (x : Int32) (p : Nat → Bool) : Bool := inN n x && p x.toNatClampNeg
theorem atN_t {n : Nat} {x : Int32} {p : Nat → Bool} (hn : n < 2 ^ 31) (h : atN n x p = true) : ∃ j, j < n ∧ x = nI j ∧ p j = true := by
  simp only [atN, Bool.and_eq_true] at h
  obtain ⟨j, hj, rfl⟩ := inN_t hn h.1
  exact ⟨j, hj, rfl, by have := h.2; rwa [nI_clamp (by omega)] at this⟩
theorem atN_nI {n j : Nat} {p : Nat → Bool} (hn : n < 2 ^ 31) (hj : j < 2 ^ 31) : atN n (nI j) p = (decide (j < n) && p j) := by
  unfold atN
  rw [inN_nI hn hj, nI_clamp hj]
/-! the component's Network -/
def cN (N : nw) (σ : jm_G) : Prop :=
  σ.1 2 0 9 = nI (nN N) ∧ σ.2 2 0 5 = lN (iM N) ∧ σ.2 2 0 6 = lN (gM N) ∧ σ.2 2 0 7 = lN (rM N) ∧ σ.2 2 0 8 = lN (nO N) ∧
  (∀ i, isG N i = true → σ.1 3 0 i = nI (nK N i) ∧ ∀ k, k < 3 → σ.1 4 0 (i * 3 + k) = nI (nR N i (if k < ar (nK N i) then k else 0))) ∧
  (∀ i, isR N i = true → σ.1 5 0 i = nI (nF N i)) ∧ (∀ i, i < 40 → σ.2 6 0 i = lN (sM N i)) ∧ (∀ i, i < 40 → σ.2 7 0 i = lN (nB N i)) ∧ (∀ j, j < 7 → σ.1 100 0 j = nI (ar j))
theorem p40 {S : Nat} (h : S < 2 ^ 40) : S < 2 ^ 63 := by omega
theorem iM_lt {N : nw} (h : nw_ok N) : iM N < 2 ^ 40 := mk_lt40 _ h.1
theorem gM_lt {N : nw} (h : nw_ok N) : gM N < 2 ^ 40 := mk_lt40 _ h.1
theorem rM_lt {N : nw} (h : nw_ok N) : rM N < 2 ^ 40 := mk_lt40 _ h.1
theorem nO_lt {N : nw} (h : nw_ok N) : nO N < 2 ^ 40 := set_lt fun j hj => by
  cases hb : (nO N).testBit j with
  | false => rfl
  | true => have := h.2.2.2.2.1 j hb; have := h.1; omega
theorem c_has {C : jm_C} (h : ct_has C) {S n : Nat} {v : Int64} {x : Int32} {σ : jm_G} {post : Option jm_V → jm_G → Prop} (hv : v = lN S) (hx : x = nI n) (hS : S < 2 ^ 63) (hn : n < 64) (hp : post (some (jI (bI (S.testBit n)))) σ) : C kX9_has [jJ v, jI x] σ post := by subst hv; subst hx; exact h S n σ post hS hn hp
theorem c_bit {C : jm_C} (h : ct_bit C) {n : Nat} {x : Int32} {σ : jm_G} {post : Option jm_V → jm_G → Prop} (hx : x = nI n) (hn : n < 63) (hp : post (some (jJ (lN (2 ^ n)))) σ) : C kX9_bit [jI x] σ post := by subst hx; exact h n σ post hn hp
theorem c_low {C : jm_C} (h : ct_low C) {S k : Nat} {v : Int64} {σ : jm_G} {post : Option jm_V → jm_G → Prop} (hv : v = lN (hi S k)) (hS : S < 2 ^ 63) (hb : S.testBit k = true) (hp : post (some (jI (nI k))) σ) : C kX9_lowest [jJ v] σ post := by subst hv; exact h S k σ post hS hb hp
theorem c_bc {C : jm_C} (h : ct_bc C) {S : Nat} {v : Int64} {σ : jm_G} {post : Option jm_V → jm_G → Prop} (hv : v = lN S) (hS : S < 2 ^ 64) (hp : post (some (jI (nI (cnt S 64)))) σ) : C kJ13_bitCount_95d88 [jJ v] σ post := by subst hv; exact h S σ post hS hp
abbrev ct_isNode (C : jm_C) : Prop := ∀ (N : nw) (x : Int32) (σ : jm_G) (post : Option jm_V → jm_G → Prop), nw_ok N → cN N σ → post (some (jI (bI (inN (nN N) x)))) σ → C kX5_isNode [jR 2 0, jI x] σ post
theorem T_isNode (L : Nat) {C : jm_C} (hC : jm_mon C) : ct_isNode (jm_up L C) := by
  intro N x σ post hok hN hp
  refine jm_start rfl (Nat.le_of_ble_eq_true rfl) hC fun X hg hw => ?_
  refine hg [] 20 _ ?_
  refine br_c (fun h => ?_) (fun h => ?_)
  · refine And.intro (Or.inl rfl) ?_
    have e : inN (nN N) x = false := by simp only [inN, h]; simp
    rw [e] at hp
    exact hp
  · refine br_c (fun h2 => ?_) (fun h2 => ?_)
    · have h2 : σ.1 2 0 9 ≤ x := h2
      rw [hN.1] at h2
      refine And.intro (Or.inl rfl) ?_
      have e : inN (nN N) x = false := by simp only [inN, h2]; simp
      rw [e] at hp
      exact hp
    · have h2 : ¬ σ.1 2 0 9 ≤ x := h2
      rw [hN.1] at h2
      refine And.intro (Or.inr rfl) ?_
      have e : inN (nN N) x = true := by simp only [inN, h, h2]; simp
      rw [e] at hp
      exact hp
abbrev ct_isSort (k : Nat) (p : nw → Nat → Bool) (C : jm_C) : Prop := ∀ (N : nw) (x : Int32) (σ : jm_G) (post : Option jm_V → jm_G → Prop), nw_ok N → cN N σ → post (some (jI (bI (atN (nN N) x (p N))))) σ → C k [jR 2 0, jI x] σ post
theorem T_isInput (L : Nat) {C : jm_C} (hC : jm_mon C) (h1 : ct_isNode C) (h2 : ct_has C) : ct_isSort kX5_isInput isI (jm_up L C) := by
  intro N x σ post hok hN hp
  refine jm_start rfl (Nat.le_of_ble_eq_true rfl) hC fun X hg hw => ?_
  refine hg [] 20 _ ?_
  refine h1 N x σ _ hok hN ?_
  refine br_c (fun h => ?_) (fun h => ?_)
  · refine And.intro (Or.inl rfl) ?_
    have e : atN (nN N) x (isI N) = false := by simp only [atN, bI_0.mp h]; simp
    rw [e] at hp
    exact hp
  · have hk := hok.1
    obtain ⟨j, hj, rfl⟩ := inN_t (by omega) (bI_n0.mp h)
    refine c_has h2 (S := iM N) (n := j) hN.2.1 rfl (p40 (iM_lt hok)) (by omega) ?_
    rw [iM_bit]
    rw [atN_nI (by omega) (by omega), show decide (j < nN N) = true by simpa using hj] at hp
    refine br_c (fun h3 => ?_) (fun h3 => ?_)
    · refine And.intro (Or.inl rfl) ?_
      rw [bI_0.mp h3] at hp; exact hp
    · refine And.intro (Or.inr rfl) ?_
      rw [bI_n0.mp h3] at hp; exact hp
theorem T_isGate (L : Nat) {C : jm_C} (hC : jm_mon C) (h1 : ct_isNode C) (h2 : ct_has C) : ct_isSort kX5_isGate isG (jm_up L C) := by
  intro N x σ post hok hN hp
  refine jm_start rfl (Nat.le_of_ble_eq_true rfl) hC fun X hg hw => ?_
  refine hg [] 20 _ ?_
  refine h1 N x σ _ hok hN ?_
  refine br_c (fun h => ?_) (fun h => ?_)
  · refine And.intro (Or.inl rfl) ?_
    have e : atN (nN N) x (isG N) = false := by simp only [atN, bI_0.mp h]; simp
    rw [e] at hp
    exact hp
  · have hk := hok.1
    obtain ⟨j, hj, rfl⟩ := inN_t (by omega) (bI_n0.mp h)
    refine c_has h2 (S := gM N) (n := j) hN.2.2.1 rfl (p40 (gM_lt hok)) (by omega) ?_
    rw [gM_bit]
    rw [atN_nI (by omega) (by omega), show decide (j < nN N) = true by simpa using hj] at hp
    refine br_c (fun h3 => ?_) (fun h3 => ?_)
    · refine And.intro (Or.inl rfl) ?_
      rw [bI_0.mp h3] at hp; exact hp
    · refine And.intro (Or.inr rfl) ?_
      rw [bI_n0.mp h3] at hp; exact hp
theorem T_isRegister (L : Nat) {C : jm_C} (hC : jm_mon C) (h1 : ct_isNode C) (h2 : ct_has C) : ct_isSort kX5_isRegister isR (jm_up L C) := by
  intro N x σ post hok hN hp
  refine jm_start rfl (Nat.le_of_ble_eq_true rfl) hC fun X hg hw => ?_
  refine hg [] 20 _ ?_
  refine h1 N x σ _ hok hN ?_
  refine br_c (fun h => ?_) (fun h => ?_)
  · refine And.intro (Or.inl rfl) ?_
    have e : atN (nN N) x (isR N) = false := by simp only [atN, bI_0.mp h]; simp
    rw [e] at hp
    exact hp
  · have hk := hok.1
    obtain ⟨j, hj, rfl⟩ := inN_t (by omega) (bI_n0.mp h)
    refine c_has h2 (S := rM N) (n := j) hN.2.2.2.1 rfl (p40 (rM_lt hok)) (by omega) ?_
    rw [rM_bit]
    rw [atN_nI (by omega) (by omega), show decide (j < nN N) = true by simpa using hj] at hp
    refine br_c (fun h3 => ?_) (fun h3 => ?_)
    · refine And.intro (Or.inl rfl) ?_
      rw [bI_0.mp h3] at hp; exact hp
    · refine And.intro (Or.inr rfl) ?_
      rw [bI_n0.mp h3] at hp; exact hp
