/-! contracts over the abstract machine, loops, bits of sets -/
def jm_up (L : Nat) (C : jm_C) : jm_C := fun k as σ post => match jm_nth jm_mt k with
  | some (own, rk, nL, cd) => (jm_lay as).length ≤ nL ∧ jm_runs L own rk cd C post (fun _ => False) (σ, 0, jm_pad nL (jm_lay as), [])
  | none => False
theorem jm_does_eq (L d : Nat) : jm_does L (d + 1) = jm_up L (jm_does L d) := rfl
theorem jm_start {L k own rk nL : Nat} {cd : List (Nat × Instr × Nat)} {C : jm_C} {as : List jm_V} {σ : jm_G} {post : Option jm_V → jm_G → Prop} (hk : jm_nth jm_mt k = some (own, rk, nL, cd)) (hl : (jm_lay as).length ≤ nL) (hC : jm_mon C)
    (h : ∀ X : jm_S → Prop, (∀ (cut : List Nat) (n : Nat) (s : jm_S), jm_go L own rk cd C post X cut n s → X s) → (∀ σ pc lv lv' st, jm_le lv' lv → X (σ, pc, lv', st) → X (σ, pc, lv, st)) → X (σ, 0, jm_pad nL (jm_lay as), [])) : jm_up L C k as σ post := by
  unfold jm_up
  rw [hk]
  exact ⟨hl, jm_run hC fun X _ hg hw => h X hg hw⟩
theorem jm_lift {L h : Nat} {P : jm_C → Prop} (H : ∀ d, h ≤ d → P (jm_up L (jm_does L d))) : ∀ d, h + 1 ≤ d → P (jm_does L d)
  | 0, hd => absurd hd (by omega)
  | d + 1, hd => H d (by omega)
theorem jm_for {X : jm_S → Prop} (P : Nat → jm_S) (n : Nat) (hend : X (P n)) (hstep : ∀ k, k < n → X (P (k + 1)) → X (P k)) : ∀ k, k ≤ n → X (P k) := by
  have h : ∀ j k, k + j = n → X (P k) := by
    intro j
    induction j with
    | zero => intro k hk; have e : k = n := by omega
              rw [e]; exact hend
    | succ j ih => intro k hk; exact hstep k (by omega) (ih (k + 1) (by omega))
  exact fun k hk => h (n - k) k (by omega)
theorem jm_bits {X : jm_S → Prop} (S : Nat) (P : Nat → jm_S) (n : Nat) (hend : X (P n)) (hskip : ∀ k, k < n → S.testBit k = false → P (k + 1) = P k) (hstep : ∀ k, k < n → S.testBit k = true → X (P (k + 1)) → X (P k)) : ∀ k, k ≤ n → X (P k) :=
  jm_for P n hend fun k hk h => by
    cases hb : S.testBit k with
    | true => exact hstep k hk hb h
    | false => rw [← hskip k hk hb]; exact h
theorem jm_eq {X : jm_S → Prop} {s t : jm_S} (h : X t) (e : s = t) : X s := e ▸ h
theorem jm_eqv {X : jm_S → Prop} {σ σ' : jm_G} {pc pc' : Nat} {lv lv' : jm_L} {st st' : List jm_V} (h : X (σ', pc', lv', st')) (e1 : σ = σ') (e2 : pc = pc') (e3 : lv = lv') (e4 : st = st') : X (σ, pc, lv, st) := by
  subst e1; subst e2; subst e3; subst e4; exact h
def bI (b : Bool) : Int32 := match b with
  | true => nI 1
  | false => nI 0
theorem bI_0 {b : Bool} : bI b = 0 ↔ b = false := by cases b <;> decide
theorem bI_n0 {b : Bool} : ¬ bI b = 0 ↔ b = true := by cases b <;> decide
theorem bI_01 (b : Bool) : bI b = 0 ∨ bI b = 1 := by cases b <;> decide
theorem bI_inj {a b : Bool} (h : bI a = bI b) : a = b := by revert h; cases a <;> cases b <;> decide
/-! the set without the places of another -/
def sD (a b : Nat) : Nat := a ^^^ (a &&& b)
theorem sD_bit (a b i : Nat) : (sD a b).testBit i = (a.testBit i && !b.testBit i) := by
  simp only [sD, Nat.testBit_xor, Nat.testBit_and]
  cases a.testBit i <;> cases b.testBit i <;> rfl
theorem lN_andn (a b : Nat) : lN a &&& (lN b ^^^ (-1)) = lN (sD a b) := by
  apply wb_inj
  simp only [Int64.toBitVec_and, Int64.toBitVec_xor, lN_bv]
  apply BitVec.eq_of_getLsbD_eq
  intro i hi
  have e : (-1 : Int64).toBitVec = BitVec.allOnes 64 := by decide
  rw [BitVec.getLsbD_and, BitVec.getLsbD_xor, e, BitVec.getLsbD_allOnes, BitVec.getLsbD_ofNat, BitVec.getLsbD_ofNat, BitVec.getLsbD_ofNat, sD_bit]
  simp only [hi, decide_true, Bool.true_and]
  cases a.testBit i <;> cases b.testBit i <;> rfl
theorem lN_shl1 {k : Nat} (hk : k < 64) : lN 1 <<< ((nI k).toInt64 &&& 63) = lN (2 ^ k) := by rw [wb_shl 1 hk, Nat.one_mul]
theorem lN_shr {a k : Nat} (ha : a < 2 ^ 63) (hk : k < 64) : lN a >>> ((nI k).toInt64 &&& 63) = lN (a / 2 ^ k) := by
  apply Int64.toInt_inj.mp
  have e : ((nI k).toInt64 &&& 63).toBitVec.smod 64 = BitVec.ofNat 64 k := by rw [wb_c k hk, wb_tb, wb_sm k hk]
  have e2 : (((nI k).toInt64 &&& 63).toBitVec.smod 64).toNat = k := by
    rw [e, BitVec.toNat_ofNat]
    omega
  have h1 : (lN a >>> ((nI k).toInt64 &&& 63)).toInt = (lN a).toInt >>> k := by
    show (Int64.shiftRight _ _).toInt = _
    simp only [Int64.shiftRight]
    show (BitVec.sshiftRight' _ _).toInt = _
    rw [BitVec.sshiftRight', BitVec.toInt_sshiftRight]
    show (lN a).toInt >>> (((nI k).toInt64 &&& 63).toBitVec.smod 64).toNat = _
    rw [e2]
  rw [h1, pk_lT ha, pk_lT (Nat.lt_of_le_of_lt (Nat.div_le_self _ _) ha)]
  rw [Int.shiftRight_eq_div_pow]
  norm_cast
theorem lN_and1 (a : Nat) : lN a &&& lN 1 = lN (a % 2) := by
  rw [fb_andL, Nat.and_one_is_mod]
theorem bit_div (a k : Nat) : a / 2 ^ k % 2 = (a.testBit k).toNat := by
  rw [Nat.testBit_eq_decide_div_mod_eq]
  rcases Nat.mod_two_eq_zero_or_one (a / 2 ^ k) with h | h <;> simp [h]
theorem lN_inj {a b : Nat} (ha : a < 2 ^ 64) (hb : b < 2 ^ 64) : lN a = lN b ↔ a = b := by
  constructor
  · intro h
    have h1 := congrArg (fun x : Int64 => x.toBitVec.toNat) h
    simpa [wb_tn ha, wb_tn hb] using h1
  · intro h; rw [h]
theorem cmp_0 (x y : Int64) : lg_cmp x y = 0 ↔ x = y := by
  unfold lg_cmp
  split
  · rename_i h
    have h' : y < x := h
    constructor
    · intro h2; exact absurd h2 (by decide)
    · intro h2; rw [h2] at h'; exact absurd h' (by simp [Int64.lt_iff_toInt_lt])
  · split
    · rename_i h; simp [h]
    · rename_i h; constructor
      · intro h2; exact absurd h2 (by decide)
      · intro h2; exact absurd h2 h
theorem cmp_lt (x y : Int64) : lg_cmp x y < 0 ↔ x < y := by
  unfold lg_cmp
  split
  · rename_i h
    have h' : y < x := h
    constructor
    · intro h2; exact absurd h2 (by decide)
    · intro h2; rw [Int64.lt_iff_toInt_lt] at h' h2; omega
  · rename_i h0
    split
    · rename_i h
      subst h
      constructor
      · intro h2; exact absurd h2 (by decide)
      · intro h2; rw [Int64.lt_iff_toInt_lt] at h2; omega
    · rename_i h
      constructor
      · intro _
        rw [Int64.lt_iff_toInt_lt]
        have h0' : ¬ y < x := h0
        rw [Int64.lt_iff_toInt_lt] at h0'
        have : x.toInt ≠ y.toInt := fun e => h (Int64.toInt_inj.mp e)
        omega
      · intro _; decide
theorem cmp_ge (x y : Int64) : 0 ≤ lg_cmp x y ↔ ¬ x < y := by
  rw [← cmp_lt]
  constructor
  · intro h h2
    rw [Int32.le_iff_toInt_le] at h
    rw [Int32.lt_iff_toInt_lt] at h2
    omega
  · intro h
    rw [Int32.lt_iff_toInt_lt] at h
    rw [Int32.le_iff_toInt_le]
    omega
/-! sets from a place on -/
def hi (S k : Nat) : Nat := S / 2 ^ k * 2 ^ k
theorem hi_bit (S k i : Nat) : (hi S k).testBit i = (decide (k ≤ i) && S.testBit i) := by
  unfold hi
  rw [Nat.testBit_mul_two_pow, Nat.testBit_div_two_pow]
  by_cases h : k ≤ i
  · simp [h, Nat.sub_add_cancel h]
  · simp [h]
theorem hi_0 (S : Nat) : hi S 0 = S := by simp [hi]
theorem hi_le (S k : Nat) : hi S k ≤ S := Nat.div_mul_le_self _ _
theorem hi_skip {S k : Nat} (h : S.testBit k = false) : hi S (k + 1) = hi S k := by
  apply Nat.eq_of_testBit_eq
  intro i
  rw [hi_bit, hi_bit]
  by_cases e : i = k
  · subst e; simp [h]
  · have : decide (k + 1 ≤ i) = decide (k ≤ i) := by simp; omega
    rw [this]
theorem hi_end {S k : Nat} (h : S < 2 ^ k) : hi S k = 0 := by unfold hi; rw [Nat.div_eq_of_lt h, Nat.zero_mul]
theorem hi_ne {S k : Nat} (h : S.testBit k = true) : hi S k ≠ 0 := by
  intro e
  have := hi_bit S k k
  rw [e] at this
  simp [h] at this
/-- with place k in it: 2^k and what is behind -/
theorem hi_step {S k : Nat} (h : S.testBit k = true) : hi S k = 2 ^ k + hi S (k + 1) := by
  unfold hi
  have h1 : S / 2 ^ k % 2 = 1 := by rw [bit_div, h]; rfl
  have h2 : S / 2 ^ (k + 1) = S / 2 ^ k / 2 := by rw [Nat.pow_succ, Nat.div_div_eq_div_mul]
  rw [h2, Nat.pow_succ]
  generalize S / 2 ^ k = q at h1 ⊢
  have h3 : q = 2 * (q / 2) + 1 := by omega
  generalize q / 2 = r at h3 ⊢
  subst h3
  rw [Nat.add_mul, Nat.one_mul, Nat.mul_comm 2 r, Nat.mul_assoc, Nat.mul_comm 2, Nat.add_comm]
theorem hi_and {S k : Nat} (h : S.testBit k = true) : hi S k &&& (hi S k - 1) = hi S (k + 1) := by
  have h1 := hi_step h
  have h2 : hi S (k + 1) = 2 ^ (k + 1) * (S / 2 ^ (k + 1)) := by unfold hi; rw [Nat.mul_comm]
  apply Nat.eq_of_testBit_eq
  intro i
  rw [Nat.testBit_and]
  have hlt : 2 ^ k - 1 < 2 ^ (k + 1) := by rw [Nat.pow_succ]; have := Nat.two_pow_pos k; omega
  have e : hi S k - 1 = 2 ^ (k + 1) * (S / 2 ^ (k + 1)) + (2 ^ k - 1) := by have := Nat.two_pow_pos k; omega
  rw [e, Nat.testBit_two_pow_mul_add _ hlt, hi_bit, hi_bit]
  by_cases hi1 : i < k + 1
  · rw [if_pos hi1]
    have : decide (k + 1 ≤ i) = false := by simp; omega
    rw [this]
    by_cases hik : i = k
    · subst hik; simp [Nat.testBit_two_pow_sub_one]
    · have : decide (k ≤ i) = false := by simp; omega
      simp [this]
  · rw [if_neg hi1]
    have h5 : decide (k ≤ i) = true := by simp; omega
    have h6 : decide (k + 1 ≤ i) = true := by simp; omega
    rw [h5, h6, Nat.testBit_div_two_pow, show i - (k + 1) + (k + 1) = i by omega]
    simp
theorem set_lt {S n : Nat} (h : ∀ i, n ≤ i → S.testBit i = false) : S < 2 ^ n := Nat.lt_pow_two_of_testBit S h
theorem bit_lt {S n i : Nat} (h : S < 2 ^ n) (hb : S.testBit i = true) : i < n := by
  rcases Nat.lt_or_ge i n with q | q
  · exact q
  · have := Nat.testBit_lt_two_pow (Nat.lt_of_lt_of_le h (Nat.pow_le_pow_right (by omega) q))
    rw [this] at hb; cases hb
