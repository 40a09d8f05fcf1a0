/-! Long.bitCount counts -/
theorem and_split (x c m : Nat) (hc : c < 256) : x &&& (c + 256 * m) = (x % 256 &&& c) + 256 * (x / 256 &&& m) := by
  have h1 : (x % 256 &&& c) < 2 ^ 8 := Nat.lt_of_le_of_lt Nat.and_le_right hc
  have e1 : (x % 256 &&& c) + 256 * (x / 256 &&& m) = 2 ^ 8 * (x / 256 &&& m) + (x % 256 &&& c) := by omega
  have e2 : c + 256 * m = 2 ^ 8 * m + c := by omega
  rw [e1, e2]
  apply Nat.eq_of_testBit_eq
  intro i
  rw [Nat.testBit_two_pow_mul_add _ h1, Nat.testBit_and, Nat.testBit_two_pow_mul_add _ (show c < 2 ^ 8 from hc)]
  by_cases hi : i < 8
  · rw [if_pos hi, if_pos hi, Nat.testBit_and, show (256 : Nat) = 2 ^ 8 from rfl, Nat.testBit_mod_two_pow]
    simp [hi]
  · rw [if_neg hi, if_neg hi, Nat.testBit_and, show (256 : Nat) = 2 ^ 8 from rfl, Nat.testBit_div_two_pow, show i - 8 + 8 = i by omega]
def pm (c : Nat) : Nat → Nat
  | 0 => 0
  | n + 1 => c + 256 * pm c n
def pa1 (n x : Nat) : Nat := x - (x / 2 &&& pm 85 n)
def pa2 (n x : Nat) : Nat := (x &&& pm 51 n) + (x / 4 &&& pm 51 n)
def pa3 (n x : Nat) : Nat := (x + x / 16) &&& pm 15 n
def pb1 (b : Nat) : Nat := b - (b / 2 &&& 85)
def pb2 (b : Nat) : Nat := (b &&& 51) + (b / 4 &&& 51)
def pb3 (b : Nat) : Nat := (b + b / 16) &&& 15
theorem pd1 : ∀ b, b < 256 → ∀ t, t < 2 → ((b / 2 + 128 * t) &&& 85) = (b / 2 &&& 85) := by decide +kernel
theorem pd2 : ∀ b, b < 256 → ∀ t, t < 4 → ((b / 4 + 64 * t) &&& 51) = (b / 4 &&& 51) := by decide +kernel
theorem pd3 : ∀ b, b < 69 → ∀ t, t < 5 → ((b + b / 16 + 16 * t) &&& 15) = ((b + b / 16) &&& 15) := by decide +kernel
theorem pd4 : ∀ b, b < 256 → (b / 2 &&& 85) ≤ b ∧ pb1 b < 256 ∧ pb2 (pb1 b) < 69 ∧ pb2 (pb1 b) % 16 < 5 ∧ pb3 (pb2 (pb1 b)) = fb_ct (fun i => b.testBit i) 8 ∧ pb3 (pb2 (pb1 b)) ≤ 8 := by decide +kernel
theorem ps1 (n b y : Nat) (hb : b < 256) : pa1 (n + 1) (b + 256 * y) = pb1 b + 256 * pa1 n y := by
  unfold pa1 pb1
  rw [show pm 85 (n + 1) = 85 + 256 * pm 85 n from rfl, and_split _ 85 _ (by omega)]
  have e1 : (b + 256 * y) / 2 % 256 = b / 2 + 128 * (y % 2) := by omega
  have e2 : (b + 256 * y) / 2 / 256 = y / 2 := by omega
  rw [e1, e2, pd1 b hb _ (Nat.mod_lt _ (by omega))]
  have h1 := (pd4 b hb).1
  have h2 : (y / 2 &&& pm 85 n) ≤ y := Nat.le_trans Nat.and_le_left (Nat.div_le_self _ _)
  omega
theorem ps2 (n b y : Nat) (hb : b < 256) : pa2 (n + 1) (b + 256 * y) = pb2 b + 256 * pa2 n y := by
  unfold pa2 pb2
  rw [show pm 51 (n + 1) = 51 + 256 * pm 51 n from rfl, and_split _ 51 _ (by omega), and_split _ 51 _ (by omega)]
  have e1 : (b + 256 * y) / 4 % 256 = b / 4 + 64 * (y % 4) := by omega
  have e2 : (b + 256 * y) / 4 / 256 = y / 4 := by omega
  have e3 : (b + 256 * y) % 256 = b := by omega
  have e4 : (b + 256 * y) / 256 = y := by omega
  rw [e1, e2, e3, e4, pd2 b hb _ (Nat.mod_lt _ (by omega))]
  omega
theorem ps3 (n b y : Nat) (hb : b < 69) (hy : y % 16 < 5) : pa3 (n + 1) (b + 256 * y) = pb3 b + 256 * pa3 n y := by
  unfold pa3 pb3
  rw [show pm 15 (n + 1) = 15 + 256 * pm 15 n from rfl, and_split _ 15 _ (by omega)]
  have e1 : (b + 256 * y + (b + 256 * y) / 16) % 256 = b + b / 16 + 16 * (y % 16) := by omega
  have e2 : (b + 256 * y + (b + 256 * y) / 16) / 256 = y + y / 16 := by omega
  rw [e1, e2, pd3 b hb _ hy]
def pbs : Nat → Nat → Nat
  | 0, _ => 0
  | n + 1, x => fb_ct (fun i => (x % 256).testBit i) 8 + 256 * pbs n (x / 256)
theorem pa_all : ∀ (n x : Nat), x < 256 ^ n → pa3 n (pa2 n (pa1 n x)) = pbs n x ∧ pa2 n (pa1 n x) % 16 < 5
  | 0, x, h => by
    have : x = 0 := by simpa using h
    subst this
    exact ⟨rfl, by decide⟩
  | n + 1, x, h => by
    have hx : x = x % 256 + 256 * (x / 256) := by omega
    have hb : x % 256 < 256 := Nat.mod_lt _ (by omega)
    have hy : x / 256 < 256 ^ n := by
      rw [Nat.pow_succ] at h
      exact Nat.div_lt_of_lt_mul (by omega)
    obtain ⟨h1, h2⟩ := pa_all n (x / 256) hy
    obtain ⟨d1, d2, d3, d4, d5, d6⟩ := pd4 (x % 256) hb
    have e : pa2 (n + 1) (pa1 (n + 1) x) = pb2 (pb1 (x % 256)) + 256 * pa2 n (pa1 n (x / 256)) := by
      rw [show pa1 (n + 1) x = pb1 (x % 256) + 256 * pa1 n (x / 256) by rw [← ps1 n _ _ hb, ← hx], ps2 n _ _ d2]
    rw [e]
    refine ⟨?_, by omega⟩
    rw [ps3 n _ _ d3 h2, h1, d5]
    rfl
def psm : Nat → Nat → Nat
  | 0, _ => 0
  | n + 1, x => fb_ct (fun i => (x % 256).testBit i) 8 + psm n (x / 256)
theorem psm_cnt : ∀ (n x : Nat), fb_ct (fun i => x.testBit i) (8 * n) = psm n x
  | 0, _ => rfl
  | n + 1, x => by
    rw [show 8 * (n + 1) = 8 + 8 * n by omega, fb_ct_split]
    show _ = fb_ct (fun i => (x % 256).testBit i) 8 + psm n (x / 256)
    rw [← psm_cnt n (x / 256)]
    congr 1
    · apply fb_ct_cong
      intro k hk
      rw [show (256 : Nat) = 2 ^ 8 from rfl, Nat.testBit_mod_two_pow]
      simp [hk]
    · apply fb_ct_cong
      intro k hk
      rw [show (256 : Nat) = 2 ^ 8 from rfl, Nat.testBit_div_two_pow, Nat.add_comm]
theorem pstep (n x : Nat) : ∃ p y, p ≤ 8 ∧ pbs (n + 1) x = p + 256 * pbs n y ∧ psm (n + 1) x = p + psm n y := ⟨_, _, fb_ct_le _ _, rfl, rfl⟩
theorem p_sum8 (p0 p1 p2 p3 p4 p5 p6 p7 a : Nat) (h0 : p0 ≤ 8) (h1 : p1 ≤ 8) (h2 : p2 ≤ 8) (h3 : p3 ≤ 8) (h4 : p4 ≤ 8) (h5 : p5 ≤ 8) (h6 : p6 ≤ 8) (h7 : p7 ≤ 8) (ea : a = p0 + 256 * (p1 + 256 * (p2 + 256 * (p3 + 256 * (p4 + 256 * (p5 + 256 * (p6 + 256 * p7))))))) :
    ((a + a / 256) + (a + a / 256) / 65536 + ((a + a / 256) + (a + a / 256) / 65536) / 4294967296) % 128 = p0 + (p1 + (p2 + (p3 + (p4 + (p5 + (p6 + p7)))))) ∧ a < 2 ^ 60 := by
  have f1 : a / 256 = p1 + 256 * (p2 + 256 * (p3 + 256 * (p4 + 256 * (p5 + 256 * (p6 + 256 * p7))))) := by omega
  generalize hb : a + a / 256 = b
  have f2 : b = (p0 + p1) + 256 * ((p1 + p2) + 256 * ((p2 + p3) + 256 * ((p3 + p4) + 256 * ((p4 + p5) + 256 * ((p5 + p6) + 256 * ((p6 + p7) + 256 * p7)))))) := by omega
  clear f1 hb
  have hlt : a < 2 ^ 60 := by omega
  clear ea
  have f3 : b / 65536 = (p2 + p3) + 256 * ((p3 + p4) + 256 * ((p4 + p5) + 256 * ((p5 + p6) + 256 * ((p6 + p7) + 256 * p7)))) := by omega
  generalize hc : b + b / 65536 = c
  have f4 : c = (p0 + p1 + p2 + p3) + 256 * ((p1 + p2 + p3 + p4) + 256 * ((p2 + p3 + p4 + p5) + 256 * ((p3 + p4 + p5 + p6) + 256 * ((p4 + p5 + p6 + p7) + 256 * ((p5 + p6 + p7) + 256 * ((p6 + p7) + 256 * p7)))))) := by omega
  clear f2 f3 hc
  have f5 : c / 4294967296 = (p4 + p5 + p6 + p7) + 256 * ((p5 + p6 + p7) + 256 * ((p6 + p7) + 256 * p7)) := by omega
  refine ⟨?_, hlt⟩
  rw [f5, f4]
  clear f4 f5 hlt
  omega
theorem p_sum (x : Nat) : ((pbs 8 x + pbs 8 x / 256) + (pbs 8 x + pbs 8 x / 256) / 65536 + ((pbs 8 x + pbs 8 x / 256) + (pbs 8 x + pbs 8 x / 256) / 65536) / 4294967296) % 128 = fb_ct (fun i => x.testBit i) 64 ∧ pbs 8 x < 2 ^ 60 := by
  rw [show (64 : Nat) = 8 * 8 from rfl, psm_cnt]
  obtain ⟨p0, y0, b0, e0, f0⟩ := pstep 7 x
  obtain ⟨p1, y1, b1, e1, f1⟩ := pstep 6 y0
  obtain ⟨p2, y2, b2, e2, f2⟩ := pstep 5 y1
  obtain ⟨p3, y3, b3, e3, f3⟩ := pstep 4 y2
  obtain ⟨p4, y4, b4, e4, f4⟩ := pstep 3 y3
  obtain ⟨p5, y5, b5, e5, f5⟩ := pstep 2 y4
  obtain ⟨p6, y6, b6, e6, f6⟩ := pstep 1 y5
  obtain ⟨p7, y7, b7, e7, f7⟩ := pstep 0 y6
  have e8 : pbs 0 y7 = 0 := rfl
  have f8 : psm 0 y7 = 0 := rfl
  have h := p_sum8 p0 p1 p2 p3 p4 p5 p6 p7 (pbs 8 x) b0 b1 b2 b3 b4 b5 b6 b7 (by rw [e0, e1, e2, e3, e4, e5, e6, e7, e8]; omega)
  refine ⟨?_, h.2⟩
  rw [h.1, f0, f1, f2, f3, f4, f5, f6, f7, f8]
  omega
abbrev ct_bc (C : jm_C) : Prop := ∀ (x : Nat) (σ : jm_G) (post : Option jm_V → jm_G → Prop), x < 2 ^ 64 → post (some (jI (nI (cnt x 64)))) σ → C kJ13_bitCount_95d88 [jJ (lN x)] σ post
theorem pa_lt (x : Nat) (h : x < 2 ^ 64) : pa1 8 x < 2 ^ 64 ∧ pa2 8 (pa1 8 x) < 2 ^ 63 ∧ pa2 8 (pa1 8 x) / 16 < 2 ^ 63 := by
  have h1 : pa1 8 x ≤ x := Nat.sub_le _ _
  have h2 : (pa1 8 x &&& pm 51 8) ≤ pm 51 8 := Nat.and_le_right
  have h3 : (pa1 8 x / 4 &&& pm 51 8) ≤ pm 51 8 := Nat.and_le_right
  have h4 : pm 51 8 = 3689348814741910323 := by decide
  have h5 : pa2 8 (pa1 8 x) ≤ 7378697629483820646 := by unfold pa2; omega
  have h6 := Nat.div_le_self (pa2 8 (pa1 8 x)) 16
  exact ⟨by omega, by omega, by omega⟩
theorem T_bc (L : Nat) {C : jm_C} (hC : jm_mon C) : ct_bc (jm_up L C) := by
  intro x σ post hx hp
  refine jm_start rfl (Nat.le_of_ble_eq_true rfl) hC fun X hg hw => ?_
  refine hg [10] 20 _ ?_
  show X (σ, 10, [some (jJ (lN x - (((lN x).toUInt64 >>> ((nI 1).toInt64.toUInt64 &&& Int64.toUInt64 63)).toInt64 &&& lN 6148914691236517205))), none], [])
  have p1 : pm 85 8 = 6148914691236517205 := by decide
  have p2 : pm 51 8 = 3689348814741910323 := by decide
  have p3 : pm 15 8 = 1085102592571150095 := by decide
  obtain ⟨q1, q2, q3⟩ := pa_lt x hx
  obtain ⟨a1, a2⟩ := pa_all 8 x (by rw [show (256 : Nat) ^ 8 = 2 ^ 64 from by decide]; exact hx)
  obtain ⟨s1, s2⟩ := p_sum x
  rw [wb_shr hx (by omega), fb_andL, Nat.pow_one, ← p1, lN_sub (Nat.le_trans Nat.and_le_left (Nat.div_le_self _ _)), show x - (x / 2 &&& pm 85 8) = pa1 8 x from rfl]
  refine hg [24] 20 _ ?_
  show X (σ, 24, [some (jJ ((lN (pa1 8 x) &&& lN 3689348814741910323) + (((lN (pa1 8 x)).toUInt64 >>> ((nI 2).toInt64.toUInt64 &&& Int64.toUInt64 63)).toInt64 &&& lN 3689348814741910323))), none], [])
  rw [wb_shr q1 (by omega), fb_andL, fb_andL, show (2 : Nat) ^ 2 = 4 from rfl, ← p2, lN_add, show (pa1 8 x &&& pm 51 8) + (pa1 8 x / 4 &&& pm 51 8) = pa2 8 (pa1 8 x) from rfl]
  refine hg [34] 20 _ ?_
  show X (σ, 34, [some (jJ ((lN (pa2 8 (pa1 8 x)) + ((lN (pa2 8 (pa1 8 x))).toUInt64 >>> ((nI 4).toInt64.toUInt64 &&& Int64.toUInt64 63)).toInt64) &&& lN 1085102592571150095)), none], [])
  rw [wb_shr (by omega) (by omega), lN_add, fb_andL, show (2 : Nat) ^ 4 = 16 from rfl, ← p3, show (pa2 8 (pa1 8 x) + pa2 8 (pa1 8 x) / 16) &&& pm 15 8 = pa3 8 (pa2 8 (pa1 8 x)) from rfl, a1]
  generalize pbs 8 x = a at s1 s2 ⊢
  have hd1 := Nat.div_le_self a 256
  have hd2 := Nat.div_le_self (a + a / 256) 65536
  have hd3 := Nat.div_le_self (a + a / 256 + (a + a / 256) / 65536) 4294967296
  refine hg [41] 20 _ ?_
  show X (σ, 41, [some (jJ (lN a + ((lN a).toUInt64 >>> ((nI 8).toInt64.toUInt64 &&& Int64.toUInt64 63)).toInt64)), none], [])
  rw [wb_shr (by omega) (by omega), lN_add, show (2 : Nat) ^ 8 = 256 from rfl]
  refine hg [48] 20 _ ?_
  show X (σ, 48, [some (jJ (lN (a + a / 256) + ((lN (a + a / 256)).toUInt64 >>> ((nI 16).toInt64.toUInt64 &&& Int64.toUInt64 63)).toInt64)), none], [])
  rw [wb_shr (by omega) (by omega), lN_add, show (2 : Nat) ^ 16 = 65536 from rfl]
  refine hg [55] 20 _ ?_
  show X (σ, 55, [some (jJ (lN (a + a / 256 + (a + a / 256) / 65536) + ((lN (a + a / 256 + (a + a / 256) / 65536)).toUInt64 >>> ((nI 32).toInt64.toUInt64 &&& Int64.toUInt64 63)).toInt64)), none], [])
  rw [wb_shr (by omega) (by omega), lN_add, show (2 : Nat) ^ 32 = 4294967296 from rfl]
  refine hg [] 20 _ ?_
  refine And.intro trivial ?_
  show post (some (jI ((lN (a + a / 256 + (a + a / 256) / 65536 + (a + a / 256 + (a + a / 256) / 65536) / 4294967296)).toInt32 &&& nI 127))) σ
  rw [lN_i, show (127 : Nat) = 2 ^ 7 - 1 from rfl, fa_mask, show (2 : Nat) ^ 7 = 128 from rfl]
  have s1 : (a + a / 256 + (a + a / 256) / 65536 + (a + a / 256 + (a + a / 256) / 65536) / 4294967296) % 128 = cnt x 64 := s1
  rw [s1]
  exact hp
