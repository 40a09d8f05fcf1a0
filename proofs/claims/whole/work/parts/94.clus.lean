/-! CLUSTERS: what both sides compute -/
def cuI (s : clS) (c : Nat) : Nat := s.2.2.2.1 c
def cuO (s : clS) (c : Nat) : Nat := s.2.1 c ||| s.2.2.1 c
def csh (s : clS) (a b c : Nat) : Nat := cnt ((cuI s c ||| cuO s c) &&& (a ||| b)) 40
def cou (s : clS) (a b c : Nat) : Nat := cnt (sD (a ||| cuI s c) (b ||| cuO s c)) 40
/-- cells left, clusters of the others, nets in and out of the cluster that is filled -/
abbrev clu : Type := Nat × (Nat → Nat) × Nat × Nat
def nxS (s : clS) (nets : Nat) (u : clu) : Nat := mk (fun c => u.1.testBit c && decide (cou s u.2.2.1 u.2.2.2 c ≤ nets)) 40
def nxC (s : clS) (nets : Nat) (u : clu) : Option Nat := amx (csh s u.2.2.1 u.2.2.2) (nxS s nets u) 40
def jnC (s : clS) (k c : Nat) (u : clu) : clu := (sD u.1 (2 ^ c), add1 c u.2.1 k, u.2.2.1 ||| cuI s c, u.2.2.2 ||| cuO s c)
def inL (s : clS) (nets k : Nat) : Nat → Option Nat → clu → clu
  | 0, _, u => u
  | _ + 1, none, u => u
  | f + 1, some c, u => inL s nets k f (nxC s nets (jnC s k c u)) (jnC s k c u)
theorem inL_none (s : clS) (nets k : Nat) (u : clu) : ∀ f, inL s nets k f none u = u
  | 0 => by rw [inL]
  | _ + 1 => by rw [inL]
def bgC (s : clS) (l : Nat) : Option Nat := amx (fun c => cnt (cuI s c) 40) l 40
/-- how many clusters, cells left, clusters of the others, nets in and out of each -/
abbrev ous : Type := Nat × Nat × (Nat → Nat) × (Nat → Nat) × (Nat → Nat)
def ouN (s : clS) (nets most : Nat) (o : Option Nat) (w : ous) : ous := match o with
  | none => w
  | some c => (w.1 + 1, (inL s nets w.1 most (some c) (w.2.1, w.2.2.1, 0, 0)).1, (inL s nets w.1 most (some c) (w.2.1, w.2.2.1, 0, 0)).2.1, add1 w.1 w.2.2.2.1 (inL s nets w.1 most (some c) (w.2.1, w.2.2.1, 0, 0)).2.2.1, add1 w.1 w.2.2.2.2 (inL s nets w.1 most (some c) (w.2.1, w.2.2.1, 0, 0)).2.2.2)
def ouC (s : clS) (nets most : Nat) : Nat → ous → ous
  | 0, w => w
  | f + 1, w => ouC s nets most f (ouN s nets most (bgC s w.2.1) w)
def ou0 (n : Nat) : ous := (0, 2 ^ n - 1, fun _ => 0, fun _ => 0, fun _ => 0)
def ouF (s : clS) (nets most : Nat) : ous := ouC s nets most 40 (ou0 s.1)
def clB (s : clS) : Prop := ∀ c, s.2.1 c < 2 ^ 40 ∧ s.2.2.1 c < 2 ^ 40 ∧ s.2.2.2.1 c < 2 ^ 40
theorem clB_N {s : clS} {t r i : Nat} (h : clB s) (ht : t < 2 ^ 40) (hr : r < 2 ^ 40) (hi : i < 2 ^ 40) : clB (clN t r i s) := fun c => by
  show (if c = s.1 then t else s.2.1 c) < 2 ^ 40 ∧ (if c = s.1 then r else s.2.2.1 c) < 2 ^ 40 ∧ (if c = s.1 then i else s.2.2.2.1 c) < 2 ^ 40
  by_cases e : c = s.1
  · rw [if_pos e, if_pos e, if_pos e]; exact ⟨ht, hr, hi⟩
  · rw [if_neg e, if_neg e, if_neg e]; exact h c
theorem clB_T {N : nw} {T : Nat} {ch : Nat → Nat} {p : Nat → Option Nat} (hok : nw_ok N) (hT : allG N T) (hlt : ∀ g, isG N g = true → ch g < 2 ^ 40) (hp : prI T 40 p) (n : Nat) : clB (clT T ch p n) := by
  have hT4 := allG_lt hok hT
  induction n with
  | zero => intro c; exact ⟨Nat.two_pow_pos 40, Nat.two_pow_pos 40, Nat.two_pow_pos 40⟩
  | succ n ih =>
    rw [clT]
    split
    · rename_i h
      rw [nwT_bit hT4, Bool.and_eq_true] at h
      have hn := bit_lt hT4 h.1
      refine clB_N ih ?_ (Nat.two_pow_pos 40) ?_
      · cases hq : p n with
        | none => rw [teS_n hq]; exact pw_lt hn
        | some q => rw [teS_s hq]; exact or_lt (pw_lt hn) (pw_lt (hp n q hq).2.2.2.2.2.2)
      · cases hq : p n with
        | none => rw [neS_n hq]; exact hlt n (hT n h.1)
        | some q => rw [neS_s hq]; exact or_lt (hlt n (hT n h.1)) (hlt q (hT q (hp n q hq).2.1))
    · exact ih
theorem clB_R {N : nw} {T : Nat} {ch : Nat → Nat} {p : Nat → Option Nat} (hok : nw_ok N) (hT : allG N T) (hlt : ∀ g, isG N g = true → ch g < 2 ^ 40) (hp : prI T 40 p) (r : Nat) : clB (clR N T ch p r) := by
  have h40 := hok.1
  induction r with
  | zero => rw [clR_0]; exact clB_T hok hT hlt hp 40
  | succ r ih =>
    cases hr : isR N r with
    | false => rw [clR_f hr]; exact ih
    | true =>
      have hrn := isR_lt hr
      have hf := hok.2.2.2.1 r hr
      cases h2 : (frM N T ch).testBit (nF N r) with
      | true =>
        rw [clR_p hr h2]
        intro c
        show (clR N T ch p r).2.1 c < 2 ^ 40 ∧ (if c = ceI T p (nF N r) then (clR N T ch p r).2.2.1 c ||| 2 ^ r else (clR N T ch p r).2.2.1 c) < 2 ^ 40 ∧ (clR N T ch p r).2.2.2.1 c < 2 ^ 40
        refine ⟨(ih c).1, ?_, (ih c).2.2⟩
        split
        · exact or_lt (ih c).2.1 (pw_lt (by omega))
        · exact (ih c).2.1
      | false => rw [clR_n hr h2]; exact clB_N ih (Nat.two_pow_pos 40) (pw_lt (by omega)) (pw_lt (by omega))
theorem cuI_lt {s : clS} (h : clB s) (c : Nat) : cuI s c < 2 ^ 40 := (h c).2.2
theorem cuO_lt {s : clS} (h : clB s) (c : Nat) : cuO s c < 2 ^ 40 := or_lt (h c).1 (h c).2.1
/-- what is so while a cluster is filled -/
def inI (s : clS) (k L0 : Nat) (co0 : Nat → Nat) (u : clu) : Prop := (∀ c, u.1.testBit c = true → L0.testBit c = true) ∧ (∀ c, L0.testBit c = false → u.2.1 c = co0 c) ∧ (∀ c, L0.testBit c = true → u.1.testBit c = false → u.2.1 c = k) ∧ u.2.2.1 < 2 ^ 40 ∧ u.2.2.2 < 2 ^ 40 ∧ (∀ z, u.2.2.1.testBit z = true ↔ ∃ c, L0.testBit c = true ∧ u.1.testBit c = false ∧ (cuI s c).testBit z = true) ∧ (∀ z, u.2.2.2.testBit z = true ↔ ∃ c, L0.testBit c = true ∧ u.1.testBit c = false ∧ (cuO s c).testBit z = true)
theorem inI_0 (s : clS) (k L0 : Nat) (co0 : Nat → Nat) : inI s k L0 co0 (L0, co0, 0, 0) := by
  refine ⟨fun c h => h, fun c _ => rfl, fun c h1 h2 => ?_, Nat.two_pow_pos 40, Nat.two_pow_pos 40, fun z => ?_, fun z => ?_⟩
  · have h2 : L0.testBit c = false := h2
    rw [h1] at h2; cases h2
  · show (0 : Nat).testBit z = true ↔ ∃ c, L0.testBit c = true ∧ L0.testBit c = false ∧ _
    rw [Nat.zero_testBit]
    exact ⟨fun h => (by cases h), fun ⟨c, h1, h2, _⟩ => by rw [h1] at h2; cases h2⟩
  · show (0 : Nat).testBit z = true ↔ ∃ c, L0.testBit c = true ∧ L0.testBit c = false ∧ _
    rw [Nat.zero_testBit]
    exact ⟨fun h => (by cases h), fun ⟨c, h1, h2, _⟩ => by rw [h1] at h2; cases h2⟩
theorem inI_j {s : clS} {k L0 : Nat} {co0 : Nat → Nat} {u : clu} (hB : clB s) (h : inI s k L0 co0 u) {c : Nat} (hc : u.1.testBit c = true) : inI s k L0 co0 (jnC s k c u) := by
  obtain ⟨a1, a2, a3, a4, a5, a6, a7⟩ := h
  have hb : ∀ z, (sD u.1 (2 ^ c)).testBit z = (u.1.testBit z && !decide (z = c)) := fun z => sD_pw u.1 c z
  have uni : ∀ (f : Nat → Nat) (a z : Nat), (∀ z, a.testBit z = true ↔ ∃ c, L0.testBit c = true ∧ u.1.testBit c = false ∧ (f c).testBit z = true) → ((a ||| f c).testBit z = true ↔ ∃ d, L0.testBit d = true ∧ (sD u.1 (2 ^ c)).testBit d = false ∧ (f d).testBit z = true) := fun f a z ha => by
    rw [Nat.testBit_or, Bool.or_eq_true, ha]
    constructor
    · rintro (⟨d, d1, d2, d3⟩ | q)
      · exact ⟨d, d1, by rw [hb, d2]; rfl, d3⟩
      · exact ⟨c, a1 c hc, by rw [hb]; simp, q⟩
    · rintro ⟨d, d1, d2, d3⟩
      by_cases e : d = c
      · rw [e] at d3; exact Or.inr d3
      · rw [hb] at d2
        exact Or.inl ⟨d, d1, by simpa [e] using d2, d3⟩
  refine ⟨fun z hz => ?_, fun z hz => ?_, fun z h1 h2 => ?_, or_lt a4 (cuI_lt hB c), or_lt a5 (cuO_lt hB c), fun z => uni (cuI s) _ z a6, fun z => uni (cuO s) _ z a7⟩
  · have hz : (sD u.1 (2 ^ c)).testBit z = true := hz
    rw [hb, Bool.and_eq_true] at hz
    exact a1 z hz.1
  · show (if z = c then k else u.2.1 z) = co0 z
    have : z ≠ c := fun e => by rw [e, a1 c hc] at hz; cases hz
    rw [if_neg this]
    exact a2 z hz
  · show (if z = c then k else u.2.1 z) = k
    by_cases e : z = c
    · rw [if_pos e]
    · rw [if_neg e]
      have h2 : (sD u.1 (2 ^ c)).testBit z = false := h2
      rw [hb] at h2
      exact a3 z h1 (by simpa [e] using h2)
theorem nxC_in {s : clS} {nets : Nat} {u : clu} {c : Nat} (h : nxC s nets u = some c) : u.1.testBit c = true ∧ c < 40 := by
  obtain ⟨h1, h2⟩ := amx_in 40 c h
  unfold nxS at h2
  rw [mk_bit, Bool.and_eq_true, Bool.and_eq_true] at h2
  exact ⟨h2.2.1, h1⟩
theorem inI_L {s : clS} {nets k L0 : Nat} {co0 : Nat → Nat} (hB : clB s) : ∀ (f : Nat) (o : Option Nat) (u : clu), (∀ c, o = some c → u.1.testBit c = true) → inI s k L0 co0 u → inI s k L0 co0 (inL s nets k f o u) := by
  intro f
  induction f with
  | zero => intro o u _ h; rw [inL]; exact h
  | succ f ih =>
    intro o u ho h
    cases o with
    | none => rw [inL]; exact h
    | some c =>
      rw [inL]
      exact ih _ _ (fun d hd => (nxC_in hd).1) (inI_j hB h (ho c rfl))
/-- cells left go away -/
theorem inL_sub {s : clS} {nets k : Nat} (f c : Nat) (u : clu) : (∀ z, (inL s nets k (f + 1) (some c) u).1.testBit z = true → u.1.testBit z = true ∧ z ≠ c) := by
  have gen : ∀ (f : Nat) (o : Option Nat) (u : clu) (z : Nat), (inL s nets k f o u).1.testBit z = true → u.1.testBit z = true := by
    intro f
    induction f with
    | zero => intro o u z h; rw [inL] at h; exact h
    | succ f ih =>
      intro o u z h
      cases o with
      | none => rw [inL] at h; exact h
      | some d =>
        rw [inL] at h
        have := ih _ _ z h
        have this : (sD u.1 (2 ^ d)).testBit z = true := this
        rw [sD_pw, Bool.and_eq_true] at this
        exact this.1
  intro z h
  rw [inL] at h
  have := gen _ _ _ z h
  have this : (sD u.1 (2 ^ c)).testBit z = true := this
  rw [sD_pw, Bool.and_eq_true, Bool.not_eq_true', decide_eq_false_iff_not] at this
  exact this
/-- what is so between two clusters -/
def ouI (s : clS) (n : Nat) (w : ous) : Prop := (∀ c, w.2.1.testBit c = true → c < n) ∧ (∀ c, c < n → w.2.1.testBit c = false → w.2.2.1 c < w.1) ∧ (∀ b, b < w.1 → ∀ z, (w.2.2.2.1 b).testBit z = true ↔ ∃ c, c < n ∧ w.2.1.testBit c = false ∧ w.2.2.1 c = b ∧ (cuI s c).testBit z = true) ∧ (∀ b, b < w.1 → ∀ z, (w.2.2.2.2 b).testBit z = true ↔ ∃ c, c < n ∧ w.2.1.testBit c = false ∧ w.2.2.1 c = b ∧ (cuO s c).testBit z = true) ∧ (∀ b, b < w.1 → w.2.2.2.1 b < 2 ^ 40 ∧ w.2.2.2.2 b < 2 ^ 40) ∧ w.1 + cnt w.2.1 40 ≤ n
theorem ouI_0 {s : clS} {n : Nat} (hn : n ≤ 40) : ouI s n (ou0 n) := by
  refine ⟨fun c h => ?_, fun c hc h => ?_, fun b hb => absurd hb (Nat.not_lt_zero _), fun b hb => absurd hb (Nat.not_lt_zero _), fun b hb => absurd hb (Nat.not_lt_zero _), ?_⟩
  · have h : (2 ^ n - 1).testBit c = true := h
    rw [Nat.testBit_two_pow_sub_one] at h
    simpa using h
  · have h : (2 ^ n - 1).testBit c = false := h
    rw [Nat.testBit_two_pow_sub_one] at h
    simp at h
    omega
  · show 0 + cnt (2 ^ n - 1) 40 ≤ n
    rw [cnt_low hn]
    omega
theorem ouI_N {s : clS} {n nets most : Nat} (hB : clB s) (hn : n ≤ 40) (hm : 1 ≤ most) {w : ous} (h : ouI s n w) {c : Nat} (hc : bgC s w.2.1 = some c) : ouI s n (ouN s nets most (some c) w) ∧ w.1 < n := by
  obtain ⟨a1, a2, a3, a4, a5, a6⟩ := h
  obtain ⟨c1, c2⟩ := amx_in 40 c hc
  obtain ⟨f, rfl⟩ : ∃ f, most = f + 1 := ⟨most - 1, by omega⟩
  have hi := inI_L (nets := nets) hB (f + 1) (some c) (w.2.1, w.2.2.1, 0, 0) (fun d hd => by rw [← Option.some.inj hd]; exact c2) (inI_0 s w.1 w.2.1 w.2.2.1)
  have hs := inL_sub (s := s) (nets := nets) (k := w.1) f c (w.2.1, w.2.2.1, 0, 0)
  have e : ouN s nets (f + 1) (some c) w = (w.1 + 1, (inL s nets w.1 (f + 1) (some c) (w.2.1, w.2.2.1, 0, 0)).1, (inL s nets w.1 (f + 1) (some c) (w.2.1, w.2.2.1, 0, 0)).2.1, add1 w.1 w.2.2.2.1 (inL s nets w.1 (f + 1) (some c) (w.2.1, w.2.2.1, 0, 0)).2.2.1, add1 w.1 w.2.2.2.2 (inL s nets w.1 (f + 1) (some c) (w.2.1, w.2.2.1, 0, 0)).2.2.2) := rfl
  rw [e]
  generalize inL s nets w.1 (f + 1) (some c) (w.2.1, w.2.2.1, 0, 0) = u at hi hs
  obtain ⟨b1, b2, b3, b4, b5, b6, b7⟩ := hi
  have hcd := cnt_del c1 c2
  have hle : cnt u.1 40 ≤ cnt (sD w.2.1 (2 ^ c)) 40 := cnt_sub fun i _ hi => by
    obtain ⟨q1, q2⟩ := hs i hi
    rw [sD_pw]
    have q1 : w.2.1.testBit i = true := q1
    rw [q1]
    simp [q2]
  have part : ∀ (g : Nat → Nat) (F : Nat → Nat) (V : Nat), (∀ b, b < w.1 → ∀ z, (F b).testBit z = true ↔ ∃ c, c < n ∧ w.2.1.testBit c = false ∧ w.2.2.1 c = b ∧ (g c).testBit z = true) → (∀ z, V.testBit z = true ↔ ∃ c, w.2.1.testBit c = true ∧ u.1.testBit c = false ∧ (g c).testBit z = true) → ∀ b, b < w.1 + 1 → ∀ z, (add1 w.1 F V b).testBit z = true ↔ ∃ c, c < n ∧ u.1.testBit c = false ∧ u.2.1 c = b ∧ (g c).testBit z = true := by
    intro g F V hF hV b hb z
    by_cases e2 : b = w.1
    · rw [e2, add1_q, hV]
      constructor
      · rintro ⟨d, d1, d2, d3⟩
        exact ⟨d, a1 d d1, d2, b3 d d1 d2, d3⟩
      · rintro ⟨d, d1, d2, d3, d4⟩
        cases hd : w.2.1.testBit d with
        | true => exact ⟨d, hd, d2, d4⟩
        | false =>
          have h5 := a2 d d1 hd
          rw [b2 d hd] at d3
          have d3 : w.2.2.1 d = w.1 := d3
          omega
    · rw [add1_lt (show b < w.1 by omega), hF b (by omega)]
      constructor
      · rintro ⟨d, d1, d2, d3, d4⟩
        refine ⟨d, d1, ?_, by rw [b2 d d2]; exact d3, d4⟩
        cases q : u.1.testBit d with
        | false => rfl
        | true => have := b1 d q; have this : w.2.1.testBit d = true := this; rw [d2] at this; cases this
      · rintro ⟨d, d1, d2, d3, d4⟩
        cases hd : w.2.1.testBit d with
        | true => rw [b3 d hd d2] at d3; omega
        | false => exact ⟨d, d1, hd, by rw [← b2 d hd]; exact d3, d4⟩
  refine ⟨⟨fun z hz => a1 z (b1 z hz), fun z hz h2 => ?_, part (cuI s) _ _ a3 b6, part (cuO s) _ _ a4 b7, fun b hb => ?_, ?_⟩, by omega⟩
  · show u.2.1 z < w.1 + 1
    cases hd : w.2.1.testBit z with
    | true => rw [b3 z hd h2]; omega
    | false =>
      have := a2 z hz hd
      rw [b2 z hd]
      show w.2.2.1 z < w.1 + 1
      omega
  · have hb : b < w.1 + 1 := hb
    show add1 w.1 w.2.2.2.1 u.2.2.1 b < 2 ^ 40 ∧ add1 w.1 w.2.2.2.2 u.2.2.2 b < 2 ^ 40
    by_cases e2 : b = w.1
    · rw [e2, add1_q, add1_q]; exact ⟨b4, b5⟩
    · rw [add1_lt (show b < w.1 by omega), add1_lt (show b < w.1 by omega)]; exact a5 b (by omega)
  · show w.1 + 1 + cnt u.1 40 ≤ n
    omega
theorem ouC_end {s : clS} {nets most : Nat} {w : ous} (h : bgC s w.2.1 = none) : ∀ f, ouC s nets most f w = w
  | 0 => by rw [ouC]
  | f + 1 => by rw [ouC, h]; exact ouC_end h f
theorem bg_none {s : clS} {l : Nat} (hl : l < 2 ^ 40) : bgC s l = none ↔ l = 0 := by
  unfold bgC
  rw [amx_none]
  constructor
  · intro h
    apply set_eq
    intro i
    rw [Nat.zero_testBit]
    rcases Nat.lt_or_ge i 40 with c | c
    · exact h i c
    · cases q : l.testBit i with
      | false => rfl
      | true => have := bit_lt hl q; omega
  · intro h j _
    rw [h, Nat.zero_testBit]
/-- enough turns -/
theorem ouC_done {s : clS} {n nets most : Nat} (hB : clB s) (hn : n ≤ 40) (hm : 1 ≤ most) : ∀ (f : Nat) (w : ous), ouI s n w → cnt w.2.1 40 ≤ f → ouI s n (ouC s nets most f w) ∧ (ouC s nets most f w).2.1 = 0 := by
  intro f
  induction f with
  | zero =>
    intro w h hc
    rw [ouC]
    refine ⟨h, ?_⟩
    apply set_eq
    intro i
    rw [Nat.zero_testBit]
    cases q : w.2.1.testBit i with
    | false => rfl
    | true =>
      have hi := h.1 i q
      have := (fb_ct_pos (p := fun i => w.2.1.testBit i) (n := 40)).mpr ⟨i, by omega, q⟩
      have this : 0 < cnt w.2.1 40 := this
      omega
  | succ f ih =>
    intro w h hc
    rw [ouC]
    have hl : w.2.1 < 2 ^ 40 := lt40 hn h.1
    cases hb : bgC s w.2.1 with
    | none =>
      have e := (bg_none hl).mp hb
      have h2 : ouN s nets most none w = w := rfl
      rw [h2, ouC_end hb]
      exact ⟨h, e⟩
    | some c =>
      obtain ⟨h1, -⟩ := ouI_N (nets := nets) hB hn hm h hb
      refine ih _ h1 ?_
      obtain ⟨f2, rfl⟩ : ∃ f2, most = f2 + 1 := ⟨most - 1, by omega⟩
      obtain ⟨c1, c2⟩ := amx_in 40 c hb
      have hs := inL_sub (s := s) (nets := nets) (k := w.1) f2 c (w.2.1, w.2.2.1, 0, 0)
      have hcd := cnt_del c1 c2
      have hle : cnt (inL s nets w.1 (f2 + 1) (some c) (w.2.1, w.2.2.1, 0, 0)).1 40 ≤ cnt (sD w.2.1 (2 ^ c)) 40 := cnt_sub fun i _ hi => by
        obtain ⟨q1, q2⟩ := hs i hi
        rw [sD_pw]
        have q1 : w.2.1.testBit i = true := q1
        rw [q1]
        simp [q2]
      show cnt (inL s nets w.1 (f2 + 1) (some c) (w.2.1, w.2.2.1, 0, 0)).1 40 ≤ f
      omega
theorem ouF_ok {s : clS} {nets most : Nat} (hB : clB s) (hn : s.1 ≤ 40) (hm : 1 ≤ most) : ouI s s.1 (ouF s nets most) ∧ (ouF s nets most).2.1 = 0 := ouC_done hB hn hm 40 _ (ouI_0 hn) (cnt_le _ _)
/-- nets that cross -/
noncomputable def crX (s : clS) (co : Nat → Nat) : Nat := mk (fun z => @decide (∃ f t, f < s.1 ∧ t < s.1 ∧ co f ≠ co t ∧ (cuO s f).testBit z = true ∧ (cuI s t).testBit z = true) (Classical.propDecidable _)) 40
theorem crX_bit {s : clS} (hB : clB s) (co : Nat → Nat) (z : Nat) : (crX s co).testBit z = true ↔ ∃ f t, f < s.1 ∧ t < s.1 ∧ co f ≠ co t ∧ (cuO s f).testBit z = true ∧ (cuI s t).testBit z = true := by
  unfold crX
  rw [mk_bit, Bool.and_eq_true, decide_eq_true_eq]
  exact ⟨fun h => @of_decide_eq_true _ (Classical.propDecidable _) h.2, fun h => ⟨by
    obtain ⟨f, t, -, -, -, -, h5⟩ := h
    exact bit_lt (cuI_lt hB t) h5, @decide_eq_true _ (Classical.propDecidable _) h⟩⟩
theorem crX_lt (s : clS) (co : Nat → Nat) : crX s co < 2 ^ 40 := mk_lt _ _
