/-! LEVELS and NEAR CUTS, as the document says them -/
noncomputable def lst (P : Nat → Prop) : Nat := @dite _ (∃ m, P m ∧ ∀ j, j < m → ¬ P j) (Classical.propDecidable _) (fun h => Classical.choose h) (fun _ => 0)
theorem lst_eq {P : Nat → Prop} {m : Nat} (h1 : P m) (h2 : ∀ j, j < m → ¬ P j) : lst P = m := by
  have h : ∃ m, P m ∧ ∀ j, j < m → ¬ P j := ⟨m, h1, h2⟩
  unfold lst
  rw [dif_pos h]
  obtain ⟨a, b⟩ := Classical.choose_spec h
  rcases Nat.lt_trichotomy (Classical.choose h) m with q | q | q
  · exact absurd a (h2 _ q)
  · exact q
  · exact absurd h1 (b _ q)
theorem lst_ex {P : Nat → Prop} {n : Nat} (h : P n) : P (lst P) ∧ (∀ j, j < lst P → ¬ P j) ∧ lst P ≤ n := by
  have key : ∀ m, P m → ∃ k, k ≤ m ∧ P k ∧ ∀ j, j < k → ¬ P j := by
    intro m
    induction m using Nat.strongRecOn with
    | ind m ih =>
      intro hm
      by_cases q : ∃ j, j < m ∧ P j
      · obtain ⟨j, hj, hP⟩ := q
        obtain ⟨k, h1, h2⟩ := ih j hj hP
        exact ⟨k, by omega, h2⟩
      · exact ⟨m, Nat.le_refl _, hm, fun j hj hP => q ⟨j, hj, hP⟩⟩
  obtain ⟨k, h1, h2, h3⟩ := key n h
  rw [lst_eq h2 h3]
  exact ⟨h2, h3, h1⟩
/-- so few nodes of levels below a number cut a gate off -/
def cutt (N : nw) (K : Nat) (l : Nat → Nat) (g m : Nat) : Prop := ∃ U, Sep N g U ∧ cnt U 40 ≤ K ∧ ∀ j, U.testBit j = true → l j < m
noncomputable def levT (N : nw) (K : Nat) : Nat → Nat → Nat
  | 0 => fun _ => 0
  | n + 1 => fun i => if i = n then (if isG N n then lst (cutt N K (levT N K n) n) else 0) else levT N K n i
noncomputable def lev (N : nw) (K i : Nat) : Nat := levT N K (i + 1) i
theorem levT_lt (N : nw) (K : Nat) : ∀ (n i : Nat), i < n → levT N K n i = lev N K i
  | 0, i, h => absurd h (by omega)
  | n + 1, i, h => by
    by_cases e : i = n
    · subst e; rfl
    · show (if i = n then _ else levT N K n i) = _
      rw [if_neg e]
      exact levT_lt N K n i (by omega)
theorem cutt_cong {N : nw} {K : Nat} {l l' : Nat → Nat} {g m : Nat} (hok : nw_ok N) (h : ∀ j, j < g → l j = l' j) : cutt N K l g m ↔ cutt N K l' g m := by
  constructor
  · rintro ⟨U, h1, h2, h3⟩
    exact ⟨U, h1, h2, fun j hj => by rw [← h j (nB_lt hok _ _ (h1.1 j hj))]; exact h3 j hj⟩
  · rintro ⟨U, h1, h2, h3⟩
    exact ⟨U, h1, h2, fun j hj => by rw [h j (nB_lt hok _ _ (h1.1 j hj))]; exact h3 j hj⟩
theorem lev_leaf {N : nw} {K i : Nat} (h : isG N i = false) : lev N K i = 0 := by
  show (if i = i then (if isG N i then _ else 0) else _) = 0
  rw [if_pos rfl, h]
  rfl
theorem lev_gate {N : nw} {K i : Nat} (hok : nw_ok N) (h : isG N i = true) : lev N K i = lst (cutt N K (lev N K) i) := by
  show (if i = i then (if isG N i then _ else 0) else _) = _
  rw [if_pos rfl, h, if_pos rfl]
  congr 1
  funext m
  exact propext (cutt_cong hok fun j hj => levT_lt N K i j hj)
theorem sM_cnt {N : nw} (hok : nw_ok N) (g : Nat) : cnt (sM N g) 40 ≤ 3 := by
  rw [cnt_sm]
  have h : ∀ v, (if (sM N g).testBit v then 1 else 0) ≤ (if v = nR N g 0 then 1 else 0) + ((if v = nR N g 1 then 1 else 0) + (if v = nR N g 2 then 1 else 0)) := by
    intro v
    split
    · rename_i q
      obtain ⟨-, k, hk, e⟩ := src_of q
      have := ar_pos (nK N g)
      have hk3 : k = 0 ∨ k = 1 ∨ k = 2 := by omega
      rcases hk3 with rfl | rfl | rfl <;> (rw [if_pos e.symm]; omega)
    · omega
  have one : ∀ a, fb_sm (fun v => if v = a then 1 else 0) 40 ≤ 1 := by
    intro a
    by_cases ha : a < 40
    · rw [sm_one (f := fun v => if v = a then 1 else 0) ha (if_pos rfl) (fun k hk => if_neg hk)]
      exact Nat.le_refl _
    · rw [fb_sm_cong (g := fun _ => 0) (fun k hk => if_neg (by omega)), sm_0]
      omega
  refine Nat.le_trans (sm_le fun v _ => h v) ?_
  rw [fb_sm_add, fb_sm_add]
  have := one (nR N g 0); have := one (nR N g 1); have := one (nR N g 2)
  omega
theorem Sep_src {N : nw} (hok : nw_ok N) {g : Nat} (hg : isG N g = true) : Sep N g (sM N g) := by
  refine ⟨fun j hj => nB_src hok hj, fun i hi => ?_⟩
  have := rch_min (N := N) (g := g) (S := sM N g) (fun i => i = g) rfl (fun i j hi hs hc => by subst hi; rw [hs] at hc; cases hc) i hi
  rw [this]; exact hg
theorem cutt_src {N : nw} {K : Nat} {l : Nat → Nat} {g m : Nat} (hok : nw_ok N) (hK : 3 ≤ K) (hg : isG N g = true) (h : ∀ j, (sM N g).testBit j = true → l j < m) : cutt N K l g m :=
  ⟨sM N g, Sep_src hok hg, Nat.le_trans (sM_cnt hok g) hK, h⟩
theorem lev_spec {N : nw} {K g : Nat} (hok : nw_ok N) (hK : 3 ≤ K) (hg : isG N g = true) : cutt N K (lev N K) g (lev N K g) ∧ ∀ m, m < lev N K g → ¬ cutt N K (lev N K) g m := by
  have hex : cutt N K (lev N K) g (fb_sm (lev N K) g + 1) := cutt_src hok hK hg fun j hj => by
    have := fb_sm_part (lev N K) (sM_lt hok hj)
    omega
  rw [lev_gate hok hg]
  exact ⟨(lst_ex hex).1, (lst_ex hex).2.1⟩
theorem lev_eq {N : nw} {K g m : Nat} (hok : nw_ok N) (hg : isG N g = true) (h1 : cutt N K (lev N K) g m) (h2 : ∀ j, j < m → ¬ cutt N K (lev N K) g j) : lev N K g = m := by rw [lev_gate hok hg]; exact lst_eq h1 h2
theorem lev_le {N : nw} {K g m : Nat} (hok : nw_ok N) (hK : 3 ≤ K) (hg : isG N g = true) (h : cutt N K (lev N K) g m) : lev N K g ≤ m := Nat.le_of_not_lt fun q => (lev_spec hok hK hg).2 m q h
theorem Sep_ne {N : nw} (hok : nw_ok N) {g U : Nat} (hg : isG N g = true) (h : Sep N g U) : ∃ j, U.testBit j = true := by
  apply Classical.byContradiction
  intro hno
  have h0 : ∀ j, U.testBit j = false := fun j => by
    cases hb : U.testBit j with
    | false => rfl
    | true => exact absurd ⟨j, hb⟩ hno
  -- down from gate to gate
  have dn : ∀ m i, i ≤ m → (rch N g U).testBit i = true → False := by
    intro m
    induction m with
    | zero =>
      intro i hi hr
      have hgi := h.2 i hr
      have har := ar_pos (nK N i)
      have hs : (sM N i).testBit (nR N i 0) = true := by rw [sM_bit, hgi]; simp; exact ⟨0, by omega, rfl⟩
      have := sM_lt hok hs
      omega
    | succ m ih =>
      intro i hi hr
      have hgi := h.2 i hr
      have har := ar_pos (nK N i)
      have hs : (sM N i).testBit (nR N i 0) = true := by rw [sM_bit, hgi]; simp; exact ⟨0, by omega, rfl⟩
      have := sM_lt hok hs
      exact ih _ (by omega) (rch_closed hok hr hs (h0 _))
  exact dn g g (Nat.le_refl _) (rch_self N g U)
theorem lev_pos {N : nw} {K g : Nat} (hok : nw_ok N) (hK : 3 ≤ K) (hg : isG N g = true) : 1 ≤ lev N K g := by
  obtain ⟨U, h1, -, h3⟩ := (lev_spec hok hK hg).1
  obtain ⟨j, hj⟩ := Sep_ne hok hg h1
  have := h3 j hj
  omega
/-- a cut of a gate cuts off those that are above it as well -/
theorem Sep_down {N : nw} (hok : nw_ok N) {g s U : Nat} (h : Sep N g U) (hr : (rch N g U).testBit s = true) : Sep N s (U &&& nB N s) := by
  refine ⟨fun j hj => ?_, fun i hi => ?_⟩
  · rw [Nat.testBit_and, Bool.and_eq_true] at hj; exact hj.2
  · apply h.2
    have := rch_min (N := N) (g := s) (S := U &&& nB N s) (fun i => (rch N g U).testBit i = true ∧ (i = s ∨ (nB N s).testBit i = true)) ⟨hr, Or.inl rfl⟩ (fun i j hi hs hc => by
      have hb : (nB N s).testBit j = true := by
        rcases hi.2 with e | e
        · subst e; exact nB_src hok hs
        · exact nB_trans hok _ _ _ e hs
      refine ⟨rch_closed hok hi.1 hs ?_, Or.inr hb⟩
      rw [Nat.testBit_and, hb, Bool.and_true] at hc
      exact hc) i hi
    exact this.1
theorem lev_src {N : nw} {K g s : Nat} (hok : nw_ok N) (hK : 3 ≤ K) (hs : (sM N g).testBit s = true) : lev N K s ≤ lev N K g := by
  have hg := (src_of hs).1
  cases hgs : isG N s with
  | false => rw [lev_leaf hgs]; exact Nat.zero_le _
  | true =>
    obtain ⟨U, h1, h2, h3⟩ := (lev_spec hok hK hg).1
    cases hu : U.testBit s with
    | true => have := h3 s hu; omega
    | false =>
      refine lev_le hok hK hgs ⟨U &&& nB N s, Sep_down hok h1 (rch_closed hok (rch_self N g U) hs hu), Nat.le_trans (cnt_sub fun i _ hi => ?_) h2, fun j hj => h3 j ?_⟩
      · rw [Nat.testBit_and, Bool.and_eq_true] at hi; exact hi.1
      · rw [Nat.testBit_and, Bool.and_eq_true] at hj; exact hj.1
theorem lev_below {N : nw} {K g j m : Nat} (hok : nw_ok N) (hK : 3 ≤ K) (hm : ∀ s, (sM N g).testBit s = true → lev N K s ≤ m) (hj : (nB N g).testBit j = true) : lev N K j ≤ m :=
  nB_min hok (fun j => lev N K j ≤ m) g hm (fun j k h1 h2 => Nat.le_trans (lev_src hok hK h2) h1) j hj
theorem lev_bound {N : nw} {K : Nat} (hok : nw_ok N) (hK : 3 ≤ K) : ∀ i, lev N K i ≤ i := by
  intro i
  induction i using Nat.strongRecOn with
  | ind i ih =>
    cases hg : isG N i with
    | false => rw [lev_leaf hg]; omega
    | true => exact lev_le hok hK hg (cutt_src hok hK hg fun j hj => by have := sM_lt hok hj; have := ih j this; omega)
/-- the gate, and what is below it at this level or above -/
def Cm (N : nw) (l : Nat → Nat) (g m : Nat) : Nat := 2 ^ g ||| mk (fun j => (nB N g).testBit j && decide (m ≤ l j)) 40
theorem Cm_bit {N : nw} (hok : nw_ok N) (l : Nat → Nat) (g m j : Nat) : (Cm N l g m).testBit j = true ↔ j = g ∨ ((nB N g).testBit j = true ∧ m ≤ l j) := by
  rw [Cm, Nat.testBit_or, Nat.testBit_two_pow, mk_bit, Bool.or_eq_true, decide_eq_true_eq, Bool.and_eq_true, Bool.and_eq_true, decide_eq_true_eq, decide_eq_true_eq]
  constructor
  · rintro (h | ⟨-, h⟩)
    · exact Or.inl h.symm
    · exact Or.inr h
  · rintro (h | h)
    · exact Or.inl h.symm
    · exact Or.inr ⟨bit_lt (nB_lt40 hok g) h.1, h⟩
theorem Cm_lt {N : nw} {l : Nat → Nat} {g m : Nat} (hg : g < 40) : Cm N l g m < 2 ^ 40 := or_lt (pw_lt hg) (mk_lt _ _)
/-- something below a gate is a source of it or of something below it -/
theorem nB_par {N : nw} (hok : nw_ok N) {g j : Nat} (h : (nB N g).testBit j = true) : ∃ p, (p = g ∨ (nB N g).testBit p = true) ∧ (sM N p).testBit j = true := by
  have := nB_min hok (fun j => (nB N g).testBit j = true ∧ ∃ p, (p = g ∨ (nB N g).testBit p = true) ∧ (sM N p).testBit j = true) g (fun j hj => ⟨nB_src hok hj, g, Or.inl rfl, hj⟩) (fun j k h1 h2 => ⟨nB_trans hok _ _ _ h1.1 h2, j, Or.inr h1.1, h2⟩) j h
  exact this.2
theorem Cm_ok {N : nw} {K g m : Nat} (hok : nw_ok N) (hK : 3 ≤ K) (hg : isG N g = true) (hm : 1 ≤ m) : C_ok N g (Cm N (lev N K) g m) := by
  refine ⟨(Cm_bit hok _ _ _ _).mpr (Or.inl rfl), fun c hc => ?_, fun u v hu hs hv => ?_⟩
  · rcases (Cm_bit hok _ _ _ _).mp hc with e | ⟨h1, h2⟩
    · subst e; exact ⟨hg, Or.inl rfl⟩
    · refine ⟨?_, Or.inr ⟨h1, ?_⟩⟩
      · cases hgc : isG N c with
        | true => rfl
        | false => rw [lev_leaf hgc] at h2; omega
      · obtain ⟨p, hp, hs⟩ := nB_par hok h1
        refine ⟨p, (Cm_bit hok _ _ _ _).mpr ?_, hs⟩
        rcases hp with e | e
        · exact Or.inl e
        · exact Or.inr ⟨e, Nat.le_trans h2 (lev_src hok hK hs)⟩
  · refine (Cm_bit hok _ _ _ _).mpr (Or.inr ⟨hu, ?_⟩)
    rcases (Cm_bit hok _ _ _ _).mp hv with e | ⟨-, h2⟩
    · subst e
      have := nB_lt hok _ _ hu
      have := sM_lt hok hs
      omega
    · exact Nat.le_trans h2 (lev_src hok hK hs)
theorem Cm_dis {N : nw} {l : Nat → Nat} {g m U : Nat} (hok : nw_ok N) (hU : Sep N g U) : (∀ j, U.testBit j = true → (Cm N l g m).testBit j = false) ↔ ∀ j, U.testBit j = true → l j < m := by
  constructor
  · intro h j hj
    refine Nat.lt_of_not_le fun q => ?_
    have := (Cm_bit hok l g m j).mpr (Or.inr ⟨hU.1 j hj, q⟩)
    rw [h j hj] at this
    cases this
  · intro h j hj
    cases hc : (Cm N l g m).testBit j with
    | false => rfl
    | true =>
      rcases (Cm_bit hok l g m j).mp hc with e | ⟨-, q⟩
      · have := nB_lt hok _ _ (hU.1 j hj); omega
      · have := h j hj; omega
theorem near_cutt {N : nw} {K : Nat} {l : Nat → Nat} {g m U : Nat} (hok : nw_ok N) (h : nearC N g (Cm N l g m) U) : cutt N K l g m ↔ cnt U 40 ≤ K := by
  constructor
  · rintro ⟨T, h1, h2, h3⟩
    exact Nat.le_trans (h.2.2 T h1 ((Cm_dis hok h1).mpr h3)).1 h2
  · intro hc
    exact ⟨U, h.1, hc, (Cm_dis hok h.1).mp h.2.1⟩
/-- the nearest of the fewest, for a gate -/
noncomputable def nea (N : nw) (K g : Nat) : Nat := @ite _ (isG N g = true) (Classical.propDecidable _) (lst (fun U => nearC N g (Cm N (lev N K) g (lev N K g)) U)) 0
theorem nea_eq {N : nw} {K g U : Nat} (hok : nw_ok N) (hg : isG N g = true) (h : nearC N g (Cm N (lev N K) g (lev N K g)) U) : nea N K g = U := by
  unfold nea
  rw [if_pos hg]
  exact lst_eq h fun j hj q => by
    have := nearC_one hok hg h q
    omega
theorem nea_leaf {N : nw} {K g : Nat} (hg : isG N g = false) : nea N K g = 0 := by
  unfold nea
  rw [if_neg]
  rw [hg]; exact fun e => by cases e
theorem cutt_mono {N : nw} {K : Nat} {l : Nat → Nat} {g m m' : Nat} (h : cutt N K l g m) (hm : m ≤ m') : cutt N K l g m' := by
  obtain ⟨U, h1, h2, h3⟩ := h
  exact ⟨U, h1, h2, fun j hj => Nat.lt_of_lt_of_le (h3 j hj) hm⟩
