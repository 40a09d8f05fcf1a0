/-! SOUNDNESS: a step of the abstract machine is steps of the machine -/
theorem jm_int_eq (n : Int) : Int32.ofInt n = jm_int n := by
  cases n with
  | ofNat k => rfl
  | negSucc k =>
    show Int32.ofInt (Int.negSucc k) = -(Int32.ofNat (k + 1))
    rw [Int.negSucc_eq, Int32.ofInt_neg]
    rfl
theorem jm_int8 {n : Int} (h : jm_small n 128 = true) : (Int8.ofInt n).toInt32 = jm_int n := by
  rw [← jm_int_eq]
  have h1 : -128 ≤ n ∧ n ≤ 127 := by
    cases n with
    | ofNat k => simp [jm_small] at h; simp; omega
    | negSucc k => simp [jm_small] at h; omega
  apply Int32.toInt_inj.mp
  rw [Int8.toInt_toInt32, Int8.toInt_ofInt_of_le (by simpa using h1.1) (by simp; omega), Int32.toInt_ofInt_of_le (by simp; omega) (by simp; omega)]
theorem jm_int16 {n : Int} (h : jm_small n 32768 = true) : (Int16.ofInt n).toInt32 = jm_int n := by
  rw [← jm_int_eq]
  have h1 : -32768 ≤ n ∧ n ≤ 32767 := by
    cases n with
    | ofNat k => simp [jm_small] at h; simp; omega
    | negSucc k => simp [jm_small] at h; omega
  apply Int32.toInt_inj.mp
  rw [Int16.toInt_toInt32, Int16.toInt_ofInt_of_le (by simpa using h1.1) (by simp; omega), Int32.toInt_ofInt_of_le (by simp; omega) (by simp; omega)]
theorem jm_tgt_ok {pc : Nat} {o : Int} (h : 0 ≤ (pc : Int) + o) : (pc : Int) + o = (jm_tgt pc o : Int) := by
  unfold jm_tgt
  cases hq : (pc : Int) + o with
  | ofNat k => rfl
  | negSucc k => rw [hq] at h; exact absurd h (by omega)
/-- lengths of instructions, and targets that aren't negative -/
def jm_lenQ (z : Nat × Instr × Nat) : Bool := match z.2.1 with
  | .aload_n _ | .iload_n _ | .lload_n _ | .astore_n _ | .istore_n _ | .lstore_n _ | .iconst _ | .lconst _ | .iadd | .isub | .imul | .iand | .ior | .ixor | .ishl | .ishr | .idiv | .irem | .ladd | .lsub | .land | .lor | .lxor | .lcmp | .lneg | .lshl | .lshr | .lushr | .i2l | .l2i | .dup | .dup2 | .dup_x1 | .iaload | .baload | .laload | .aaload | .iastore | .bastore | .lastore | .arraylength | .ireturn | .lreturn | .areturn | .return_ => Nat.beq z.2.2 1
  | .aload _ | .iload _ | .lload _ | .astore _ | .istore _ | .lstore _ | .bipush _ => Nat.beq z.2.2 2
  | .sipush _ | .ldc2_w _ | .iinc _ _ | .getfield _ | .putfield _ | .getstatic _ | .invokevirtual _ | .invokestatic _ => Nat.beq z.2.2 3
  | .goto o | .ifCond _ o | .if_icmp _ o => Nat.beq z.2.2 3 && decide (0 ≤ (z.1 : Int) + o)
  | .tableswitch d lo hi os => decide (0 ≤ (z.1 : Int) + d) && decide (hi - lo + 1 = (os.size : Int)) && os.toList.all (fun o => decide (0 ≤ (z.1 : Int) + o))
  | _ => true
theorem jm_look_in : ∀ {cd : List (Nat × Instr × Nat)} {pc : Nat} {q : Instr × Nat}, jm_look cd pc = some q → (pc, q) ∈ cd
  | [], _, _, h => by simp [jm_look] at h
  | z :: r, pc, q, h => by
    unfold jm_look at h
    split at h
    · rename_i h1
      obtain ⟨a, b⟩ := z
      cases h
      have e1 : a = pc := Nat.eq_of_beq_eq_true h1
      subst e1
      exact List.mem_cons_self
    · exact List.mem_cons_of_mem _ (jm_look_in h)
/-! locals -/
theorem jm_set_len : ∀ (lv : jm_L) (i : Nat) (x : Option jm_V), (jm_set lv i x).length = lv.length
  | [], _, _ => rfl
  | _ :: _, 0, _ => rfl
  | _ :: r, i + 1, x => by simp [jm_set, jm_set_len r i x]
theorem jm_kill_len : ∀ (lv : jm_L) (i : Nat), (jm_kill lv i).length = lv.length
  | [], _ => rfl
  | _ :: _, 0 => rfl
  | _ :: _, 1 => rfl
  | _ :: r, i + 2 => by simp [jm_kill, jm_kill_len r (i + 1)]
theorem jm_at_set : ∀ (lv : jm_L) (i : Nat) (x : Option jm_V) (j : Nat) {u : jm_V}, jm_at (jm_set lv i x) j = some u → (j = i ∧ x = some u) ∨ (j ≠ i ∧ jm_at lv j = some u)
  | [], _, _, _, _, h => by simp [jm_set, jm_at] at h
  | _ :: _, 0, _, 0, _, h => Or.inl ⟨rfl, h⟩
  | _ :: _, 0, _, j + 1, _, h => Or.inr ⟨by omega, h⟩
  | _ :: _, i + 1, _, 0, _, h => Or.inr ⟨by omega, h⟩
  | _ :: r, i + 1, x, j + 1, u, h => by
    rcases jm_at_set r i x j (u := u) h with ⟨e, h1⟩ | ⟨e, h1⟩
    · exact Or.inl ⟨by omega, h1⟩
    · exact Or.inr ⟨by omega, h1⟩
theorem jm_at_kill : ∀ (lv : jm_L) (i j : Nat) {u : jm_V}, jm_at (jm_kill lv i) j = some u → jm_at lv j = some u ∧ ¬ (j + 1 = i ∧ ∃ x, u = jJ x)
  | [], _, _, _, h => by simp [jm_kill, jm_at] at h
  | _ :: _, 0, j, _, h => ⟨h, by omega⟩
  | v :: _, 1, 0, u, h => by
    rcases v with _ | (x | x | q)
    · exact absurd h (by simp [jm_kill, jm_at])
    · have h' : some (jI x) = some u := h
      cases h'
      exact ⟨rfl, fun q => by obtain ⟨-, y, e⟩ := q; cases e⟩
    · exact absurd h (by simp [jm_kill, jm_at])
    · have h' : some (Sum.inr (Sum.inr q) : jm_V) = some u := h
      cases h'
      exact ⟨rfl, fun q => by obtain ⟨-, y, e⟩ := q; cases e⟩
  | _ :: _, 1, j + 1, _, h => ⟨h, by omega⟩
  | _ :: _, i + 2, 0, _, h => ⟨h, by omega⟩
  | _ :: r, i + 2, j + 1, u, h => by
    obtain ⟨h1, h2⟩ := jm_at_kill r (i + 1) j (u := u) h
    exact ⟨h1, fun q => h2 ⟨by omega, q.2⟩⟩
theorem jm_at_put1 {lv : jm_L} {i j : Nat} {v u : jm_V} (h : jm_at (jm_put1 lv i v) j = some u) : (j = i ∧ u = v) ∨ (j ≠ i ∧ jm_at lv j = some u ∧ ¬ (j + 1 = i ∧ ∃ x, u = jJ x)) := by
  rcases jm_at_set _ _ _ _ h with ⟨e, h1⟩ | ⟨e, h1⟩
  · exact Or.inl ⟨e, (Option.some.inj h1).symm⟩
  · exact Or.inr ⟨e, jm_at_kill _ _ _ h1⟩
theorem jm_at_put2 {lv : jm_L} {i j : Nat} {v u : jm_V} (h : jm_at (jm_put2 lv i v) j = some u) : (j = i ∧ u = v) ∨ (j ≠ i ∧ j ≠ i + 1 ∧ jm_at lv j = some u ∧ ¬ (j + 1 = i ∧ ∃ x, u = jJ x)) := by
  rcases jm_at_set _ _ _ _ h with ⟨e, h1⟩ | ⟨e, h1⟩
  · cases h1
  · rcases jm_at_put1 (v := v) h1 with h2 | ⟨e2, h2, h3⟩
    · exact Or.inl h2
    · exact Or.inr ⟨e2, e, h2, h3⟩
theorem jm_put1_len (lv : jm_L) (i : Nat) (v : jm_V) : (jm_put1 lv i v).length = lv.length := by simp [jm_put1, jm_set_len, jm_kill_len]
theorem jm_put2_len (lv : jm_L) (i : Nat) (v : jm_V) : (jm_put2 lv i v).length = lv.length := by simp [jm_put2, jm_set_len, jm_kill_len]
def sd_ll (ad : Nat → Nat → Nat) : jm_L → Nat → List (Nat × Value)
  | [], _ => []
  | none :: r, k => sd_ll ad r (k + 1)
  | some v :: r, k => (k, sd_c ad v) :: sd_ll ad r (k + 1)
theorem sd_ll_in {ad : Nat → Nat → Nat} : ∀ (lv : jm_L) (k : Nat) (j : Nat) (x : Value), (j, x) ∈ sd_ll ad lv k ↔ ∃ n v, j = k + n ∧ jm_at lv n = some v ∧ x = sd_c ad v
  | [], k, j, x => by simp [sd_ll, jm_at]
  | none :: r, k, j, x => by
    rw [sd_ll, sd_ll_in r (k + 1) j x]
    constructor
    · rintro ⟨n, v, e, h, h2⟩
      exact ⟨n + 1, v, by omega, h, h2⟩
    · rintro ⟨n, v, e, h, h2⟩
      cases n with
      | zero => exact absurd h (by simp [jm_at])
      | succ n => exact ⟨n, v, by omega, h, h2⟩
  | some w :: r, k, j, x => by
    rw [sd_ll, List.mem_cons, sd_ll_in r (k + 1) j x]
    constructor
    · rintro (e | ⟨n, v, e, h, h2⟩)
      · cases e
        exact ⟨0, w, rfl, rfl, rfl⟩
      · exact ⟨n + 1, v, by omega, h, h2⟩
    · rintro ⟨n, v, e, h, h2⟩
      cases n with
      | zero =>
        have h' : some w = some v := h
        cases h'
        exact Or.inl (by rw [h2, e]; rfl)
      | succ n => exact Or.inr ⟨n, v, by omega, h, h2⟩
theorem sd_at {ad : Nat → Nat → Nat} {ls : Array Slot} {nL : Nat} {lv : jm_L} (h : lv_has ls nL (sd_ll ad lv 0)) {i : Nat} {v : jm_V} (hv : jm_at lv i = some v) : ls[i]? = some (.val (sd_c ad v)) :=
  h.2.2 (i, sd_c ad v) ((sd_ll_in lv 0 i _).mpr ⟨i, v, by omega, hv, rfl⟩)
theorem sd_catg (ad : Nat → Nat → Nat) (v : jm_V) : ((sd_c ad v).category = 2 ↔ ∃ x, v = jJ x) := by
  rcases v with x | x | q
  · simp [sd_c, Value.category]
  · simp [sd_c, Value.category]
  · simp [sd_c, Value.category]
theorem sd_put1 {ad : Nat → Nat → Nat} {ls : Array Slot} {nL i : Nat} {lv : jm_L} {v : jm_V} (h : lv_has ls nL ((i, sd_c ad v) :: (sd_ll ad lv 0).filter (fun q => !(q.1 == i) && !(q.1 + 1 == i && q.2.category == 2)))) : lv_has ls nL (sd_ll ad (jm_put1 lv i v) 0) := by
  refine ⟨h.1, h.2.1, fun q hq => h.2.2 q ?_⟩
  obtain ⟨j, x⟩ := q
  obtain ⟨n, u, e, h1, h2⟩ := (sd_ll_in _ _ _ _).mp hq
  have e : j = n := by omega
  subst e; subst h2
  rcases jm_at_put1 h1 with ⟨rfl, rfl⟩ | ⟨e1, h3, h4⟩
  · exact List.mem_cons_self
  · refine List.mem_cons_of_mem _ (List.mem_filter.mpr ⟨(sd_ll_in _ _ _ _).mpr ⟨j, u, by omega, h3, rfl⟩, ?_⟩)
    have h5 : ¬ (j + 1 = i ∧ (sd_c ad u).category = 2) := fun q => h4 ⟨q.1, (sd_catg ad u).mp q.2⟩
    simp only [Bool.and_eq_true, Bool.not_eq_true', beq_eq_false_iff_ne, ne_eq, Bool.and_eq_false_iff]
    refine ⟨e1, ?_⟩
    rcases Nat.decEq (j + 1) i with q | q
    · exact Or.inl q
    · exact Or.inr fun z => h5 ⟨q, z⟩
theorem sd_put2 {ad : Nat → Nat → Nat} {ls : Array Slot} {nL i : Nat} {lv : jm_L} {v : jm_V} (h : lv_has ls nL ((i, sd_c ad v) :: (sd_ll ad lv 0).filter (fun q => !(q.1 == i) && (!(q.1 == i + 1) && !(q.1 + 1 == i && q.2.category == 2))))) : lv_has ls nL (sd_ll ad (jm_put2 lv i v) 0) := by
  refine ⟨h.1, h.2.1, fun q hq => h.2.2 q ?_⟩
  obtain ⟨j, x⟩ := q
  obtain ⟨n, u, e, h1, h2⟩ := (sd_ll_in _ _ _ _).mp hq
  have e : j = n := by omega
  subst e; subst h2
  rcases jm_at_put2 h1 with ⟨rfl, rfl⟩ | ⟨e1, e2, h3, h4⟩
  · exact List.mem_cons_self
  · refine List.mem_cons_of_mem _ (List.mem_filter.mpr ⟨(sd_ll_in _ _ _ _).mpr ⟨j, u, by omega, h3, rfl⟩, ?_⟩)
    have h5 : ¬ (j + 1 = i ∧ (sd_c ad u).category = 2) := fun q => h4 ⟨q.1, (sd_catg ad u).mp q.2⟩
    simp only [Bool.and_eq_true, Bool.not_eq_true', beq_eq_false_iff_ne, ne_eq, Bool.and_eq_false_iff]
    refine ⟨e1, e2, ?_⟩
    rcases Nat.decEq (j + 1) i with q | q
    · exact Or.inl q
    · exact Or.inr fun z => h5 ⟨q, z⟩
theorem jm_le_at : ∀ {a b : jm_L}, jm_le a b → ∀ {i : Nat} {v : jm_V}, jm_at a i = some v → jm_at b i = some v
  | [], [], _, _, _, h => h
  | none :: a, _ :: b, hh, 0, _, h => by simp [jm_at] at h
  | none :: a, _ :: b, hh, i + 1, v, h => jm_le_at (a := a) (b := b) hh (i := i) h
  | some x :: a, y :: b, hh, 0, v, h => by
    have h' : some x = some v := h
    cases h'
    exact hh.1
  | some x :: a, y :: b, hh, i + 1, v, h => jm_le_at (a := a) (b := b) hh.2 (i := i) h
  | [], _ :: _, hh, _, _, _ => hh.elim
  | none :: _, [], hh, _, _, _ => hh.elim
  | some _ :: _, [], hh, _, _, _ => hh.elim
theorem jm_le_len : ∀ {a b : jm_L}, jm_le a b → a.length = b.length
  | [], [], _ => rfl
  | none :: a, _ :: b, hh => by simp [jm_le_len (a := a) (b := b) hh]
  | some x :: a, y :: b, hh => by simp [jm_le_len (a := a) (b := b) hh.2]
  | [], _ :: _, hh => hh.elim
  | none :: _, [], hh => hh.elim
  | some _ :: _, [], hh => hh.elim
theorem sd_ll_le {ad : Nat → Nat → Nat} {ls : Array Slot} {nL : Nat} {a b : jm_L} (hle : jm_le a b) (h : lv_has ls nL (sd_ll ad b 0)) : lv_has ls nL (sd_ll ad a 0) := by
  refine ⟨h.1, h.2.1, fun q hq => h.2.2 q ?_⟩
  obtain ⟨j, x⟩ := q
  obtain ⟨n, u, e, h1, h2⟩ := (sd_ll_in _ _ _ _).mp hq
  exact (sd_ll_in _ _ _ _).mpr ⟨n, u, e, jm_le_at hle h1, h2⟩
