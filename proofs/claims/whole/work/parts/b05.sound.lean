/-! SOUNDNESS, the second half: the closure of the semantic picture under steps -/
def sd_rm (d : Nat) : Room := { frames := d, cells := 0, slots := 0, locals := 100 * d }
def sd_Pc (L : Nat) (D : va_G) (Y : sd_Y) (ad : Nat → Nat → Nat) (ρ : jm_G) (as : List jm_V) (σ : jm_G) : Array Value → State → Prop := fun v U => v = (as.map (sd_c ad)).toArray ∧ sd_st L D Y ad ρ U U.heap ∧ va_P D vwCl (sd_ws ad Y σ) U.heap
def sd_Qc (D : va_G) (Y : sd_Y) (ad : Nat → Nat → Nat) (ρ : jm_G) (post : Option jm_V → jm_G → Prop) : Array Value → State → Outcome → State → Prop := fun _ st oc t =>
  (∃ (r : Option jm_V) (σ' : jm_G), oc = .returned (r.map (sd_c ad)) ∧ post r σ' ∧ sd_ro σ' ρ ∧ (∀ v, r = some v → sd_ok v) ∧ va_P D vwCl (sd_ws ad Y σ') t.heap) ∧ va_F (sd_A ad) st t
def sd_Met (l : Launch) (L : Nat) (D : va_G) (Y : sd_Y) (ad : Nat → Nat → Nat) (ρ : jm_G) (d k : Nat) (as : List jm_V) (σ : jm_G) (post : Option jm_V → jm_G → Prop) : Prop :=
  ∀ q, sd_mt[k]? = some q → sd_ro σ ρ → (∀ v ∈ as, sd_ok v) → Met l q.1 (Cond.code q.1 q.2.1 q.2.2.1 q.2.2.2 :: sd_W) (sd_rm d) (sd_Pc L D Y ad ρ as σ) (sd_Qc D Y ad ρ post) 0 0 (sd_A ad)
def sd_X (p : Program) (l : Launch) (e : Env) (R : Room) (s : State) (m : MethodId) (args : Array Value) (below : List Frame) (meth : Method) (c : Code) (cells slots : Nat) (Q : State → Prop) (nL : Nat) (D : va_G) (Y : sd_Y) (ad : Nat → Nat → Nat) (ρ : jm_G) : jm_S → Prop := fun z =>
  sd_ro z.1 ρ → (∀ i v, jm_at z.2.2.1 i = some v → sd_ok v) → (∀ v ∈ z.2.2.2, sd_ok v) → z.2.2.1.length = nL → ∀ (H : Heap) (locs : List Loc) (ls : Array Slot), va_P D vwCl (sd_ws ad Y z.1) H → va_S (sd_A ad) s.heap H locs → lv_has ls nL (sd_ll ad z.2.2.1 0) →
    W p l e R s m args below meth c H locs cells slots Q (F0 m z.2.1 ls (z.2.2.2.map (sd_c ad)))
def sd_cx (p : Program) (s : State) (m : MethodId) (args : Array Value) (c : Code) (L own nL : Nat) (cc : ByteArray) (D : va_G) (Y : sd_Y) (ad : Nat → Nat → Nat) (ρ : jm_G) : Prop :=
  p.tables.exec = Jvm.exec ∧ c.code = cc ∧ c.maxLocals = nL ∧ s.vm.findClass (sd_own own) = some m.cls ∧ (∀ w ∈ sd_W, w.before args s = true) ∧ sd_st L D Y ad ρ s s.heap
/-! inversions -/
section INV
variable {X : jm_S → Prop} {Rt : Option jm_V → jm_G → Prop} {C : jm_C} {σ : jm_G} {pc i : Nat} {lv : jm_L} {st : List jm_V}
theorem jm_no_f (h : jm_sem X Rt C jm_no) : False := h.1
theorem jm_lod0 (h : jm_sem X Rt C (jm_lod σ pc lv i st 0)) : ∃ x, jm_at lv i = some (jI x) ∧ X (σ, pc, lv, jI x :: st) := by
  unfold jm_lod at h
  cases hv : jm_at lv i with
  | none => rw [hv] at h; exact (jm_no_f h).elim
  | some v =>
    rw [hv] at h
    rcases v with x | x | q
    · exact ⟨x, rfl, h⟩
    · exact (jm_no_f h).elim
    · exact (jm_no_f h).elim
theorem jm_lod1 (h : jm_sem X Rt C (jm_lod σ pc lv i st 1)) : ∃ x, jm_at lv i = some (jJ x) ∧ X (σ, pc, lv, jJ x :: st) := by
  unfold jm_lod at h
  cases hv : jm_at lv i with
  | none => rw [hv] at h; exact (jm_no_f h).elim
  | some v =>
    rw [hv] at h
    rcases v with x | x | q
    · exact (jm_no_f h).elim
    · exact ⟨x, rfl, h⟩
    · exact (jm_no_f h).elim
theorem jm_lod2 (h : jm_sem X Rt C (jm_lod σ pc lv i st 2)) : ∃ q : Nat × Nat, jm_at lv i = some (.inr (.inr q)) ∧ X (σ, pc, lv, .inr (.inr q) :: st) := by
  unfold jm_lod at h
  cases hv : jm_at lv i with
  | none => rw [hv] at h; exact (jm_no_f h).elim
  | some v =>
    rw [hv] at h
    rcases v with x | x | q
    · exact (jm_no_f h).elim
    · exact (jm_no_f h).elim
    · exact ⟨q, rfl, h⟩
theorem jm_sto0 (h : jm_sem X Rt C (jm_sto σ pc lv i st 0)) : ∃ x r, st = jI x :: r ∧ i < lv.length ∧ X (σ, pc, jm_put1 lv i (jI x), r) := by
  rcases st with _ | ⟨v, r⟩
  · exact (jm_no_f h).elim
  · rcases v with x | x | q
    · cases hb : Nat.blt i lv.length with
      | true =>
        have h : jm_sem X Rt C (match Nat.beq 0 0, Nat.blt i lv.length with | true, true => jm_nx (σ, pc, jm_put1 lv i (jI x), r) | _, _ => jm_no) := h
        rw [hb] at h
        exact ⟨x, r, rfl, by simpa [Nat.blt_eq] using hb, h⟩
      | false =>
        have h : jm_sem X Rt C (match Nat.beq 0 0, Nat.blt i lv.length with | true, true => jm_nx (σ, pc, jm_put1 lv i (jI x), r) | _, _ => jm_no) := h
        rw [hb] at h
        exact (jm_no_f h).elim
    · have h : jm_sem X Rt C (match Nat.beq 0 1, Nat.blt (i + 1) lv.length with | true, true => jm_nx (σ, pc, jm_put2 lv i (jJ x), r) | _, _ => jm_no) := h
      cases hb : Nat.blt (i + 1) lv.length <;> rw [hb] at h <;> exact (jm_no_f h).elim
    · have h : jm_sem X Rt C (match Nat.beq 0 2, Nat.blt i lv.length with | true, true => jm_nx (σ, pc, jm_put1 lv i (jR q.1 q.2), r) | _, _ => jm_no) := h
      cases hb : Nat.blt i lv.length <;> rw [hb] at h <;> exact (jm_no_f h).elim
theorem jm_sto1 (h : jm_sem X Rt C (jm_sto σ pc lv i st 1)) : ∃ x r, st = jJ x :: r ∧ i + 1 < lv.length ∧ X (σ, pc, jm_put2 lv i (jJ x), r) := by
  rcases st with _ | ⟨v, r⟩
  · exact (jm_no_f h).elim
  · rcases v with x | x | q
    · have h : jm_sem X Rt C (match Nat.beq 1 0, Nat.blt i lv.length with | true, true => jm_nx (σ, pc, jm_put1 lv i (jI x), r) | _, _ => jm_no) := h
      cases hb : Nat.blt i lv.length <;> rw [hb] at h <;> exact (jm_no_f h).elim
    · have h : jm_sem X Rt C (match Nat.beq 1 1, Nat.blt (i + 1) lv.length with | true, true => jm_nx (σ, pc, jm_put2 lv i (jJ x), r) | _, _ => jm_no) := h
      cases hb : Nat.blt (i + 1) lv.length with
      | true => rw [hb] at h; exact ⟨x, r, rfl, by simpa [Nat.blt_eq] using hb, h⟩
      | false => rw [hb] at h; exact (jm_no_f h).elim
    · have h : jm_sem X Rt C (match Nat.beq 1 2, Nat.blt i lv.length with | true, true => jm_nx (σ, pc, jm_put1 lv i (jR q.1 q.2), r) | _, _ => jm_no) := h
      cases hb : Nat.blt i lv.length <;> rw [hb] at h <;> exact (jm_no_f h).elim
theorem jm_sto2 (h : jm_sem X Rt C (jm_sto σ pc lv i st 2)) : ∃ (q : Nat × Nat) (r : List jm_V), st = .inr (.inr q) :: r ∧ i < lv.length ∧ X (σ, pc, jm_put1 lv i (.inr (.inr q)), r) := by
  rcases st with _ | ⟨v, r⟩
  · exact (jm_no_f h).elim
  · rcases v with x | x | q
    · have h : jm_sem X Rt C (match Nat.beq 2 0, Nat.blt i lv.length with | true, true => jm_nx (σ, pc, jm_put1 lv i (jI x), r) | _, _ => jm_no) := h
      cases hb : Nat.blt i lv.length <;> rw [hb] at h <;> exact (jm_no_f h).elim
    · have h : jm_sem X Rt C (match Nat.beq 2 1, Nat.blt (i + 1) lv.length with | true, true => jm_nx (σ, pc, jm_put2 lv i (jJ x), r) | _, _ => jm_no) := h
      cases hb : Nat.blt (i + 1) lv.length <;> rw [hb] at h <;> exact (jm_no_f h).elim
    · have h : jm_sem X Rt C (match Nat.beq 2 2, Nat.blt i lv.length with | true, true => jm_nx (σ, pc, jm_put1 lv i (jR q.1 q.2), r) | _, _ => jm_no) := h
      cases hb : Nat.blt i lv.length with
      | true => rw [hb] at h; exact ⟨q, r, rfl, by simpa [Nat.blt_eq] using hb, h⟩
      | false => rw [hb] at h; exact (jm_no_f h).elim
theorem jm_i_inv {f : Int32 → List jm_V → jm_R} (h : jm_sem X Rt C (jm_i st f)) : ∃ x r, st = jI x :: r ∧ jm_sem X Rt C (f x r) := by
  rcases st with _ | ⟨x | x | x, r⟩
  · exact (jm_no_f h).elim
  · exact ⟨x, r, rfl, h⟩
  · exact (jm_no_f h).elim
  · exact (jm_no_f h).elim
theorem jm_j_inv {f : Int64 → List jm_V → jm_R} (h : jm_sem X Rt C (jm_j st f)) : ∃ x r, st = jJ x :: r ∧ jm_sem X Rt C (f x r) := by
  rcases st with _ | ⟨x | x | x, r⟩
  · exact (jm_no_f h).elim
  · exact (jm_no_f h).elim
  · exact ⟨x, r, rfl, h⟩
  · exact (jm_no_f h).elim
theorem jm_ii_inv {f : Int32 → Int32 → List jm_V → jm_R} (h : jm_sem X Rt C (jm_ii st f)) : ∃ x y r, st = jI y :: jI x :: r ∧ jm_sem X Rt C (f x y r) := by
  rcases st with _ | ⟨x | x | x, _ | ⟨y | y | y, r⟩⟩
  all_goals first | exact (jm_no_f h).elim | exact ⟨y, x, r, rfl, h⟩
theorem jm_jj_inv {f : Int64 → Int64 → List jm_V → jm_R} (h : jm_sem X Rt C (jm_jj st f)) : ∃ x y r, st = jJ y :: jJ x :: r ∧ jm_sem X Rt C (f x y r) := by
  rcases st with _ | ⟨x | x | x, _ | ⟨y | y | y, r⟩⟩
  all_goals first | exact (jm_no_f h).elim | exact ⟨y, x, r, rfl, h⟩
theorem jm_ij_inv {f : Int64 → Int32 → List jm_V → jm_R} (h : jm_sem X Rt C (jm_ij st f)) : ∃ x y r, st = jI y :: jJ x :: r ∧ jm_sem X Rt C (f x y r) := by
  rcases st with _ | ⟨x | x | x, _ | ⟨y | y | y, r⟩⟩
  all_goals first | exact (jm_no_f h).elim | exact ⟨y, x, r, rfl, h⟩
theorem jm_ald_inv {L w : Nat} {f : Nat → Nat → Int32 → Nat → List jm_V → jm_R} (h : jm_sem X Rt C (jm_ald L st w f)) : ∃ t i x n r, st = jI x :: jR t i :: r ∧ jm_row L t w = some n ∧ jm_sem X Rt C (f t i x n r) := by
  rcases st with _ | ⟨x | x | x, _ | ⟨y | y | ⟨t, i⟩, r⟩⟩
  all_goals first
    | exact (jm_no_f h).elim
    | (have h : jm_sem X Rt C (match jm_row L t w with | some n => f t i x n r | none => jm_no) := h
       cases hn : jm_row L t w with
       | none => rw [hn] at h; exact (jm_no_f h).elim
       | some n => rw [hn] at h; exact ⟨t, i, x, n, r, rfl, hn, h⟩)
theorem jm_fld_inv {L own idx t k : Nat} {f : jm_F} (h : jm_fld L own idx t = some (k, f)) : ∃ ci n fs, (own, idx, (ci, k)) ∈ jm_fl ∧ jm_kind L t = some (n, .inl (ci, fs)) ∧ jm_nth fs k = some f := by
  unfold jm_fld at h
  split at h
  · rename_i ci k' h1
    split at h
    · rename_i n cj fs h2
      split at h
      · rename_i h3
        split at h
        · rename_i f' h4
          cases h
          have e : ci = cj := Nat.eq_of_beq_eq_true h3
          subst e
          exact ⟨ci, n, fs, jm_key_in h1, h2, h4⟩
        · cases h
      · cases h
    · cases h
  · cases h
theorem jm_kind_obj {L t n ci : Nat} {fs : List jm_F} (h : jm_kind L t = some (n, .inl (ci, fs))) : t < 100 ∧ jm_nth jm_sh t = some (n, .inl (ci, fs)) := by
  unfold jm_kind at h
  split at h
  · rename_i h1
    exact ⟨by simpa [Nat.blt_eq] using h1, h⟩
  · split at h <;> cases h
theorem jm_row_inv {L t w n : Nat} (h : jm_row L t w = some n) : (t < 100 ∧ ∃ m, jm_nth jm_sh t = some (m, .inr (n, w))) ∨ (t = 100 ∧ w = 0 ∧ n = 7) ∨ (t = 101 ∧ w = 1 ∧ n = 6) ∨ (t = 102 ∧ w = 0 ∧ n = L) := by
  unfold jm_row at h
  split at h
  · rename_i m n' u h1
    split at h
    · rename_i h2
      cases h
      have e : u = w := Nat.eq_of_beq_eq_true h2
      subst e
      unfold jm_kind at h1
      split at h1
      · rename_i h3
        exact Or.inl ⟨by simpa [Nat.blt_eq] using h3, m, h1⟩
      · split at h1
        · rename_i h3
          cases h1
          exact Or.inr (Or.inl ⟨Nat.eq_of_beq_eq_true h3, rfl, rfl⟩)
        · rename_i h3 _
          cases h1
          exact Or.inr (Or.inr (Or.inl ⟨Nat.eq_of_beq_eq_true h3, rfl, rfl⟩))
        · rename_i h3 _ _
          cases h1
          exact Or.inr (Or.inr (Or.inr ⟨Nat.eq_of_beq_eq_true h3, rfl, rfl⟩))
        · cases h1
    · cases h
  · cases h
theorem jm_take_inv : ∀ {n : Nat} {st a b r : List jm_V}, jm_take n st a = some (b, r) → ∃ c, b = c ++ a ∧ st = c.reverse ++ r ∧ c.length = n
  | 0, st, a, b, r, h => by cases h; exact ⟨[], rfl, rfl, rfl⟩
  | n + 1, [], a, b, r, h => by simp [jm_take] at h
  | n + 1, v :: st, a, b, r, h => by
    obtain ⟨c, h1, h2, h3⟩ := jm_take_inv (n := n) (st := st) (a := v :: a) h
    exact ⟨c ++ [v], by simp [h1], by simp [h2], by simp [h3]⟩
theorem jm_cat_eq (ad : Nat → Nat → Nat) : ∀ st : List jm_V, ((st.map (sd_c ad)).map fun v => v.category).sum = jm_cat st
  | [] => rfl
  | .inl x :: r => by simp [jm_cat, sd_c, Value.category, ← jm_cat_eq ad r]; omega
  | .inr (.inl x) :: r => by simp [jm_cat, sd_c, Value.category, ← jm_cat_eq ad r]; omega
  | .inr (.inr x) :: r => by simp [jm_cat, sd_c, Value.category, ← jm_cat_eq ad r]; omega
theorem jm_inv_inv {L own idx : Nat} {vt : Bool} (h : jm_sem X Rt C (jm_inv L own σ pc lv st idx vt)) : ∃ k n cx as r, (own, idx, (k, n, cx)) ∈ jm_ml ∧ st = as.reverse ++ r ∧ as.length = n ∧ jm_cat r ≤ 8 ∧
    ((vt = false ∧ cx = 0) ∨ (vt = true ∧ ∃ t i as' m cj fs, as = jR t i :: as' ∧ jm_kind L t = some (m, .inl (cj, fs)) ∧ cx = cj + 1)) ∧ C k as σ (fun r' σ' => X (σ', pc + 3, lv, r'.toList ++ r)) := by
  unfold jm_inv at h
  split at h
  · rename_i k n cx h1
    split at h
    · rename_i as r h2
      obtain ⟨c, e1, e2, e3⟩ := jm_take_inv h2
      rw [List.append_nil] at e1
      subst e1
      split at h
      · rename_i h3
        have h3 : jm_cat r ≤ 8 := Nat.le_of_ble_eq_true h3
        split at h
        · split at h
          · rename_i h4
            exact ⟨k, n, cx, as, r, jm_key_in h1, e2, e3, h3, Or.inl ⟨rfl, Nat.eq_of_beq_eq_true h4⟩, h⟩
          · exact (jm_no_f h).elim
        · split at h
          · rename_i t i as'
            split at h
            · rename_i m cj fs h5
              split at h
              · rename_i h4
                exact ⟨k, n, cx, _, r, jm_key_in h1, e2, e3, h3, Or.inr ⟨rfl, t, i, as', m, cj, fs, rfl, h5, Nat.eq_of_beq_eq_true h4⟩, h⟩
              · exact (jm_no_f h).elim
            · exact (jm_no_f h).elim
          · exact (jm_no_f h).elim
      · exact (jm_no_f h).elim
    · exact (jm_no_f h).elim
  · exact (jm_no_f h).elim
theorem jm_tsw_get : ∀ {os : List Int} {r : List jm_V} {x : Int32} {v : Int}, jm_all X (jm_tsw σ pc lv r x v os) → ∀ {j : Nat} {o : Int}, os[j]? = some o → x = jm_int (v + j) → X (σ, jm_tgt pc o, lv, r)
  | [], _, _, _, _, j, o, ho, _ => by simp at ho
  | o' :: os, r, x, v, h, 0, o, ho, hx => by
    simp at ho
    subst ho
    exact h.1 (by rw [hx]; simp)
  | o' :: os, r, x, v, h, j + 1, o, ho, hx => by
    refine jm_tsw_get (os := os) (v := v + 1) h.2 (j := j) (by simpa using ho) ?_
    rw [hx]
    congr 1
    push_cast
    omega
end INV
