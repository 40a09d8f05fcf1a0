/-! THE WORLD: the store of the abstract machine as cells of the heap -/
abbrev sd_Y : Type := ClassId × ClassId × ClassId × ClassId
def sd_tys (Y : sd_Y) : List (ClassId × FieldType) := [(Y.1, .int), (Y.2.1, .long), (Y.2.2.1, .boolean), (Y.2.2.2, .object "TableMapper$Cuts")]
def sd_c (ad : Nat → Nat → Nat) (v : jm_V) : Value := match v with
  | .inl x => .int x
  | .inr (.inl x) => .long x
  | .inr (.inr q) => .ref (ad q.1 q.2)
def sd_fs (ad : Nat → Nat → Nat) (σ : jm_G) (t i : Nat) : List jm_F → Nat → List Value
  | [], _ => []
  | f :: r, k => sd_c ad (jm_val σ t i k f) :: sd_fs ad σ t i r (k + 1)
def sd_ar (ad : Nat → Nat → Nat) (Y : sd_Y) (σ : jm_G) (t i n w : Nat) : va_E := match w with
  | 0 => .inl (Y.1, n, .inl (σ.1 t i))
  | 1 => .inl (Y.2.1, n, .inr (.inl (σ.2 t i)))
  | 2 => .inl (Y.2.2.1, n, .inl (σ.1 t i))
  | _ => .inl (Y.2.2.2, n, .inr (.inr (.inr (.inr fun j => some (ad 17 j)))))
def sd_en (ad : Nat → Nat → Nat) (Y : sd_Y) (σ : jm_G) (t i : Nat) : va_E := match jm_nth jm_sh t with
  | some (_, .inl (ci, fs)) => .inr (ci, sd_fs ad σ t i fs 0)
  | some (_, .inr (n, w)) => sd_ar ad Y σ t i n w
  | none => .inr (0, [])
def sd_ws (ad : Nat → Nat → Nat) (Y : sd_Y) (σ : jm_G) : va_W := sd_cells.map fun q => (ad q.1 q.2, sd_en ad Y σ q.1 q.2)
def sd_A (ad : Nat → Nat → Nat) : Nat → Prop := fun a => ∃ q ∈ sd_cells, a = ad q.1 q.2
def sd_ok (v : jm_V) : Prop := match v with
  | .inr (.inr q) => q ∈ sd_cells ∨ (q.2 = 0 ∧ (q.1 = 100 ∨ q.1 = 101 ∨ q.1 = 102))
  | _ => True
def sd_ro (σ ρ : jm_G) : Prop := σ.1 100 0 = ρ.1 100 0 ∧ σ.2 101 0 = ρ.2 101 0 ∧ σ.1 102 0 = ρ.1 102 0
def sd_st (L : Nat) (D : va_G) (Y : sd_Y) (ad : Nat → Nat → Nat) (ρ : jm_G) (U : State) (H : Heap) : Prop :=
  va_K D vwCl (sd_tys Y) U ∧ (∀ w ∈ sd_nest, va_Nw w U) ∧ (∀ p ∈ sd_cells, ∀ q ∈ sd_cells, ad p.1 p.2 = ad q.1 q.2 → p = q) ∧
  va_Z "TableMapper$Network" "SOURCES" "[I" (.ref (ad 100 0)) (sd_A ad) U H ∧ va_Z "TableMapper$Contents" "PLACES" "[J" (.ref (ad 101 0)) (sd_A ad) U H ∧
  va_T .int (ad 100 0) 7 (fun j => .int (ρ.1 100 0 j)) (sd_A ad) U H ∧ va_T .long (ad 101 0) 6 (fun j => .long (ρ.2 101 0 j)) (sd_A ad) U H ∧ va_T .int (ad 102 0) L (fun j => .int (ρ.1 102 0 j)) (sd_A ad) U H
theorem jm_nth_eq {α : Type} : ∀ (l : List α) (k : Nat), jm_nth l k = l[k]?
  | [], _ => by simp [jm_nth]
  | _ :: _, 0 => by simp [jm_nth]
  | _ :: r, k + 1 => by simp [jm_nth, jm_nth_eq r k]
theorem jm_key_in {α : Type} : ∀ {l : List (Nat × Nat × α)} {a b : Nat} {v : α}, jm_key l a b = some v → (a, b, v) ∈ l
  | [], _, _, _, h => by simp [jm_key] at h
  | q :: r, a, b, v, h => by
    unfold jm_key at h
    split at h
    · rename_i h1
      split at h
      · rename_i h2
        obtain ⟨x, y, z⟩ := q
        cases h
        have e1 : x = a := Nat.eq_of_beq_eq_true h1
        have e2 : y = b := Nat.eq_of_beq_eq_true h2
        subst e1; subst e2
        exact List.mem_cons_self
      · exact List.mem_cons_of_mem _ (jm_key_in h)
    · exact List.mem_cons_of_mem _ (jm_key_in h)
theorem sd_fs_get (ad : Nat → Nat → Nat) (σ : jm_G) (t i : Nat) : ∀ (fs : List jm_F) (k j : Nat), (sd_fs ad σ t i fs k)[j]? = (jm_nth fs j).map fun f => sd_c ad (jm_val σ t i (k + j) f)
  | [], _, _ => by simp [sd_fs, jm_nth]
  | _ :: _, _, 0 => by simp [sd_fs, jm_nth]
  | _ :: r, k, j + 1 => by
    simp only [sd_fs, jm_nth, List.getElem?_cons_succ]
    rw [sd_fs_get ad σ t i r (k + 1) j, show k + 1 + j = k + (j + 1) by omega]
theorem sd_fs_len (ad : Nat → Nat → Nat) (σ : jm_G) (t i : Nat) : ∀ (fs : List jm_F) (k : Nat), (sd_fs ad σ t i fs k).length = fs.length
  | [], _ => rfl
  | _ :: r, k => by simp [sd_fs, sd_fs_len ad σ t i r (k + 1)]
theorem jm_val_congr {σ τ : jm_G} {t i : Nat} (h1 : σ.1 t i = τ.1 t i) (h2 : σ.2 t i = τ.2 t i) (k : Nat) (f : jm_F) : jm_val σ t i k f = jm_val τ t i k f := by
  unfold jm_val
  split
  · split
    · rw [h2]
    · rw [h1]
  · rfl
theorem sd_fs_congr {ad : Nat → Nat → Nat} {σ τ : jm_G} {t i : Nat} (h1 : σ.1 t i = τ.1 t i) (h2 : σ.2 t i = τ.2 t i) : ∀ (fs : List jm_F) (k : Nat), sd_fs ad σ t i fs k = sd_fs ad τ t i fs k
  | [], _ => rfl
  | f :: r, k => by simp only [sd_fs, jm_val_congr h1 h2, sd_fs_congr h1 h2 r (k + 1)]
theorem sd_en_congr {ad : Nat → Nat → Nat} {Y : sd_Y} {σ τ : jm_G} {t i : Nat} (h1 : σ.1 t i = τ.1 t i) (h2 : σ.2 t i = τ.2 t i) : sd_en ad Y σ t i = sd_en ad Y τ t i := by
  unfold sd_en
  split
  · rw [sd_fs_congr h1 h2]
  · unfold sd_ar
    split <;> simp only [h1, h2]
  · rfl
theorem sd_get {t i : Nat} (h : (t, i) ∈ sd_cells) (ad : Nat → Nat → Nat) (Y : sd_Y) (σ : jm_G) : ∃ k : Nat, sd_cells[k]? = some (t, i) ∧ (sd_ws ad Y σ)[k]? = some (ad t i, sd_en ad Y σ t i) := by
  obtain ⟨k, hk⟩ := List.getElem?_of_mem h
  exact ⟨k, hk, by simp [sd_ws, hk]⟩
theorem sd_set {ad : Nat → Nat → Nat} {Y : sd_Y} {σ τ : jm_G} {t i k : Nat} (hk : sd_cells[k]? = some (t, i)) (h : ∀ a b : Nat, ¬ (a = t ∧ b = i) → σ.1 a b = τ.1 a b ∧ σ.2 a b = τ.2 a b) :
    (sd_ws ad Y σ).set k (ad t i, sd_en ad Y τ t i) = sd_ws ad Y τ := by
  apply List.ext_getElem?
  intro j
  by_cases hj : j = k
  · subst hj
    have hlt : j < (sd_ws ad Y σ).length := by
      simp only [sd_ws, List.length_map]
      exact (List.getElem?_eq_some_iff.mp hk).1
    rw [List.getElem?_set_self hlt]
    simp [sd_ws, hk]
  · rw [List.getElem?_set_ne (Ne.symm hj)]
    simp only [sd_ws, List.getElem?_map]
    cases hq : sd_cells[j]? with
    | none => rfl
    | some q =>
      obtain ⟨a, b⟩ := q
      have hne : ¬ (a = t ∧ b = i) := by
        rintro ⟨rfl, rfl⟩
        obtain ⟨lj, gj⟩ := List.getElem?_eq_some_iff.mp hq
        obtain ⟨lk, gk⟩ := List.getElem?_eq_some_iff.mp hk
        exact hj ((List.getElem?_inj lj sd_nodup).mp (hq.trans hk.symm))
      obtain ⟨e1, e2⟩ := h a b hne
      simp only [Option.map_some]
      rw [sd_en_congr e1 e2]
theorem sd_inD {ad : Nat → Nat → Nat} {Y : sd_Y} {σ : jm_G} (h : ∀ p ∈ sd_cells, ∀ q ∈ sd_cells, ad p.1 p.2 = ad q.1 q.2 → p = q) : va_D (sd_A ad) (sd_ws ad Y σ) := by
  refine ⟨?_, ?_⟩
  · intro i j p q hp hq he
    simp only [sd_ws, List.getElem?_map] at hp hq
    cases ha : sd_cells[i]? with
    | none => rw [ha] at hp; cases hp
    | some a =>
      cases hb : sd_cells[j]? with
      | none => rw [hb] at hq; cases hq
      | some b =>
        rw [ha] at hp; rw [hb] at hq
        cases hp; cases hq
        have e := h a (List.mem_of_getElem? ha) b (List.mem_of_getElem? hb) he
        obtain ⟨lj, gj⟩ := List.getElem?_eq_some_iff.mp ha
        obtain ⟨lk, gk⟩ := List.getElem?_eq_some_iff.mp hb
        exact (List.getElem?_inj lj sd_nodup).mp (ha.trans (by rw [e]; exact hb.symm))
  · intro k q hq
    simp only [sd_ws, List.getElem?_map] at hq
    cases ha : sd_cells[k]? with
    | none => rw [ha] at hq; cases hq
    | some a =>
      rw [ha] at hq
      cases hq
      exact ⟨a, List.mem_of_getElem? ha, rfl⟩
theorem wI_off {σ : jm_G} {t i : Nat} {f : Nat → Int32} : ∀ a b : Nat, ¬ (a = t ∧ b = i) → σ.1 a b = (wI σ t i f).1 a b ∧ σ.2 a b = (wI σ t i f).2 a b := fun a b h => ⟨by simp [wI, h], rfl⟩
theorem wJ_off {σ : jm_G} {t i : Nat} {f : Nat → Int64} : ∀ a b : Nat, ¬ (a = t ∧ b = i) → σ.1 a b = (wJ σ t i f).1 a b ∧ σ.2 a b = (wJ σ t i f).2 a b := fun a b h => ⟨rfl, by simp [wJ, h]⟩
theorem wI_at (σ : jm_G) (t i : Nat) (f : Nat → Int32) : (wI σ t i f).1 t i = f := by simp [wI]
theorem wJ_at (σ : jm_G) (t i : Nat) (f : Nat → Int64) : (wJ σ t i f).2 t i = f := by simp [wJ]
theorem sd_fsI {ad : Nat → Nat → Nat} {σ : jm_G} {t i k : Nat} {fs : List jm_F} {w : Nat} {x : Int32} (hf : jm_nth fs k = some (.inl w)) (hw : Nat.beq w 1 = false) : (sd_fs ad σ t i fs 0).set k (.int x) = sd_fs ad (wI σ t i (upd (σ.1 t i) k x)) t i fs 0 := by
  apply List.ext_getElem?
  intro j
  have hlt : k < fs.length := by
    rw [jm_nth_eq] at hf
    exact (List.getElem?_eq_some_iff.mp hf).1
  by_cases hj : j = k
  · subst hj
    rw [List.getElem?_set_self (by rw [sd_fs_len]; exact hlt), sd_fs_get, hf]
    simp [jm_val, hw, sd_c, wI_at, upd]
  · rw [List.getElem?_set_ne (Ne.symm hj), sd_fs_get, sd_fs_get]
    cases hq : jm_nth fs j with
    | none => rfl
    | some f =>
      simp only [Option.map_some]
      have : jm_val σ t i (0 + j) f = jm_val (wI σ t i (upd (σ.1 t i) k x)) t i (0 + j) f := by
        unfold jm_val
        split
        · split
          · rfl
          · rw [wI_at]
            have : upd (σ.1 t i) k x (0 + j) = σ.1 t i (0 + j) := pk_un (by omega)
            rw [this]
        · rfl
      rw [this]
theorem sd_fsJ {ad : Nat → Nat → Nat} {σ : jm_G} {t i k : Nat} {fs : List jm_F} {w : Nat} {x : Int64} (hf : jm_nth fs k = some (.inl w)) (hw : Nat.beq w 1 = true) : (sd_fs ad σ t i fs 0).set k (.long x) = sd_fs ad (wJ σ t i (vp_updL (σ.2 t i) k x)) t i fs 0 := by
  apply List.ext_getElem?
  intro j
  have hlt : k < fs.length := by
    rw [jm_nth_eq] at hf
    exact (List.getElem?_eq_some_iff.mp hf).1
  by_cases hj : j = k
  · subst hj
    rw [List.getElem?_set_self (by rw [sd_fs_len]; exact hlt), sd_fs_get, hf]
    simp [jm_val, hw, sd_c, wJ_at, vp_updL]
  · rw [List.getElem?_set_ne (Ne.symm hj), sd_fs_get, sd_fs_get]
    cases hq : jm_nth fs j with
    | none => rfl
    | some f =>
      simp only [Option.map_some]
      have : jm_val σ t i (0 + j) f = jm_val (wJ σ t i (vp_updL (σ.2 t i) k x)) t i (0 + j) f := by
        unfold jm_val
        split
        · split
          · rw [wJ_at]
            have : vp_updL (σ.2 t i) k x (0 + j) = σ.2 t i (0 + j) := pk_uLn (by omega)
            rw [this]
          · rfl
        · rfl
      rw [this]
