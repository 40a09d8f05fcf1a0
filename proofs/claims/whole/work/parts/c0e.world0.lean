/-! THE START: the cells behind both constructors as the abstract store's -/
def st_pos (t i : Nat) : Nat := if t < 17 then t else if t < 22 then 17 + (t - 17) * 4 + i else t + 15
def st_ad (q1 q2 q3 aS aP b : Nat) (u1 u2 : Nat → Nat) (t i : Nat) : Nat := if t = 100 then aS else if t = 101 then aP else if t = 102 then b else if st_pos t i = 0 then q1 else if st_pos t i < 53 then u1 (st_pos t i - 1) else if st_pos t i = 53 then q2 else if st_pos t i < 86 then u2 (st_pos t i - 54) else q3
def st_w (Y : sd_Y) (q1 q2 q3 : Nat) (u1 u2 : Nat → Nat) : va_W := cir9 Y q1 u1 ++ (cir10 Y q2 u2 ++ [(q3, ci_l Y 1)])
theorem st_cell {cA : ClassId} {n : Nat} {f g : Nat → Option Nat} (h : ∀ j, j < n → f j = g j) : vp_cell cA (n, .inr (.inr (.inr (.inr f)))) = vp_cell cA (n, .inr (.inr (.inr (.inr g)))) := by
  show arrV cA n (fun j => va_rf (f j)) = arrV cA n (fun j => va_rf (g j))
  unfold arrV
  have e : (fun j : Fin n => va_rf (f j.val)) = (fun j : Fin n => va_rf (g j.val)) := funext fun j => by rw [h j.val j.isLt]
  rw [e]
theorem st_setP {D : va_G} {cl : List vw_C} {ws : va_W} {k : Nat} {q : Nat × va_E} {H : Heap} (h : va_P D cl ws H) (hq : va_at D cl q H) : va_P D cl (ws.set k q) H := by
  intro j x hx
  by_cases hj : j = k
  · subst hj
    by_cases hl : j < ws.length
    · rw [List.getElem?_set_self hl] at hx
      cases hx
      exact hq
    · rw [List.getElem?_eq_none (by simpa using hl)] at hx
      cases hx
  · rw [List.getElem?_set_ne (Ne.symm hj)] at hx
    exact h j x hx
set_option maxHeartbeats 4000000 in
set_option maxRecDepth 100000 in
theorem st_eq (Y : sd_Y) (ρ : jm_G) (q1 q2 q3 aS aP b : Nat) (u1 u2 : Nat → Nat) : sd_ws (st_ad q1 q2 q3 aS aP b u1 u2) Y (st0 ρ) = (st_w Y q1 q2 q3 u1 u2).set 1 (u1 0, ci_q Y 4 (fun j => some (st_ad q1 q2 q3 aS aP b u1 u2 17 j))) := rfl
set_option maxHeartbeats 4000000 in
set_option maxRecDepth 100000 in
theorem st_adr (Y : sd_Y) (q1 q2 q3 aS aP b : Nat) (u1 u2 : Nat → Nat) : sd_cells.map (fun q => st_ad q1 q2 q3 aS aP b u1 u2 q.1 q.2) = (st_w Y q1 q2 q3 u1 u2).map (fun q => q.1) := rfl
theorem st_ws {D : va_G} {Y : sd_Y} {ρ : jm_G} {q1 q2 q3 aS aP b : Nat} {u1 u2 : Nat → Nat} {H : Heap} (h : va_P D vwCl (st_w Y q1 q2 q3 u1 u2) H) : va_P D vwCl (sd_ws (st_ad q1 q2 q3 aS aP b u1 u2) Y (st0 ρ)) H := by
  rw [st_eq]
  refine st_setP h ?_
  have h1 := h 1 _ rfl
  show H[u1 0]? = some (vp_cell Y.2.2.2 (4, .inr (.inr (.inr (.inr (fun j => some (st_ad q1 q2 q3 aS aP b u1 u2 17 j)))))))
  rw [st_cell (g := va_up (va_up (va_up (va_up (fun _ => none) 0 (some (u1 16))) 1 (some (u1 17))) 2 (some (u1 18))) 3 (some (u1 19)))]
  · exact h1
  · intro j hj
    rcases (show j = 0 ∨ j = 1 ∨ j = 2 ∨ j = 3 by omega) with rfl | rfl | rfl | rfl <;> rfl
theorem st_at {A : Nat → Prop} {Y : sd_Y} {q1 q2 q3 aS aP b : Nat} {u1 u2 : Nat → Nat} (h : va_D A (st_w Y q1 q2 q3 u1 u2)) {i : Nat} {p : Nat × Nat} (hi : sd_cells[i]? = some p) : ∃ x : va_E, (st_w Y q1 q2 q3 u1 u2)[i]? = some (st_ad q1 q2 q3 aS aP b u1 u2 p.1 p.2, x) := by
  have h1 : (sd_cells.map (fun q => st_ad q1 q2 q3 aS aP b u1 u2 q.1 q.2))[i]? = some (st_ad q1 q2 q3 aS aP b u1 u2 p.1 p.2) := by rw [List.getElem?_map, hi]; rfl
  rw [st_adr Y, List.getElem?_map] at h1
  cases hq : (st_w Y q1 q2 q3 u1 u2)[i]? with
  | none => rw [hq] at h1; cases h1
  | some z =>
    rw [hq] at h1
    obtain ⟨a, x⟩ := z
    cases h1
    exact ⟨x, rfl⟩
theorem st_inj {A : Nat → Prop} {Y : sd_Y} {q1 q2 q3 aS aP b : Nat} {u1 u2 : Nat → Nat} (h : va_D A (st_w Y q1 q2 q3 u1 u2)) : ∀ p ∈ sd_cells, ∀ q ∈ sd_cells, st_ad q1 q2 q3 aS aP b u1 u2 p.1 p.2 = st_ad q1 q2 q3 aS aP b u1 u2 q.1 q.2 → p = q := by
  intro p hp q hq e
  obtain ⟨i, hi⟩ := List.getElem?_of_mem hp
  obtain ⟨j, hj⟩ := List.getElem?_of_mem hq
  obtain ⟨x, hx⟩ := st_at (aS := aS) (aP := aP) (b := b) h hi
  obtain ⟨y, hy⟩ := st_at (aS := aS) (aP := aP) (b := b) h hj
  have ij := h.1 i j _ _ hx hy e
  subst ij
  exact Option.some.inj (hi.symm.trans hj)
theorem st_A {A : Nat → Prop} {Y : sd_Y} {q1 q2 q3 aS aP b : Nat} {u1 u2 : Nat → Nat} (h : va_D A (st_w Y q1 q2 q3 u1 u2)) : ∀ a, sd_A (st_ad q1 q2 q3 aS aP b u1 u2) a → A a := by
  rintro a ⟨p, hp, rfl⟩
  obtain ⟨i, hi⟩ := List.getElem?_of_mem hp
  obtain ⟨x, hx⟩ := st_at (aS := aS) (aP := aP) (b := b) h hi
  exact h.2 i _ hx
