/-! THE ENTRY: what the tables and the premises give -/
theorem st_inst : ∀ r ∈ vwCl, Cond.instantiable r.1 r.2.2 ∈ sd_W := by
  intro r hr
  simp only [vwCl, List.mem_cons, List.not_mem_nil, or_false] at hr
  rcases hr with rfl | rfl | rfl | rfl | rfl | rfl | rfl | rfl | rfl | rfl | rfl
  · exact cw_54
  · exact cw_60
  · exact cw_48
  · exact cw_42
  · exact cw_36
  · exact cw_14
  · exact cw_31
  · exact cw_19
  · exact cw_25
  · exact cw_66
  · exact cw_72
theorem st_K {s : State} {args : Array Value} (hts : ∀ w ∈ sd_W, w.before args s = true) (hAO : va_AO "TableMapper$Cuts" s) : ∃ (D : va_G) (Y : sd_Y), va_K D vwCl (sd_tys Y) s := by
  obtain ⟨cI, kI, pI, i1, i2, i3⟩ := Cond.arrayClass_spec (hts _ ci_wI)
  obtain ⟨cL, kL, pL, l1, l2, l3⟩ := Cond.arrayClass_spec (hts _ ci_wL)
  obtain ⟨cZ, kZ, pZ, z1, z2, z3⟩ := Cond.arrayClass_spec (hts _ ci_wZ)
  obtain ⟨pQ, cQ, kQ, w1, w2, w3, w4, w5⟩ := Cond.arrayOver_spec hAO
  have hcls : ∀ k : Nat, ∃ ci : ClassId × (Nat → Nat), ∀ q : vw_C, vwCl[k]? = some q → u_Kn s q.1 q.2.1 q.2.2 ci.1 ci.2 := by
    intro k
    cases hq : vwCl[k]? with
    | none => exact ⟨(cI, fun _ => 0), fun q h => by cases h⟩
    | some r =>
      obtain ⟨cC, iS, h⟩ := u_known (n := r.2.2) hts (sd_cls r (List.mem_of_getElem? hq)).1 (hts _ (st_inst r (List.mem_of_getElem? hq)))
      exact ⟨(cC, iS), fun q hq' => by cases hq'; exact h⟩
  obtain ⟨f, hf⟩ := Classical.axiomOfChoice hcls
  refine ⟨(fun k => (f k).1, fun k => (f k).2), (cI, cL, cZ, cQ), fun k q h => hf k q h, fun k q h => ?_⟩
  match k, h with
  | 0, h => cases h; exact ⟨fun n z => ⟨fun k h => (by cases h), kI, i2, pI, i3⟩, i1⟩
  | 1, h => cases h; exact ⟨fun n z => ⟨fun k h => (by cases h), kL, l2, pL, l3⟩, l1⟩
  | 2, h => cases h; exact ⟨fun n z => ⟨fun k h => (by cases h), kZ, z2, pZ, z3⟩, z1⟩
  | 3, h => cases h; exact ⟨fun n z => ⟨fun k h => (by cases h), kQ, w3, pQ, w4⟩, kQ, pQ, w3, w4, w1, w5⟩
  | k + 4, h => simp [sd_tys] at h
abbrev st_tS : Term := .static "TableMapper$Network" "SOURCES" "[I"
abbrev st_tP : Term := .static "TableMapper$Contents" "PLACES" "[J"
section ENTRY
variable {s : State} {args : Array Value}
theorem st_lw {i : Nat} {w : Cond} (hts0 : ∀ w ∈ lw_tbl, w.before args s = true) (h : lw_tbl[i]? = some w) : w.before args s = true := hts0 w (List.mem_of_getElem? h)
set_option maxRecDepth 100000 in
theorem st_src (hts0 : ∀ w ∈ lw_tbl, w.before args s = true) (hgv : (Jvm.Cond.and given_1 narrow_1).before args s = true) : ∃ aS : Nat, va_Z "TableMapper$Network" "SOURCES" "[I" (.ref aS) (fun q : Nat => s.heap.size ≤ q) s s.heap ∧ va_T .int aS 7 (fun j => .int (nI (ar j))) (fun q : Nat => s.heap.size ≤ q) s s.heap := by
  have hs := flat_of_before _ hgv
  have harr : (Cond.arrayOf st_tS .int).before args s = true := hs _ (by decide +kernel)
  have hlen : (Term.length st_tS).eval args s none [] s = some (.int (Int32.ofNat 7)) := va_eqt (hs (.eq (.length st_tS) (.int (Int32.ofNat 7))) (by decide +kernel))
  have hel : ∀ j : Nat, j < 7 → (Term.elem st_tS (.int (Int32.ofNat j))).eval args s none [] s = some (.int (nI (ar j))) := by
    intro j hj
    rcases (show j = 0 ∨ j = 1 ∨ j = 2 ∨ j = 3 ∨ j = 4 ∨ j = 5 ∨ j = 6 by omega) with rfl | rfl | rfl | rfl | rfl | rfl | rfl
    · exact va_eqt (hs (.eq (.elem st_tS (.int (Int32.ofNat 0))) (.int (nI (ar 0)))) (by decide +kernel))
    · exact va_eqt (hs (.eq (.elem st_tS (.int (Int32.ofNat 1))) (.int (nI (ar 1)))) (by decide +kernel))
    · exact va_eqt (hs (.eq (.elem st_tS (.int (Int32.ofNat 2))) (.int (nI (ar 2)))) (by decide +kernel))
    · exact va_eqt (hs (.eq (.elem st_tS (.int (Int32.ofNat 3))) (.int (nI (ar 3)))) (by decide +kernel))
    · exact va_eqt (hs (.eq (.elem st_tS (.int (Int32.ofNat 4))) (.int (nI (ar 4)))) (by decide +kernel))
    · exact va_eqt (hs (.eq (.elem st_tS (.int (Int32.ofNat 5))) (.int (nI (ar 5)))) (by decide +kernel))
    · exact va_eqt (hs (.eq (.elem st_tS (.int (Int32.ofNat 6))) (.int (nI (ar 6)))) (by decide +kernel))
  obtain ⟨aS, h1, h2⟩ := va_Tof (N := 7) (f := fun j => .int (nI (ar j))) (A := fun q : Nat => s.heap.size ≤ q) (by decide) harr hlen hel (fun a h => Nat.not_le.mpr h)
  exact ⟨aS, va_Zref (st_lw (i := 458) hts0 (by decide +kernel)) (hts0 _ (List.mem_filter.mp cw_15).1) h1 (fun a h => Nat.not_le.mpr h), h2⟩
set_option maxRecDepth 100000 in
theorem st_plc (hts0 : ∀ w ∈ lw_tbl, w.before args s = true) (hgv : (Jvm.Cond.and given_1 narrow_1).before args s = true) : ∃ aP : Nat, va_Z "TableMapper$Contents" "PLACES" "[J" (.ref aP) (fun q : Nat => s.heap.size ≤ q) s s.heap ∧ va_T .long aP 6 (fun j => .long (lN (plM j))) (fun q : Nat => s.heap.size ≤ q) s s.heap := by
  have hs := flat_of_before _ hgv
  have harr : (Cond.arrayOf st_tP .long).before args s = true := hs _ (by decide +kernel)
  have hlen : (Term.length st_tP).eval args s none [] s = some (.int (Int32.ofNat 6)) := va_eqt (hs (.eq (.length st_tP) (.int (Int32.ofNat 6))) (by decide +kernel))
  have hel : ∀ j : Nat, j < 6 → (Term.elem st_tP (.int (Int32.ofNat j))).eval args s none [] s = some (.long (lN (plM j))) := by
    intro j hj
    rcases (show j = 0 ∨ j = 1 ∨ j = 2 ∨ j = 3 ∨ j = 4 ∨ j = 5 by omega) with rfl | rfl | rfl | rfl | rfl | rfl
    · exact va_eqtl (hs (.eq (.elem st_tP (.int (Int32.ofNat 0))) (.long (lN (plM 0)))) (by decide +kernel))
    · exact va_eqtl (hs (.eq (.elem st_tP (.int (Int32.ofNat 1))) (.long (lN (plM 1)))) (by decide +kernel))
    · exact va_eqtl (hs (.eq (.elem st_tP (.int (Int32.ofNat 2))) (.long (lN (plM 2)))) (by decide +kernel))
    · exact va_eqtl (hs (.eq (.elem st_tP (.int (Int32.ofNat 3))) (.long (lN (plM 3)))) (by decide +kernel))
    · exact va_eqtl (hs (.eq (.elem st_tP (.int (Int32.ofNat 4))) (.long (lN (plM 4)))) (by decide +kernel))
    · exact va_eqtl (hs (.eq (.elem st_tP (.int (Int32.ofNat 5))) (.long (lN (plM 5)))) (by decide +kernel))
  obtain ⟨aP, h1, h2⟩ := va_Tof (N := 6) (f := fun j => .long (lN (plM j))) (A := fun q : Nat => s.heap.size ≤ q) (by decide) harr hlen hel (fun a h => Nat.not_le.mpr h)
  exact ⟨aP, va_Zref (st_lw (i := 842) hts0 (by decide +kernel)) (hts0 _ (List.mem_filter.mp cw_49).1) h1 (fun a h => Nat.not_le.mpr h), h2⟩
set_option maxRecDepth 100000 in
theorem st_exc {ad : Nat → Nat → Nat} (hts0 : ∀ w ∈ lw_tbl, w.before args s = true) (hgv : (Jvm.Cond.and given_1 narrow_1).before args s = true) (hA : ∀ a : Nat, a < s.heap.size → ¬ sd_A ad a) : hx_P ad s s.heap := by
  have hs := flat_of_before _ hgv
  have hini : (Cond.initialized Bundle.tN).before args s = true := st_lw (i := 99) hts0 (by decide +kernel)
  obtain ⟨sa, -, -, -, q1, -⟩ := Cond.exactly_spec (args := args) (first := s) (o := none) (s := s) (idx := []) (t := .string "TableMapper" 223) (cls := "java/lang/String") (hs (.exactly (.string "TableMapper" 223) "java/lang/String") (by decide +kernel))
  refine ⟨vx_Zqof (st_lw (i := 994) hts0 (by decide +kernel)) hini (hs (.isRef (.static Bundle.tN "UNASSIGNED_STACK" Bundle.steD)) (by decide +kernel)) hA, vx_Zqof (st_lw (i := 996) hts0 (by decide +kernel)) hini (hs (.isRef (.static Bundle.tN "SUPPRESSED_SENTINEL" Bundle.listD)) (by decide +kernel)) hA, ⟨sa, vk_R.of (A := args) (st_lw (i := 1006) hts0 (by decide +kernel)) q1⟩, va_Nw.of rfl (A := args) (st_lw (i := 969) hts0 (by decide +kernel)), va_Nw.of rfl (A := args) (st_lw (i := 971) hts0 (by decide +kernel)), va_Nw.of rfl (A := args) (st_lw (i := 973) hts0 (by decide +kernel)), va_Nw.of rfl (A := args) (st_lw (i := 975) hts0 (by decide +kernel))⟩
theorem st_X9 (hts0 : ∀ w ∈ lw_tbl, w.before args s = true) : ci_X9 s := ⟨va_Nw.of rfl (A := args) (st_lw (i := 113) hts0 (by decide +kernel)), va_Nw.of rfl (A := args) (st_lw (i := 221) hts0 (by decide +kernel)), va_AO.of (A := args) (st_lw (i := 236) hts0 (by decide +kernel))⟩
end ENTRY
