/-! what is told later: the five kinds -/
theorem agr_addI (N : nw) : agr N (addI N) (nN N) := fun i hi => ⟨(isG_addI N i).symm, rfl, rfl, rfl⟩
theorem agr_addR (N : nw) : agr N (addR N) (nN N) := fun i hi => ⟨(isG_addR N i).symm, rfl, rfl, rfl⟩
theorem agr_addG (N : nw) (k a b c : Nat) : agr N (addG N k a b c) (nN N) := fun i hi => by
  have e : ¬ i = nN N := by omega
  refine ⟨?_, ?_, ?_, ?_⟩
  · rw [isG_addG]; simp [e]
  · show _ = (if i = nN N then k else nK N i)
    rw [if_neg e]
  · show _ = fun j => (if i = nN N then _ else nR N i j)
    funext j
    rw [if_neg e]
  · show _ = (if i = nN N then _ else nB N i)
    rw [if_neg e]
theorem agr_setF (N : nw) (r x n : Nat) : agr N (setF N r x) n := fun i hi => ⟨rfl, rfl, rfl, rfl⟩
theorem agr_addO (N : nw) (x n : Nat) : agr N (addO N x) n := fun i hi => ⟨rfl, rfl, rfl, rfl⟩
theorem agr_le {N M : nw} {n m : Nat} (h : agr N M n) (hm : m ≤ n) : agr N M m := fun i hi => h i (by omega)
theorem ok_addO {N : nw} (h : nw_ok N) {x : Nat} (hx : x < nN N) (hc : cnt (nO N ||| 2 ^ x) 40 ≤ 12) : nw_ok (addO N x) := by
  obtain ⟨a1, a2, a3, a4, a5, a6, a7⟩ := h
  refine ⟨a1, a2, a3, a4, fun i hi => ?_, hc, fun i => by rw [bMk_eq (N := addO N x) (M := N) (fun _ => rfl) rfl]; exact a7 i⟩
  have hi : (nO N ||| 2 ^ x).testBit i = true := hi
  rw [or_bit, Bool.or_eq_true, decide_eq_true_eq] at hi
  rcases hi with q | q
  · exact a5 i q
  · show i < nN N
    omega
theorem mL_agr {N M : nw} {K n : Nat} {σ : jm_G} (hN : nw_ok N) (hM : nw_ok M) (h : agr N M n) (hL : mL N K n σ) : mL M K n σ := by
  obtain ⟨a2, a4, a5⟩ := hL
  refine ⟨fun j hj => ?_, fun s hs => ?_, nOK_agr hN hM h a5⟩
  · rw [← lev_agr hN hM h j hj, ← nea_agr hN hM h hj]; exact a2 j hj
  · rw [← kp_agr hN hM h a5 s hs]; exact a4 s hs
