/-! what is told later changes no level, near cut, kept cut -/
def agr (N M : nw) (n : Nat) : Prop := ∀ i, i < n → isG N i = isG M i ∧ nK N i = nK M i ∧ nR N i = nR M i ∧ nB N i = nB M i
theorem agr_symm {N M : nw} {n : Nat} (h : agr N M n) : agr M N n := fun i hi => ⟨(h i hi).1.symm, (h i hi).2.1.symm, (h i hi).2.2.1.symm, (h i hi).2.2.2.symm⟩
theorem sM_agr {N M : nw} {n i : Nat} (h : agr N M n) (hi : i < n) : sM N i = sM M i := by
  obtain ⟨a1, a2, a3, -⟩ := h i hi
  apply set_eq
  intro j
  rw [sM_bit, sM_bit, a1, a2, a3]
theorem rdn_agr {N M : nw} {n : Nat} (h : agr N M n) (cut : Nat) : ∀ k R, k ≤ n → rdn N cut k R = rdn M cut k R
  | 0, R, _ => rfl
  | k + 1, R, hk => by
    rw [rdn, rdn, sM_agr h (by omega)]
    exact rdn_agr h cut k _ (by omega)
theorem rch_agr {N M : nw} {n g : Nat} (h : agr N M n) (hg : g < n) (S : Nat) : rch N g S = rch M g S := rdn_agr h S _ _ (by omega)
theorem Sep_agr {N M : nw} {n g : Nat} (hN : nw_ok N) (h : agr N M n) (hg : g < n) (U : Nat) : Sep N g U ↔ Sep M g U := by
  unfold Sep
  rw [← rch_agr h hg U, (h g hg).2.2.2]
  refine and_congr Iff.rfl ⟨fun q i hi => ?_, fun q i hi => ?_⟩
  · have := rch_le hN g U i hi
    rw [← (h i (by omega)).1]; exact q i hi
  · have := rch_le hN g U i hi
    rw [(h i (by omega)).1]; exact q i hi
theorem cutt_agr {N M : nw} {n K g m : Nat} {l l' : Nat → Nat} (hN : nw_ok N) (h : agr N M n) (hg : g < n) (hl : ∀ j, j < g → l j = l' j) : cutt N K l g m ↔ cutt M K l' g m := by
  constructor
  · rintro ⟨U, h1, h2, h3⟩
    exact ⟨U, (Sep_agr hN h hg U).mp h1, h2, fun j hj => by rw [← hl j (nB_lt hN _ _ (h1.1 j hj))]; exact h3 j hj⟩
  · rintro ⟨U, h1, h2, h3⟩
    have h1 := (Sep_agr hN h hg U).mpr h1
    exact ⟨U, h1, h2, fun j hj => by rw [hl j (nB_lt hN _ _ (h1.1 j hj))]; exact h3 j hj⟩
theorem lev_agr {N M : nw} {n K : Nat} (hN : nw_ok N) (hM : nw_ok M) (h : agr N M n) : ∀ g, g < n → lev N K g = lev M K g := by
  intro g
  induction g using Nat.strongRecOn with
  | ind g ih =>
    intro hg
    have e := (h g hg).1
    cases hb : isG N g with
    | false => rw [lev_leaf hb, lev_leaf (by rw [← e]; exact hb)]
    | true =>
      rw [lev_gate hN hb, lev_gate hM (by rw [← e]; exact hb)]
      congr 1
      funext m
      exact propext (cutt_agr hN h hg fun j hj => ih j hj (by omega))
theorem Cm_agr {N M : nw} {n K g m : Nat} (hN : nw_ok N) (hM : nw_ok M) (h : agr N M n) (hg : g < n) : Cm N (lev N K) g m = Cm M (lev M K) g m := set_eq fun j => by
  apply Bool.eq_iff_iff.mpr
  rw [Cm_bit hN, Cm_bit hM, (h g hg).2.2.2]
  refine or_congr Iff.rfl ⟨fun q => ⟨q.1, ?_⟩, fun q => ⟨q.1, ?_⟩⟩
  · have := nB_lt hM _ _ q.1
    rw [← lev_agr hN hM h j (by omega)]; exact q.2
  · have := nB_lt hM _ _ q.1
    rw [lev_agr hN hM h j (by omega)]; exact q.2
theorem nearC_agr {N M : nw} {n g C U : Nat} (hN : nw_ok N) (h : agr N M n) (hg : g < n) : nearC N g C U ↔ nearC M g C U := by
  unfold nearC
  simp only [Sep_agr hN h hg, rch_agr h hg]
theorem nea_agr {N M : nw} {n K g : Nat} (hN : nw_ok N) (hM : nw_ok M) (h : agr N M n) (hg : g < n) : nea N K g = nea M K g := by
  have e := (h g hg).1
  cases hb : isG N g with
  | false => rw [nea_leaf hb, nea_leaf (by rw [← e]; exact hb)]
  | true =>
    unfold nea
    rw [if_pos hb, if_pos (by rw [← e]; exact hb)]
    congr 1
    funext U
    rw [Cm_agr hN hM h hg, lev_agr hN hM h g hg]
    exact propext (nearC_agr hN h hg)
theorem mxL_cong {l l' : Nat → Nat} {S : Nat} (h : ∀ j, S.testBit j = true → l j = l' j) : ∀ n, mxL l S n = mxL l' S n
  | 0 => rfl
  | n + 1 => by
    rw [mxL, mxL, mxL_cong h n]
    split
    · rename_i q; rw [h n q]
    · rfl
theorem plc_cong {l l' : Nat → Nat} {S : Nat} (h : ∀ j, S.testBit j = true → l j = l' j) : plc l S = plc l' S := by unfold plc; rw [mxL_cong h]
theorem cand_agr {N M : nw} {n K g : Nat} {k1 k2 : Nat → Nat × (Nat → Nat)} (hN : nw_ok N) (hM : nw_ok M) (h : agr N M n) (hg : g < n) (hb : isG N g = true) (hk : ∀ s, s < g → k1 s = k2 s) (x : Nat) : cand N K g k1 x ↔ cand M K g k2 x := by
  obtain ⟨a1, a2, a3, -⟩ := h g hg
  have eN : ∀ p, chN N g k1 p = chN M g k2 p := fun p => by
    rw [chN_cong hN hb hk]
    unfold chN
    rw [a2, a3]
  have eC : ∀ p i, chC N g k1 p i = chC M g k2 p i := fun p i => by
    rw [chC_cong hN hb hk]
    unfold chC
    rw [a2, a3]
  unfold cand
  simp only [eN, eC, nea_agr hN hM h hg]
theorem nOK_agr {N M : nw} {n K : Nat} (hN : nw_ok N) (hM : nw_ok M) (h : agr N M n) (hn : nOK N K n) : nOK M K n := by
  intro g hg hb
  obtain ⟨q1, q2⟩ := hn g hg (by rw [(h g hg).1]; exact hb)
  rw [← nea_agr hN hM h hg, ← Cm_agr hN hM h hg, ← lev_agr hN hM h g hg]
  exact ⟨(nearC_agr hN h hg).mp q1, q2⟩
theorem keep_cong {l l' : Nat → Nat} {M M' : Nat → Prop} (h : ∀ x, M x ↔ M' x) (hl : ∀ x, M x → plc l x = plc l' x) : keep l M = keep l' M' := by
  have e : M = M' := funext fun x => propext (h x)
  subst e
  have e2 : (fun p : Nat × (Nat → Nat) => isKept l M p.1 p.2) = fun p => isKept l' M p.1 p.2 := funext fun p => propext ⟨kept_cong hl, kept_cong fun x hx => (hl x hx).symm⟩
  have e3 : (∃ p : Nat × (Nat → Nat), isKept l M p.1 p.2) = ∃ p : Nat × (Nat → Nat), isKept l' M p.1 p.2 := by rw [e2]
  unfold keep
  by_cases q : ∃ p : Nat × (Nat → Nat), isKept l M p.1 p.2
  · have q' : ∃ p : Nat × (Nat → Nat), isKept l' M p.1 p.2 := by rw [← e3]; exact q
    rw [dif_pos q, dif_pos q']
    congr 1
  · have q' : ¬ ∃ p : Nat × (Nat → Nat), isKept l' M p.1 p.2 := by rw [← e3]; exact q
    rw [dif_neg q, dif_neg q']
theorem kp_agr {N M : nw} {n K : Nat} (hN : nw_ok N) (hM : nw_ok M) (h : agr N M n) (hn : nOK N K n) : ∀ g, g < n → kp N K g = kp M K g := by
  intro g
  induction g using Nat.strongRecOn with
  | ind g ih =>
    intro hg
    have e := (h g hg).1
    cases hb : isG N g with
    | false => rw [kp_leaf hb, kp_leaf (by rw [← e]; exact hb)]
    | true =>
      rw [kp_gate hN hb, kp_gate hM (by rw [← e]; exact hb)]
      refine keep_cong (fun x => cand_agr hN hM h hg hb (fun s hs => ih s hs (by omega)) x) fun x hx => plc_cong fun j hj => ?_
      have := (cand_ok hN hb (fun s hs => hn s (by omega)) (kp_ok hN (n := g) (fun s hs => hn s (by omega))) hx).2.2.1 j hj
      exact lev_agr hN hM h j (by omega)
theorem cA_agr {N M : nw} {i K n : Nat} {σ : jm_G} (hN : nw_ok N) (hM : nw_ok M) (h : agr N M n) (hA : cA N i K n σ) : cA M i K n σ := by
  obtain ⟨a1, a2, a3, a4, a5⟩ := hA
  refine ⟨a1, fun j hj => ?_, a3, fun s hs => ?_, nOK_agr hN hM h a5⟩
  · rw [← lev_agr hN hM h j hj, ← nea_agr hN hM h hj]; exact a2 j hj
  · rw [← kp_agr hN hM h a5 s hs]; exact a4 s hs
