/-! node, on both sides -/
noncomputable def nd9 (N : nw) (K i : Nat) (w : Int32) : Int32 :=
  if w = nI 0 then nI (nS N i) else if w = nI 1 then (if isG N i then nI (nK N i) else -(nI 1)) else if w = nI 2 then sofI N i 0 else if w = nI 3 then sofI N i 1 else if w = nI 4 then sofI N i 2 else
  if w = nI 5 then nI (lev N K i) else if w = nI 6 then bI ((rts N).testBit i) else if w = nI 7 then nI (cnt (nB N i) 40) else -(nI 1)
theorem nd9_0 (N : nw) (K i : Nat) : nd9 N K i (nI 0) = nI (nS N i) := by unfold nd9; rw [if_pos rfl]
theorem nd9_1 (N : nw) (K i : Nat) : nd9 N K i (nI 1) = if isG N i then nI (nK N i) else -(nI 1) := by unfold nd9; rw [if_neg (by decide), if_pos rfl]
theorem nd9_2 (N : nw) (K i : Nat) : nd9 N K i (nI 2) = sofI N i 0 := by unfold nd9; rw [if_neg (by decide), if_neg (by decide), if_pos rfl]
theorem nd9_3 (N : nw) (K i : Nat) : nd9 N K i (nI 3) = sofI N i 1 := by unfold nd9; rw [if_neg (by decide), if_neg (by decide), if_neg (by decide), if_pos rfl]
theorem nd9_4 (N : nw) (K i : Nat) : nd9 N K i (nI 4) = sofI N i 2 := by unfold nd9; rw [if_neg (by decide), if_neg (by decide), if_neg (by decide), if_neg (by decide), if_pos rfl]
theorem nd9_5 (N : nw) (K i : Nat) : nd9 N K i (nI 5) = nI (lev N K i) := by unfold nd9; rw [if_neg (by decide), if_neg (by decide), if_neg (by decide), if_neg (by decide), if_neg (by decide), if_pos rfl]
theorem nd9_6 (N : nw) (K i : Nat) : nd9 N K i (nI 6) = bI ((rts N).testBit i) := by unfold nd9; rw [if_neg (by decide), if_neg (by decide), if_neg (by decide), if_neg (by decide), if_neg (by decide), if_neg (by decide), if_pos rfl]
theorem nd9_7 (N : nw) (K i : Nat) : nd9 N K i (nI 7) = nI (cnt (nB N i) 40) := by unfold nd9; rw [if_neg (by decide), if_neg (by decide), if_neg (by decide), if_neg (by decide), if_neg (by decide), if_neg (by decide), if_neg (by decide), if_pos rfl]
theorem nd9_o {N : nw} {K i : Nat} {w : Int32} (h : w.toInt < 0 ∨ 7 < w.toInt) : nd9 N K i w = -(nI 1) := by
  have ne : ∀ c : Nat, c ≤ 7 → ¬ w = nI c := fun c hc e => by
    rw [e, nI_toInt (by omega)] at h
    omega
  unfold nd9
  rw [if_neg (ne 0 (by omega)), if_neg (ne 1 (by omega)), if_neg (ne 2 (by omega)), if_neg (ne 3 (by omega)), if_neg (ne 4 (by omega)), if_neg (ne 5 (by omega)), if_neg (ne 6 (by omega)), if_neg (ne 7 (by omega))]
noncomputable def ndA (N : nw) (K : Nat) (x w : Int32) : Int32 := if inN (nN N) x then nd9 N K x.toNatClampNeg w else -(nI 1)
abbrev ct_cnode (C : jm_C) : Prop := ∀ (N : nw) (K : Nat) (x w : Int32) (σ : jm_G) (post : Option jm_V → jm_G → Prop), nw_ok N → cN N σ → 3 ≤ K → K ≤ 6 → σ.1 0 0 7 = nI K → cAll N σ → (∀ σ', off 10 21 σ σ' → cAll N σ' → post (some (jI (ndA N K x w))) σ') → C kX9_node [jR 0 0, jI x, jI w] σ post
theorem T_cnode (L : Nat) {C : jm_C} (hC : jm_mon C) (h1 : ct_isNode C) (h2 : ct_isSort kX5_isGate isG C) (h3 : ct_isSort kX5_isRegister isR C) (h4 : ct_kindOf C) (h5 : ct_sof C) (h6 : ct_cutsOfK C) (h7 : ct_roots C) (h8 : ct_has C) (h9 : ct_bc C) : ct_cnode (jm_up L C) := by
  intro N K x w σ post hok hN hK hK6 hk7 hA hp
  refine jm_start rfl (Nat.le_of_ble_eq_true rfl) hC fun X hg hw => ?_
  have h40 := hok.1
  unfold ndA at hp
  refine hg [] 60 _ ?_
  refine h1 N x σ _ hok hN ?_
  refine br_c (fun h => ?_) (fun h => ?_)
  · have h := bI_0.mp h
    rw [h, if_neg (fun q => by cases q)] at hp
    exact And.intro trivial (hp σ (off_refl _ _ _) hA)
  · have h := bI_n0.mp h
    rw [h, if_pos rfl] at hp
    obtain ⟨i, hi, rfl⟩ := inN_t (by omega) h
    have ei : (nI i).toNatClampNeg = i := nI_clamp (by omega)
    rw [ei] at hp
    have hin : vp_in (nI i) 40 := vp_in_nI (by omega) (by omega)
    have hat : ∀ p : Nat → Bool, atN (nN N) (nI i) p = p i := fun p => by rw [atN_nI (by omega) (by omega)]; simp [hi]
    have hp0 := hp σ (off_refl _ _ _) hA
    have sof : ∀ k, k < 3 → ∀ c : Nat, c = k + 2 → w = nI c → sofI N i k = nd9 N K i w → C kX5_sourceOrFeed [jR 2 0, jI (nI i), jI (w - nI 2)] σ (fun r s => r = some (jI (nd9 N K i w)) ∧ s = σ) := by
      intro k hk c hc hwc he
      rw [hwc, pk_sub (by omega), show c - 2 = k by omega, ← hwc]
      refine h5 N i k σ _ hok hN hi hk ⟨?_, rfl⟩
      rw [he]
    refine And.intro (fun h => ?_) (And.intro (fun h => ?_) (And.intro (fun h => ?_) (And.intro (fun h => ?_) (And.intro (fun h => ?_) (And.intro (fun h => ?_) (And.intro (fun h => ?_) (And.intro (fun h => ?_) (And.intro (fun h => ?_) trivial))))))))
    · have h : w.toInt < 0 ∨ 7 < w.toInt := h
      rw [nd9_o h] at hp0
      exact And.intro trivial hp0
    · have h : w = nI 0 := h
      rw [h, nd9_0] at hp0
      refine h2 N (nI i) σ _ hok hN ?_
      rw [hat]
      refine br_c (fun q => ?_) (fun q => ?_)
      · have q := bI_0.mp q
        refine h3 N (nI i) σ _ hok hN ?_
        rw [hat]
        have h3s := hok.2.1 i hi
        refine br_c (fun q2 => ?_) (fun q2 => ?_)
        · have q2 := bI_0.mp q2
          have : nS N i = 0 := by
            simp [isG, hi] at q
            simp [isR, hi] at q2
            omega
          rw [this] at hp0
          exact And.intro trivial hp0
        · have q2 := bI_n0.mp q2
          have : nS N i = 2 := by simp [isR, hi] at q2; exact q2
          rw [this] at hp0
          exact And.intro trivial hp0
      · have q := bI_n0.mp q
        have : nS N i = 1 := by simp [isG, hi] at q; exact q
        rw [this] at hp0
        exact And.intro trivial hp0
    · have h : w = nI 1 := h
      rw [h, nd9_1] at hp0
      refine h2 N (nI i) σ _ hok hN ?_
      rw [hat]
      refine br_c (fun q => ?_) (fun q => ?_)
      · have q := bI_0.mp q
        rw [q, if_neg (fun q => by cases q)] at hp0
        exact And.intro trivial hp0
      · have q := bI_n0.mp q
        rw [q, if_pos rfl] at hp0
        refine h4 N i σ _ hok hN q ?_
        exact And.intro trivial hp0
    · have h : w = nI 2 := h
      refine hC _ _ _ _ _ ?_ (sof 0 (by omega) 2 rfl h (by rw [h, nd9_2]))
      rintro r s ⟨rfl, rfl⟩
      exact And.intro trivial hp0
    · have h : w = nI 3 := h
      refine hC _ _ _ _ _ ?_ (sof 1 (by omega) 3 rfl h (by rw [h, nd9_3]))
      rintro r s ⟨rfl, rfl⟩
      exact And.intro trivial hp0
    · have h : w = nI 4 := h
      refine hC _ _ _ _ _ ?_ (sof 2 (by omega) 4 rfl h (by rw [h, nd9_4]))
      rintro r s ⟨rfl, rfl⟩
      exact And.intro trivial hp0
    · have h : w = nI 5 := h
      rw [h, nd9_5] at hp
      refine c_cutsOfK h6 hok hN hK hK6 hk7 hA fun τ o1 o2 o3 => ?_
      refine And.intro hin ?_
      refine And.intro trivial ?_
      show post (some (jI (τ.1 18 (K - 3) (nI i).toNatClampNeg))) τ
      rw [ei, (o3.2.1 i hi).1]
      exact hp τ o1 o2
    · have h : w = nI 6 := h
      rw [h, nd9_6] at hp0
      refine h7 N σ _ hok hN ?_
      refine h8 (rts N) i σ _ (p40 (rts_lt40 hok)) (by omega) ?_
      refine br_c (fun q => ?_) (fun q => ?_)
      · have q := bI_0.mp q
        rw [q] at hp0
        exact And.intro trivial hp0
      · have q := bI_n0.mp q
        rw [q] at hp0
        exact And.intro trivial hp0
    · have h : w = nI 7 := h
      rw [h, nd9_7] at hp0
      refine And.intro hin ?_
      have hb := nB_lt40 hok i
      refine c_bc h9 (S := nB N i) (show σ.2 7 0 (nI i).toNatClampNeg = lN (nB N i) by rw [ei]; exact hN.2.2.2.2.2.2.2.2.1 i (by omega)) (Nat.lt_trans hb (by omega)) ?_
      rw [cnt64 hb]
      exact And.intro trivial hp0
