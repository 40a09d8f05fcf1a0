/-! the component's faces: what only asks -/
theorem F_cisCut {C : jm_C} (h : ct_cisCut C) (x : Int32) {S : Nat} (hS : S < 2 ^ 64) : fC C kX9_isCut [jI x, jJ (lN S)] (fun A => jI (bI (icA A.1 A.2.1 x S))) same := fun A σ post hA hR hp => h _ _ S x σ post hA.1 hR.1 hA.2.2.1 hR.2.1 hS (hp _ hA hR (off_refl _ _ _))
theorem C_chosen (L : Nat) {C : jm_C} (hC : jm_mon C) (h1 : ct_isSort kX5_isGate isG C) (x : Int32) : fC (jm_up L C) kX9_chosen [jI x] (fun A => jJ (lN (chA A.1 A.2.2.1 A.2.2.2.1 x))) same := by
  intro A σ post hA hR hp
  have hp : ∀ σ', okA A → cRA A σ' → off 0 37 σ σ' → post (some (jJ (lN (chA A.1 A.2.2.1 A.2.2.2.1 x)))) σ' := hp
  have hp := hp σ hA hR (off_refl _ _ _)
  have h40 := hA.1.1
  refine jm_start rfl (Nat.le_of_ble_eq_true rfl) hC fun X hg hw => ?_
  unfold chA at hp
  have a3 := hR.2.2.1
  refine hg [] 40 _ ?_
  refine br_c (fun q => ?_) (fun q => ?_)
  · have q : σ.1 0 0 8 = 0 := q
    rw [a3] at q
    have q := bI_0.mp q
    rw [q, Bool.and_false, if_neg (fun e => by cases e)] at hp
    exact And.intro trivial hp
  have q : ¬ σ.1 0 0 8 = 0 := q
  rw [a3] at q
  have q := bI_n0.mp q
  rw [q, Bool.and_true] at hp
  refine h1 A.1 x σ _ hA.1 hR.1 ?_
  refine br_c (fun z => ?_) (fun z => ?_)
  · have z := bI_0.mp z
    rw [z, if_neg (fun e => by cases e)] at hp
    exact And.intro trivial hp
  · have z := bI_n0.mp z
    obtain ⟨i, hi, ex, hgi⟩ := atN_t (by omega) z
    rw [z, if_pos rfl, ex, nI_clamp (by omega)] at hp
    rw [ex]
    refine And.intro (vp_in_nI (by omega) (by omega)) (And.intro trivial ?_)
    show post (some (jJ (σ.2 24 0 (nI i).toNatClampNeg))) σ
    rw [nI_clamp (by omega), (hR.2.2.2.2.2.2.2 q).1.1 i hgi]
    exact hp
theorem C_table (L : Nat) {C : jm_C} (hC : jm_mon C) (h1 : ct_isSort kX5_isGate isG C) (h2 : ct_has C) (h3 : ct_uses C) (h4 : ct_ccares C) (x w : Int32) : fC (jm_up L C) kX9_table [jI x, jI w] (fun A => jI (tbA A.1 A.2.1 A.2.2.1 A.2.2.2.1 x w)) same := by
  intro A σ post hA hR hp
  have hp : ∀ σ', okA A → cRA A σ' → off 0 37 σ σ' → post (some (jI (tbA A.1 A.2.1 A.2.2.1 A.2.2.2.1 x w))) σ' := hp
  have h40 := hA.1.1
  refine jm_start rfl (Nat.le_of_ble_eq_true rfl) hC fun X hg hw => ?_
  unfold tbA at hp
  have a3 := hR.2.2.1
  refine hg [] 60 _ ?_
  refine br_c (fun q => ?_) (fun q => ?_)
  · have q : σ.1 0 0 8 = 0 := q
    rw [a3] at q
    have q := bI_0.mp q
    rw [q, Bool.and_false, if_neg (fun e => by cases e)] at hp
    exact And.intro trivial (hp σ hA hR (off_refl _ _ _))
  have q : ¬ σ.1 0 0 8 = 0 := q
  rw [a3] at q
  have q := bI_n0.mp q
  rw [q, Bool.and_true] at hp
  refine h1 A.1 x σ _ hA.1 hR.1 ?_
  refine br_c (fun z => ?_) (fun z => ?_)
  · have z := bI_0.mp z
    rw [z, if_neg (fun e => by cases e)] at hp
    exact And.intro trivial (hp σ hA hR (off_refl _ _ _))
  have z := bI_n0.mp z
  obtain ⟨i, hi, ex, hgi⟩ := atN_t (by omega) z
  rw [z, if_pos rfl, ex, nI_clamp (by omega)] at hp
  rw [ex]
  have ei : (nI i).toNatClampNeg = i := nI_clamp (by omega)
  have hin : vp_in (nI i) 40 := vp_in_nI (by omega) (by omega)
  have hp0 := hp σ hA hR (off_refl _ _ _)
  have hcO := hA.2.2.2.2 q
  obtain ⟨⟨c1, c2, c3⟩, b1, ⟨l1, l2, l3, l4, l5, l6⟩, u1⟩ := hR.2.2.2.2.2.2.2 q
  have hT4 := tbs_lt hA.1 A.2.2.2.1
  refine And.intro (fun h => ?_) (And.intro (fun h => ?_) (And.intro (fun h => ?_) (And.intro (fun h => ?_) (And.intro (fun h => ?_) (And.intro (fun h => ?_) (And.intro (fun h => ?_) trivial))))))
  · have h : w.toInt < 0 ∨ 5 < w.toInt := h
    rw [swA_o h rfl] at hp0
    exact And.intro trivial hp0
  · have h : w = nI 0 := h
    rw [h, swA_n (by omega)] at hp0
    have hp0 : post (some (jI (bI ((tbs A.1 A.2.2.2.1).testBit i)))) σ := hp0
    refine c_has h2 (S := tbs A.1 A.2.2.2.1) (n := i) c3 rfl (p40 hT4) (by omega) ?_
    refine br_c (fun z => ?_) (fun z => ?_)
    · have z := bI_0.mp z
      rw [z] at hp0
      exact And.intro trivial hp0
    · have z := bI_n0.mp z
      rw [z] at hp0
      exact And.intro trivial hp0
  · have h : w = nI 1 := h
    rw [h, swA_n (by omega)] at hp0
    refine And.intro hin (And.intro trivial ?_)
    show post (some (jI (σ.1 25 0 (nI i).toNatClampNeg))) σ
    rw [ei, c2 i (by omega)]
    exact hp0
  · have h : w = nI 2 := h
    rw [h, swA_n (by omega)] at hp0
    refine h3 A.1 A.2.2.2.1 (tbs A.1 A.2.2.2.1) i σ _ (tbs_G _ _) hT4 c1 (fun g hgg => (hcO g hgg).1.1) c3 (by omega) ?_
    exact And.intro trivial hp0
  · have h : w = nI 3 := h
    rw [h, swA_n (by omega)] at hp0
    refine And.intro hin (And.intro trivial ?_)
    show post (some (jI (σ.1 31 0 (nI i).toNatClampNeg))) σ
    rw [ei, l2 i hi]
    exact hp0
  · have h : w = nI 4 := h
    rw [h, swA_n (by omega)] at hp0
    refine And.intro hin (And.intro trivial ?_)
    show post (some (jI (σ.1 32 0 (nI i).toNatClampNeg))) σ
    rw [ei, l3 i hi]
    exact hp0
  · have h : w = nI 5 := h
    rw [h, swA_n (by omega)] at hp
    refine h4 A.1 A.2.1 i A.2.2.2.1 σ _ hA.1 hR.1 hR.2.2.2.2.2.2.1 hcO hA.2.2.1 c1 b1 hgi fun υ o2 b2 => ?_
    exact And.intro trivial (hp υ hA (cR_con hR o2 fun _ => b2) (off_wide o2 (by omega) (by omega)))
theorem C_mapped (L : Nat) {C : jm_C} (hC : jm_mon C) (h1 : ct_bc C) (h2 : ct_roots C) (h3 : ct_grArr C) (h4 : ct_cmost C) (w : Int32) : fC (jm_up L C) kX9_mapped [jI w] (fun A => jI (mpA A.1 A.2.1 A.2.2.1 A.2.2.2.1 w)) same := by
  intro A σ post hA hR hp
  have hp : ∀ σ', okA A → cRA A σ' → off 0 37 σ σ' → post (some (jI (mpA A.1 A.2.1 A.2.2.1 A.2.2.2.1 w))) σ' := hp
  have hp0 := hp σ hA hR (off_refl _ _ _)
  have h40 := hA.1.1
  refine jm_start rfl (Nat.le_of_ble_eq_true rfl) hC fun X hg hw => ?_
  unfold mpA at hp0
  have a3 := hR.2.2.1
  refine hg [] 60 _ ?_
  refine br_c (fun q => ?_) (fun q => ?_)
  · have q : σ.1 0 0 8 = 0 := q
    rw [a3] at q
    have q := bI_0.mp q
    rw [q, if_neg (fun e => by cases e)] at hp0
    exact And.intro trivial hp0
  have q : ¬ σ.1 0 0 8 = 0 := q
  rw [a3] at q
  have q := bI_n0.mp q
  rw [q, if_pos rfl] at hp0
  have hcO := hA.2.2.2.2 q
  have hV := (hR.2.2.2.2.2.2.2 q).1
  have hL := (hR.2.2.2.2.2.2.2 q).2.2.1
  have hT4 := tbs_lt hA.1 A.2.2.2.1
  have hl := chOK_L hcO
  have hr := rts_lt40 hA.1
  refine And.intro (fun h => ?_) (And.intro (fun h => ?_) (And.intro (fun h => ?_) (And.intro (fun h => ?_) (And.intro (fun h => ?_) (And.intro (fun h => ?_) (And.intro (fun h => ?_) trivial))))))
  · have h : w.toInt < 0 ∨ 5 < w.toInt := h
    rw [swA_o h rfl] at hp0
    exact And.intro trivial hp0
  · have h : w = nI 0 := h
    rw [h, swA_n (by omega)] at hp0
    refine c_bc h1 (S := tbs A.1 A.2.2.2.1) hV.2.2 (Nat.lt_trans hT4 (by omega)) ?_
    rw [cnt64 hT4]
    exact And.intro trivial hp0
  · have h : w = nI 1 := h
    rw [h, swA_n (by omega)] at hp0
    refine h2 A.1 σ _ hA.1 hR.1 ?_
    refine h3 (rts A.1) (arv A.1 A.2.2.2.1) σ _ _ rfl hr (fun j hj => ⟨hV.2.1 j (bit_lt hr hj), by have := arv_le hl j; have := bit_lt hr hj; omega⟩) ?_
    exact And.intro trivial hp0
  · have h : w = nI 2 := h
    rw [h, swA_n (by omega)] at hp0
    refine And.intro trivial ?_
    show post (some (jI (σ.1 29 0 9))) σ
    rw [hL.2.2.2.1]
    exact hp0
  · have h : w = nI 3 := h
    rw [h, swA_n (by omega)] at hp0
    refine h4 A.1 A.2.1 A.2.2.2.1 σ _ hA.1 hV hL ?_
    exact And.intro trivial hp0
  · have h : w = nI 4 := h
    rw [h, swA_n (by omega)] at hp0
    refine And.intro trivial ?_
    show post (some (jI (σ.1 29 0 10))) σ
    rw [hL.2.2.2.2.1.1]
    exact hp0
  · have h : w = nI 5 := h
    rw [h, swA_n (by omega)] at hp0
    have hpk : (clX A.1 A.2.1 A.2.2.2.1).2.2.2.2 < 2 ^ 40 := lt40 (Nat.le_refl 40) (fun z hz => clR_pk 40 z hz)
    refine c_bc h1 (S := (clX A.1 A.2.1 A.2.2.2.1).2.2.2.2) hL.2.2.2.2.2 (Nat.lt_trans hpk (by omega)) ?_
    rw [cnt64 hpk]
    exact And.intro trivial hp0
theorem C_cell (L : Nat) {C : jm_C} (hC : jm_mon C) (h1 : ct_isCell C) (h2 : ct_nth C) (h3 : ct_bc C) (x w : Int32) : fC (jm_up L C) kX9_cell [jI x, jI w] (fun A => jI (ceA A.1 A.2.1 A.2.2.1 A.2.2.2.1 x w)) same := by
  intro A σ post hA hR hp
  have hp : ∀ σ', okA A → cRA A σ' → off 0 37 σ σ' → post (some (jI (ceA A.1 A.2.1 A.2.2.1 A.2.2.2.1 x w))) σ' := hp
  have hp0 := hp σ hA hR (off_refl _ _ _)
  have h40 := hA.1.1
  refine jm_start rfl (Nat.le_of_ble_eq_true rfl) hC fun X hg hw => ?_
  unfold ceA at hp0
  have a3 := hR.2.2.1
  refine hg [] 60 _ ?_
  refine br_c (fun q => ?_) (fun q => ?_)
  · have q : σ.1 0 0 8 = 0 := q
    rw [a3] at q
    have q := bI_0.mp q
    rw [q, Bool.false_and, if_neg (fun e => by cases e)] at hp0
    exact And.intro trivial hp0
  have q : ¬ σ.1 0 0 8 = 0 := q
  rw [a3] at q
  have q := bI_n0.mp q
  rw [q, Bool.true_and] at hp0
  have hcO := hA.2.2.2.2 q
  have hcl : clC (clX A.1 A.2.1 A.2.2.2.1) σ := (hR.2.2.2.2.2.2.2 q).2.2.1.2.2.2.2.1
  obtain ⟨hB, hs4⟩ := clX_B hA.1 hcO
  generalize clX A.1 A.2.1 A.2.2.2.1 = s at hp0 hcl hB hs4
  refine h1 s.1 x σ _ hcl.1 ?_
  refine br_c (fun z => ?_) (fun z => ?_)
  · have z := bI_0.mp z
    rw [z, if_neg (fun e => by cases e)] at hp0
    exact And.intro trivial hp0
  have z := bI_n0.mp z
  obtain ⟨i, hi, ex⟩ := inN_t (by omega) z
  rw [z, if_pos rfl, ex, nI_clamp (by omega)] at hp0
  rw [ex]
  have ei : (nI i).toNatClampNeg = i := nI_clamp (by omega)
  have hin : vp_in (nI i) 40 := vp_in_nI (by omega) (by omega)
  obtain ⟨d1, d2, d3⟩ := hcl.2 i hi
  obtain ⟨g1, g2, g3⟩ := hB i
  have n1 : ∀ (y : Int32) (P : Option jm_V → jm_G → Prop), P (some (jI (nthI (s.2.1 i) y))) σ → C kX9_nthOf [jJ (σ.2 33 0 (nI i).toNatClampNeg), jI y] σ P := fun y P hP => by
    rw [ei, d1]
    exact h2 (s.2.1 i) y σ P (p40 g1) hP
  have n2 : ∀ (y : Int32) (P : Option jm_V → jm_G → Prop), P (some (jI (nthI (s.2.2.1 i) y))) σ → C kX9_nthOf [jJ (σ.2 34 0 (nI i).toNatClampNeg), jI y] σ P := fun y P hP => by
    rw [ei, d2]
    exact h2 (s.2.2.1 i) y σ P (p40 g2) hP
  refine And.intro (fun h => ?_) (And.intro (fun h => ?_) (And.intro (fun h => ?_) (And.intro (fun h => ?_) (And.intro (fun h => ?_) (And.intro (fun h => ?_) trivial)))))
  · have h : w.toInt < 0 ∨ 4 < w.toInt := h
    rw [swA_o h rfl] at hp0
    exact And.intro trivial hp0
  · have h : w = nI 0 := h
    rw [h, swA_n (by omega)] at hp0
    refine And.intro hin (n1 w _ ?_)
    rw [h]
    exact And.intro trivial hp0
  · have h : w = nI 1 := h
    rw [h, swA_n (by omega)] at hp0
    refine And.intro hin (n1 w _ ?_)
    rw [h]
    exact And.intro trivial hp0
  · have h : w = nI 2 := h
    rw [h, swA_n (by omega)] at hp0
    refine And.intro hin (n2 (w - nI 2) _ ?_)
    rw [h, show nI 2 - nI 2 = nI 0 by decide]
    exact And.intro trivial hp0
  · have h : w = nI 3 := h
    rw [h, swA_n (by omega)] at hp0
    refine And.intro hin (n2 (w - nI 2) _ ?_)
    rw [h, show nI 3 - nI 2 = nI 1 by decide]
    exact And.intro trivial hp0
  · have h : w = nI 4 := h
    rw [h, swA_n (by omega)] at hp0
    refine And.intro hin ?_
    refine c_bc h3 (S := cuI s i) (show σ.2 35 0 (nI i).toNatClampNeg = _ by rw [ei]; exact d3) (Nat.lt_trans (cuI_lt hB i) (by omega)) ?_
    rw [cnt64 (cuI_lt hB i)]
    exact And.intro trivial hp0
theorem C_clusters (L : Nat) {C : jm_C} (hC : jm_mon C) (h1 : ct_isLim C) (h2 : ct_cfill C) (x y : Int32) : fC (jm_up L C) kX9_clusters [jI x, jI y] (fun A => jI (cuA A.1 A.2.1 A.2.2.1 A.2.2.2.1 x y)) same := by
  intro A σ post hA hR hp
  have hp : ∀ σ', okA A → cRA A σ' → off 0 37 σ σ' → post (some (jI (cuA A.1 A.2.1 A.2.2.1 A.2.2.2.1 x y))) σ' := hp
  refine jm_start rfl (Nat.le_of_ble_eq_true rfl) hC fun X hg hw => ?_
  unfold cuA at hp
  have a3 := hR.2.2.1
  have no : (A.2.2.1 && isLm x y) = false → post (some (jI (-(nI 1)))) σ := fun e => by
    rw [e, if_neg (fun e => by cases e)] at hp
    exact hp σ hA hR (off_refl _ _ _)
  refine hg [] 60 _ ?_
  refine br_c (fun q => ?_) (fun q => ?_)
  · have q : σ.1 0 0 8 = 0 := q
    rw [a3] at q
    have q := bI_0.mp q
    exact And.intro trivial (no (by rw [q]; rfl))
  have q : ¬ σ.1 0 0 8 = 0 := q
  rw [a3] at q
  have q := bI_n0.mp q
  refine h1 x y σ _ ?_
  refine br_c (fun z => ?_) (fun z => ?_)
  · have z := bI_0.mp z
    exact And.intro trivial (no (by rw [z, Bool.and_false]))
  have z := bI_n0.mp z
  obtain ⟨a, b, hx, hy, ha1, ha, hb1, hb⟩ := isLm_t z
  rw [q, z, Bool.true_and, if_pos rfl, cuF_n hx hy ha hb] at hp
  rw [hx, hy]
  obtain ⟨hB, hs4⟩ := clX_B hA.1 (hA.2.2.2.2 q)
  obtain ⟨v1, b1, l1, u1⟩ := hR.2.2.2.2.2.2.2 q
  refine h2 _ b a σ _ l1.2.2.2.2.1 hB hs4 u1 ha1 ha hb fun τ o1 u2 e1 e2 => ?_
  refine And.intro trivial ?_
  show post (some (jI (τ.1 36 0 2))) τ
  rw [e1]
  exact hp τ hA (cR_clu hR o1 fun _ => u2) (off_wide o1 (by omega) (by omega))
theorem C_cluster (L : Nat) {C : jm_C} (hC : jm_mon C) (h1 : ct_isLim C) (h2 : ct_isCell C) (h3 : ct_cfill C) (x y w : Int32) : fC (jm_up L C) kX9_cluster [jI x, jI y, jI w] (fun A => jI (cuB A.1 A.2.1 A.2.2.1 A.2.2.2.1 x y w)) same := by
  intro A σ post hA hR hp
  have hp : ∀ σ', okA A → cRA A σ' → off 0 37 σ σ' → post (some (jI (cuB A.1 A.2.1 A.2.2.1 A.2.2.2.1 x y w))) σ' := hp
  refine jm_start rfl (Nat.le_of_ble_eq_true rfl) hC fun X hg hw => ?_
  unfold cuB at hp
  have a3 := hR.2.2.1
  have no : ((A.2.2.1 && isLm x y) && inN (clX A.1 A.2.1 A.2.2.2.1).1 w) = false → post (some (jI (-(nI 1)))) σ := fun e => by
    rw [e, if_neg (fun e => by cases e)] at hp
    exact hp σ hA hR (off_refl _ _ _)
  refine hg [] 60 _ ?_
  refine br_c (fun q => ?_) (fun q => ?_)
  · have q : σ.1 0 0 8 = 0 := q
    rw [a3] at q
    have q := bI_0.mp q
    exact And.intro trivial (no (by rw [q]; rfl))
  have q : ¬ σ.1 0 0 8 = 0 := q
  rw [a3] at q
  have q := bI_n0.mp q
  refine h1 x y σ _ ?_
  refine br_c (fun z => ?_) (fun z => ?_)
  · have z := bI_0.mp z
    exact And.intro trivial (no (by rw [z, Bool.and_false, Bool.false_and]))
  have z := bI_n0.mp z
  obtain ⟨a, b, hx, hy, ha1, ha, hb1, hb⟩ := isLm_t z
  obtain ⟨hB, hs4⟩ := clX_B hA.1 (hA.2.2.2.2 q)
  obtain ⟨v1, b1, l1, u1⟩ := hR.2.2.2.2.2.2.2 q
  have hcl : clC (clX A.1 A.2.1 A.2.2.2.1) σ := l1.2.2.2.2.1
  refine h2 (clX A.1 A.2.1 A.2.2.2.1).1 w σ _ hcl.1 ?_
  refine br_c (fun z2 => ?_) (fun z2 => ?_)
  · have z2 := bI_0.mp z2
    exact And.intro trivial (no (by rw [z2, Bool.and_false]))
  have z2 := bI_n0.mp z2
  obtain ⟨i, hi, ew⟩ := inN_t (by omega) z2
  rw [q, z, z2, Bool.true_and, Bool.true_and, if_pos rfl, cuF_n hx hy ha hb, ew, nI_clamp (by omega)] at hp
  rw [hx, hy]
  refine h3 _ b a σ _ hcl hB hs4 u1 ha1 ha hb fun τ o1 u2 e1 e2 => ?_
  refine And.intro (by rw [ew]; exact vp_in_nI (by omega) (by omega)) (And.intro trivial ?_)
  show post (some (jI (τ.1 37 0 w.toNatClampNeg))) τ
  rw [ew, nI_clamp (by omega), e2 i hi]
  exact hp τ hA (cR_clu hR o1 fun _ => u2) (off_wide o1 (by omega) (by omega))
theorem C_cross (L : Nat) {C : jm_C} (hC : jm_mon C) (h1 : ct_isLim C) (h2 : ct_cfill C) (h3 : ct_ccross C) (x y : Int32) : fC (jm_up L C) kX9_cross [jI x, jI y] (fun A => jI (cuC A.1 A.2.1 A.2.2.1 A.2.2.2.1 x y)) same := by
  intro A σ post hA hR hp
  have hp : ∀ σ', okA A → cRA A σ' → off 0 37 σ σ' → post (some (jI (cuC A.1 A.2.1 A.2.2.1 A.2.2.2.1 x y))) σ' := hp
  refine jm_start rfl (Nat.le_of_ble_eq_true rfl) hC fun X hg hw => ?_
  unfold cuC at hp
  have a3 := hR.2.2.1
  have no : (A.2.2.1 && isLm x y) = false → post (some (jI (-(nI 1)))) σ := fun e => by
    rw [e, if_neg (fun e => by cases e)] at hp
    exact hp σ hA hR (off_refl _ _ _)
  refine hg [] 60 _ ?_
  refine br_c (fun q => ?_) (fun q => ?_)
  · have q : σ.1 0 0 8 = 0 := q
    rw [a3] at q
    have q := bI_0.mp q
    exact And.intro trivial (no (by rw [q]; rfl))
  have q : ¬ σ.1 0 0 8 = 0 := q
  rw [a3] at q
  have q := bI_n0.mp q
  refine h1 x y σ _ ?_
  refine br_c (fun z => ?_) (fun z => ?_)
  · have z := bI_0.mp z
    exact And.intro trivial (no (by rw [z, Bool.and_false]))
  have z := bI_n0.mp z
  obtain ⟨a, b, hx, hy, ha1, ha, hb1, hb⟩ := isLm_t z
  rw [q, z, Bool.true_and, if_pos rfl, cuF_n hx hy ha hb] at hp
  rw [hx, hy]
  obtain ⟨hB, hs4⟩ := clX_B hA.1 (hA.2.2.2.2 q)
  obtain ⟨v1, b1, l1, u1⟩ := hR.2.2.2.2.2.2.2 q
  have hcl : clC (clX A.1 A.2.1 A.2.2.2.1) σ := l1.2.2.2.2.1
  obtain ⟨hI, h0⟩ := ouF_ok (nets := b) (most := a) hB hs4 ha1
  refine h2 _ b a σ _ hcl hB hs4 u1 ha1 ha hb fun τ o1 u2 e1 e2 => ?_
  refine h3 (clX A.1 A.2.1 A.2.2.2.1) (ouF (clX A.1 A.2.1 A.2.2.2.1) b a).2.2.1 τ _ (clC_off hcl o1 (by omega)) hB hs4 (fun c hc => ⟨e2 c hc, ?_⟩) ?_
  · have t1 := hI.2.1 c hc (by rw [h0, Nat.zero_testBit])
    have t2 := hI.2.2.2.2.2
    omega
  · exact And.intro trivial (hp τ hA (cR_clu hR o1 fun _ => u2) (off_wide o1 (by omega) (by omega)))
theorem C_comes (L : Nat) {C : jm_C} (hC : jm_mon C) (h1 : ct_isNode C) (h2 : ct_byTab C) (h3 : ct_has C) (x : Int32) : fC (jm_up L C) kX9_comes [jI x] (fun A => jI (cmA A.1 A.2.2.1 A.2.2.2.1 A.2.2.2.2 x)) same := by
  intro A σ post hA hR hp
  have hp : ∀ σ', okA A → cRA A σ' → off 0 37 σ σ' → post (some (jI (cmA A.1 A.2.2.1 A.2.2.2.1 A.2.2.2.2 x))) σ' := hp
  have h40 := hA.1.1
  refine jm_start rfl (Nat.le_of_ble_eq_true rfl) hC fun X hg hw => ?_
  unfold cmA at hp
  have a3 := hR.2.2.1
  refine hg [] 60 _ ?_
  refine br_c (fun q => ?_) (fun q => ?_)
  · have q : σ.1 0 0 8 = 0 := q
    rw [a3] at q
    have q := bI_0.mp q
    rw [q, Bool.and_false, if_neg (fun e => by cases e)] at hp
    exact And.intro trivial (hp σ hA hR (off_refl _ _ _))
  have q : ¬ σ.1 0 0 8 = 0 := q
  rw [a3] at q
  have q := bI_n0.mp q
  rw [q, Bool.and_true] at hp
  refine h1 A.1 x σ _ hA.1 hR.1 ?_
  refine br_c (fun z => ?_) (fun z => ?_)
  · have z := bI_0.mp z
    rw [z, if_neg (fun e => by cases e)] at hp
    exact And.intro trivial (hp σ hA hR (off_refl _ _ _))
  have z := bI_n0.mp z
  obtain ⟨i, hi, ex⟩ := inN_t (by omega) z
  rw [z, if_pos rfl, ex, nI_clamp (by omega)] at hp
  rw [ex]
  obtain ⟨v1, b1, l1, u1⟩ := hR.2.2.2.2.2.2.2 q
  refine h2 A.1 A.2.1 A.2.2.2.2 i A.2.2.2.1 σ _ _ hA.1 hR.1 hR.2.2.2.2.2.2.1 (hA.2.2.2.2 q) hA.2.2.1 v1.1 b1 hR.2.2.2.1 (onOK_lt hA.1 hA.2.2.2.1) hi fun τ o1 b2 => ?_
  have hp := hp τ hA (cR_con hR o1 fun _ => b2) (off_wide o1 (by omega) (by omega))
  refine h3 (mk (byV A.1 A.2.2.2.1 (fun i => A.2.2.2.2.testBit i)) (i + 1)) i τ _ (p40 (mk_lt40 _ (by omega))) (by omega) ?_
  rw [mk_bit, show decide (i < i + 1) = true by simp, Bool.true_and]
  refine br_c (fun z => ?_) (fun z => ?_)
  · have z := bI_0.mp z
    rw [z] at hp
    exact And.intro trivial hp
  · have z := bI_n0.mp z
    rw [z] at hp
    exact And.intro trivial hp
theorem C_slow (L : Nat) {C : jm_C} (hC : jm_mon C) (h1 : ct_onSlow C) (x : Int32) : fC (jm_up L C) kX9_slow [jI x] (fun A => jI (slA A.1 A.2.2.1 A.2.2.2.1 x)) same := by
  intro A σ post hA hR hp
  have hp : ∀ σ', okA A → cRA A σ' → off 0 37 σ σ' → post (some (jI (slA A.1 A.2.2.1 A.2.2.2.1 x))) σ' := hp
  have hp0 := hp σ hA hR (off_refl _ _ _)
  have h40 := hA.1.1
  refine jm_start rfl (Nat.le_of_ble_eq_true rfl) hC fun X hg hw => ?_
  unfold slA at hp0
  have a3 := hR.2.2.1
  refine hg [] 60 _ ?_
  refine br_c (fun q => ?_) (fun q => ?_)
  · have q : σ.1 0 0 8 = 0 := q
    rw [a3] at q
    have q := bI_0.mp q
    rw [q, Bool.false_and, if_neg (fun e => by cases e)] at hp0
    exact And.intro trivial hp0
  have q : ¬ σ.1 0 0 8 = 0 := q
  rw [a3] at q
  have q := bI_n0.mp q
  rw [q, Bool.true_and] at hp0
  have hl := chOK_L (hA.2.2.2.2 q)
  obtain ⟨v1, b1, l1, u1⟩ := hR.2.2.2.2.2.2.2 q
  refine br_c (fun z => ?_) (fun z => ?_)
  · have z : x < 0 := z
    rw [show decide (¬ x < 0) = false by simpa using z, if_neg (fun e => by cases e)] at hp0
    exact And.intro trivial hp0
  have z : ¬ x < 0 := z
  rw [show decide (¬ x < 0) = true by simpa using z, if_pos rfl] at hp0
  obtain ⟨i, hi, ex⟩ := nI_of z
  rw [ex, nI_clamp hi] at hp0
  rw [ex]
  refine br_c (fun z2 => ?_) (fun z2 => ?_)
  · have z2 : nI i < nI 40 := z2
    rw [nI_ltI (by omega) (by omega)] at z2
    refine h1 A.1 A.2.2.2.1 i σ _ hA.1 hR.1 v1.1 hl (fun j hj => v1.2.1 j (by omega)) z2 ?_
    exact And.intro trivial hp0
  · have z2 : ¬ nI i < nI 40 := z2
    rw [nI_ltI (by omega) (by omega)] at z2
    have e : slw A.1 A.2.2.2.1 i = none := by
      cases hs : slw A.1 A.2.2.2.1 i with
      | none => rfl
      | some m => have := slw_lt hl hA.1 i m hs; omega
    rw [e] at hp0
    exact And.intro trivial hp0
theorem C_count (L : Nat) {C : jm_C} (hC : jm_mon C) (h1 : ct_bc C) (h2 : ct_roots C) (w : Int32) : fC (jm_up L C) kX9_count [jI w] (fun A => jI (cnA A.1 A.2.1 A.2.2.1 w)) same := by
  intro A σ post hA hR hp
  have hp : ∀ σ', okA A → cRA A σ' → off 0 37 σ σ' → post (some (jI (cnA A.1 A.2.1 A.2.2.1 w))) σ' := hp
  have hp0 := hp σ hA hR (off_refl _ _ _)
  have h40 := hA.1.1
  refine jm_start rfl (Nat.le_of_ble_eq_true rfl) hC fun X hg hw => ?_
  unfold cnA at hp0
  obtain ⟨n1, n2, n3, n4, n5, -⟩ := hR.1
  have bc : ∀ (S : Nat) (v : Int64) (P : Option jm_V → jm_G → Prop), v = lN S → S < 2 ^ 40 → P (some (jI (nI (cnt S 40)))) σ → C kJ13_bitCount_95d88 [jJ v] σ P := fun S v P hv hS hP => by
    refine c_bc h1 hv (Nat.lt_trans hS (by omega)) ?_
    rw [cnt64 hS]
    exact hP
  refine hg [] 60 _ ?_
  refine And.intro (fun h => ?_) (And.intro (fun h => ?_) (And.intro (fun h => ?_) (And.intro (fun h => ?_) (And.intro (fun h => ?_) (And.intro (fun h => ?_) (And.intro (fun h => ?_) (And.intro (fun h => ?_) (And.intro (fun h => ?_) trivial))))))))
  · have h : w.toInt < 0 ∨ 7 < w.toInt := h
    rw [swA_o h rfl] at hp0
    exact And.intro trivial hp0
  · have h : w = nI 0 := h
    rw [h, swA_n (by omega)] at hp0
    refine And.intro trivial ?_
    show post (some (jI (σ.1 2 0 9))) σ
    rw [n1]
    exact hp0
  · have h : w = nI 1 := h
    rw [h, swA_n (by omega)] at hp0
    exact bc _ _ _ n2 (iM_lt hA.1) (And.intro trivial hp0)
  · have h : w = nI 2 := h
    rw [h, swA_n (by omega)] at hp0
    exact bc _ _ _ n3 (gM_lt hA.1) (And.intro trivial hp0)
  · have h : w = nI 3 := h
    rw [h, swA_n (by omega)] at hp0
    exact bc _ _ _ n4 (rM_lt hA.1) (And.intro trivial hp0)
  · have h : w = nI 4 := h
    rw [h, swA_n (by omega)] at hp0
    exact bc _ _ _ n5 (nO_lt hA.1) (And.intro trivial hp0)
  · have h : w = nI 5 := h
    rw [h, swA_n (by omega)] at hp0
    refine And.intro trivial ?_
    show post (some (jI (σ.1 0 0 7))) σ
    rw [hR.2.1]
    exact hp0
  · have h : w = nI 6 := h
    rw [h, swA_n (by omega)] at hp0
    have hp0 : post (some (jI (bI A.2.2.1))) σ := hp0
    refine br_c (fun z => ?_) (fun z => ?_)
    · have z : σ.1 0 0 8 = 0 := z
      rw [hR.2.2.1] at z
      have z := bI_0.mp z
      rw [z] at hp0
      exact And.intro trivial hp0
    · have z : ¬ σ.1 0 0 8 = 0 := z
      rw [hR.2.2.1] at z
      have z := bI_n0.mp z
      rw [z] at hp0
      exact And.intro trivial hp0
  · have h : w = nI 7 := h
    rw [h, swA_n (by omega)] at hp0
    refine h2 A.1 σ _ hA.1 hR.1 ?_
    exact bc _ _ _ rfl (rts_lt40 hA.1) (And.intro trivial hp0)
/-- holds, where it answers -/
theorem C_holds (L : Nat) {C : jm_C} (hC : jm_mon C) (h1 : ct_isSort kX5_isGate isG C) (h2 : ct_bitsOf C) (x : Int32) (A : ast) (σ : jm_G) (post : Option jm_V → jm_G → Prop) (hA : okA A) (hR : cRA A σ) (hT : hoT A.1 A.2.2.1 x = false) (hp : ∀ σ', cRA A σ' → off 0 37 σ σ' → post (some (jJ (lN (hoA A.1 A.2.2.1 A.2.2.2.1 x)))) σ') : jm_up L C kX9_holds [jR 0 0, jI x] σ post := by
  have h40 := hA.1.1
  refine jm_start rfl (Nat.le_of_ble_eq_true rfl) hC fun X hg hw => ?_
  unfold hoA at hp
  rw [hT, if_neg (fun e => by cases e)] at hp
  unfold hoT at hT
  have hT : (atN (nN A.1) x (isG A.1) && A.2.2.1) = true := by simpa using hT
  rw [Bool.and_eq_true] at hT
  have a3 := hR.2.2.1
  rw [hT.2] at a3
  obtain ⟨i, hi, ex, hgi⟩ := atN_t (by omega) hT.1
  refine hg [] 60 _ ?_
  refine br_c (fun q => ?_) (fun q => ?_)
  · have q : σ.1 0 0 8 = 0 := q
    rw [a3] at q
    exact absurd q (by decide)
  refine h1 A.1 x σ _ hA.1 hR.1 ?_
  rw [hT.1]
  refine br_c (fun z => absurd (show nI 1 = 0 from z) (by decide)) (fun _ => ?_)
  rw [ex, nI_clamp (by omega)] at hp
  rw [ex]
  obtain ⟨v1, b1, l1, u1⟩ := hR.2.2.2.2.2.2.2 hT.2
  refine h2 A.1 A.2.1 i A.2.2.2.1 σ _ hA.1 hR.1 hR.2.2.2.2.2.2.1 (hA.2.2.2.2 hT.2) hA.2.2.1 v1.1 b1 hgi fun τ o1 b2 => ?_
  exact And.intro trivial (hp τ (cR_con hR o1 fun _ => b2) (off_wide o1 (by omega) (by omega)))
