/-! the component's faces: map, again, signals -/
abbrev ct_cforget (C : jm_C) : Prop := ∀ (N : nw) (ch : Nat → Nat) (σ : jm_G) (post : Option jm_V → jm_G → Prop), (∀ σ', off 26 28 σ σ' → cB N ch σ' → post none σ') → C kX2_forget [jR 26 0] σ post
theorem T_cforget (L : Nat) {C : jm_C} (hC : jm_mon C) : ct_cforget (jm_up L C) := by
  intro N ch σ post hp
  refine jm_start rfl (Nat.le_of_ble_eq_true rfl) hC fun X hg hw => ?_
  refine hg [] 30 _ ?_
  refine And.intro trivial (hp _ (off_wJ (off_refl _ _ _) (by omega) (by omega)) ⟨0, by omega, rfl, fun g _ hb => ?_⟩)
  rw [Nat.zero_testBit] at hb
  cases hb
abbrev ct_follow (C : jm_C) : Prop := ∀ (N : nw) (K : Nat) (ch : Nat → Nat) (σ : jm_G) (post : Option jm_V → jm_G → Prop), nw_ok N → cN N σ → chOK N K ch → 3 ≤ K → K ≤ 6 → cV N ch σ → σ.1 0 0 7 = nI K → (∀ σ', off 26 36 σ σ' → cB N ch σ' → cL N K ch σ' → cU (clX N K ch) σ' → post none σ') → C kX9_followCover [jR 0 0] σ post
theorem T_follow (L : Nat) {C : jm_C} (hC : jm_mon C) (h1 : ct_cforget C) (h2 : ct_fillAnew C) (h3 : ct_forget C) : ct_follow (jm_up L C) := by
  intro N K ch σ post hok hN hcO hK hK6 hV h7 hp
  refine jm_start rfl (Nat.le_of_ble_eq_true rfl) hC fun X hg hw => ?_
  refine hg [] 40 _ ?_
  refine h1 N ch σ _ fun τ1 o1 b1 => ?_
  refine h2 N K ch τ1 _ _ hok (cN_off hN o1 (by omega) (by omega)) hcO hK hK6 (cV_off hV o1 (by omega)) (show τ1.1 0 0 7 = nI K by rw [(o1 0 0 (by omega)).1]; exact h7) fun τ2 o2 l2 => ?_
  refine h3 τ2 _ fun τ3 o3 u3 => ?_
  exact And.intro trivial (hp τ3 (off_trans (off_wide o1 (by omega) (by omega)) (off_trans (off_wide o2 (by omega) (by omega)) (off_wide o3 (by omega) (by omega)))) (cB_off (cB_off b1 o2 (by omega)) o3 (by omega)) (cL_off l2 o3 (by omega)) (u3 _))
theorem C_map (L : Nat) {C : jm_C} (hC : jm_mon C) (h1 : ct_cutsOfK C) (h2 : ct_takeNear C) (h3 : ct_follow C) (h4 : ct_bc C) : fC (jm_up L C) kX9_map [] (fun A => jI (anM A)) nsM := by
  intro A σ post hA hR hp
  have hp : ∀ σ', okA (nsM A) → cRA (nsM A) σ' → off 0 37 σ σ' → post (some (jI (anM A))) σ' := hp
  have h40 := hA.1.1
  refine jm_start rfl (Nat.le_of_ble_eq_true rfl) hC fun X hg hw => ?_
  obtain ⟨a1, a2, a3, a4, a5, a6, a7, a8⟩ := hR
  refine hg [] 60 _ ?_
  refine c_cutsOfK h1 hA.1 a1 hA.2.1 hA.2.2.1 a2 a5 fun τ1 o1 c1 d1 => ?_
  have hok := okA_M hA d1.2.2.2.2
  have hN1 := cN_off a1 o1 (by omega) (by omega)
  refine h2 A.1 A.2.1 (A.2.1 - 3) τ1 _ hA.1 hN1 d1 (fun j hj hgj => by rw [(o1 25 0 (by omega)).1]; exact a6 j hj hgj) fun τ2 o2 v2 => ?_
  have hN2 := cN_off hN1 o2 (by omega) (by omega)
  refine And.intro (Or.inr rfl) ?_
  have o3 : off 0 0 τ2 (wI τ2 0 0 (upd (τ2.1 0 0) 8 (nI 1))) := off_wI (off_refl _ _ _) (by omega) (by omega)
  have e7 : (wI τ2 0 0 (upd (τ2.1 0 0) 8 (nI 1))).1 0 0 7 = nI A.2.1 := by
    show τ2.1 0 0 7 = _
    rw [(o2 0 0 (by omega)).1, (o1 0 0 (by omega)).1]; exact a2
  have e8 : (wI τ2 0 0 (upd (τ2.1 0 0) 8 (nI 1))).1 0 0 8 = nI 1 := rfl
  have hN3 : cN A.1 (wI τ2 0 0 (upd (τ2.1 0 0) 8 (nI 1))) := hN2
  have v3 := cV_off v2 o3 (by omega)
  have c3 : cAll A.1 (wI τ2 0 0 (upd (τ2.1 0 0) 8 (nI 1))) := cAll_off (cAll_off c1 o2 (by omega)) o3 (by omega)
  have o4 : off 0 25 σ (wI τ2 0 0 (upd (τ2.1 0 0) 8 (nI 1))) := off_trans (off_wide o1 (by omega) (by omega)) (off_trans (off_wide o2 (by omega) (by omega)) (off_wide o3 (by omega) (by omega)))
  have f3 : (wI τ2 0 0 (upd (τ2.1 0 0) 8 (nI 1))).2 8 0 2 = lN A.2.2.2.2 := by
    show τ2.2 8 0 2 = _
    rw [(o2 8 0 (by omega)).2, (o1 8 0 (by omega)).2]; exact a4
  have p3 : cP (wI τ2 0 0 (upd (τ2.1 0 0) 8 (nI 1))) := cP_off a7 o4 (by omega)
  show C kX9_followCover [jR 0 0] (wI τ2 0 0 (upd (τ2.1 0 0) 8 (nI 1))) _
  generalize wI τ2 0 0 (upd (τ2.1 0 0) 8 (nI 1)) = τ3 at e7 e8 hN3 v3 c3 o4 f3 p3
  refine h3 A.1 A.2.1 (nea A.1 A.2.1) τ3 _ hA.1 hN3 (hok.2.2.2.2 rfl) hA.2.1 hA.2.2.1 v3 e7 fun τ4 o5 b5 l5 u5 => ?_
  have v4 := cV_off v3 o5 (by omega)
  have hT := tbs_lt hA.1 (nea A.1 A.2.1)
  refine c_bc h4 (S := tbs A.1 (nea A.1 A.2.1)) v4.2.2 (Nat.lt_trans hT (by omega)) ?_
  rw [cnt64 hT]
  refine And.intro trivial (hp τ4 hok ⟨cN_off hN3 o5 (by omega) (by omega), ?_, ?_, ?_, cAll_off c3 o5 (by omega), fun j hj hgj => ?_, cP_off p3 o5 (by omega), fun _ => ⟨v4, b5, l5, u5⟩⟩ (off_trans (off_wide o4 (by omega) (by omega)) (off_wide o5 (by omega) (by omega))))
  · rw [(o5 0 0 (by omega)).1]; exact e7
  · rw [(o5 0 0 (by omega)).1]; exact e8
  · rw [(o5 8 0 (by omega)).2]; exact f3
  · have hgj : isG A.1 j = false := hgj
    rw [v4.2.1 j hj, arv_leaf hgj]
theorem C_again (L : Nat) {C : jm_C} (hC : jm_mon C) (h1 : ct_cutsOfK C) (h2 : ct_chAgain C) (h3 : ct_follow C) (x : Int32) : fC (jm_up L C) kX9_again [jI x] (fun A => jI (anA x A)) (nsA x) := by
  intro A σ post hA hR hp
  have hp : ∀ σ', okA (nsA x A) → cRA (nsA x A) σ' → off 0 37 σ σ' → post (some (jI (anA x A))) σ' := hp
  have h40 := hA.1.1
  have hok := fun hn => okA_A hA hn x
  refine jm_start rfl (Nat.le_of_ble_eq_true rfl) hC fun X hg hw => ?_
  have hR0 := hR
  obtain ⟨a1, a2, a3, a4, a5, a6, a7, a8⟩ := hR
  unfold nsA at hp hok
  unfold anA at hp
  have no : (A.2.2.1 && wi05 x) = false → post (some (jI (-(nI 1)))) σ := fun q => by
    rw [q, if_neg (fun e => by cases e), if_neg (fun e => by cases e)] at hp
    exact hp σ hA hR0 (off_refl _ _ _)
  refine hg [] 60 _ ?_
  refine br_c (fun q => ?_) (fun q => ?_)
  · have q : σ.1 0 0 8 = 0 := q
    rw [a3] at q
    have q := bI_0.mp q
    exact And.intro trivial (no (by rw [q]; rfl))
  have q : ¬ σ.1 0 0 8 = 0 := q
  rw [a3] at q
  have q := bI_n0.mp q
  refine br_c (fun z => ?_) (fun z => ?_)
  · have z : x < nI 0 := z
    exact And.intro trivial (no (by unfold wi05; simp [z]))
  have z : ¬ x < nI 0 := z
  refine br_c (fun z2 => ?_) (fun z2 => ?_)
  · have z2 : x ≤ nI 5 := z2
    have qw : wi05 x = true := by unfold wi05; simp [z, Int32.not_lt.mpr z2]
    obtain ⟨sl, -, hsl, ex⟩ := wi_nI (a := 0) (b := 5) (by omega) (by omega) qw
    rw [q, qw, Bool.true_and, if_pos rfl, ex, nI_clamp (by omega)] at hok
    rw [q, qw, Bool.true_and, if_pos rfl, if_pos rfl, ex, nI_clamp (by omega)] at hp
    rw [ex]
    have hcO := hA.2.2.2.2 q
    obtain ⟨v0, b0, l0, u0⟩ := a8 q
    refine c_cutsOfK h1 hA.1 a1 hA.2.1 hA.2.2.1 a2 a5 fun τ1 o1 c1 d1 => ?_
    have hok := hok d1.2.2.2.2
    have hN1 := cN_off a1 o1 (by omega) (by omega)
    refine h2 A.1 A.2.1 sl (A.2.1 - 3) A.2.2.2.1 τ1 _ hA.1 hN1 hA.2.1 d1 hcO (cV_off v0 o1 (by omega)) hsl fun τ2 o2 v2 => ?_
    have hN2 := cN_off hN1 o2 (by omega) (by omega)
    have e7 : τ2.1 0 0 7 = nI A.2.1 := by rw [(o2 0 0 (by omega)).1, (o1 0 0 (by omega)).1]; exact a2
    refine h3 A.1 A.2.1 (agX A.1 A.2.1 sl A.2.2.2.1) τ2 _ hA.1 hN2 (hok.2.2.2.2 rfl) hA.2.1 hA.2.2.1 v2 e7 fun τ4 o5 b5 l5 u5 => ?_
    have v4 := cV_off v2 o5 (by omega)
    have o9 : off 10 36 σ τ4 := off_trans (off_wide o1 (by omega) (by omega)) (off_trans (off_wide o2 (by omega) (by omega)) (off_wide o5 (by omega) (by omega)))
    refine And.intro trivial (hp τ4 hok ⟨cN_off hN2 o5 (by omega) (by omega), ?_, ?_, ?_, cAll_off (cAll_off c1 o2 (by omega)) o5 (by omega), fun j hj hgj => ?_, cP_off a7 o9 (by omega), fun _ => ⟨v4, b5, l5, u5⟩⟩ (off_wide o9 (by omega) (by omega)))
    · rw [(o9 0 0 (by omega)).1]; exact a2
    · rw [(o9 0 0 (by omega)).1, a3, q]
    · rw [(o9 8 0 (by omega)).2]; exact a4
    · have hgj : isG A.1 j = false := hgj
      rw [v4.2.1 j hj, arv_leaf hgj]
  · have z2 : ¬ x ≤ nI 5 := z2
    exact And.intro trivial (no (by unfold wi05; simp [Int32.not_le.mp z2]))
theorem C_set (L : Nat) {C : jm_C} (hC : jm_mon C) (h1 : ct_isSort kX5_isInput isI C) (h2 : ct_setInput C) (x : Int32) (b : Bool) : fC (jm_up L C) kX9_set [jI x, jI (bI b)] (fun A => jI (seA A.1 A.2.2.2.2 x)) (nsS x b) := by
  intro A σ post hA hR hp
  have hp : ∀ σ', okA (nsS x b A) → cRA (nsS x b A) σ' → off 0 37 σ σ' → post (some (jI (seA A.1 A.2.2.2.2 x))) σ' := hp
  have h40 := hA.1.1
  have hok := okA_S hA x b
  refine jm_start rfl (Nat.le_of_ble_eq_true rfl) hC fun X hg hw => ?_
  unfold nsS seO at hp hok
  unfold seA at hp
  refine hg [] 40 _ ?_
  refine h1 A.1 x σ _ hA.1 hR.1 ?_
  refine br_c (fun q => ?_) (fun q => ?_)
  · have q := bI_0.mp q
    rw [q, if_neg (fun e => by cases e)] at hok
    rw [q, if_neg (fun e => by cases e), if_neg (fun e => by cases e)] at hp
    exact And.intro trivial (hp σ hok hR (off_refl _ _ _))
  · have q := bI_n0.mp q
    obtain ⟨i, hi, ex, hI⟩ := atN_t (by omega) q
    rw [q, if_pos rfl, ex, nI_clamp (by omega)] at hok
    rw [q, if_pos rfl, if_pos rfl, ex, nI_clamp (by omega)] at hp
    rw [ex]
    refine h2 A.2.2.2.2 i b σ _ hR.2.2.2.1 (onOK_lt hA.1 hA.2.2.2.1) (by omega) fun τ o1 e1 => ?_
    exact And.intro trivial (hp τ hok (cR_sig hR o1 e1) (off_wide o1 (by omega) (by omega)))
theorem C_clock (L : Nat) {C : jm_C} (hC : jm_mon C) (h1 : ct_run C) (x : Int32) : fC (jm_up L C) kX9_clock [jI x] (fun A => jI (ckA A.1 A.2.2.2.2 x)) (nsC x) := by
  intro A σ post hA hR hp
  have hp : ∀ σ', okA (nsC x A) → cRA (nsC x A) σ' → off 0 37 σ σ' → post (some (jI (ckA A.1 A.2.2.2.2 x))) σ' := hp
  have hok := okA_C hA x
  refine jm_start rfl (Nat.le_of_ble_eq_true rfl) hC fun X hg hw => ?_
  unfold nsC ckO at hp hok
  unfold ckA at hp
  have no : (decide (¬ x < nI 1) && decide (¬ nI 64 < x)) = false → post (some (jI (-(nI 1)))) σ := fun q => by
    rw [q, if_neg (fun e => by cases e)] at hok
    rw [q, if_neg (fun e => by cases e), if_neg (fun e => by cases e)] at hp
    exact hp σ hok hR (off_refl _ _ _)
  refine hg [] 40 _ ?_
  refine br_c (fun z => ?_) (fun z => ?_)
  · have z : x < nI 1 := z
    exact And.intro trivial (no (by simp [z]))
  have z : ¬ x < nI 1 := z
  refine br_c (fun z2 => ?_) (fun z2 => ?_)
  · have z2 : x ≤ nI 64 := z2
    have qw : (decide (¬ x < nI 1) && decide (¬ nI 64 < x)) = true := by simp [z, Int32.not_lt.mpr z2]
    obtain ⟨t, t1, t2, ex⟩ := wi_nI (a := 1) (b := 64) (by omega) (by omega) qw
    rw [qw, if_pos rfl, ex, nI_clamp (by omega)] at hok
    rw [qw, if_pos rfl, if_pos rfl, ex, nI_clamp (by omega)] at hp
    rw [ex]
    refine h1 A.1 A.2.2.2.2 t σ _ hA.1 hR.1 hR.2.2.2.1 (onOK_lt hA.1 hA.2.2.2.1) t1 t2 fun τ o1 e1 => ?_
    exact And.intro trivial (hp τ hok (cR_sig hR o1 e1) (off_wide o1 (by omega) (by omega)))
  · have z2 : ¬ x ≤ nI 64 := z2
    exact And.intro trivial (no (by simp [Int32.not_le.mp z2]))
theorem C_is (L : Nat) {C : jm_C} (hC : jm_mon C) (h1 : ct_isNode C) (h2 : ct_now C) (h3 : ct_has C) (x : Int32) : fC (jm_up L C) kX9_is [jI x] (fun A => jI (isA A.1 A.2.2.2.2 x)) same := by
  intro A σ post hA hR hp
  have hp : ∀ σ', okA A → cRA A σ' → off 0 37 σ σ' → post (some (jI (isA A.1 A.2.2.2.2 x))) σ' := hp
  have h40 := hA.1.1
  refine jm_start rfl (Nat.le_of_ble_eq_true rfl) hC fun X hg hw => ?_
  unfold isA at hp
  refine hg [] 40 _ ?_
  refine h1 A.1 x σ _ hA.1 hR.1 ?_
  refine br_c (fun q => ?_) (fun q => ?_)
  · have q := bI_0.mp q
    rw [q, if_neg (fun e => by cases e)] at hp
    exact And.intro trivial (hp σ hA hR (off_refl _ _ _))
  · have q := bI_n0.mp q
    obtain ⟨i, hi, ex⟩ := inN_t (by omega) q
    rw [q, if_pos rfl, ex, nI_clamp (by omega)] at hp
    rw [ex]
    refine h2 A.1 A.2.2.2.2 σ _ hA.1 hR.1 hR.2.2.2.1 (onOK_lt hA.1 hA.2.2.2.1) fun τ o1 => ?_
    have hRt := cR_sig hR (off_wide o1 (by omega) (by omega)) (by rw [(o1 8 0 (by omega)).2]; exact hR.2.2.2.1)
    have hp := hp τ hA hRt (off_wide o1 (by omega) (by omega))
    refine h3 (onM A.1 A.2.2.2.2) i τ _ (p40 (onM_lt hA.1 _)) (by omega) ?_
    rw [onM_bit, show decide (i < nN A.1) = true by simpa using hi, Bool.true_and]
    refine br_c (fun z => ?_) (fun z => ?_)
    · have z := bI_0.mp z
      rw [z] at hp
      exact And.intro trivial hp
    · have z := bI_n0.mp z
      rw [z] at hp
      exact And.intro trivial hp
theorem C_differs (L : Nat) {C : jm_C} (hC : jm_mon C) (h1 : ct_isNode C) (h2 : ct_isSort kX5_isInput isI C) (h3 : ct_changedBy C) (h4 : ct_has C) (x y : Int32) : fC (jm_up L C) kX9_differs [jI x, jI y] (fun A => jI (dfA A.1 A.2.2.2.2 x y)) same := by
  intro A σ post hA hR hp
  have hp : ∀ σ', okA A → cRA A σ' → off 0 37 σ σ' → post (some (jI (dfA A.1 A.2.2.2.2 x y))) σ' := hp
  have h40 := hA.1.1
  refine jm_start rfl (Nat.le_of_ble_eq_true rfl) hC fun X hg hw => ?_
  unfold dfA at hp
  refine hg [] 40 _ ?_
  refine h1 A.1 x σ _ hA.1 hR.1 ?_
  refine br_c (fun q => ?_) (fun q => ?_)
  · have q := bI_0.mp q
    rw [q, Bool.false_and, if_neg (fun e => by cases e)] at hp
    exact And.intro trivial (hp σ hA hR (off_refl _ _ _))
  have q := bI_n0.mp q
  rw [q, Bool.true_and] at hp
  obtain ⟨i, hi, ex⟩ := inN_t (by omega) q
  refine h2 A.1 y σ _ hA.1 hR.1 ?_
  refine br_c (fun q2 => ?_) (fun q2 => ?_)
  · have q2 := bI_0.mp q2
    rw [q2, if_neg (fun e => by cases e)] at hp
    exact And.intro trivial (hp σ hA hR (off_refl _ _ _))
  have q2 := bI_n0.mp q2
  obtain ⟨j, hj, ey, -⟩ := atN_t (by omega) q2
  rw [q2, if_pos rfl, ex, ey, nI_clamp (by omega), nI_clamp (by omega)] at hp
  rw [ex, ey]
  refine h3 A.1 A.2.2.2.2 j σ _ hA.1 hR.1 hR.2.2.2.1 (onOK_lt hA.1 hA.2.2.2.1) (by omega) fun τ o1 => ?_
  have hRt := cR_sig hR (off_wide o1 (by omega) (by omega)) (by rw [(o1 8 0 (by omega)).2]; exact hR.2.2.2.1)
  have hp := hp τ hA hRt (off_wide o1 (by omega) (by omega))
  refine h4 (onM A.1 A.2.2.2.2 ^^^ onM A.1 (A.2.2.2.2 ^^^ 2 ^ j)) i τ _ (p40 (Nat.xor_lt_two_pow (onM_lt hA.1 _) (onM_lt hA.1 _))) (by omega) ?_
  rw [Nat.testBit_xor, onM_bit, onM_bit, show decide (i < nN A.1) = true by simpa using hi, Bool.true_and, Bool.true_and]
  refine br_c (fun z => ?_) (fun z => ?_)
  · have z := bI_0.mp z
    rw [z] at hp
    exact And.intro trivial hp
  · have z := bI_n0.mp z
    rw [z] at hp
    exact And.intro trivial hp
