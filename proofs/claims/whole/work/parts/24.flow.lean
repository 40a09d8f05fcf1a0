/-! FLOW: where no way is left, the nearest fewest nodes that cut a gate off -/
theorem pick (P : Nat → Prop) : ∃ b : Nat → Bool, ∀ v, b v = true ↔ P v := ⟨fun v => @decide (P v) (Classical.propDecidable _), fun v => by simp⟩
def fV (N : nw) (g C v : Nat) : Prop := (nB N g).testBit v = true ∧ C.testBit v = false
/-- gates drawn together with a gate -/
def C_ok (N : nw) (g C : Nat) : Prop := C.testBit g = true ∧ (∀ c, C.testBit c = true → isG N c = true ∧ (c = g ∨ ((nB N g).testBit c = true ∧ ∃ p, C.testBit p = true ∧ (sM N p).testBit c = true))) ∧ ∀ u v, (nB N g).testBit u = true → (sM N u).testBit v = true → C.testBit v = true → C.testBit u = true
def fl_ok (N : nw) (g C : Nat) (t : Nat → Nat) (e : Nat → Nat → Nat) (s : Nat → Nat) : Prop :=
  (∀ v, s v ≠ 0 → fV N g C v ∧ ∃ c, C.testBit c = true ∧ (sM N c).testBit v = true) ∧ (∀ u v, e u v ≠ 0 → fV N g C u ∧ (sM N u).testBit v = true ∧ fV N g C v) ∧
  (∀ v, s v + fb_sm (fun u => e u v) 40 = t v) ∧ (∀ u, isG N u = true → fb_sm (fun v => e u v) 40 = t u) ∧ ∀ v, t v ≤ 1
def rs_cl (N : nw) (C : Nat) (t : Nat → Nat) (e : Nat → Nat → Nat) (I O : Nat → Prop) : Prop :=
  (∀ c v, C.testBit c = true → (sM N c).testBit v = true → C.testBit v = false → I v) ∧ (∀ u v, O u → (sM N u).testBit v = true → I v) ∧ (∀ v, I v → t v = 0 → O v) ∧ (∀ u v, I v → e u v ≠ 0 → O u) ∧ (∀ u, O u → t u ≠ 0 → I u)
def nearC (N : nw) (g C U : Nat) : Prop := Sep N g U ∧ (∀ j, U.testBit j = true → C.testBit j = false) ∧ ∀ T, Sep N g T → (∀ j, T.testBit j = true → C.testBit j = false) → cnt U 40 ≤ cnt T 40 ∧ (cnt T 40 = cnt U 40 → ∀ i, (rch N g U).testBit i = true → (rch N g T).testBit i = true)
theorem C_in {N : nw} (hok : nw_ok N) {g C T : Nat} (hC : C_ok N g C) (hT : ∀ j, T.testBit j = true → C.testBit j = false) : ∀ c, C.testBit c = true → (rch N g T).testBit c = true := by
  have key : ∀ m c, g - c = m → C.testBit c = true → (rch N g T).testBit c = true := by
    intro m
    induction m using Nat.strongRecOn with
    | ind m ih =>
      intro c hm hc
      rcases (hC.2.1 c hc).2 with rfl | ⟨hb, p, hp, hs⟩
      · exact rch_self N _ T
      · have hlt := sM_lt hok hs
        have hcg := nB_lt hok g c hb
        have hpg : p ≤ g := by
          rcases (hC.2.1 p hp).2 with e | ⟨hb2, -⟩
          · omega
          · have := nB_lt hok g p hb2; omega
        refine rch_closed hok (ih (g - p) (by omega) p rfl hp) hs ?_
        cases ht : T.testBit c with
        | false => rfl
        | true => have := hT c ht; rw [hc] at this; cases this
  exact fun c hc => key _ c rfl hc
theorem cutsum {N : nw} {g C : Nat} {t : Nat → Nat} {e : Nat → Nat → Nat} {s : Nat → Nat} (hf : fl_ok N g C t e s) (I O : Nat → Bool) (ha : ∀ v, s v ≠ 0 → I v = true) (hb : ∀ u, O u = true → isG N u = true) (hc : ∀ u v, O u = true → e u v ≠ 0 → I v = true) :
    fb_sm s 40 + fb_sm (fun u => if O u then t u else 0) 40 + fb_sm (fun v => if I v then fb_sm (fun u => if O u then 0 else e u v) 40 else 0) 40 = fb_sm (fun v => if I v then t v else 0) 40 := by
  obtain ⟨h1, h2, h3, h4, h5⟩ := hf
  have e1 : fb_sm (fun v => if I v then t v else 0) 40 = fb_sm s 40 + fb_sm (fun v => if I v then fb_sm (fun u => e u v) 40 else 0) 40 := by
    rw [← fb_sm_add]
    apply fb_sm_cong
    intro v _
    cases hI : I v with
    | true => simp only [if_true]; exact (h3 v).symm
    | false =>
      have : s v = 0 := by
        cases hs : s v with
        | zero => rfl
        | succ q => have := ha v (by omega); rw [hI] at this; cases this
      simp [this]
  have e2 : fb_sm (fun v => if I v then fb_sm (fun u => e u v) 40 else 0) 40 = fb_sm (fun v => fb_sm (fun u => if O u then e u v else 0) 40) 40 + fb_sm (fun v => if I v then fb_sm (fun u => if O u then 0 else e u v) 40 else 0) 40 := by
    rw [← fb_sm_add]
    apply fb_sm_cong
    intro v _
    cases hI : I v with
    | true =>
      simp only [if_true]
      rw [sm_if O (fun u => e u v) 40]
    | false =>
      have : fb_sm (fun u => if O u then e u v else 0) 40 = 0 := by
        rw [← sm_0 40]
        apply fb_sm_cong
        intro u _
        cases hO : O u with
        | false => rfl
        | true =>
          simp only [if_true]
          cases he : e u v with
          | zero => rfl
          | succ q => have := hc u v hO (by omega); rw [hI] at this; cases this
      simp [this]
  have e3 : fb_sm (fun v => fb_sm (fun u => if O u then e u v else 0) 40) 40 = fb_sm (fun u => if O u then t u else 0) 40 := by
    rw [sm_swap (fun u v => if O u then e u v else 0) 40 40]
    apply fb_sm_cong
    intro u _
    cases hO : O u with
    | true => simp only [if_true]; exact h4 u (hb u hO)
    | false => simp only [Bool.false_eq_true, if_false]; exact sm_0 40
  rw [e1, e2, e3]
  omega
theorem sm_le {f h : Nat → Nat} {n : Nat} (H : ∀ k, k < n → f k ≤ h k) : fb_sm f n ≤ fb_sm h n := fb_sm_le H
theorem flow_near {N : nw} (hok : nw_ok N) {g C : Nat} (hC : C_ok N g C) {t : Nat → Nat} {e : Nat → Nat → Nat} {s : Nat → Nat} (hf : fl_ok N g C t e s) {I O : Nat} (hcl : rs_cl N C t e (fun v => I.testBit v = true) (fun v => O.testBit v = true)) (hI : ∀ v, I.testBit v = true → fV N g C v) (hO : ∀ v, O.testBit v = true → fV N g C v ∧ isG N v = true)
    (hmin : ∀ I' O' : Nat → Prop, rs_cl N C t e I' O' → (∀ v, I.testBit v = true → I' v) ∧ ∀ v, O.testBit v = true → O' v) : nearC N g C (sD I O) ∧ cnt (sD I O) 40 = fb_sm s 40 := by
  obtain ⟨r1, r2, r3, r4, r5⟩ := hcl
  dsimp only at r1 r2 r3 r4 r5
  -- how many there are
  have hcnt : cnt (sD I O) 40 = fb_sm s 40 := by
    have h1 := cutsum hf (fun v => I.testBit v) (fun v => O.testBit v) (fun v hv => by
      obtain ⟨hv2, c, hc, hs⟩ := hf.1 v hv
      exact r1 c v hc hs hv2.2) (fun u hu => (hO u hu).2) (fun u v hu he => r2 u v hu (hf.2.1 u v he).2.1)
    have h2 : fb_sm (fun v => if I.testBit v then fb_sm (fun u => if O.testBit u then 0 else e u v) 40 else 0) 40 = 0 := by
      rw [← sm_0 40]
      apply fb_sm_cong
      intro v _
      cases hv : I.testBit v with
      | false => rfl
      | true =>
        simp only [if_true]
        rw [← sm_0 40]
        apply fb_sm_cong
        intro u _
        cases hu : O.testBit u with
        | true => rfl
        | false =>
          simp only [Bool.false_eq_true, if_false]
          cases he : e u v with
          | zero => rfl
          | succ q => have := r4 u v hv (by omega); rw [hu] at this; cases this
    have h3 : fb_sm (fun v => if I.testBit v then t v else 0) 40 = fb_sm (fun v => if O.testBit v then t v else 0) 40 + cnt (sD I O) 40 := by
      rw [cnt_sm, ← fb_sm_add]
      apply fb_sm_cong
      intro v _
      rw [sD_bit]
      cases hv : I.testBit v with
      | true =>
        cases hu : O.testBit v with
        | true => simp
        | false =>
          simp
          have h5 := hf.2.2.2.2 v
          have h6 : t v ≠ 0 := fun q => by have := r3 v hv q; rw [hu] at this; cases this
          omega
      | false =>
        cases hu : O.testBit v with
        | false => simp
        | true =>
          simp
          cases ht : t v with
          | zero => rfl
          | succ q => have := r5 v hu (by omega); rw [hv] at this; cases this
    omega
  have hUC : ∀ j, (sD I O).testBit j = true → C.testBit j = false := fun j hj => by
    rw [sD_bit] at hj
    simp at hj
    exact (hI j hj.1).2
  have hR : ∀ i, (rch N g (sD I O)).testBit i = true → C.testBit i = true ∨ O.testBit i = true := by
    refine rch_min (fun i => C.testBit i = true ∨ O.testBit i = true) (Or.inl hC.1) (fun i j hi hs hc => ?_)
    cases hj : C.testBit j with
    | true => exact Or.inl rfl
    | false =>
      have hIj : I.testBit j = true := by
        rcases hi with hi | hi
        · exact r1 i j hi hs hj
        · exact r2 i j hi hs
      rw [sD_bit, hIj] at hc
      simp at hc
      exact Or.inr hc
  refine ⟨⟨⟨fun j hj => ?_, fun i hi => ?_⟩, hUC, fun T hT hTC => ?_⟩, hcnt⟩
  · rw [sD_bit] at hj
    simp at hj
    exact (hI j hj.1).1
  · rcases hR i hi with h | h
    · exact (hC.2.1 i h).1
    · exact (hO i h).2
  -- another set that cuts it off
  have hTC' := C_in hok hC hTC
  -- what is on the gate's side of it
  obtain ⟨I', hI'⟩ := pick fun v => fV N g C v ∧ ∃ i, (rch N g T).testBit i = true ∧ (sM N i).testBit v = true
  obtain ⟨O', hO'⟩ := pick fun v => fV N g C v ∧ (rch N g T).testBit v = true
  have hI' : ∀ v, I' v = true ↔ fV N g C v ∧ ∃ i, (rch N g T).testBit i = true ∧ (sM N i).testBit v = true := hI'
  have hO' : ∀ v, O' v = true ↔ fV N g C v ∧ (rch N g T).testBit v = true := hO'
  have hOI : ∀ v, O' v = true → I' v = true := fun v hv => by
    obtain ⟨h1, h2⟩ := (hO' v).mp hv
    rcases rch_par hok h2 with rfl | ⟨-, p, hp, hs⟩
    · have := h1.2; rw [hC.1] at this; cases this
    · exact (hI' v).mpr ⟨h1, p, hp, hs⟩
  have hIT : ∀ v, I' v = true → O' v = false → T.testBit v = true := fun v hv hn => by
    obtain ⟨h1, i, hi, hs⟩ := (hI' v).mp hv
    cases ht : T.testBit v with
    | true => rfl
    | false =>
      have := (hO' v).mpr ⟨h1, rch_closed hok hi hs ht⟩
      rw [hn] at this
      cases this
  have hVsrc : ∀ u v, fV N g C u → (sM N u).testBit v = true → fV N g C v := fun u v hu hs => by
    refine ⟨nB_trans hok g u v hu.1 hs, ?_⟩
    cases hv : C.testBit v with
    | false => rfl
    | true => have := hC.2.2 u v hu.1 hs hv; rw [hu.2] at this; cases this
  have h1 := cutsum hf I' O' (fun v hv => by
    obtain ⟨hv2, c, hc, hs⟩ := hf.1 v hv
    exact (hI' v).mpr ⟨hv2, c, hTC' c hc, hs⟩) (fun u hu => hT.2 u ((hO' u).mp hu).2) (fun u v hu he => by
    obtain ⟨q1, q2, q3⟩ := hf.2.1 u v he
    exact (hI' v).mpr ⟨q3, u, ((hO' u).mp hu).2, q2⟩)
  have h2 : fb_sm (fun v => if I' v then t v else 0) 40 = fb_sm (fun u => if O' u then t u else 0) 40 + fb_sm (fun v => if I' v && !O' v then t v else 0) 40 := by
    rw [← fb_sm_add]
    apply fb_sm_cong
    intro v _
    cases hv : I' v with
    | true => cases hu : O' v <;> simp
    | false =>
      cases hu : O' v with
      | false => simp
      | true => have := hOI v hu; rw [hv] at this; cases this
  have h3 : fb_sm (fun v => if I' v && !O' v then t v else 0) 40 ≤ fb_sm (fun v => if I' v && !O' v then 1 else 0) 40 := by
    apply sm_le
    intro v _
    cases I' v && !O' v
    · simp
    · simp; exact hf.2.2.2.2 v
  have h4 : fb_sm (fun v => if I' v && !O' v then 1 else 0) 40 ≤ cnt T 40 := by
    rw [cnt_sm]
    apply sm_le
    intro v _
    cases hv : I' v with
    | false => simp
    | true =>
      cases hu : O' v with
      | true => simp
      | false => simp [hIT v hv hu]
  refine ⟨by omega, fun heq => ?_⟩
  have h5 : fb_sm (fun v => if I' v then fb_sm (fun u => if O' u then 0 else e u v) 40 else 0) 40 = 0 := by omega
  have h6 : fb_sm (fun v => if I' v && !O' v then t v else 0) 40 = fb_sm (fun v => if I' v && !O' v then 1 else 0) 40 := by omega
  have lt40 : ∀ v, fV N g C v → v < 40 := fun v hv => by have := nB_lt_n hok hv.1; have := hok.1; omega
  -- all of it is full
  have h7 : ∀ v, I' v = true → O' v = false → t v = 1 := fun v hv hu => by
    have hv40 := lt40 v ((hI' v).mp hv).1
    have h8 : fb_sm (fun v => (if I' v && !O' v then 1 else 0) - (if I' v && !O' v then t v else 0)) 40 = 0 := by
      have h9 : fb_sm (fun v => (if I' v && !O' v then 1 else 0) - (if I' v && !O' v then t v else 0)) 40 + fb_sm (fun v => if I' v && !O' v then t v else 0) 40 = fb_sm (fun v => if I' v && !O' v then 1 else 0) 40 := by
        rw [← fb_sm_add]
        apply fb_sm_cong
        intro w _
        have := hf.2.2.2.2 w
        cases I' w && !O' w
        · simp
        · simp; omega
      omega
    have h9 := fb_sm_zero h8 v hv40
    simp only [hv, hu, Bool.not_false, Bool.and_self, if_true] at h9
    have := hf.2.2.2.2 v
    omega
  have hcl' : rs_cl N C t e (fun v => I' v = true) (fun v => O' v = true) := by
    refine ⟨fun c v hc hs hv => ?_, fun u v hu hs => ?_, fun v hv ht => ?_, fun u v hv he => ?_, fun u hu _ => hOI u hu⟩
    · refine (hI' v).mpr ⟨⟨?_, hv⟩, c, hTC' c hc, hs⟩
      rcases (hC.2.1 c hc).2 with rfl | ⟨hb, -⟩
      · exact nB_src hok hs
      · exact nB_trans hok g c v hb hs
    · obtain ⟨q1, q2⟩ := (hO' u).mp hu
      exact (hI' v).mpr ⟨hVsrc u v q1 hs, u, q2, hs⟩
    · cases hu : O' v with
      | true => exact hu
      | false => have := h7 v hv hu; omega
    · cases hu : O' u with
      | true => exact hu
      | false =>
        have hv40 := lt40 v ((hI' v).mp hv).1
        have hu40 := lt40 u (hf.2.1 u v he).1
        have h8 := fb_sm_zero h5 v hv40
        simp only [hv, if_true] at h8
        have h9 := fb_sm_zero h8 u hu40
        simp only [hu, Bool.false_eq_true, if_false] at h9
        exact absurd h9 he
  intro i hi
  rcases hR i hi with h | h
  · exact hTC' i h
  · exact ((hO' i).mp ((hmin _ _ hcl').2 i h)).2
/-- there is just one -/
theorem nearC_one {N : nw} (hok : nw_ok N) {g C U W : Nat} (hg : isG N g = true) (hU : nearC N g C U) (hW : nearC N g C W) : U = W := by
  have c1 := (hU.2.2 W hW.1 hW.2.1).1
  have c2 := (hW.2.2 U hU.1 hU.2.1).1
  have hc : cnt U 40 = cnt W 40 := by omega
  have r1 := (hU.2.2 W hW.1 hW.2.1).2 hc.symm
  have r2 := (hW.2.2 U hU.1 hU.2.1).2 hc
  have hr : ∀ i, (rch N g U).testBit i = (rch N g W).testBit i := fun i => by
    cases h : (rch N g U).testBit i with
    | true => rw [r1 i h]
    | false =>
      cases h2 : (rch N g W).testBit i with
      | false => rfl
      | true => have := r2 i h2; rw [h] at this; cases this
  -- both hold the brim of what is reached, and that cuts off too
  obtain ⟨b, hB'⟩ := pick fun v => (rch N g U).testBit v = false ∧ ∃ i, (rch N g U).testBit i = true ∧ (sM N i).testBit v = true
  have hB' : ∀ v, b v = true ↔ (rch N g U).testBit v = false ∧ ∃ i, (rch N g U).testBit i = true ∧ (sM N i).testBit v = true := hB'
  have hBn : ∀ v, b v = true → v < 40 := fun v hv => by
    obtain ⟨-, i, hi, hs⟩ := (hB' v).mp hv
    have h1 := sM_lt hok hs
    have h2 := isG_lt (src_of hs).1
    have := hok.1
    omega
  have hbit : ∀ v, (mk b 40).testBit v = b v := fun v => by
    rw [mk_bit]
    cases h : b v with
    | false => simp
    | true => simp [hBn v h]
  have hBU : ∀ v, (mk b 40).testBit v = true → U.testBit v = true := fun v hv => by
    rw [hbit] at hv
    obtain ⟨h1, i, hi, hs⟩ := (hB' v).mp hv
    cases hu : U.testBit v with
    | true => rfl
    | false => have := rch_closed hok hi hs hu; rw [h1] at this; cases this
  have hBW : ∀ v, (mk b 40).testBit v = true → W.testBit v = true := fun v hv => by
    rw [hbit] at hv
    obtain ⟨h1, i, hi, hs⟩ := (hB' v).mp hv
    cases hu : W.testBit v with
    | true => rfl
    | false => have := rch_closed hok (by rw [← hr]; exact hi) hs hu; rw [← hr, h1] at this; cases this
  have hBS : Sep N g (mk b 40) := by
    refine ⟨fun j hj => hU.1.1 j (hBU j hj), ?_⟩
    intro i hi
    apply hU.1.2
    refine rch_min (N := N) (g := g) (S := mk b 40) (fun i => (rch N g U).testBit i = true) (rch_self N g U) (fun i j hi hs hc => ?_) i hi
    cases hq : (rch N g U).testBit j with
    | true => rfl
    | false =>
      have := (hB' j).mpr ⟨hq, i, hi, hs⟩
      rw [hbit, this] at hc
      cases hc
  have k1 := (hU.2.2 _ hBS (fun j hj => hU.2.1 j (hBU j hj))).1
  have k2 := (hW.2.2 _ hBS (fun j hj => hU.2.1 j (hBU j hj))).1
  have lB : mk b 40 < 2 ^ 40 := mk_lt b 40
  rw [← cnt_eq_sub lB (Sep_lt hok hU.1) hBU k1, ← cnt_eq_sub lB (Sep_lt hok hW.1) hBW k2]
