/-! the law's loop: set, isCut, and round it -/
set_option maxRecDepth 20000 in
set_option maxHeartbeats 4000000 in
theorem lw_c8 {L : Nat} {C : jm_C} {post : Option jm_V → jm_G → Prop} {X : jm_S → Prop} (hg : ∀ (cut : List Nat) (n : Nat) (s : jm_S), jm_go L 11 3 iLw C post X cut n s → X s) {f : ast → Int32} {nx : Bool → ast → ast} {A : ast} {σ : jm_G} {i : Nat} (hb : bRA A σ) (hi : i + 5 ≤ L) (hL : L ≤ 2560) (hcf : ∀ b, fC C kX9_set [jI (σ.1 102 0 (nI i + nI 1).toNatClampNeg), jI (bI b)] (fun A => jI (f A)) (nx b)) (hmf : ∀ b, fM C kX10_set [jI (σ.1 102 0 (nI i + nI 1).toNatClampNeg), jI (bI b)] (fun A => jI (f A)) (nx b)) (next : ∀ b σ2, off 0 70 σ σ2 → bRA (nx b A) σ2 → X (σ2, 1117, lvL i, [])) : X (σ, 380, lvL i, []) := by
  have hin : ∀ j, j < 5 → vp_in (nI i + nI j) L := fun j hj => by rw [nI_add]; exact vp_in_nI (by omega) (by omega)
  refine hg [1117] 90 _ ?_
  refine And.intro (hin 1 (by omega)) ?_
  refine And.intro (hin 2 (by omega)) ?_
  refine br_c (fun z => ?_) (fun z => ?_)
  · have z : σ.1 102 0 (nI i + nI 2).toNatClampNeg = 0 := z
    refine both' (hcf false) (hmf false) hb fun σ1 e1 call => ?_
    refine And.intro (hin 1 (by omega)) ?_
    refine And.intro (hin 2 (by omega)) ?_
    refine br_c (fun _ => ?_) (fun h => absurd (show σ1.1 102 0 (nI i + nI 2).toNatClampNeg = 0 by rw [e1]; exact z) h)
    refine call _ (by first | rfl | (rw [e1] <;> rfl)) _ fun σ2 o2 b2 => ?_
    exact br_c (fun _ => next false σ2 o2 b2) (fun h => absurd rfl h)
  · have z : ¬ σ.1 102 0 (nI i + nI 2).toNatClampNeg = 0 := z
    refine both' (hcf true) (hmf true) hb fun σ1 e1 call => ?_
    refine And.intro (hin 1 (by omega)) ?_
    refine And.intro (hin 2 (by omega)) ?_
    refine br_c (fun h => absurd (show σ1.1 102 0 (nI i + nI 2).toNatClampNeg = 0 from h) (by rw [e1]; exact z)) (fun _ => ?_)
    refine call _ (by first | rfl | (rw [e1] <;> rfl)) _ fun σ2 o2 b2 => ?_
    exact br_c (fun _ => next true σ2 o2 b2) (fun h => absurd rfl h)
/-- the long that isCut is asked for -/
def lgv (σ : jm_G) (i : Nat) : Int64 := ((σ.1 102 0 (nI i + nI 2).toNatClampNeg).toInt64 <<< ((nI 32).toInt64 &&& 63)) ||| ((σ.1 102 0 (nI i + nI 3).toNatClampNeg).toInt64 &&& 4294967295)
set_option maxRecDepth 20000 in
set_option maxHeartbeats 4000000 in
theorem lw_c14 {L : Nat} {C : jm_C} {post : Option jm_V → jm_G → Prop} {X : jm_S → Prop} (hg : ∀ (cut : List Nat) (n : Nat) (s : jm_S), jm_go L 11 3 iLw C post X cut n s → X s) {f : ast → Int32} {nx : ast → ast} {A : ast} {σ : jm_G} {i : Nat} (hb : bRA A σ) (hi : i + 5 ≤ L) (hL : L ≤ 2560) (hcf : fC C kX9_isCut [jI (σ.1 102 0 (nI i + nI 1).toNatClampNeg), jJ (lgv σ i)] (fun A => jI (f A)) nx) (hmf : fM C kX10_isCut [jI (σ.1 102 0 (nI i + nI 1).toNatClampNeg), jJ (lgv σ i)] (fun A => jI (f A)) nx) (next : ∀ σ2, off 0 70 σ σ2 → bRA (nx A) σ2 → X (σ2, 1117, lvL i, [])) : X (σ, 595, lvL i, []) := by
  have hin : ∀ j, j < 5 → vp_in (nI i + nI j) L := fun j hj => by rw [nI_add]; exact vp_in_nI (by omega) (by omega)
  refine hg [1117] 90 _ ?_
  refine And.intro (hin 1 (by omega)) ?_
  refine And.intro (hin 2 (by omega)) ?_
  refine And.intro (hin 3 (by omega)) ?_
  show C kX9_isCut [jR 0 0, jI (σ.1 102 0 (nI i + nI 1).toNatClampNeg), jJ (lgv σ i)] σ _
  refine both' hcf hmf hb fun σ1 e1 call => ?_
  refine And.intro (hin 1 (by omega)) ?_
  refine And.intro (hin 2 (by omega)) ?_
  refine And.intro (hin 3 (by omega)) ?_
  show C kX10_isCut [jR 38 0, jI (σ1.1 102 0 (nI i + nI 1).toNatClampNeg), jJ (lgv σ1 i)] σ1 _
  refine call _ (by unfold lgv; rw [e1]) _ fun σ2 o2 b2 => ?_
  exact br_c (fun _ => next σ2 o2 b2) (fun h => absurd rfl h)
theorem lt_sub5 {i L : Nat} (hi : i ≤ 3000) (hL : L ≤ 2560) : (nI L - nI 5 < nI i) ↔ L < i + 5 := by
  have e1 := nI_toInt (n := L) (by omega)
  have e2 := nI_toInt (n := i) (by omega)
  have e3 := nI_toInt (n := 5) (by omega)
  have e4 : (nI L - nI 5).toInt = (L : Int) - 5 := by
    rw [fb_subI (by rw [e1, e3]; omega) (by rw [e1, e3]; omega), e1, e3]
    rfl
  rw [Int32.lt_iff_toInt_lt, e4, e2]
  omega
