/-! the law's holds: what comes before and behind its own helper -/
abbrev ct_mthrown (C : jm_C) : Prop := ∀ (σ : jm_G) (post : Option jm_V → jm_G → Prop), post (some (jI (σ.1 38 0 0))) σ → C kX10_thrown [jR 38 0] σ post
theorem T_mthrown (L : Nat) {C : jm_C} (hC : jm_mon C) : ct_mthrown (jm_up L C) := by
  intro σ post hp
  refine jm_start rfl (Nat.le_of_ble_eq_true rfl) hC fun X hg hw => ?_
  refine hg [] 10 _ ?_
  exact And.intro trivial hp
theorem D_mthrown (L : Nat) : ∀ d, 1 ≤ d → ct_mthrown (jm_does L d) := jm_lift (h := 0) (P := fun C => ct_mthrown C) fun d hd => T_mthrown L (jm_does_mon L d)
set_option maxRecDepth 20000 in
set_option maxHeartbeats 4000000 in
theorem lw_18a {L : Nat} {C : jm_C} {post : Option jm_V → jm_G → Prop} {X : jm_S → Prop} (hg : ∀ (cut : List Nat) (n : Nat) (s : jm_S), jm_go L 11 3 iLw C post X cut n s → X s) {σ : jm_G} {i : Nat} (hi : i + 5 ≤ L) (hL : L ≤ 2560) (next : X (σ, 748, lvL i, [jR 71 0, jI (σ.1 102 0 (nI i + nI 1).toNatClampNeg), jR 0 0])) : X (σ, 740, lvL i, []) := by
  have hin : ∀ j, j < 5 → vp_in (nI i + nI j) L := fun j hj => by rw [nI_add]; exact vp_in_nI (by omega) (by omega)
  refine hg [748] 30 _ ?_
  exact And.intro (hin 1 (by omega)) next
set_option maxRecDepth 20000 in
set_option maxHeartbeats 4000000 in
theorem lw_18b {L : Nat} {C : jm_C} {post : Option jm_V → jm_G → Prop} {X : jm_S → Prop} (hg : ∀ (cut : List Nat) (n : Nat) (s : jm_S), jm_go L 11 3 iLw C post X cut n s → X s) (hw : ∀ σ pc lv lv' st, jm_le lv' lv → X (σ, pc, lv', st) → X (σ, pc, lv, st)) (h1 : ct_mholds C) (h2 : ct_mthrown C) {A : ast} {σ : jm_G} {i : Nat} (hi : i + 5 ≤ L) (hL : L ≤ 2560) (hb : bRA A σ) (hout : hoT A.1 A.2.2.1 (σ.1 102 0 (nI i + nI 1).toNatClampNeg) = false → σ.2 71 0 0 = lN (hoA A.1 A.2.2.1 A.2.2.2.1 (σ.1 102 0 (nI i + nI 1).toNatClampNeg))) (next : ∀ σ2, off 38 70 σ σ2 → bRA A σ2 → X (σ2, 1117, lvL i, [])) : X (σ, 751, lvL i, [jI (bI (hoT A.1 A.2.2.1 (σ.1 102 0 (nI i + nI 1).toNatClampNeg)))]) := by
  have hin : ∀ j, j < 5 → vp_in (nI i + nI j) L := fun j hj => by rw [nI_add]; exact vp_in_nI (by omega) (by omega)
  refine hg [1117] 60 _ ?_
  refine And.intro (hin 1 (by omega)) ?_
  refine h1 _ _ _ _ _ (σ.1 102 0 (nI i + nI 1).toNatClampNeg) σ _ hb.1 hb.2.2 fun σ2 r2 o2 t2 => ?_
  have b2 : bRA A σ2 := ⟨hb.1, cRA_off hb.2.1 (off_wide o2 (by omega) (by omega)), r2⟩
  have n2 := next σ2 o2 b2
  have e71 : σ2.2 71 0 0 = σ.2 71 0 0 := by rw [(o2 71 0 (by omega)).2]
  rw [← e71] at hout
  generalize σ.1 102 0 (nI i + nI 1).toNatClampNeg = x at t2 hout
  have fin : ∀ (a b c : Option jm_V), X (σ2, 1117, [some (jR 102 0), some (jR 0 0), some (jR 38 0), some (jR 71 0), some (jI (nI i)), a, b, c], []) := fun a b c => by
    refine hw _ _ _ [some (jR 102 0), some (jR 0 0), some (jR 38 0), some (jR 71 0), some (jI (nI i)), none, none, none] _ (by repeat' first | exact trivial | exact rfl | apply And.intro) ?_
    exact n2
  refine h2 σ2 _ ?_
  refine br_c (fun _ => ?_) (fun h => absurd (show σ2.1 38 0 0 = bI (hoT A.1 A.2.2.1 x) from t2) h)
  refine br_c (fun z => ?_) (fun z => ?_)
  · have z : bI (hoT A.1 A.2.2.1 x) = 0 := z
    have z := hout (bI_0.mp z)
    refine And.intro (show vp_in (nI 0) 1 from vp_in_nI (by omega) (by omega)) ?_
    refine br_c (fun _ => fin _ _ _) (fun h => absurd ((cmp_0 _ _).mpr ?_) h)
    exact z
  · exact fin _ _ _
