/-! the model's answers about cuts: rootDepth, depth, kept -/
/-- what the model holds about levels and cuts -/
def mLd (N : nw) (K : Nat) (σ : jm_G) : Prop := ∃ b, σ.1 38 0 9 = bI b ∧ (b = true → mL N K (nN N) σ)
abbrev ct_rootDepth (C : jm_C) : Prop := ∀ (N : nw) (K : Nat) (σ : jm_G) (post : Option jm_V → jm_G → Prop), nw_ok N → mN N σ → 3 ≤ K → mL N K (nN N) σ → post (some (jI (nI (mxL (lev N K) (rts N) 40)))) σ → C kX10_rootDepth [jR 38 0] σ post
theorem T_rootDepth (L : Nat) {C : jm_C} (hC : jm_mon C) (h1 : ct_mroots C) (h2 : ct_grIn C) : ct_rootDepth (jm_up L C) := by
  intro N K σ post hok hN hK hL hp
  refine jm_start rfl (Nat.le_of_ble_eq_true rfl) hC fun X hg hw => ?_
  have h40 := hok.1
  refine hg [] 30 _ ?_
  refine h1 N σ _ hok hN ?_
  refine h2 N (rts N) (lev N K) σ _ hok hN (rts_lt40 hok) (fun j hj => ?_) ?_
  · have hj := rts_lt hok hj
    exact ⟨hj, (hL.1 j hj).1, by have := lev_bound hok hK (N := N) (K := K) j; omega⟩
  · exact And.intro trivial hp
theorem mL_th {N : nw} {K n : Nat} {σ : jm_G} (h : mL N K n σ) (k : Nat) (x : Int32) : mL N K n (sF σ k x) := h
theorem mLd_th {N : nw} {K : Nat} {σ : jm_G} (h : mLd N K σ) {k : Nat} (hk : k ≠ 9) (x : Int32) : mLd N K (sF σ k x) := by
  obtain ⟨b, h1, h2⟩ := h
  exact ⟨b, by rw [sF_1, if_neg (fun e => hk e.symm)]; exact h1, h2⟩
abbrev ct_mdepth (C : jm_C) : Prop := ∀ (N : nw) (K : Nat) (σ : jm_G) (post : Option jm_V → jm_G → Prop), nw_ok N → mN N σ → 3 ≤ K → K ≤ 6 → σ.1 38 0 7 = nI K → mLd N K σ → (∀ σ', mf lyA (0 :: lyB) σ σ' → σ'.1 38 0 0 = nI 0 → mL N K (nN N) σ' → σ'.1 38 0 9 = bI true → post (some (jI (nI (mxL (lev N K) (rts N) 40)))) σ') → C kX10_depth [jR 38 0] σ post
theorem T_mdepth (L : Nat) {C : jm_C} (hC : jm_mon C) (h1 : ct_lays C) (h2 : ct_rootDepth C) : ct_mdepth (jm_up L C) := by
  intro N K σ post hok hN hK hK6 h7 hLd hp
  refine jm_start rfl (Nat.le_of_ble_eq_true rfl) hC fun X hg hw => ?_
  refine hg [] 30 _ ?_
  obtain ⟨b, b1, b2⟩ := mLd_th hLd (k := 0) (by omega) (nI 0)
  refine h1 N K b (sF σ 0 (nI 0)) _ hok (mN_sF hN (by omega) _) hK hK6 (by rw [sF_1, if_neg (by omega)]; exact h7) b1 b2 fun τ o1 o2 o3 => ?_
  have hf : mf lyA (0 :: lyB) σ τ := mf_trans (mf_sF (mf_refl _ _ _) (by decide)) (mf_wide o1 (by decide) (by decide))
  have hNt : mN N τ := mN_mf hN hf (by decide) (by decide)
  refine h2 N K τ _ hok hNt hK o2 ?_
  refine And.intro trivial (hp τ hf ?_ o2 o3)
  rw [(o1.2 0 0 (by decide)).1, sF_1, if_pos rfl]
