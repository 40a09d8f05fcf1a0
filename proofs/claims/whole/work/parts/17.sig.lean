/-! VALUES: what nodes are, as booleans; bit by bit in longs -/
def bop (k : Nat) (a b c : Bool) : Bool := match k with
  | 0 => !a
  | 1 => a && b
  | 2 => a || b
  | 3 => a ^^ b
  | 4 => !(a && b)
  | 5 => (a && b) || (!a && c)
  | _ => ((a && b) || (a && c)) || (b && c)
def gop (k : Nat) (a b c : Int64) : Int64 := match k with
  | 0 => a ^^^ (-1)
  | 1 => a &&& b
  | 2 => a ||| b
  | 3 => a ^^^ b
  | 4 => (a &&& b) ^^^ (-1)
  | 5 => (a &&& b) ||| ((a ^^^ (-1)) &&& c)
  | _ => ((a &&& b) ||| (a &&& c)) ||| (b &&& c)
def bitL (x : Int64) (p : Nat) : Bool := x.toBitVec.getLsbD p
theorem bitL_and (x y : Int64) (p : Nat) : bitL (x &&& y) p = (bitL x p && bitL y p) := by simp [bitL]
theorem bitL_or (x y : Int64) (p : Nat) : bitL (x ||| y) p = (bitL x p || bitL y p) := by simp [bitL]
theorem bitL_xor (x y : Int64) (p : Nat) : bitL (x ^^^ y) p = (bitL x p ^^ bitL y p) := by simp [bitL]
theorem bitL_m1 {p : Nat} (h : p < 64) : bitL (-1) p = true := by
  unfold bitL
  rw [show (-1 : Int64).toBitVec = BitVec.allOnes 64 from by decide, BitVec.getLsbD_allOnes]
  simpa using h
theorem bitL_lN (S p : Nat) (h : p < 64) : bitL (lN S) p = S.testBit p := by
  unfold bitL
  rw [lN_bv, BitVec.getLsbD_ofNat]
  simp [h]
theorem bitL_gop (k : Nat) (a b c : Int64) {p : Nat} (h : p < 64) : bitL (gop k a b c) p = bop k (bitL a p) (bitL b p) (bitL c p) := by
  unfold gop bop
  split <;> simp only [bitL_and, bitL_or, bitL_xor, bitL_m1 h, Bool.xor_true]
theorem bitL_ext {x y : Int64} (h : ∀ p, p < 64 → bitL x p = bitL y p) : x = y := wb_inj (BitVec.eq_of_getLsbD_eq fun i hi => h i hi)
/-- the place from which a source is read: the first, if there are fewer -/
def pl (N : nw) (i k : Nat) : Nat := nR N i (if k < ar (nK N i) then k else 0)
theorem pl_lt {N : nw} (h : nw_ok N) {i : Nat} (hi : isG N i = true) (k : Nat) : pl N i k < i := by
  unfold pl
  apply (h.2.2.1 i hi).2
  split
  · assumption
  · exact (ar_pos _).1
/-- what nodes are, by what leaves are -/
def evs (N : nw) (lf : Nat → Bool) : Nat → Nat → Bool
  | 0 => fun _ => false
  | n + 1 => fun i => if i = n then (if isG N n then bop (nK N n) (evs N lf n (pl N n 0)) (evs N lf n (pl N n 1)) (evs N lf n (pl N n 2)) else lf n) else evs N lf n i
theorem evs_succ (N : nw) (lf : Nat → Bool) (n i : Nat) : evs N lf (n + 1) i = if i = n then (if isG N n then bop (nK N n) (evs N lf n (pl N n 0)) (evs N lf n (pl N n 1)) (evs N lf n (pl N n 2)) else lf n) else evs N lf n i := rfl
def vl (N : nw) (lf : Nat → Bool) (i : Nat) : Bool := evs N lf (i + 1) i
theorem evs_vl (N : nw) (lf : Nat → Bool) : ∀ n i, i < n → evs N lf n i = vl N lf i
  | 0, _, h => absurd h (by omega)
  | n + 1, i, h => by
    by_cases e : i = n
    · subst e; rfl
    · rw [evs_succ, if_neg e, evs_vl N lf n i (by omega)]
theorem vl_leaf {N : nw} {lf : Nat → Bool} {i : Nat} (h : isG N i = false) : vl N lf i = lf i := by
  unfold vl evs
  rw [if_pos rfl, h]
  rfl
theorem vl_gate {N : nw} (hok : nw_ok N) {lf : Nat → Bool} {i : Nat} (h : isG N i = true) : vl N lf i = bop (nK N i) (vl N lf (pl N i 0)) (vl N lf (pl N i 1)) (vl N lf (pl N i 2)) := by
  show evs N lf (i + 1) i = _
  rw [evs_succ, if_pos rfl, h, if_pos rfl, evs_vl N lf i _ (pl_lt hok h 0), evs_vl N lf i _ (pl_lt hok h 1), evs_vl N lf i _ (pl_lt hok h 2)]
abbrev ct_valueOf (t : Nat) (C : jm_C) : Prop := ∀ (N : nw) (i : Nat) (σ : jm_G) (post : Option jm_V → jm_G → Prop), nw_ok N → cN N σ → isG N i = true → post (some (jJ (gop (nK N i) (σ.2 t 0 (pl N i 0)) (σ.2 t 0 (pl N i 1)) (σ.2 t 0 (pl N i 2))))) σ → C kX5_valueOf [jR 2 0, jI (nI i), jR t 0] σ post
theorem T_valueOf (L t : Nat) (ht : t = 9 ∨ t = 28) {C : jm_C} (hC : jm_mon C) : ct_valueOf t (jm_up L C) := by
  intro N i σ post hok hN hi hp
  have hlt := isG_lt hi
  have hn := hok.1
  have h7 := (hok.2.2.1 i hi).1
  obtain ⟨hk3, hs⟩ := hN.2.2.2.2.2.1 i hi
  have m0 : nI i * nI 3 = nI (i * 3) := pk_mul _ _
  have e0 : σ.1 4 0 (nI i * nI 3).toNatClampNeg = nI (pl N i 0) := by rw [m0, nI_clamp (by omega)]; exact hs 0 (by omega)
  have e1 : σ.1 4 0 (nI i * nI 3 + nI 1).toNatClampNeg = nI (pl N i 1) := by rw [nI3, nI_clamp (by omega)]; exact hs 1 (by omega)
  have e2 : σ.1 4 0 (nI i * nI 3 + nI 2).toNatClampNeg = nI (pl N i 2) := by rw [nI3, nI_clamp (by omega)]; exact hs 2 (by omega)
  have l0 := pl_lt hok hi 0
  have l1 := pl_lt hok hi 1
  have l2 := pl_lt hok hi 2
  have ek : σ.1 3 0 (nI i).toNatClampNeg = nI (nK N i) := by rw [cl40 hok hlt]; exact hk3
  have f0 : σ.2 t 0 (σ.1 4 0 (nI i * nI 3).toNatClampNeg).toNatClampNeg = σ.2 t 0 (pl N i 0) := by rw [e0, nI_clamp (by omega)]
  have f1 : σ.2 t 0 (σ.1 4 0 (nI i * nI 3 + nI 1).toNatClampNeg).toNatClampNeg = σ.2 t 0 (pl N i 1) := by rw [e1, nI_clamp (by omega)]
  have f2 : σ.2 t 0 (σ.1 4 0 (nI i * nI 3 + nI 2).toNatClampNeg).toNatClampNeg = σ.2 t 0 (pl N i 2) := by rw [e2, nI_clamp (by omega)]
  refine jm_start rfl (Nat.le_of_ble_eq_true rfl) hC fun X hg hw => ?_
  have main : X (σ, 45, [some (jR 2 0), some (jI (nI i)), some (jR t 0), some (jJ (σ.2 t 0 (pl N i 0))), none, some (jJ (σ.2 t 0 (pl N i 1))), none, some (jJ (σ.2 t 0 (pl N i 2))), none], [jI (nI (nK N i))]) := by
    refine hg [] 40 _ ?_
    have hne : ∀ j, nI (nK N i) = nI j → j < 7 → nK N i = j := fun j h hj => (nI_eq (by omega) (by omega)).mp h
    refine And.intro (fun h => ?_) (And.intro (fun h => ?_) (And.intro (fun h => ?_) (And.intro (fun h => ?_) (And.intro (fun h => ?_) (And.intro (fun h => ?_) (And.intro (fun h => ?_) trivial))))))
    · refine And.intro trivial ?_
      have h : (nI (nK N i)).toInt < 0 ∨ 5 < (nI (nK N i)).toInt := h
      rw [nI_toInt (by omega)] at h
      have e : nK N i = 6 := by omega
      rw [e] at hp
      exact hp
    · refine And.intro trivial ?_
      rw [hne 0 h (by omega)] at hp; exact hp
    · refine And.intro trivial ?_
      rw [hne 1 h (by omega)] at hp; exact hp
    · refine And.intro trivial ?_
      rw [hne 2 h (by omega)] at hp; exact hp
    · refine And.intro trivial ?_
      rw [hne 3 h (by omega)] at hp; exact hp
    · refine And.intro trivial ?_
      rw [hne 4 h (by omega)] at hp; exact hp
    · refine And.intro trivial ?_
      rw [hne 5 h (by omega)] at hp; exact hp
  rw [← f0, ← f1, ← f2, ← ek] at main
  refine hg [45] 60 _ ?_
  rcases ht with rfl | rfl
  · refine And.intro (show vp_in (nI i * nI 3) 120 by rw [m0]; exact vp_in_nI (by omega) (by omega)) ?_
    refine And.intro (show vp_in (σ.1 4 0 (nI i * nI 3).toNatClampNeg) 40 by rw [e0]; exact vp_in_nI (by omega) (by omega)) ?_
    refine And.intro (show vp_in (nI i * nI 3 + nI 1) 120 by rw [nI3]; exact vp_in_nI (by omega) (by omega)) ?_
    refine And.intro (show vp_in (σ.1 4 0 (nI i * nI 3 + nI 1).toNatClampNeg) 40 by rw [e1]; exact vp_in_nI (by omega) (by omega)) ?_
    refine And.intro (show vp_in (nI i * nI 3 + nI 2) 120 by rw [nI3]; exact vp_in_nI (by omega) (by omega)) ?_
    refine And.intro (show vp_in (σ.1 4 0 (nI i * nI 3 + nI 2).toNatClampNeg) 40 by rw [e2]; exact vp_in_nI (by omega) (by omega)) ?_
    refine And.intro (in40 hok hlt) ?_
    exact main
  · refine And.intro (show vp_in (nI i * nI 3) 120 by rw [m0]; exact vp_in_nI (by omega) (by omega)) ?_
    refine And.intro (show vp_in (σ.1 4 0 (nI i * nI 3).toNatClampNeg) 40 by rw [e0]; exact vp_in_nI (by omega) (by omega)) ?_
    refine And.intro (show vp_in (nI i * nI 3 + nI 1) 120 by rw [nI3]; exact vp_in_nI (by omega) (by omega)) ?_
    refine And.intro (show vp_in (σ.1 4 0 (nI i * nI 3 + nI 1).toNatClampNeg) 40 by rw [e1]; exact vp_in_nI (by omega) (by omega)) ?_
    refine And.intro (show vp_in (nI i * nI 3 + nI 2) 120 by rw [nI3]; exact vp_in_nI (by omega) (by omega)) ?_
    refine And.intro (show vp_in (σ.1 4 0 (nI i * nI 3 + nI 2).toNatClampNeg) 40 by rw [e2]; exact vp_in_nI (by omega) (by omega)) ?_
    refine And.intro (in40 hok hlt) ?_
    exact main
/-! Signals -/
abbrev ct_nodesOn (C : jm_C) : Prop := ∀ (N : nw) (S : Nat) (σ : jm_G) (post : Option jm_V → jm_G → Prop), nw_ok N → cN N σ → S < 2 ^ 63 → (∀ σ', off 9 9 σ σ' → post (some (jJ (lN (mk (vl N fun i => S.testBit i) (nN N))))) σ') → C kX7_nodesOn [jR 8 0, jJ (lN S)] σ post
theorem lN_low (x : Int64) : x &&& lN 1 = lN (bitL x 0).toNat := by
  apply bitL_ext
  intro p hp
  rw [bitL_and, bitL_lN _ _ hp, bitL_lN _ _ hp]
  by_cases e : p = 0
  · subst e; cases bitL x 0 <;> rfl
  · have h1 : (1 : Nat).testBit p = false := by
      rw [show (1 : Nat) = 2 ^ 0 from rfl, Nat.testBit_two_pow]; simp; omega
    cases bitL x 0
    · simp [h1]
    · simp [h1]
theorem bit_shl (b : Bool) {k : Nat} (hk : k < 64) : lN b.toNat <<< ((nI k).toInt64 &&& 63) = lN (if b then 2 ^ k else 0) := by
  rw [wb_shl _ hk]
  cases b <;> simp
theorem T_nodesOn (L : Nat) {C : jm_C} (hC : jm_mon C) (h1 : ct_has C) (h2 : ct_valueOf 9 C) : ct_nodesOn (jm_up L C) := by
  intro N S σ post hok hN hS hp
  refine jm_start rfl (Nat.le_of_ble_eq_true rfl) hC fun X hg hw => ?_
  have hn := hok.1
  refine hg [5] 20 _ ?_
  show X (σ, 5, [some (jR 8 0), some (jJ (lN S)), none, some (jJ (lN 0)), none, some (jI (nI 0))], [])
  have gen : ∀ (m k : Nat) (τ : jm_G), k + m = nN N → off 9 9 σ τ → (∀ j, j < k → bitL (τ.2 9 0 j) 0 = vl N (fun i => S.testBit i) j) → X (τ, 5, [some (jR 8 0), some (jJ (lN S)), none, some (jJ (lN (mk (vl N fun i => S.testBit i) k))), none, some (jI (nI k))], []) := by
    intro m
    induction m with
    | zero =>
      intro k τ hk ho hv
      have hNt := cN_off hN ho (by omega) (by omega)
      have hk : k = nN N := by omega
      subst hk
      refine hg [5] 40 _ ?_
      refine br_c (fun h => ?_) (fun h => ?_)
      · exact And.intro trivial (hp τ ho)
      · have h : ¬ τ.1 2 0 9 ≤ nI (nN N) := h
        rw [hNt.1, nI_leI (by omega) (by omega)] at h
        omega
    | succ m ih =>
      intro k τ hk ho hv
      have hNt := cN_off hN ho (by omega) (by omega)
      have hkn : k < nN N := by omega
      refine hg [5] 40 _ ?_
      refine br_c (fun h => ?_) (fun h => ?_)
      · have h : τ.1 2 0 9 ≤ nI k := h
        rw [hNt.1, nI_leI (by omega) (by omega)] at h
        omega
      · refine c_has h1 (S := gM N) (n := k) hNt.2.2.1 rfl (p40 (gM_lt hok)) (by omega) ?_
        rw [gM_bit]
        refine br_c (fun h3 => ?_) (fun h3 => ?_)
        · have hg0 := bI_0.mp h3
          refine And.intro (in40 hok hkn) ?_
          refine And.intro (in40 hok hkn) ?_
          have hb0 : bitL (lN S >>> ((nI k).toInt64 &&& 63)) 0 = vl N (fun i => S.testBit i) k := by
            rw [lN_shr hS (by omega), bitL_lN _ _ (by omega), vl_leaf hg0, Nat.testBit_div_two_pow]; simp
          have h9 := ih (k + 1) (wJ τ 9 0 (vp_updL (τ.2 9 0) k (lN S >>> ((nI k).toInt64 &&& 63)))) (by omega) (off_wJ ho (by omega) (by omega)) (fun j hj => by
            rw [wJ2, if_pos ⟨rfl, rfl⟩, updL_at]
            by_cases e : j = k
            · rw [if_pos e, e]; exact hb0
            · rw [if_neg e]; exact hv j (by omega))
          have hcl := cl40 hok hkn
          refine jm_eqv (X := X) h9 ?_ rfl ?_ rfl
          · show wJ τ 9 0 (vp_updL (τ.2 9 0) (nI k).toNatClampNeg (lN S >>> ((nI k).toInt64 &&& 63))) = _
            rw [hcl]
          · show [some (jR 8 0), some (jJ (lN S)), none, some (jJ (lN (mk (vl N fun i => S.testBit i) k) ||| (((vp_updL (τ.2 9 0) (nI k).toNatClampNeg (lN S >>> ((nI k).toInt64 &&& 63)) (nI k).toNatClampNeg) &&& lN 1) <<< ((nI k).toInt64 &&& 63)))), none, some (jI (nI k + nI 1))] = _
            rw [hcl, pk_uLs, lN_low, hb0, bit_shl _ (by omega), fb_orL, nI_add]
            rfl
        · have hg1 := bI_n0.mp h3
          refine h2 N k τ _ hok hNt hg1 ?_
          refine And.intro (in40 hok hkn) ?_
          refine And.intro (in40 hok hkn) ?_
          have hb0 : bitL (gop (nK N k) (τ.2 9 0 (pl N k 0)) (τ.2 9 0 (pl N k 1)) (τ.2 9 0 (pl N k 2))) 0 = vl N (fun i => S.testBit i) k := by
            rw [bitL_gop _ _ _ _ (by omega), hv _ (pl_lt hok hg1 0), hv _ (pl_lt hok hg1 1), hv _ (pl_lt hok hg1 2), ← vl_gate hok hg1]
          have h9 := ih (k + 1) (wJ τ 9 0 (vp_updL (τ.2 9 0) k (gop (nK N k) (τ.2 9 0 (pl N k 0)) (τ.2 9 0 (pl N k 1)) (τ.2 9 0 (pl N k 2))))) (by omega) (off_wJ ho (by omega) (by omega)) (fun j hj => by
            rw [wJ2, if_pos ⟨rfl, rfl⟩, updL_at]
            by_cases e : j = k
            · rw [if_pos e, e]; exact hb0
            · rw [if_neg e]; exact hv j (by omega))
          have hcl := cl40 hok hkn
          refine jm_eqv (X := X) h9 ?_ rfl ?_ rfl
          · show wJ τ 9 0 (vp_updL (τ.2 9 0) (nI k).toNatClampNeg (gop (nK N k) (τ.2 9 0 (pl N k 0)) (τ.2 9 0 (pl N k 1)) (τ.2 9 0 (pl N k 2)))) = _
            rw [hcl]
          · show [some (jR 8 0), some (jJ (lN S)), none, some (jJ (lN (mk (vl N fun i => S.testBit i) k) ||| (((vp_updL (τ.2 9 0) (nI k).toNatClampNeg (gop (nK N k) (τ.2 9 0 (pl N k 0)) (τ.2 9 0 (pl N k 1)) (τ.2 9 0 (pl N k 2))) (nI k).toNatClampNeg) &&& lN 1) <<< ((nI k).toInt64 &&& 63)))), none, some (jI (nI k + nI 1))] = _
            rw [hcl, pk_uLs, lN_low, hb0, bit_shl _ (by omega), fb_orL, nI_add]
            rfl
  exact gen (nN N) 0 σ (by omega) (off_refl _ _ _) (fun j hj => by omega)
