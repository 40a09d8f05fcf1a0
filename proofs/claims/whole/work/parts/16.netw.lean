/-! the component's Network: what writes it; values of gates -/
theorem upd_at (f : Nat → Int32) (k : Nat) (x : Int32) (j : Nat) : upd f k x j = if j = k then x else f j := by
  by_cases h : j = k
  · subst h; rw [pk_us, if_pos rfl]
  · rw [pk_un h, if_neg h]
theorem updL_at (f : Nat → Int64) (k : Nat) (x : Int64) (j : Nat) : vp_updL f k x j = if j = k then x else f j := by
  by_cases h : j = k
  · subst h; rw [pk_uLs, if_pos rfl]
  · rw [pk_uLn h, if_neg h]
abbrev ct_addInput (C : jm_C) : Prop := ∀ (N : nw) (σ : jm_G) (post : Option jm_V → jm_G → Prop), nw_ok N → cN N σ → nN N < 40 → (∀ σ', cN (addI N) σ' → off 2 7 σ σ' → post (some (jI (nI (nN N)))) σ') → C kX5_addInput [jR 2 0] σ post
theorem T_addInput (L : Nat) {C : jm_C} (hC : jm_mon C) (h1 : ct_bit C) : ct_addInput (jm_up L C) := by
  intro N σ post hok hN hn hp
  refine jm_start rfl (Nat.le_of_ble_eq_true rfl) hC fun X hg hw => ?_
  refine hg [] 40 _ ?_
  refine c_bit h1 (n := nN N) hN.1 (by omega) ?_
  refine And.intro trivial ?_
  show post (some (jI (σ.1 2 0 9))) (wI (wJ σ 2 0 (vp_updL (σ.2 2 0) 5 (σ.2 2 0 5 ||| lN (2 ^ nN N)))) 2 0 (upd (σ.1 2 0) 9 (σ.1 2 0 9 + nI 1)))
  rw [hN.1]
  refine hp _ ?_ (off_wI (off_wJ (off_refl _ _ _) (by omega) (by omega)) (by omega) (by omega))
  obtain ⟨a1, a2, a3, a4, a5, a6, a7, a8, a9, a10⟩ := hN
  refine ⟨?_, ?_, ?_, ?_, ?_, ?_, ?_, ?_, ?_, ?_⟩
  · simp only [wI1, and_self, if_true, upd_at, nI_add]; rfl
  · simp only [wI2, wJ2, and_self, if_true, updL_at, a2, fb_orL, iM_addI]
  · simp only [wI2, wJ2, and_self, if_true, updL_at, a3, gM_addI]; rfl
  · simp only [wI2, wJ2, and_self, if_true, updL_at, a4, rM_addI]; rfl
  · simp only [wI2, wJ2, and_self, if_true, updL_at, a5]; rfl
  · intro i hi; rw [isG_addI] at hi; exact a6 i hi
  · intro i hi; rw [isR_addI] at hi; exact a7 i hi
  · intro i hi; rw [sM_addI]; exact a8 i hi
  · exact a9
  · exact a10
abbrev ct_addRegister (C : jm_C) : Prop := ∀ (N : nw) (σ : jm_G) (post : Option jm_V → jm_G → Prop), nw_ok N → cN N σ → nN N < 40 → (∀ σ', cN (addR N) σ' → off 2 7 σ σ' → post (some (jI (nI (nN N)))) σ') → C kX5_addRegister [jR 2 0] σ post
theorem T_addRegister (L : Nat) {C : jm_C} (hC : jm_mon C) (h1 : ct_bit C) : ct_addRegister (jm_up L C) := by
  intro N σ post hok hN hn hp
  refine jm_start rfl (Nat.le_of_ble_eq_true rfl) hC fun X hg hw => ?_
  refine hg [] 40 _ ?_
  refine c_bit h1 (n := nN N) hN.1 (by omega) ?_
  refine And.intro (show vp_in (σ.1 2 0 9) 40 by rw [hN.1]; exact vp_in_nI hn (by omega)) ?_
  refine And.intro trivial ?_
  show post (some (jI (σ.1 2 0 9))) (wI (wI (wJ σ 2 0 (vp_updL (σ.2 2 0) 7 (σ.2 2 0 7 ||| lN (2 ^ nN N)))) 5 0 (upd (σ.1 5 0) (σ.1 2 0 9).toNatClampNeg (σ.1 2 0 9))) 2 0 (upd (σ.1 2 0) 9 (σ.1 2 0 9 + nI 1)))
  rw [hN.1, nI_clamp (by omega)]
  refine hp _ ?_ (off_wI (off_wI (off_wJ (off_refl _ _ _) (by omega) (by omega)) (by omega) (by omega)) (by omega) (by omega))
  obtain ⟨a1, a2, a3, a4, a5, a6, a7, a8, a9, a10⟩ := hN
  refine ⟨?_, ?_, ?_, ?_, ?_, ?_, ?_, ?_, ?_, ?_⟩
  · simp only [wI1, and_self, if_true, upd_at, nI_add]; rfl
  · simp only [wI2, wJ2, and_self, if_true, updL_at, a2, iM_addR]; rfl
  · simp only [wI2, wJ2, and_self, if_true, updL_at, a3, gM_addR]; rfl
  · simp only [wI2, wJ2, and_self, if_true, updL_at, a4, fb_orL, rM_addR]
  · simp only [wI2, wJ2, and_self, if_true, updL_at, a5]; rfl
  · intro i hi; rw [isG_addR] at hi; exact a6 i hi
  · intro i hi
    rw [isR_addR] at hi
    show upd (σ.1 5 0) (nN N) (nI (nN N)) i = nI (if i = nN N then nN N else nF N i)
    rw [upd_at]
    by_cases e : i = nN N
    · rw [if_pos e, if_pos e]
    · rw [if_neg e, if_neg e]; exact a7 i (by simpa [e] using hi)
  · intro i hi; rw [sM_addR]; exact a8 i hi
  · exact a9
  · exact a10
theorem sM_addG {N : nw} (k a b c i : Nat) : sM (addG N k a b c) i = if i = nN N then 2 ^ a ||| (if 1 < ar k then 2 ^ b else 0) ||| (if 2 < ar k then 2 ^ c else 0) else sM N i := by
  unfold sM
  rw [isG_addG]
  by_cases e : i = nN N
  · subst e
    have hK : nK (addG N k a b c) (nN N) = k := if_pos rfl
    have hR0 : nR (addG N k a b c) (nN N) 0 = a := if_pos rfl
    have hR1 : nR (addG N k a b c) (nN N) 1 = b := if_pos rfl
    have hR2 : nR (addG N k a b c) (nN N) 2 = c := if_pos rfl
    have har := ar_pos k
    simp only [decide_true, Bool.or_true, if_true, hK]
    by_cases q1 : 1 < ar k
    · by_cases q2 : 2 < ar k
      · have e3 : ar k = 3 := by omega
        rw [if_pos q1, if_pos q2, e3]
        simp only [sMk, hR0, hR1, hR2, Nat.zero_or]
      · have e3 : ar k = 2 := by omega
        rw [if_pos q1, if_neg q2, e3]
        simp only [sMk, hR0, hR1, Nat.zero_or, Nat.or_zero]
    · have e3 : ar k = 1 := by omega
      rw [if_neg q1, if_neg (by omega), e3]
      simp only [sMk, hR0, Nat.zero_or, Nat.or_zero]
  · have hK : nK (addG N k a b c) i = nK N i := if_neg e
    rw [if_neg e, hK, sMk_eq (N := addG N k a b c) (M := N) (fun j => if_neg e)]
    simp [e]
abbrev ct_addGate (C : jm_C) : Prop := ∀ (N : nw) (k a b c b' c' : Nat) (σ : jm_G) (post : Option jm_V → jm_G → Prop), nw_ok N → cN N σ → nN N < 40 → k < 7 → a < nN N → (1 < ar k → b < nN N) → (2 < ar k → c < nN N) → b' = (if 1 < ar k then b else a) → c' = (if 2 < ar k then c else a) → (∀ σ', cN (addG N k a b c) σ' → off 2 7 σ σ' → post (some (jI (nI (nN N)))) σ') → C kX5_addGate [jR 2 0, jI (nI k), jI (nI a), jI (nI b'), jI (nI c')] σ post
set_option maxHeartbeats 4000000 in
theorem T_addGate (L : Nat) {C : jm_C} (hC : jm_mon C) (h1 : ct_bit C) : ct_addGate (jm_up L C) := by
  intro N k a b c b' c' σ post hok hN hn hk ha hb hc hb' hc' hp
  have lb : b' < nN N := by rw [hb']; split; exact hb ‹_›; exact ha
  have lc : c' < nN N := by rw [hc']; split; exact hc ‹_›; exact ha
  refine jm_start rfl (Nat.le_of_ble_eq_true rfl) hC fun X hg hw => ?_
  refine hg [] 120 _ ?_
  refine c_bit h1 (n := nN N) hN.1 (by omega) ?_
  refine And.intro (show vp_in (σ.1 2 0 9) 40 by rw [hN.1]; exact vp_in_nI hn (by omega)) ?_
  have m3 : σ.1 2 0 9 * nI 3 = nI (nN N * 3) := by rw [hN.1, pk_mul]
  refine And.intro (show vp_in (σ.1 2 0 9 * nI 3) 120 by rw [m3]; exact vp_in_nI (by omega) (by omega)) ?_
  refine And.intro (show vp_in (σ.1 2 0 9 * nI 3 + nI 1) 120 by rw [m3, nI_add]; exact vp_in_nI (by omega) (by omega)) ?_
  refine And.intro (show vp_in (σ.1 2 0 9 * nI 3 + nI 2) 120 by rw [m3, nI_add]; exact vp_in_nI (by omega) (by omega)) ?_
  refine c_bit h1 (n := a) rfl (by omega) ?_
  refine c_bit h1 (n := b') rfl (by omega) ?_
  refine c_bit h1 (n := c') rfl (by omega) ?_
  refine And.intro (show vp_in (σ.1 2 0 9) 40 by rw [hN.1]; exact vp_in_nI hn (by omega)) ?_
  refine And.intro (show vp_in (σ.1 2 0 9) 40 by rw [hN.1]; exact vp_in_nI hn (by omega)) ?_
  refine And.intro (vp_in_nI (by omega) (by omega)) ?_
  refine And.intro (vp_in_nI (by omega) (by omega)) ?_
  refine And.intro (vp_in_nI (by omega) (by omega)) ?_
  refine And.intro (show vp_in (σ.1 2 0 9) 40 by rw [hN.1]; exact vp_in_nI hn (by omega)) ?_
  refine And.intro trivial ?_
  show post (some (jI (σ.1 2 0 9))) (wI (wJ (wJ (wI (wI (wI (wI (wJ σ 2 0 (vp_updL (σ.2 2 0) 6 (σ.2 2 0 6 ||| lN (2 ^ nN N)))) 3 0 (upd (σ.1 3 0) (σ.1 2 0 9).toNatClampNeg (nI k))) 4 0 (upd (σ.1 4 0) (σ.1 2 0 9 * nI 3).toNatClampNeg (nI a))) 4 0 (upd (upd (σ.1 4 0) (σ.1 2 0 9 * nI 3).toNatClampNeg (nI a)) (σ.1 2 0 9 * nI 3 + nI 1).toNatClampNeg (nI b'))) 4 0 (upd (upd (upd (σ.1 4 0) (σ.1 2 0 9 * nI 3).toNatClampNeg (nI a)) (σ.1 2 0 9 * nI 3 + nI 1).toNatClampNeg (nI b')) (σ.1 2 0 9 * nI 3 + nI 2).toNatClampNeg (nI c'))) 6 0 (vp_updL (σ.2 6 0) (σ.1 2 0 9).toNatClampNeg ((lN (2 ^ a) ||| lN (2 ^ b')) ||| lN (2 ^ c'))))
    7 0 (vp_updL (σ.2 7 0) (σ.1 2 0 9).toNatClampNeg ((((vp_updL (σ.2 6 0) (σ.1 2 0 9).toNatClampNeg ((lN (2 ^ a) ||| lN (2 ^ b')) ||| lN (2 ^ c')) (σ.1 2 0 9).toNatClampNeg) ||| σ.2 7 0 (nI a).toNatClampNeg) ||| σ.2 7 0 (nI b').toNatClampNeg) ||| σ.2 7 0 (nI c').toNatClampNeg))) 2 0 (upd (σ.1 2 0) 9 (σ.1 2 0 9 + nI 1)))
  rw [m3, hN.1, nI_add, nI_add, nI_clamp (show nN N < 2 ^ 31 by omega), nI_clamp (show nN N * 3 < 2 ^ 31 by omega), nI_clamp (show nN N * 3 + 1 < 2 ^ 31 by omega), nI_clamp (show nN N * 3 + 2 < 2 ^ 31 by omega), nI_clamp (show a < 2 ^ 31 by omega), nI_clamp (show b' < 2 ^ 31 by omega), nI_clamp (show c' < 2 ^ 31 by omega), pk_uLs, fb_orL, fb_orL]
  refine hp _ ?_ ?_
  · obtain ⟨a1, a2, a3, a4, a5, a6, a7, a8, a9, a10⟩ := hN
    have es : 2 ^ a ||| 2 ^ b' ||| 2 ^ c' = 2 ^ a ||| (if 1 < ar k then 2 ^ b else 0) ||| (if 2 < ar k then 2 ^ c else 0) := by
      have har := ar_pos k
      rw [hb', hc']
      by_cases q1 : 1 < ar k <;> by_cases q2 : 2 < ar k <;> simp [q1, q2]
      rw [Nat.or_assoc, Nat.or_comm (2 ^ b) (2 ^ a), ← Nat.or_assoc, Nat.or_self]
    refine ⟨?_, ?_, ?_, ?_, ?_, ?_, ?_, ?_, ?_, ?_⟩
    · rw [wI1, if_pos ⟨rfl, rfl⟩, upd_at, if_pos rfl, nI_add]; rfl
    · show vp_updL (σ.2 2 0) 6 (σ.2 2 0 6 ||| lN (2 ^ nN N)) 5 = _
      rw [updL_at, if_neg (by omega), a2, iM_addG]
    · show vp_updL (σ.2 2 0) 6 (σ.2 2 0 6 ||| lN (2 ^ nN N)) 6 = _
      rw [updL_at, if_pos rfl, a3, gM_addG, fb_orL]
    · show vp_updL (σ.2 2 0) 6 (σ.2 2 0 6 ||| lN (2 ^ nN N)) 7 = _
      rw [updL_at, if_neg (by omega), a4, rM_addG]
    · show vp_updL (σ.2 2 0) 6 (σ.2 2 0 6 ||| lN (2 ^ nN N)) 8 = _
      rw [updL_at, if_neg (by omega), a5]; rfl
    · intro i hi
      rw [isG_addG] at hi
      show upd (σ.1 3 0) (nN N) (nI k) i = nI (if i = nN N then k else nK N i) ∧ ∀ j, j < 3 → upd (upd (upd (σ.1 4 0) (nN N * 3) (nI a)) (nN N * 3 + 1) (nI b')) (nN N * 3 + 2) (nI c') (i * 3 + j) = nI (nR (addG N k a b c) i (if j < ar (if i = nN N then k else nK N i) then j else 0))
      by_cases e : i = nN N
      · subst e
        rw [if_pos rfl, upd_at, if_pos rfl]
        refine ⟨rfl, fun j hj => ?_⟩
        have har := ar_pos k
        show _ = nI (if nN N = nN N then (if (if j < ar k then j else 0) = 0 then a else if (if j < ar k then j else 0) = 1 then b else c) else nR N (nN N) (if j < ar k then j else 0))
        rw [if_pos rfl, upd_at, upd_at, upd_at]
        rcases (show j = 0 ∨ j = 1 ∨ j = 2 by omega) with rfl | rfl | rfl
        · simp [har.1]
        · rw [if_neg (by omega), if_pos rfl, hb']
          by_cases q : 1 < ar k <;> simp [q]
        · rw [if_pos rfl, hc']
          by_cases q : 2 < ar k <;> simp [q]
      · have hgi : isG N i = true := by simpa [e] using hi
        have hR : ∀ j, nR (addG N k a b c) i j = nR N i j := fun j => if_neg e
        rw [if_neg e, upd_at, if_neg e]
        refine ⟨(a6 i hgi).1, fun j hj => ?_⟩
        rw [upd_at, upd_at, upd_at, if_neg (by omega), if_neg (by omega), if_neg (by omega), hR]
        exact (a6 i hgi).2 j hj
    · intro i hi; rw [isR_addG] at hi; exact a7 i hi
    · intro i hi
      show vp_updL (σ.2 6 0) (nN N) (lN (2 ^ a ||| 2 ^ b' ||| 2 ^ c')) i = _
      rw [updL_at, sM_addG, es]
      by_cases e : i = nN N
      · rw [if_pos e, if_pos e]
      · rw [if_neg e, if_neg e]; exact a8 i hi
    · intro i hi
      show vp_updL (σ.2 7 0) (nN N) (lN (2 ^ a ||| 2 ^ b' ||| 2 ^ c') ||| σ.2 7 0 a ||| σ.2 7 0 b' ||| σ.2 7 0 c') i = lN (if i = nN N then (2 ^ a ||| nB N a) ||| (if 1 < ar k then 2 ^ b ||| nB N b else 0) ||| (if 2 < ar k then 2 ^ c ||| nB N c else 0) else nB N i)
      rw [updL_at]
      by_cases e : i = nN N
      · rw [if_pos e, if_pos e, a9 a (by omega), a9 b' (by omega), a9 c' (by omega), fb_orL, fb_orL, fb_orL, es]
        congr 1
        have har := ar_pos k
        apply set_eq
        intro z
        rw [hb', hc']
        by_cases q1 : 1 < ar k <;> by_cases q2 : 2 < ar k
        · simp only [q1, q2, if_true, Nat.testBit_or]
          cases (2 ^ a).testBit z <;> cases (2 ^ b).testBit z <;> cases (2 ^ c).testBit z <;> cases (nB N a).testBit z <;> cases (nB N b).testBit z <;> cases (nB N c).testBit z <;> rfl
        · simp only [q1, q2, if_true, if_false, Nat.testBit_or, Nat.zero_testBit]
          cases (2 ^ a).testBit z <;> cases (2 ^ b).testBit z <;> cases (nB N a).testBit z <;> cases (nB N b).testBit z <;> rfl
        · omega
        · simp only [q1, q2, if_false, Nat.testBit_or, Nat.zero_testBit]
          cases (2 ^ a).testBit z <;> cases (nB N a).testBit z <;> rfl
      · rw [if_neg e, if_neg e]; exact a9 i hi
    · exact a10
  · exact off_wI (off_wJ (off_wJ (off_wI (off_wI (off_wI (off_wI (off_wJ (off_refl _ _ _) (by omega) (by omega)) (by omega) (by omega)) (by omega) (by omega)) (by omega) (by omega)) (by omega) (by omega)) (by omega) (by omega)) (by omega) (by omega)) (by omega) (by omega)
abbrev ct_setFeed (C : jm_C) : Prop := ∀ (N : nw) (r x : Nat) (σ : jm_G) (post : Option jm_V → jm_G → Prop), nw_ok N → cN N σ → isR N r = true → x < nN N → (∀ σ', cN (setF N r x) σ' → off 2 7 σ σ' → post none σ') → C kX5_setFeed [jR 2 0, jI (nI r), jI (nI x)] σ post
theorem T_setFeed (L : Nat) {C : jm_C} (hC : jm_mon C) : ct_setFeed (jm_up L C) := by
  intro N r x σ post hok hN hr hx hp
  refine jm_start rfl (Nat.le_of_ble_eq_true rfl) hC fun X hg hw => ?_
  refine hg [] 40 _ ?_
  refine And.intro (in40 hok (isR_lt hr)) ?_
  refine And.intro trivial ?_
  show post none (wI σ 5 0 (upd (σ.1 5 0) (nI r).toNatClampNeg (nI x)))
  rw [cl40 hok (isR_lt hr)]
  refine hp _ ?_ (off_wI (off_refl _ _ _) (by omega) (by omega))
  obtain ⟨a1, a2, a3, a4, a5, a6, a7, a8, a9, a10⟩ := hN
  refine ⟨a1, a2, a3, a4, a5, a6, fun i hi => ?_, fun i hi => ?_, a9, a10⟩
  · show upd (σ.1 5 0) r (nI x) i = nI (if i = r then x else nF N i)
    rw [upd_at]
    by_cases e : i = r
    · rw [if_pos e, if_pos e]
    · rw [if_neg e, if_neg e]; exact a7 i hi
  · show σ.2 6 0 i = _
    rw [a8 i hi]
    unfold sM
    rw [sMk_eq (N := setF N r x) (M := N) fun _ => rfl]
    rfl
