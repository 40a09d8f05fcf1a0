/-! Signals: now, changedBy, the registers' next, run, setInput -/
/-- the nodes that are 1, by the set of leaves that are -/
def onM (N : nw) (on : Nat) : Nat := mk (vl N fun i => on.testBit i) (nN N)
theorem onM_bit (N : nw) (on i : Nat) : (onM N on).testBit i = (decide (i < nN N) && vl N (fun i => on.testBit i) i) := mk_bit _ _ _
theorem onM_lt {N : nw} (h : nw_ok N) (on : Nat) : onM N on < 2 ^ 40 := mk_lt40 _ h.1
def nxR (N : nw) (on : Nat) : Nat → Nat := mk fun r => isR N r && (onM N on).testBit (nF N r)
/-- behind a clock -/
def nxO (N : nw) (on : Nat) : Nat := (on &&& iM N) ||| nxR N on 40
def itO (N : nw) (on : Nat) : Nat → Nat
  | 0 => on
  | t + 1 => nxO N (itO N on t)
theorem nxR_lt (N : nw) (on : Nat) : nxR N on 40 < 2 ^ 40 := mk_lt _ _
theorem nxO_lt {N : nw} (h : nw_ok N) (on : Nat) : nxO N on < 2 ^ 40 := or_lt (Nat.lt_of_le_of_lt Nat.and_le_right (iM_lt h)) (nxR_lt N on)
theorem itO_lt {N : nw} (h : nw_ok N) {on : Nat} (ho : on < 2 ^ 40) : ∀ t, itO N on t < 2 ^ 40
  | 0 => ho
  | _ + 1 => nxO_lt h _
abbrev ct_now (C : jm_C) : Prop := ∀ (N : nw) (on : Nat) (σ : jm_G) (post : Option jm_V → jm_G → Prop), nw_ok N → cN N σ → σ.2 8 0 2 = lN on → on < 2 ^ 40 → (∀ σ', off 9 9 σ σ' → post (some (jJ (lN (onM N on)))) σ') → C kX7_now [jR 8 0] σ post
theorem c_nodesOn {C : jm_C} (h : ct_nodesOn C) {N : nw} {S : Nat} {v : Int64} {σ : jm_G} {post : Option jm_V → jm_G → Prop} (hv : v = lN S) (hok : nw_ok N) (hN : cN N σ) (hS : S < 2 ^ 63) (hp : ∀ σ', off 9 9 σ σ' → post (some (jJ (lN (onM N S)))) σ') : C kX7_nodesOn [jR 8 0, jJ v] σ post := by subst hv; exact h N S σ post hok hN hS hp
theorem T_now (L : Nat) {C : jm_C} (hC : jm_mon C) (h1 : ct_nodesOn C) : ct_now (jm_up L C) := by
  intro N on σ post hok hN ho hlt hp
  refine jm_start rfl (Nat.le_of_ble_eq_true rfl) hC fun X hg hw => ?_
  refine hg [] 20 _ ?_
  refine c_nodesOn h1 ho hok hN (p40 hlt) fun σ' h => ?_
  exact And.intro trivial (hp σ' h)
abbrev ct_changedBy (C : jm_C) : Prop := ∀ (N : nw) (on i : Nat) (σ : jm_G) (post : Option jm_V → jm_G → Prop), nw_ok N → cN N σ → σ.2 8 0 2 = lN on → on < 2 ^ 40 → i < 40 → (∀ σ', off 9 9 σ σ' → post (some (jJ (lN (onM N on ^^^ onM N (on ^^^ 2 ^ i))))) σ') → C kX7_changedBy [jR 8 0, jI (nI i)] σ post
theorem T_changedBy (L : Nat) {C : jm_C} (hC : jm_mon C) (h1 : ct_nodesOn C) (h2 : ct_bit C) : ct_changedBy (jm_up L C) := by
  intro N on i σ post hok hN ho hlt hi hp
  refine jm_start rfl (Nat.le_of_ble_eq_true rfl) hC fun X hg hw => ?_
  refine hg [] 20 _ ?_
  refine c_nodesOn h1 ho hok hN (p40 hlt) fun σ' h => ?_
  refine h2 i σ' _ (by omega) ?_
  have hN' := cN_off hN h (by omega) (by omega)
  have hpw : 2 ^ i < 2 ^ 40 := pw_lt hi
  refine c_nodesOn h1 (S := on ^^^ 2 ^ i) (show σ'.2 8 0 2 ^^^ lN (2 ^ i) = lN (on ^^^ 2 ^ i) by rw [(h 8 0 (by omega)).2, ho, fb_xorL]) hok hN' (p40 (Nat.xor_lt_two_pow hlt hpw)) fun σ'' h' => ?_
  refine And.intro trivial ?_
  show post (some (jJ (lN (onM N on) ^^^ lN (onM N (on ^^^ 2 ^ i))))) σ''
  rw [fb_xorL]
  exact hp σ'' (off_trans h h')
abbrev ct_regNext (C : jm_C) : Prop := ∀ (N : nw) (on : Nat) (σ : jm_G) (post : Option jm_V → jm_G → Prop), nw_ok N → cN N σ → σ.2 8 0 2 = lN on → on < 2 ^ 40 → (∀ σ', off 9 9 σ σ' → post (some (jJ (lN (nxR N on 40)))) σ') → C kX7_registersNext [jR 8 0] σ post
theorem T_regNext (L : Nat) {C : jm_C} (hC : jm_mon C) (h1 : ct_now C) (h2 : ct_low C) (h3 : ct_feedOf C) (h4 : ct_has C) (h5 : ct_bit C) : ct_regNext (jm_up L C) := by
  intro N on σ post hok hN ho hlt hp
  refine jm_start rfl (Nat.le_of_ble_eq_true rfl) hC fun X hg hw => ?_
  have hn := hok.1
  have hr := rM_lt hok
  refine hg [16] 20 _ ?_
  refine h1 N on σ _ hok hN ho hlt fun τ hτ => ?_
  have hNt := cN_off hN hτ (by omega) (by omega)
  show X (τ, 16, [some (jR 8 0), some (jJ (lN (onM N on))), none, some (jJ (lN 0)), none, some (jJ (τ.2 2 0 7)), none, none], [])
  rw [hNt.2.2.2.1]
  have main := jm_bits (X := X) (rM N) (fun k => (τ, 16, [some (jR 8 0), some (jJ (lN (onM N on))), none, some (jJ (lN (nxR N on k))), none, some (jJ (lN (hi (rM N) k))), none, none], [])) 40 ?_ ?_ ?_ 0 (by omega)
  · have main : X (τ, 16, [some (jR 8 0), some (jJ (lN (onM N on))), none, some (jJ (lN 0)), none, some (jJ (lN (hi (rM N) 0))), none, none], []) := main
    rw [hi_0] at main
    exact main
  · show X (τ, 16, [some (jR 8 0), some (jJ (lN (onM N on))), none, some (jJ (lN (nxR N on 40))), none, some (jJ (lN (hi (rM N) 40))), none, none], [])
    rw [hi_end hr]
    refine hg [] 30 _ ?_
    refine br_c (fun h => ?_) (fun h => ?_)
    · exact And.intro trivial (hp τ hτ)
    · exact absurd ((cmp_0 _ _).mpr rfl) h
  · intro k hk hb
    have hb2 : isR N k = false := by rw [← rM_bit]; exact hb
    have e : nxR N on (k + 1) = nxR N on k := by
      show mk _ (k + 1) = mk _ k
      rw [mk, hb2]
      simp
    simp only [e, hi_skip hb]
  · intro k hk hb ih
    have hr2 : isR N k = true := by rw [← rM_bit]; exact hb
    have hkn := isR_lt hr2
    have hf := hok.2.2.2.1 k hr2
    refine hg [16] 30 _ ?_
    refine br_c (fun h => ?_) (fun h => ?_)
    · exact absurd h (hi_n0 hr hb)
    · refine h2 (rM N) k τ _ (p40 hr) hb ?_
      refine h3 N k τ _ hok hNt hr2 ?_
      refine h4 (onM N on) (nF N k) τ _ (p40 (onM_lt hok on)) (by omega) ?_
      refine br_c (fun h6 => ?_) (fun h6 => ?_)
      · have h6 := bI_0.mp h6
        refine hw _ _ _ [some (jR 8 0), some (jJ (lN (onM N on))), none, some (jJ (lN (nxR N on k))), none, some (jJ (lN (hi (rM N) k) &&& (lN (hi (rM N) k) - lN 1))), none, none] _ (by repeat' first | exact trivial | exact rfl | apply And.intro) ?_
        refine jm_eqv (X := X) ih rfl rfl ?_ rfl
        have e : nxR N on (k + 1) = nxR N on k := by
          show mk _ (k + 1) = mk _ k
          rw [mk, hr2, h6]
          simp
        rw [nxt hb, e]
      · have h6 := bI_n0.mp h6
        refine h5 k τ _ (by omega) ?_
        refine hw _ _ _ [some (jR 8 0), some (jJ (lN (onM N on))), none, some (jJ (lN (nxR N on k) ||| lN (2 ^ k))), none, some (jJ (lN (hi (rM N) k) &&& (lN (hi (rM N) k) - lN 1))), none, none] _ (by repeat' first | exact trivial | exact rfl | apply And.intro) ?_
        refine jm_eqv (X := X) ih rfl rfl ?_ rfl
        have e : nxR N on (k + 1) = nxR N on k ||| 2 ^ k := by
          show mk _ (k + 1) = mk _ k ||| 2 ^ k
          rw [mk, hr2, h6]
          simp
        rw [nxt hb, e, fb_orL]
abbrev ct_run (C : jm_C) : Prop := ∀ (N : nw) (on t : Nat) (σ : jm_G) (post : Option jm_V → jm_G → Prop), nw_ok N → cN N σ → σ.2 8 0 2 = lN on → on < 2 ^ 40 → 1 ≤ t → t ≤ 64 → (∀ σ', off 8 9 σ σ' → σ'.2 8 0 2 = lN (itO N on t) → post (some (jI (nI (cnt (itO N on t ^^^ itO N on (t - 1)) 64)))) σ') → C kX7_run [jR 8 0, jI (nI t)] σ post
theorem T_run (L : Nat) {C : jm_C} (hC : jm_mon C) (h1 : ct_regNext C) (h2 : ct_bc C) : ct_run (jm_up L C) := by
  intro N on t σ post hok hN ho hlt ht1 ht2 hp
  refine jm_start rfl (Nat.le_of_ble_eq_true rfl) hC fun X hg hw => ?_
  have hn := hok.1
  refine hg [4] 20 _ ?_
  show X (σ, 4, [some (jR 8 0), some (jI (nI t)), some (jI (nI 0)), some (jI (nI 0)), none, none], [])
  have gen : ∀ (m k : Nat) (τ : jm_G) (x : Int32), k + m = t → off 8 9 σ τ → τ.2 8 0 2 = lN (itO N on k) → (0 < k → x = nI (cnt (itO N on k ^^^ itO N on (k - 1)) 64)) → X (τ, 4, [some (jR 8 0), some (jI (nI t)), some (jI x), some (jI (nI k)), none, none], []) := by
    intro m
    induction m with
    | zero =>
      intro k τ x hk hoff hlv hx
      have hk : k = t := by omega
      subst hk
      refine hg [4] 40 _ ?_
      refine br_c (fun h => ?_) (fun h => ?_)
      · refine And.intro trivial ?_
        have hx := hx (by omega)
        subst hx
        exact hp τ hoff hlv
      · exact absurd (nI_le (Nat.le_refl k) (by omega)) h
    | succ m ih =>
      intro k τ x hk hoff hlv hx
      have hNt := cN_off hN hoff (by omega) (by omega)
      refine hg [4] 40 _ ?_
      refine br_c (fun h => ?_) (fun h => ?_)
      · have h : nI t ≤ nI k := h
        rw [nI_leI (by omega) (by omega)] at h
        omega
      · refine h1 N (itO N on k) τ _ hok hNt hlv (itO_lt hok hlt k) fun υ hυ => ?_
        have e8 : υ.2 8 0 = τ.2 8 0 := (hυ 8 0 (by omega)).2
        have e2 : υ.2 2 0 = τ.2 2 0 := (hυ 2 0 (by omega)).2
        have en : (τ.2 8 0 2 &&& τ.2 2 0 5) ||| lN (nxR N (itO N on k) 40) = lN (itO N on (k + 1)) := by
          rw [hlv, hNt.2.1, fb_andL, fb_orL]; rfl
        have hx64 : itO N on (k + 1) ^^^ itO N on k < 2 ^ 64 := Nat.lt_trans (Nat.xor_lt_two_pow (itO_lt hok hlt (k + 1)) (itO_lt hok hlt k)) (by omega)
        refine c_bc h2 (S := itO N on (k + 1) ^^^ itO N on k) (show ((τ.2 8 0 2 &&& τ.2 2 0 5) ||| lN (nxR N (itO N on k) 40)) ^^^ υ.2 8 0 2 = _ by rw [en, e8, hlv, fb_xorL]) hx64 ?_
        have h9 := ih (k + 1) (wJ υ 8 0 (vp_updL (υ.2 8 0) 2 (lN (itO N on (k + 1))))) (nI (cnt (itO N on (k + 1) ^^^ itO N on k) 64)) (by omega) (off_wJ (off_trans hoff (off_wide hυ (by omega) (by omega))) (by omega) (by omega)) (by rw [wJ2, if_pos ⟨rfl, rfl⟩, updL_at, if_pos rfl]) (fun _ => rfl)
        refine hw _ _ _ [some (jR 8 0), some (jI (nI t)), some (jI (nI (cnt (itO N on (k + 1) ^^^ itO N on k) 64))), some (jI (nI k + nI 1)), none, none] _ (by repeat' first | exact trivial | exact rfl | apply And.intro) ?_
        refine jm_eqv (X := X) h9 ?_ rfl ?_ rfl
        · show wJ υ 8 0 (vp_updL (υ.2 8 0) 2 ((τ.2 8 0 2 &&& τ.2 2 0 5) ||| lN (nxR N (itO N on k) 40))) = _
          rw [en]
        · rw [nI_add]
  exact gen t 0 σ (nI 0) (by omega) (off_refl _ _ _) ho (fun h => by omega)
/-- an input set or not -/
def setO (on i : Nat) (b : Bool) : Nat := if b then on ||| 2 ^ i else sD on (2 ^ i)
abbrev ct_setInput (C : jm_C) : Prop := ∀ (on i : Nat) (b : Bool) (σ : jm_G) (post : Option jm_V → jm_G → Prop), σ.2 8 0 2 = lN on → on < 2 ^ 40 → i < 40 → (∀ σ', off 8 9 σ σ' → σ'.2 8 0 2 = lN (setO on i b) → post (some (jI (bI (on.testBit i)))) σ') → C kX7_setInput [jR 8 0, jI (nI i), jI (bI b)] σ post
theorem T_setInput (L : Nat) {C : jm_C} (hC : jm_mon C) (h1 : ct_has C) (h2 : ct_bit C) : ct_setInput (jm_up L C) := by
  intro on i b σ post ho hlt hi hp
  refine jm_start rfl (Nat.le_of_ble_eq_true rfl) hC fun X hg hw => ?_
  refine hg [] 60 _ ?_
  refine c_has h1 (S := on) (n := i) ho rfl (p40 hlt) (by omega) ?_
  refine br_c (fun h => ?_) (fun h => ?_)
  · rw [bI_0.mp h] at hp
    refine br_c (fun h3 => ?_) (fun h3 => ?_)
    · have hb : b = false := bI_0.mp h3
      refine h2 i σ _ (by omega) ?_
      refine And.intro trivial ?_
      refine hp _ (off_wJ (off_refl _ _ _) (by omega) (by omega)) ?_
      show vp_updL (σ.2 8 0) 2 (σ.2 8 0 2 &&& (lN (2 ^ i) ^^^ (-1))) 2 = _
      rw [pk_uLs, ho, lN_andn, hb]
      rfl
    · have hb : b = true := bI_n0.mp h3
      refine h2 i σ _ (by omega) ?_
      refine And.intro trivial ?_
      refine hp _ (off_wJ (off_refl _ _ _) (by omega) (by omega)) ?_
      show vp_updL (σ.2 8 0) 2 (σ.2 8 0 2 ||| lN (2 ^ i)) 2 = _
      rw [pk_uLs, ho, fb_orL, hb]
      rfl
  · rw [bI_n0.mp h] at hp
    refine br_c (fun h3 => ?_) (fun h3 => ?_)
    · have hb : b = false := bI_0.mp h3
      refine h2 i σ _ (by omega) ?_
      refine And.intro trivial ?_
      refine hp _ (off_wJ (off_refl _ _ _) (by omega) (by omega)) ?_
      show vp_updL (σ.2 8 0) 2 (σ.2 8 0 2 &&& (lN (2 ^ i) ^^^ (-1))) 2 = _
      rw [pk_uLs, ho, lN_andn, hb]
      rfl
    · have hb : b = true := bI_n0.mp h3
      refine h2 i σ _ (by omega) ?_
      refine And.intro trivial ?_
      refine hp _ (off_wJ (off_refl _ _ _) (by omega) (by omega)) ?_
      show vp_updL (σ.2 8 0) 2 (σ.2 8 0 2 ||| lN (2 ^ i)) 2 = _
      rw [pk_uLs, ho, fb_orL, hb]
      rfl
