/-! the model's packs, laysCells -/
abbrev ct_packs (C : jm_C) : Prop := ∀ (s : clS) (r f c pk : Nat) (σ : jm_G) (post : Option jm_V → jm_G → Prop), mcC s σ → c < s.1 → s.1 ≤ 40 → r < 40 → f < 40 → σ.1 41 0 (nI 3 * nI r).toNatClampNeg = nI f → σ.1 59 0 f = nI c → (∀ j, (s.2.2.1 c).testBit j = true → j < r) → cnt (s.2.2.1 c) r ≤ 1 → σ.1 38 0 37 = nI pk → (∀ σ', mf [62, 63, 65] [37] σ σ' → mcC (clP c r s) σ' → σ'.1 38 0 37 = nI (pk + 1) → post none σ') → C kX10_packs [jR 38 0, jI (nI r)] σ post
theorem T_packs (L : Nat) {C : jm_C} (hC : jm_mon C) : ct_packs (jm_up L C) := by
  intro s r f c pk σ post hs hc hs4 hr hf h41 h59 hb hc1 h37 hp
  refine jm_start rfl (Nat.le_of_ble_eq_true rfl) hC fun X hg hw => ?_
  have ef : (σ.1 41 0 (nI 3 * nI r).toNatClampNeg).toNatClampNeg = f := by rw [h41]; exact nI_clamp (by omega)
  have e59 : σ.1 59 0 (σ.1 41 0 (nI 3 * nI r).toNatClampNeg).toNatClampNeg = nI c := by rw [ef]; exact h59
  have ec : (σ.1 59 0 (σ.1 41 0 (nI 3 * nI r).toNatClampNeg).toNatClampNeg).toNatClampNeg = c := by rw [e59]; exact nI_clamp (by omega)
  have hin3 : vp_in (nI 3 * nI r) 120 := by rw [n3]; exact vp_in_nI (by omega) (by omega)
  have hinf : vp_in (σ.1 41 0 (nI 3 * nI r).toNatClampNeg) 40 := by rw [h41]; exact vp_in_nI hf (by omega)
  have hinc : vp_in (σ.1 59 0 (σ.1 41 0 (nI 3 * nI r).toNatClampNeg).toNatClampNeg) 40 := by rw [e59]; exact vp_in_nI (by omega) (by omega)
  obtain ⟨q1, ⟨q2, q3⟩, q4, q5⟩ := hs.2 c hc
  have a0 := nthI_add (S := s.2.2.1 c) (r := r) (m := 0) (by omega) hb (by omega)
  have a1 := nthI_add (S := s.2.2.1 c) (r := r) (m := 1) (by omega) hb (by omega)
  -- other cells
  have oth : ∀ z, z < s.1 → z ≠ c → (σ.1 60 0 z = nthI (s.2.1 z) (nI 0) ∧ σ.1 61 0 z = nthI (s.2.1 z) (nI 1)) ∧ (σ.1 62 0 z = nthI (if z = c then s.2.2.1 z ||| 2 ^ r else s.2.2.1 z) (nI 0) ∧ σ.1 63 0 z = nthI (if z = c then s.2.2.1 z ||| 2 ^ r else s.2.2.1 z) (nI 1)) ∧ σ.2 64 0 z = lN (s.2.2.2.1 z) ∧ σ.2 65 0 z = lN (s.2.1 z ||| (if z = c then s.2.2.1 z ||| 2 ^ r else s.2.2.1 z)) := fun z hz e => by
    rw [if_neg e]; exact hs.2 z hz
  refine hg [] 90 _ ?_
  refine And.intro hin3 ?_
  refine And.intro hinf ?_
  refine And.intro hinc ?_
  by_cases h0 : cnt (s.2.2.1 c) r = 0
  · rw [h0, if_neg (by omega), if_pos rfl] at a0
    rw [h0, if_neg (by omega), if_neg (by omega)] at a1
    have z0 : nthI (s.2.2.1 c) (nI 0) = -(nI 1) := nthI_none fun j _ hj => by
      have := (fb_ct_zero (p := fun i => (s.2.2.1 c).testBit i)).mp h0 j (hb j hj)
      have this : (s.2.2.1 c).testBit j = false := this
      rw [hj] at this; cases this
    have z1 : nthI (s.2.2.1 c) (nI 1) = -(nI 1) := nthI_none fun j _ hj => by
      have := (fb_ct_zero (p := fun i => (s.2.2.1 c).testBit i)).mp h0 j (hb j hj)
      have this : (s.2.2.1 c).testBit j = false := this
      rw [hj] at this; cases this
    refine br_c (fun h => ?_) (fun _ => ?_)
    · have h : 0 ≤ σ.1 62 0 (σ.1 59 0 (σ.1 41 0 (nI 3 * nI r).toNatClampNeg).toNatClampNeg).toNatClampNeg := h
      rw [ec, q2, z0] at h
      exact absurd m1_neg (Int32.not_lt.mpr h)
    · refine And.intro hinc (And.intro hinc (And.intro hinc (And.intro trivial ?_)))
      show post none (wI (wJ (wI σ 62 0 (upd (σ.1 62 0) (σ.1 59 0 (σ.1 41 0 (nI 3 * nI r).toNatClampNeg).toNatClampNeg).toNatClampNeg (nI r))) 65 0 (vp_updL (σ.2 65 0) (σ.1 59 0 (σ.1 41 0 (nI 3 * nI r).toNatClampNeg).toNatClampNeg).toNatClampNeg (σ.2 65 0 (σ.1 59 0 (σ.1 41 0 (nI 3 * nI r).toNatClampNeg).toNatClampNeg).toNatClampNeg ||| (lN 1 <<< ((nI r).toInt64 &&& 63))))) 38 0 (upd (σ.1 38 0) 37 (σ.1 38 0 37 + nI 1)))
      rw [ec, h37, nI_add, q5, lN_shl1 (by omega), fb_orL]
      refine hp _ (mf_sF (mf_wJ (mf_wI (mf_refl _ _ _) (by decide) (by decide)) (by decide) (by decide)) (by decide)) ⟨hs.1, fun z hz => ?_⟩ (by rw [wI1, if_pos ⟨rfl, rfl⟩, upd_at, if_pos rfl])
      show (σ.1 60 0 z = nthI (s.2.1 z) (nI 0) ∧ σ.1 61 0 z = nthI (s.2.1 z) (nI 1)) ∧ (upd (σ.1 62 0) c (nI r) z = nthI (if z = c then s.2.2.1 z ||| 2 ^ r else s.2.2.1 z) (nI 0) ∧ σ.1 63 0 z = nthI (if z = c then s.2.2.1 z ||| 2 ^ r else s.2.2.1 z) (nI 1)) ∧ σ.2 64 0 z = lN (s.2.2.2.1 z) ∧ vp_updL (σ.2 65 0) c (lN ((s.2.1 c ||| s.2.2.1 c) ||| 2 ^ r)) z = lN (s.2.1 z ||| (if z = c then s.2.2.1 z ||| 2 ^ r else s.2.2.1 z))
      rw [upd_at, updL_at]
      by_cases e : z = c
      · rw [if_pos e, if_pos e, if_pos e, e, a0, a1, q3, z1, Nat.or_assoc]
        exact ⟨q1, ⟨rfl, rfl⟩, q4, rfl⟩
      · have this := oth z hz e
        rw [if_neg e] at this
        rw [if_neg e, if_neg e, if_neg e]
        exact this
  · have h1 : cnt (s.2.2.1 c) r = 1 := by omega
    rw [h1, if_pos (by omega)] at a0
    rw [h1, if_neg (by omega), if_pos rfl] at a1
    obtain ⟨j, j1, j2, j3⟩ := fb_ct_kth (p := fun i => (s.2.2.1 c).testBit i) (k := 0) (n := r) (show 0 < cnt (s.2.2.1 c) r by omega)
    have z0 : nthI (s.2.2.1 c) (nI 0) = nI j := nthI_some (by omega) j2 j3
    refine br_c (fun _ => ?_) (fun h => ?_)
    · refine And.intro hinc (And.intro hinc (And.intro hinc (And.intro trivial ?_)))
      show post none (wI (wJ (wI σ 63 0 (upd (σ.1 63 0) (σ.1 59 0 (σ.1 41 0 (nI 3 * nI r).toNatClampNeg).toNatClampNeg).toNatClampNeg (nI r))) 65 0 (vp_updL (σ.2 65 0) (σ.1 59 0 (σ.1 41 0 (nI 3 * nI r).toNatClampNeg).toNatClampNeg).toNatClampNeg (σ.2 65 0 (σ.1 59 0 (σ.1 41 0 (nI 3 * nI r).toNatClampNeg).toNatClampNeg).toNatClampNeg ||| (lN 1 <<< ((nI r).toInt64 &&& 63))))) 38 0 (upd (σ.1 38 0) 37 (σ.1 38 0 37 + nI 1)))
      rw [ec, h37, nI_add, q5, lN_shl1 (by omega), fb_orL]
      refine hp _ (mf_sF (mf_wJ (mf_wI (mf_refl _ _ _) (by decide) (by decide)) (by decide) (by decide)) (by decide)) ⟨hs.1, fun z hz => ?_⟩ (by rw [wI1, if_pos ⟨rfl, rfl⟩, upd_at, if_pos rfl])
      show (σ.1 60 0 z = nthI (s.2.1 z) (nI 0) ∧ σ.1 61 0 z = nthI (s.2.1 z) (nI 1)) ∧ (σ.1 62 0 z = nthI (if z = c then s.2.2.1 z ||| 2 ^ r else s.2.2.1 z) (nI 0) ∧ upd (σ.1 63 0) c (nI r) z = nthI (if z = c then s.2.2.1 z ||| 2 ^ r else s.2.2.1 z) (nI 1)) ∧ σ.2 64 0 z = lN (s.2.2.2.1 z) ∧ vp_updL (σ.2 65 0) c (lN ((s.2.1 c ||| s.2.2.1 c) ||| 2 ^ r)) z = lN (s.2.1 z ||| (if z = c then s.2.2.1 z ||| 2 ^ r else s.2.2.1 z))
      rw [upd_at, updL_at]
      by_cases e : z = c
      · rw [if_pos e, if_pos e, if_pos e, e, a0, a1, q2, Nat.or_assoc]
        exact ⟨q1, ⟨rfl, rfl⟩, q4, rfl⟩
      · have this := oth z hz e
        rw [if_neg e] at this
        rw [if_neg e, if_neg e, if_neg e]
        exact this
    · have h : ¬ 0 ≤ σ.1 62 0 (σ.1 59 0 (σ.1 41 0 (nI 3 * nI r).toNatClampNeg).toNatClampNeg).toNatClampNeg := h
      rw [ec, q2, z0] at h
      exact absurd (nI_pos' (by omega)) h
theorem clR_pk {N : nw} {T : Nat} {ch : Nat → Nat} {p : Nat → Option Nat} (r : Nat) : ∀ z, ((clR N T ch p r).2.2.2.2).testBit z = true → z < r := by
  induction r with
  | zero => intro z h; rw [clR_0, clT_pk, Nat.zero_testBit] at h; cases h
  | succ r ih =>
    intro z h
    cases hr : isR N r with
    | false => rw [clR_f hr] at h; have := ih z h; omega
    | true =>
      cases hf : (frM N T ch).testBit (nF N r) with
      | true =>
        rw [clR_p hr hf] at h
        have h : ((clR N T ch p r).2.2.2.2 ||| 2 ^ r).testBit z = true := h
        rw [or_bit, Bool.or_eq_true, decide_eq_true_eq] at h
        rcases h with q | q
        · have := ih z q; omega
        · omega
      | false =>
        rw [clR_n hr hf] at h
        have := ih z h
        omega
theorem cnt_add_pw {S r : Nat} (hr : r < 40) (hS : ∀ j, S.testBit j = true → j < r) : cnt (S ||| 2 ^ r) 40 = cnt S 40 + 1 := by
  have e1 : ∀ d, cnt (S ||| 2 ^ r) (r + 1 + d) = cnt S (r + 1 + d) + 1 := by
    intro d
    induction d with
    | zero =>
      have hb : S.testBit r = false := by
        cases q : S.testBit r with
        | false => rfl
        | true => have := hS r q; omega
      rw [Nat.add_zero, cnt_succ, cnt_succ, cnt_or_pw r (Nat.le_refl _), or_bit, hb]
      simp
    | succ d ih =>
      rw [← Nat.add_assoc, cnt_succ, cnt_succ S, ih, or_bit, show decide (r + 1 + d = r) = false by simp; omega, Bool.or_false]
      omega
  have := e1 (40 - (r + 1))
  rw [show r + 1 + (40 - (r + 1)) = 40 by omega] at this
  exact this
def mCl (N : nw) (K : Nat) (ch : Nat → Nat) (σ : jm_G) : Prop := σ.2 38 0 25 = lN (tbs N ch) ∧ mArr N ch σ ∧ (∀ i, i < nN N → σ.1 58 0 i = oN (prT (tbs N ch) K ch 40 i)) ∧ (∀ i, i < nN N → σ.1 59 0 i = if (tbs N ch).testBit i then nI (ceI (tbs N ch) (prT (tbs N ch) K ch 40) i) else -(nI 1)) ∧ σ.1 38 0 38 = nI (prN (tbs N ch) K ch 40) ∧ mcC (clR N (tbs N ch) ch (prT (tbs N ch) K ch 40) 40) σ ∧ σ.1 38 0 37 = nI (cnt (clR N (tbs N ch) ch (prT (tbs N ch) K ch 40) 40).2.2.2.2 40)
def mlA : List Nat := [54, 58, 59, 60, 61, 62, 63, 64, 65]
def mlB : List Nat := [25, 36, 37, 38]
abbrev ct_laysC (C : jm_C) : Prop := ∀ (N : nw) (K : Nat) (ch : Nat → Nat) (σ : jm_G) (post : Option jm_V → jm_G → Prop), nw_ok N → mN N σ → mCh N ch σ → chOK N K ch → 3 ≤ K → K ≤ 6 → σ.1 38 0 7 = nI K → (∀ σ', mf mlA mlB σ σ' → mCl N K ch σ' → post none σ') → C kX10_laysCells [jR 38 0] σ post
theorem T_laysC (L : Nat) {C : jm_C} (hC : jm_mon C) (h1 : ct_looks C) (h2 : ct_laysP C) (h3 : ct_mhas C) (h4 : ct_newT C) (h5 : ct_newR C) (h6 : ct_misPacked C) (h7 : ct_packs C) : ct_laysC (jm_up L C) := by
  intro N K ch σ post hok hN hch hcO hK hK6 hw7 hp
  refine jm_start rfl (Nat.le_of_ble_eq_true rfl) hC fun X hg hw => ?_
  have h40 := hok.1
  have hl := chOK_L hcO
  have hlt : ∀ g, isG N g = true → ch g < 2 ^ 40 := fun g hgg => (hcO g hgg).1.1
  refine hg [20] 60 _ ?_
  refine h1 N ch σ _ hok hN hch hl fun τ1 o1 q2 q3 => ?_
  have hN1 := mN_mf hN o1 (by decide) (by decide)
  have hch1 := mCh_mf hch o1 (by decide)
  refine h2 N K (tbs N ch) ch τ1 _ hok hN1 hch1 hlt (by omega) hK6 (by rw [(o1.2 0 7 (by decide)).1]; exact hw7) (tbs_G N ch) q2 fun τ2 o2 p1 p2 => ?_
  have hN2 := mN_mf hN1 o2 (by decide) (by decide)
  have hch2 := mCh_mf hch1 o2 (by decide)
  have ha2 := mArr_mf q3 o2 (by decide)
  have t25 : τ2.2 38 0 25 = lN (tbs N ch) := by rw [(o2.2 0 25 (by decide)).2]; exact q2
  have f2 : mf mlA mlB σ τ2 := mf_trans (mf_wide o1 (by decide) (by decide)) (mf_wide o2 (by decide) (by decide))
  have hT := tbs_G N ch
  have hT4 := tbs_lt hok ch
  have hpI := prI_T (K := K) (ch := ch) hT4 40 (Nat.le_refl _)
  unfold mCl at hp
  generalize tbs N ch = T at hp t25 p1 p2 hT hT4 hpI
  generalize prT T K ch 40 = p at hp p1 hpI
  generalize prN T K ch 40 = np at hp p2
  have hrm := cl_room (N := N) (p := p) hT
  -- what stays
  have st : ∀ υ : jm_G, mf [59, 60, 61, 62, 63, 64, 65] [36, 37] τ2 υ → mN N υ ∧ mCh N ch υ ∧ υ.2 38 0 25 = lN T ∧ υ.1 58 0 = τ2.1 58 0 := fun υ hu => ⟨mN_mf hN2 hu (by decide) (by decide), mCh_mf hch2 hu (by decide), by rw [(hu.2 0 25 (by decide)).2]; exact t25, (hu.1 58 0 (by omega) (by decide)).1⟩
  -- registers
  have regs : ∀ (d r : Nat), r + d = nN N → ∀ (υ : jm_G), mf [59, 60, 61, 62, 63, 64, 65] [36, 37] τ2 υ → (∀ i, i < nN N → υ.1 59 0 i = if T.testBit i then nI (ceI T p i) else -(nI 1)) → mcC (clR N T ch p r) υ → υ.1 38 0 37 = nI (cnt (clR N T ch p r).2.2.2.2 40) → X (υ, 123, [some (jR 38 0), some (jI (nI r)), none], []) := by
    intro d
    induction d with
    | zero =>
      intro r hr υ hu r1 r2 r3
      have e : r = nN N := by omega
      subst e
      obtain ⟨hNu, hcu, u25, u58⟩ := st υ hu
      have eend := clR_end (N := N) (T := T) (ch := ch) (p := p) (40 - nN N)
      rw [show nN N + (40 - nN N) = 40 by omega] at eend
      refine hg [123] 40 _ ?_
      refine br_c (fun _ => And.intro trivial (hp υ (mf_trans f2 (mf_wide hu (by decide) (by decide))) ⟨u25, mArr_mf ha2 hu (by decide), fun i hi => by rw [u58]; exact p1 i hi, r1, ?_, ?_, ?_⟩)) (fun h => ?_)
      · rw [(hu.2 0 38 (by decide)).1]; exact p2
      · rw [eend]; exact r2
      · rw [eend]; exact r3
      · have h : ¬ υ.1 38 0 1 ≤ nI (nN N) := h
        rw [hNu.1, nI_leI (by omega) (by omega)] at h
        omega
    | succ d ih =>
      intro r hr υ hu r1 r2 r3
      obtain ⟨hNu, hcu, u25, u58⟩ := st υ hu
      have er : (nI r).toNatClampNeg = r := nI_clamp (by omega)
      refine hg [123] 60 _ ?_
      refine br_c (fun h => ?_) (fun _ => ?_)
      · have h : υ.1 38 0 1 ≤ nI r := h
        rw [hNu.1, nI_leI (by omega) (by omega)] at h
        omega
      · refine And.intro (vp_in_nI (by omega) (by omega)) ?_
        refine br_c (fun z => ?_) (fun z => ?_)
        · have z : υ.1 39 0 (nI r).toNatClampNeg = nI 2 := z
          rw [er, hNu.2.1 r (by omega), nS_eq hok (by omega) (by omega)] at z
          have hrr : isR N r = true := by rw [isR_of (by omega)]; simpa using z
          have hf := hok.2.2.2.1 r hrr
          have hs40 := clR_lt (ch := ch) (p := p) hT (show r < 40 by omega) hrr
          refine h6 N T r ch υ _ hok hNu hcu hlt hT u25 hrr ?_
          refine br_c (fun y => ?_) (fun y => ?_)
          · have y := bI_0.mp y
            have e := clR_n (p := p) hrr y
            refine h5 (clR N T ch p r) r (nF N r) υ _ r2 hs40 (by omega) (by omega) (mN_feed hok hNu hrr) fun ω w1 w2 => ?_
            show X (ω, 123, [some (jR 38 0), some (jI (nI r + nI 1)), none], [])
            rw [nI_add]
            have hw1 : mf [59, 60, 61, 62, 63, 64, 65] [36, 37] τ2 ω := mf_trans hu (mf_wide w1 (by decide) (by decide))
            refine ih (r + 1) (by omega) ω hw1 (fun i hi => ?_) (by rw [e]; exact w2) ?_
            · rw [(w1.1 59 0 (by omega) (by decide)).1]; exact r1 i hi
            · rw [(w1.2 0 37 (by decide)).1, e]; exact r3
          · have y := bI_n0.mp y
            have e := clR_p (p := p) hrr y
            have hTf : T.testBit (nF N r) = true := by
              rw [frM_bit, Bool.and_eq_true, Bool.and_eq_true, Bool.and_eq_true] at y
              exact y.1.1.1
            have hce := ceI_lt hT4 hpI hTf
            have hs1 := (clR_1 (N := N) (T := T) (ch := ch) (p := p) r).1
            refine h7 (clR N T ch p r) r (nF N r) (ceI T p (nF N r)) (cnt (clR N T ch p r).2.2.2.2 40) υ _ r2 (by omega) (by omega) (by omega) (by omega) (mN_feed hok hNu hrr) (by rw [r1 _ hf, if_pos hTf]) (fun j hj => (clR_tab r _ j hce hj).1) (clR_two hT4 hpI hrr (by omega) y) r3 fun ω w1 w2 w3 => ?_
            show X (ω, 123, [some (jR 38 0), some (jI (nI r + nI 1)), none], [])
            rw [nI_add]
            have hw1 : mf [59, 60, 61, 62, 63, 64, 65] [36, 37] τ2 ω := mf_trans hu (mf_wide w1 (by decide) (by decide))
            refine ih (r + 1) (by omega) ω hw1 (fun i hi => ?_) (by rw [e]; exact w2) ?_
            · rw [(w1.1 59 0 (by omega) (by decide)).1]; exact r1 i hi
            · rw [w3, e]
              show _ = nI (cnt ((clR N T ch p r).2.2.2.2 ||| 2 ^ r) 40)
              rw [cnt_add_pw (by omega) (clR_pk r)]
        · have z : ¬ υ.1 39 0 (nI r).toNatClampNeg = nI 2 := z
          rw [er, hNu.2.1 r (by omega), nS_eq hok (by omega) (by omega)] at z
          have hrr : isR N r = false := by rw [isR_of (by omega)]; simpa using z
          have e := clR_f (T := T) (ch := ch) (p := p) hrr
          show X (υ, 123, [some (jR 38 0), some (jI (nI r + nI 1)), none], [])
          rw [nI_add]
          exact ih (r + 1) (by omega) υ hu r1 (by rw [e]; exact r2) (by rw [e]; exact r3)
  -- tables
  have tabs : ∀ (d n : Nat), n + d = nN N → ∀ (υ : jm_G), mf [59, 60, 61, 62, 63, 64, 65] [36, 37] τ2 υ → (∀ i, i < n → υ.1 59 0 i = if T.testBit i then nI (ceI T p i) else -(nI 1)) → mcC (clT T ch p n) υ → υ.1 38 0 37 = nI 0 → X (υ, 20, [some (jR 38 0), some (jI (nI n)), none], []) := by
    intro d
    induction d with
    | zero =>
      intro n hn υ hu r1 r2 r3
      have e : n = nN N := by omega
      subst e
      obtain ⟨hNu, hcu, u25, u58⟩ := st υ hu
      refine hg [20, 123] 40 _ ?_
      refine br_c (fun _ => ?_) (fun h => ?_)
      · have eend : ∀ d, clT T ch p (nN N + d) = clT T ch p (nN N) := by
          intro d
          induction d with
          | zero => rfl
          | succ d ihd =>
            have : (nwT T p).testBit (nN N + d) = false := by
              rw [nwT_bit hT4]
              have : T.testBit (nN N + d) = false := by
                cases q : T.testBit (nN N + d) with
                | false => rfl
                | true => have := isG_lt (hT _ q); omega
              rw [this]; rfl
            rw [← Nat.add_assoc, clT, this]
            exact ihd
        have e := eend (40 - nN N)
        rw [show nN N + (40 - nN N) = 40 by omega] at e
        refine regs (nN N) 0 (by omega) υ hu r1 (by rw [clR_0, e]; exact r2) ?_
        rw [clR_0, clT_pk, cnt_0]
        exact r3
      · have h : ¬ υ.1 38 0 1 ≤ nI (nN N) := h
        rw [hNu.1, nI_leI (by omega) (by omega)] at h
        omega
    | succ d ih =>
      intro n hn υ hu r1 r2 r3
      obtain ⟨hNu, hcu, u25, u58⟩ := st υ hu
      have en : (nI n).toNatClampNeg = n := nI_clamp (by omega)
      have hin : vp_in (nI n) 40 := vp_in_nI (by omega) (by omega)
      refine hg [20, 123] 90 _ ?_
      refine br_c (fun h => ?_) (fun _ => ?_)
      · have h : υ.1 38 0 1 ≤ nI n := h
        rw [hNu.1, nI_leI (by omega) (by omega)] at h
        omega
      · refine And.intro hin ?_
        refine c_mhas h3 (S := T) (n := n) u25 rfl (p40 hT4) (by omega) ?_
        have a59 : ∀ (x : Int32) (i : Nat), i < n + 1 → x = (if T.testBit n then nI (ceI T p n) else -(nI 1)) → upd (υ.1 59 0) n x i = if T.testBit i then nI (ceI T p i) else -(nI 1) := fun x i hi hx => by
          rw [upd_at]
          by_cases e : i = n
          · rw [if_pos e, e]; exact hx
          · rw [if_neg e]; exact r1 i (by omega)
        refine br_c (fun z => ?_) (fun z => ?_)
        · have z := bI_0.mp z
          have hnw : (nwT T p).testBit n = false := by rw [nwT_bit hT4, z]; rfl
          have e : clT T ch p (n + 1) = clT T ch p n := by rw [clT, hnw]; rfl
          show X (wI υ 59 0 (upd (υ.1 59 0) (nI n).toNatClampNeg (-(nI 1))), 20, [some (jR 38 0), some (jI (nI n + nI 1)), none], [])
          rw [en, nI_add]
          refine ih (n + 1) (by omega) _ (mf_wI hu (by decide) (by decide)) (fun i hi => ?_) (by rw [e]; exact r2) r3
          show upd (υ.1 59 0) n (-(nI 1)) i = _
          exact a59 _ i hi (by rw [z]; rfl)
        · have z := bI_n0.mp z
          have hgn := hT n z
          have hl2 := low2_in hT4 hpI z
          have t58 : υ.1 58 0 (nI n).toNatClampNeg = oN (p n) := by rw [en, u58]; exact p1 n (by omega)
          have es : (clT T ch p n).1 = cnt (nwT T p) n := clT_1 T ch p n
          have psm : ∀ q, p n = some q → q < 40 := fun q hq => (hpI n q hq).2.2.2.2.2.2
          have hs40 : (nwT T p).testBit n = true → (clT T ch p n).1 < 40 := fun hnw => by
            have := cnt_mono (nwT T p) (show n + 1 ≤ 40 by omega)
            rw [cnt_succ, hnw] at this
            have this : cnt (nwT T p) n + 1 ≤ cnt (nwT T p) 40 := this
            omega
          -- a new cell
          have new : low2 p n = n → ∀ ω : jm_G, mf mcA [36] (wI (wI υ 59 0 (upd (υ.1 59 0) n (-(nI 1)))) 59 0 (upd (upd (υ.1 59 0) n (-(nI 1))) n (υ.1 38 0 36))) ω → mcC (clN (teS p n) 0 (neS ch p n) (clT T ch p n)) ω → X (ω, 20, [some (jR 38 0), some (jI (nI n + nI 1)), some (jI (nI 1))], []) := by
            intro hlow ω w1 w2
            refine hw _ _ _ [some (jR 38 0), some (jI (nI n + nI 1)), none] _ (by repeat' first | exact trivial | exact rfl | apply And.intro) ?_
            rw [nI_add]
            have hnw : (nwT T p).testBit n = true := by rw [nwT_bit hT4, z, hlow]; simp
            have e : clT T ch p (n + 1) = clN (teS p n) 0 (neS ch p n) (clT T ch p n) := by rw [clT, if_pos hnw]
            have fu : mf [59, 60, 61, 62, 63, 64, 65] [36, 37] τ2 ω := mf_trans (mf_wI (mf_wI hu (by decide) (by decide)) (by decide) (by decide)) (mf_wide w1 (by decide) (by decide))
            refine ih (n + 1) (by omega) ω fu (fun i hi => ?_) (by rw [e]; exact w2) ?_
            · rw [(w1.1 59 0 (by omega) (by decide)).1]
              show upd (upd (υ.1 59 0) n (-(nI 1))) n (υ.1 38 0 36) i = _
              rw [fa_upd_twice]
              refine a59 _ i hi ?_
              rw [if_pos z, r2.1]
              unfold ceI
              rw [hlow, es]
            · rw [(w1.2 0 37 (by decide)).1]; exact r3
          have f59 : mcC (clT T ch p n) (wI (wI υ 59 0 (upd (υ.1 59 0) n (-(nI 1)))) 59 0 (upd (upd (υ.1 59 0) n (-(nI 1))) n (υ.1 38 0 36))) := r2
          refine And.intro hin ?_
          cases hpn : p n with
          | none =>
            have hlow := low2_n hpn
            have hnw : (nwT T p).testBit n = true := by rw [nwT_bit hT4, z, hlow]; simp
            refine br_c (fun _ => ?_) (fun y => ?_)
            · refine br_c (fun h => absurd h (by decide)) (fun _ => ?_)
              refine And.intro hin ?_
              refine br_c (fun h => absurd h (by decide)) (fun _ => ?_)
              refine And.intro hin ?_
              refine h4 (clT T ch p n) n ch p _ _ _ (σ := wI (wI υ 59 0 (upd (υ.1 59 0) (nI n).toNatClampNeg (-(nI 1)))) 59 0 (upd (upd (υ.1 59 0) (nI n).toNatClampNeg (-(nI 1))) (nI n).toNatClampNeg (υ.1 38 0 36))) (by rw [en]; exact f59) (hs40 hnw) (by omega) (fun q hq => by rw [hpn] at hq; cases hq) (hcu n hgn) rfl t58 fun ω w1 w2 => ?_
              rw [en] at w1
              exact new hlow ω w1 w2
            · have y : ¬ υ.1 58 0 (nI n).toNatClampNeg < 0 := y
              rw [t58, hpn] at y
              exact absurd m1_neg y
          | some q =>
            obtain ⟨-, hTq, hnq, hpq, -, -, hq4⟩ := hpI n q hpn
            have hgq := hT q hTq
            refine br_c (fun y => ?_) (fun _ => ?_)
            · have y : υ.1 58 0 (nI n).toNatClampNeg < 0 := y
              rw [t58, hpn] at y
              exact absurd y (nI_pos (show q < 2 ^ 31 by omega))
            · refine And.intro hin ?_
              refine br_c (fun y => ?_) (fun y => ?_)
              · have y : υ.1 58 0 (nI n).toNatClampNeg ≤ nI n := y
                rw [t58, hpn] at y
                have y : nI q ≤ nI n := y
                rw [nI_leI (by omega) (by omega)] at y
                have eq58 : (υ.1 58 0 (nI n).toNatClampNeg).toNatClampNeg = q := by rw [t58, hpn]; exact nI_clamp (by omega)
                have hlow : low2 p n = q := by rw [low2_s hpn]; omega
                have hnw : (nwT T p).testBit n = false := by rw [nwT_bit hT4, hlow, show decide (q = n) = false by simp; omega, Bool.and_false]
                have e : clT T ch p (n + 1) = clT T ch p n := by rw [clT, hnw]; rfl
                refine br_c (fun _ => ?_) (fun h => absurd rfl h)
                refine And.intro hin ?_
                refine And.intro (show vp_in (υ.1 58 0 (nI n).toNatClampNeg) 40 by rw [t58, hpn]; exact vp_in_nI (by omega) (by omega)) ?_
                refine And.intro hin ?_
                refine br_c (fun _ => ?_) (fun h => absurd rfl h)
                refine hw _ _ _ [some (jR 38 0), some (jI (nI n + nI 1)), none] _ (by repeat' first | exact trivial | exact rfl | apply And.intro) ?_
                show X (wI (wI υ 59 0 (upd (υ.1 59 0) (nI n).toNatClampNeg (-(nI 1)))) 59 0 (upd (upd (υ.1 59 0) (nI n).toNatClampNeg (-(nI 1))) (nI n).toNatClampNeg (upd (υ.1 59 0) (nI n).toNatClampNeg (-(nI 1)) (υ.1 58 0 (nI n).toNatClampNeg).toNatClampNeg)), 20, [some (jR 38 0), some (jI (nI n + nI 1)), none], [])
                rw [eq58, en, nI_add]
                refine ih (n + 1) (by omega) _ (mf_wI (mf_wI hu (by decide) (by decide)) (by decide) (by decide)) (fun i hi => ?_) (by rw [e]; exact r2) r3
                show upd (upd (υ.1 59 0) n (-(nI 1))) n (upd (υ.1 59 0) n (-(nI 1)) q) i = _
                rw [fa_upd_twice]
                refine a59 _ i hi ?_
                rw [if_pos z, upd_at, if_neg (by omega), r1 q (by omega), if_pos hTq]
                unfold ceI
                rw [low2_p hpI hpn]
              · have y : ¬ υ.1 58 0 (nI n).toNatClampNeg ≤ nI n := y
                rw [t58, hpn] at y
                have y : ¬ nI q ≤ nI n := y
                rw [nI_leI (by omega) (by omega)] at y
                have hlow : low2 p n = n := by rw [low2_s hpn]; omega
                have hnw : (nwT T p).testBit n = true := by rw [nwT_bit hT4, z, hlow]; simp
                refine br_c (fun h => absurd h (by decide)) (fun _ => ?_)
                refine And.intro hin ?_
                refine br_c (fun h => absurd h (by decide)) (fun _ => ?_)
                refine And.intro hin ?_
                refine h4 (clT T ch p n) n ch p _ _ _ (σ := wI (wI υ 59 0 (upd (υ.1 59 0) (nI n).toNatClampNeg (-(nI 1)))) 59 0 (upd (upd (υ.1 59 0) (nI n).toNatClampNeg (-(nI 1))) (nI n).toNatClampNeg (υ.1 38 0 36))) (by rw [en]; exact f59) (hs40 hnw) (by omega) (fun q' hq => by
                  rw [hpn] at hq
                  have hq := Option.some.inj hq
                  rw [← hq]
                  exact ⟨by omega, hq4, hcu q hgq⟩) (hcu n hgn) rfl t58 fun ω w1 w2 => ?_
                rw [en] at w1
                exact new hlow ω w1 w2
  show X (wI (wI τ2 38 0 (upd (τ2.1 38 0) 36 (nI 0))) 38 0 (upd (upd (τ2.1 38 0) 36 (nI 0)) 37 (nI 0)), 20, [some (jR 38 0), some (jI (nI 0)), none], [])
  refine tabs (nN N) 0 (by omega) _ ?_ (fun i hi => absurd hi (by omega)) ⟨?_, fun c hc => absurd hc (Nat.not_lt_zero _)⟩ ?_
  · exact mf_sF (mf_sF (mf_refl _ _ _) (by decide)) (by decide)
  · show upd (upd (τ2.1 38 0) 36 (nI 0)) 37 (nI 0) 36 = _
    rw [upd_at, if_neg (by omega), upd_at, if_pos rfl]
    rfl
  · show upd (upd (τ2.1 38 0) 36 (nI 0)) 37 (nI 0) 37 = _
    rw [upd_at, if_pos rfl]
