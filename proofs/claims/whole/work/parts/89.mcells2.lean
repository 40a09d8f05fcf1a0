/-! the model's newCell, packs, laysCells -/
theorem cnt_or_pw {S r : Nat} : ∀ j, j ≤ r → cnt (S ||| 2 ^ r) j = cnt S j := fun j hj => cnt_cong fun i hi => by rw [or_bit, show decide (i = r) = false by simp; omega, Bool.or_false]
theorem nthI_add {S r m : Nat} (hr : r < 63) (hS : ∀ j, S.testBit j = true → j < r) (hm : m < 2 ^ 31) : nthI (S ||| 2 ^ r) (nI m) = if m < cnt S r then nthI S (nI m) else if m = cnt S r then nI r else -(nI 1) := by
  by_cases c1 : m < cnt S r
  · rw [if_pos c1]
    obtain ⟨j, h1, h2, h3⟩ := fb_ct_kth (p := fun i => S.testBit i) c1
    rw [nthI_some (S := S) (n := m) (j := j) (by omega) h2 h3, nthI_some (S := S ||| 2 ^ r) (n := m) (j := j) (by omega) (by rw [or_bit, h2]; rfl) (by rw [cnt_or_pw j (by omega)]; exact h3)]
  · rw [if_neg c1]
    by_cases c2 : m = cnt S r
    · rw [if_pos c2, nthI_some (S := S ||| 2 ^ r) (n := m) (j := r) hr (by rw [or_bit]; simp) (by rw [cnt_or_pw r (Nat.le_refl _)]; exact c2.symm)]
    · rw [if_neg c2]
      refine nthI_none fun j _ hb e => ?_
      rw [or_bit, Bool.or_eq_true, decide_eq_true_eq] at hb
      have hjr : j ≤ r := by
        rcases hb with q | q
        · have := hS j q; omega
        · omega
      rw [cnt_or_pw j hjr] at e
      have h1 := cnt_mono S hjr
      have h2 := cnt_le S j
      rw [nI_eq hm (by omega)] at e
      omega
theorem nthI_0 (x : Int32) : nthI 0 x = -(nI 1) := nthI_none fun j _ hb => by rw [Nat.zero_testBit] at hb; cases hb
theorem cnt_0 (n : Nat) : cnt 0 n = 0 := fb_ct_zero.mpr fun k _ => Nat.zero_testBit k
theorem nthI_pw0 {n : Nat} (h : n < 63) : nthI (2 ^ n) (nI 0) = nI n := by
  have := nthI_add (S := 0) (r := n) (m := 0) h (fun j hj => by rw [Nat.zero_testBit] at hj; cases hj) (by omega)
  rw [Nat.zero_or, cnt_0, if_neg (by omega), if_pos rfl] at this
  exact this
theorem nthI_pw1 {n : Nat} (h : n < 63) : nthI (2 ^ n) (nI 1) = -(nI 1) := by
  have := nthI_add (S := 0) (r := n) (m := 1) h (fun j hj => by rw [Nat.zero_testBit] at hj; cases hj) (by omega)
  rw [Nat.zero_or, cnt_0, if_neg (by omega), if_neg (by omega)] at this
  exact this
theorem cnt_pw {n q : Nat} (h : n < q) : cnt (2 ^ n) q = 1 := by
  have e1 : cnt (2 ^ n) n = 0 := fb_ct_zero.mpr fun k hk => by
    show (2 ^ n).testBit k = false
    rw [Nat.testBit_two_pow]
    simp
    omega
  have e2 : cnt (2 ^ n) (n + 1) = 1 := by rw [cnt_succ, e1, Nat.testBit_two_pow]; simp
  have : ∀ d, cnt (2 ^ n) (n + 1 + d) = 1 := by
    intro d
    induction d with
    | zero => exact e2
    | succ d ih =>
      rw [← Nat.add_assoc, cnt_succ, ih, Nat.testBit_two_pow, show decide (n = n + 1 + d) = false by simp; omega]
      rfl
  have e := this (q - (n + 1))
  rw [show n + 1 + (q - (n + 1)) = q by omega] at e
  exact e
theorem pw_lt_bits {n q : Nat} (h : n < q) : ∀ j, (2 ^ n).testBit j = true → j < q := fun j hj => by
  rw [Nat.testBit_two_pow, decide_eq_true_eq] at hj
  omega
theorem nthI_pp0 {n q : Nat} (h : n < q) (hq : q < 63) : nthI (2 ^ n ||| 2 ^ q) (nI 0) = nI n := by
  rw [nthI_add hq (pw_lt_bits h) (by omega), cnt_pw h, if_pos (by omega), nthI_pw0 (by omega)]
theorem nthI_pp1 {n q : Nat} (h : n < q) (hq : q < 63) : nthI (2 ^ n ||| 2 ^ q) (nI 1) = nI q := by
  rw [nthI_add hq (pw_lt_bits h) (by omega), cnt_pw h, if_neg (by omega), if_pos rfl]
def mcC (s : clS) (σ : jm_G) : Prop := σ.1 38 0 36 = nI s.1 ∧ ∀ c, c < s.1 → (σ.1 60 0 c = nthI (s.2.1 c) (nI 0) ∧ σ.1 61 0 c = nthI (s.2.1 c) (nI 1)) ∧ (σ.1 62 0 c = nthI (s.2.2.1 c) (nI 0) ∧ σ.1 63 0 c = nthI (s.2.2.1 c) (nI 1)) ∧ σ.2 64 0 c = lN (s.2.2.2.1 c) ∧ σ.2 65 0 c = lN (s.2.1 c ||| s.2.2.1 c)
theorem mcC_new {s : clS} {t r i : Nat} {σ τ : jm_G} {x60 x61 x62 x63 : Int32} {x64 x65 : Int64} (h : mcC s σ) (h36 : τ.1 38 0 36 = nI (s.1 + 1)) (h60 : τ.1 60 0 = upd (σ.1 60 0) s.1 x60) (h61 : τ.1 61 0 = upd (σ.1 61 0) s.1 x61) (h62 : τ.1 62 0 = upd (σ.1 62 0) s.1 x62) (h63 : τ.1 63 0 = upd (σ.1 63 0) s.1 x63) (h64 : τ.2 64 0 = vp_updL (σ.2 64 0) s.1 x64) (h65 : τ.2 65 0 = vp_updL (σ.2 65 0) s.1 x65)
    (e60 : x60 = nthI t (nI 0)) (e61 : x61 = nthI t (nI 1)) (e62 : x62 = nthI r (nI 0)) (e63 : x63 = nthI r (nI 1)) (e64 : x64 = lN i) (e65 : x65 = lN (t ||| r)) : mcC (clN t r i s) τ := by
  refine ⟨h36, fun c hc => ?_⟩
  have hc : c < s.1 + 1 := hc
  show (τ.1 60 0 c = nthI (if c = s.1 then t else s.2.1 c) (nI 0) ∧ τ.1 61 0 c = nthI (if c = s.1 then t else s.2.1 c) (nI 1)) ∧ (τ.1 62 0 c = nthI (if c = s.1 then r else s.2.2.1 c) (nI 0) ∧ τ.1 63 0 c = nthI (if c = s.1 then r else s.2.2.1 c) (nI 1)) ∧ τ.2 64 0 c = lN (if c = s.1 then i else s.2.2.2.1 c) ∧ τ.2 65 0 c = lN ((if c = s.1 then t else s.2.1 c) ||| (if c = s.1 then r else s.2.2.1 c))
  rw [h60, h61, h62, h63, h64, h65, upd_at, upd_at, upd_at, upd_at, updL_at, updL_at]
  by_cases e : c = s.1
  · rw [if_pos e, if_pos e, if_pos e, if_pos e, if_pos e, if_pos e, if_pos e, if_pos e, if_pos e]
    exact ⟨⟨e60, e61⟩, ⟨e62, e63⟩, e64, e65⟩
  · rw [if_neg e, if_neg e, if_neg e, if_neg e, if_neg e, if_neg e, if_neg e, if_neg e, if_neg e]
    exact h.2 c (by omega)
def mcA : List Nat := [60, 61, 62, 63, 64, 65]
abbrev ct_newT (C : jm_C) : Prop := ∀ (s : clS) (n : Nat) (ch : Nat → Nat) (p : Nat → Option Nat) (σ : jm_G) (x y : Int32) (post : Option jm_V → jm_G → Prop), mcC s σ → s.1 < 40 → n < 40 → (∀ q, p n = some q → n < q ∧ q < 40 ∧ σ.2 53 0 q = lN (ch q)) → σ.2 53 0 n = lN (ch n) → x = nI n → y = oN (p n) → (∀ σ', mf mcA [36] σ σ' → mcC (clN (teS p n) 0 (neS ch p n) s) σ' → post none σ') → C kX10_newCell [jR 38 0, jI x, jI y, jI (-(nI 1))] σ post
theorem T_newT (L : Nat) {C : jm_C} (hC : jm_mon C) : ct_newT (jm_up L C) := by
  intro s n ch p σ x y post hs hlt hn hpq hcn hx hy hp
  subst hx
  subst hy
  refine jm_start rfl (Nat.le_of_ble_eq_true rfl) hC fun X hg hw => ?_
  have hin : vp_in (σ.1 38 0 36) 40 := by rw [hs.1]; exact vp_in_nI hlt (by omega)
  have ec : (σ.1 38 0 36).toNatClampNeg = s.1 := by rw [hs.1]; exact nI_clamp (by omega)
  have en : (nI n).toNatClampNeg = n := nI_clamp (by omega)
  have npos : ¬ nI n < 0 := nI_pos (by omega)
  refine hg [] 120 _ ?_
  refine And.intro hin ?_
  refine And.intro hin ?_
  refine And.intro hin ?_
  refine And.intro hin ?_
  refine br_c (fun h => absurd h npos) (fun _ => ?_)
  refine And.intro (vp_in_nI (by omega) (by omega)) ?_
  cases hpn : p n with
  | none =>
    rw [teS_n hpn, neS_n hpn] at hp
    refine br_c (fun _ => ?_) (fun h => absurd m1_neg h)
    refine And.intro hin ?_
    refine br_c (fun h => absurd h npos) (fun _ => ?_)
    refine br_c (fun _ => ?_) (fun h => absurd m1_neg h)
    refine br_c (fun _ => ?_) (fun h => absurd m1_neg h)
    refine And.intro hin (And.intro trivial ?_)
    show post none (wI (wJ (wJ (wI (wI (wI (wI σ 60 0 (upd (σ.1 60 0) (σ.1 38 0 36).toNatClampNeg (nI n))) 61 0 (upd (σ.1 61 0) (σ.1 38 0 36).toNatClampNeg (oN none))) 62 0 (upd (σ.1 62 0) (σ.1 38 0 36).toNatClampNeg (-(nI 1)))) 63 0 (upd (σ.1 63 0) (σ.1 38 0 36).toNatClampNeg (-(nI 1)))) 64 0 (vp_updL (σ.2 64 0) (σ.1 38 0 36).toNatClampNeg (σ.2 53 0 (nI n).toNatClampNeg ||| lN 0))) 65 0 (vp_updL (σ.2 65 0) (σ.1 38 0 36).toNatClampNeg (((lN 1 <<< ((nI n).toInt64 &&& 63)) ||| lN 0) ||| lN 0))) 38 0 (upd (σ.1 38 0) 36 (σ.1 38 0 36 + nI 1)))
    rw [ec, en, hcn, hs.1, nI_add, lN_shl1 (by omega), fb_orL, fb_orL, fb_orL, Nat.or_zero, Nat.or_zero]
    refine hp _ (mf_sF (mf_wJ (mf_wJ (mf_wI (mf_wI (mf_wI (mf_wI (mf_refl _ _ _) (by decide) (by decide)) (by decide) (by decide)) (by decide) (by decide)) (by decide) (by decide)) (by decide) (by decide)) (by decide) (by decide)) (by decide)) (mcC_new hs (by rw [wI1, if_pos ⟨rfl, rfl⟩, upd_at, if_pos rfl]) rfl rfl rfl rfl rfl rfl ?_ ?_ ?_ ?_ rfl ?_)
    · rw [nthI_pw0 (by omega)]
    · rw [nthI_pw1 (by omega)]; rfl
    · rw [nthI_0]
    · rw [nthI_0]
    · rw [Nat.or_zero]
  | some q =>
    obtain ⟨hnq, hq4, hcq⟩ := hpq q hpn
    have qpos : ¬ nI q < 0 := nI_pos (by omega)
    have eq : (nI q).toNatClampNeg = q := nI_clamp (by omega)
    rw [teS_s hpn, neS_s hpn] at hp
    refine br_c (fun h => absurd h qpos) (fun _ => ?_)
    refine And.intro (show vp_in (nI q) 40 from vp_in_nI (by omega) (by omega)) ?_
    refine And.intro hin ?_
    refine br_c (fun h => absurd h npos) (fun _ => ?_)
    refine br_c (fun h => absurd h qpos) (fun _ => ?_)
    refine br_c (fun _ => ?_) (fun h => absurd m1_neg h)
    refine And.intro hin (And.intro trivial ?_)
    show post none (wI (wJ (wJ (wI (wI (wI (wI σ 60 0 (upd (σ.1 60 0) (σ.1 38 0 36).toNatClampNeg (nI n))) 61 0 (upd (σ.1 61 0) (σ.1 38 0 36).toNatClampNeg (nI q))) 62 0 (upd (σ.1 62 0) (σ.1 38 0 36).toNatClampNeg (-(nI 1)))) 63 0 (upd (σ.1 63 0) (σ.1 38 0 36).toNatClampNeg (-(nI 1)))) 64 0 (vp_updL (σ.2 64 0) (σ.1 38 0 36).toNatClampNeg (σ.2 53 0 (nI n).toNatClampNeg ||| σ.2 53 0 (nI q).toNatClampNeg))) 65 0 (vp_updL (σ.2 65 0) (σ.1 38 0 36).toNatClampNeg (((lN 1 <<< ((nI n).toInt64 &&& 63)) ||| (lN 1 <<< ((nI q).toInt64 &&& 63))) ||| lN 0))) 38 0 (upd (σ.1 38 0) 36 (σ.1 38 0 36 + nI 1)))
    rw [ec, en, eq, hcn, hcq, hs.1, nI_add, lN_shl1 (by omega), lN_shl1 (by omega), fb_orL, fb_orL, fb_orL, Nat.or_zero]
    refine hp _ (mf_sF (mf_wJ (mf_wJ (mf_wI (mf_wI (mf_wI (mf_wI (mf_refl _ _ _) (by decide) (by decide)) (by decide) (by decide)) (by decide) (by decide)) (by decide) (by decide)) (by decide) (by decide)) (by decide) (by decide)) (by decide)) (mcC_new hs (by rw [wI1, if_pos ⟨rfl, rfl⟩, upd_at, if_pos rfl]) rfl rfl rfl rfl rfl rfl ?_ ?_ ?_ ?_ rfl ?_)
    · rw [nthI_pp0 hnq (by omega)]
    · rw [nthI_pp1 hnq (by omega)]
    · rw [nthI_0]
    · rw [nthI_0]
    · rw [Nat.or_zero]
abbrev ct_newR (C : jm_C) : Prop := ∀ (s : clS) (r f : Nat) (σ : jm_G) (post : Option jm_V → jm_G → Prop), mcC s σ → s.1 < 40 → r < 40 → f < 40 → σ.1 41 0 (nI 3 * nI r).toNatClampNeg = nI f → (∀ σ', mf mcA [36] σ σ' → mcC (clN 0 (2 ^ r) (2 ^ f) s) σ' → post none σ') → C kX10_newCell [jR 38 0, jI (-(nI 1)), jI (-(nI 1)), jI (nI r)] σ post
theorem T_newR (L : Nat) {C : jm_C} (hC : jm_mon C) : ct_newR (jm_up L C) := by
  intro s r f σ post hs hlt hr hf h41 hp
  refine jm_start rfl (Nat.le_of_ble_eq_true rfl) hC fun X hg hw => ?_
  have hin : vp_in (σ.1 38 0 36) 40 := by rw [hs.1]; exact vp_in_nI hlt (by omega)
  have ec : (σ.1 38 0 36).toNatClampNeg = s.1 := by rw [hs.1]; exact nI_clamp (by omega)
  have npos : ¬ nI r < 0 := nI_pos (by omega)
  refine hg [] 120 _ ?_
  refine And.intro hin ?_
  refine And.intro hin ?_
  refine And.intro hin ?_
  refine And.intro hin ?_
  refine br_c (fun _ => ?_) (fun h => absurd m1_neg h)
  refine And.intro (show vp_in (nI 3 * nI r) 120 by rw [n3]; exact vp_in_nI (by omega) (by omega)) ?_
  refine And.intro hin ?_
  refine br_c (fun _ => ?_) (fun h => absurd m1_neg h)
  refine br_c (fun _ => ?_) (fun h => absurd m1_neg h)
  refine br_c (fun h => absurd h npos) (fun _ => ?_)
  refine And.intro hin (And.intro trivial ?_)
  show post none (wI (wJ (wJ (wI (wI (wI (wI σ 60 0 (upd (σ.1 60 0) (σ.1 38 0 36).toNatClampNeg (-(nI 1)))) 61 0 (upd (σ.1 61 0) (σ.1 38 0 36).toNatClampNeg (-(nI 1)))) 62 0 (upd (σ.1 62 0) (σ.1 38 0 36).toNatClampNeg (nI r))) 63 0 (upd (σ.1 63 0) (σ.1 38 0 36).toNatClampNeg (-(nI 1)))) 64 0 (vp_updL (σ.2 64 0) (σ.1 38 0 36).toNatClampNeg (lN 1 <<< ((σ.1 41 0 (nI 3 * nI r).toNatClampNeg).toInt64 &&& 63)))) 65 0 (vp_updL (σ.2 65 0) (σ.1 38 0 36).toNatClampNeg ((lN 0 ||| lN 0) ||| (lN 1 <<< ((nI r).toInt64 &&& 63))))) 38 0 (upd (σ.1 38 0) 36 (σ.1 38 0 36 + nI 1)))
  rw [ec, h41, hs.1, nI_add, lN_shl1 (by omega), lN_shl1 (by omega), fb_orL, fb_orL]
  refine hp _ (mf_sF (mf_wJ (mf_wJ (mf_wI (mf_wI (mf_wI (mf_wI (mf_refl _ _ _) (by decide) (by decide)) (by decide) (by decide)) (by decide) (by decide)) (by decide) (by decide)) (by decide) (by decide)) (by decide) (by decide)) (by decide)) (mcC_new hs (by rw [wI1, if_pos ⟨rfl, rfl⟩, upd_at, if_pos rfl]) rfl rfl rfl rfl rfl rfl ?_ ?_ ?_ ?_ rfl ?_)
  · rw [nthI_0]
  · rw [nthI_0]
  · rw [nthI_pw0 (by omega)]
  · rw [nthI_pw1 (by omega)]
  · rw [Nat.zero_or]
/-! registers in cells of tables: two at most -/
theorem clT_r (T : Nat) (ch : Nat → Nat) (p : Nat → Option Nat) : ∀ n c, (clT T ch p n).2.2.1 c = 0
  | 0, _ => rfl
  | n + 1, c => by
    rw [clT]
    split
    · show (if c = (clT T ch p n).1 then 0 else (clT T ch p n).2.2.1 c) = 0
      rw [clT_r T ch p n c]
      split <;> rfl
    · exact clT_r T ch p n c
theorem clR_0 (N : nw) (T : Nat) (ch : Nat → Nat) (p : Nat → Option Nat) : clR N T ch p 0 = clT T ch p 40 := by rw [clR]
theorem clR_tab {N : nw} {T : Nat} {ch : Nat → Nat} {p : Nat → Option Nat} (r : Nat) : ∀ c z, c < cnt (nwT T p) 40 → ((clR N T ch p r).2.2.1 c).testBit z = true → z < r ∧ isR N z = true ∧ (frM N T ch).testBit (nF N z) = true ∧ ceI T p (nF N z) = c := by
  induction r with
  | zero =>
    intro c z hc h
    rw [clR_0, clT_r, Nat.zero_testBit] at h
    cases h
  | succ r ih =>
    intro c z hc h
    have wk : ((clR N T ch p r).2.2.1 c).testBit z = true → z < r + 1 ∧ isR N z = true ∧ (frM N T ch).testBit (nF N z) = true ∧ ceI T p (nF N z) = c := fun q => by
      obtain ⟨a, b⟩ := ih c z hc q
      exact ⟨by omega, b⟩
    cases hr : isR N r with
    | false => rw [clR_f hr] at h; exact wk h
    | true =>
      cases hf : (frM N T ch).testBit (nF N r) with
      | true =>
        rw [clR_p hr hf] at h
        have h : (if c = ceI T p (nF N r) then (clR N T ch p r).2.2.1 c ||| 2 ^ r else (clR N T ch p r).2.2.1 c).testBit z = true := h
        by_cases e : c = ceI T p (nF N r)
        · rw [if_pos e, or_bit, Bool.or_eq_true, decide_eq_true_eq] at h
          rcases h with q | q
          · exact wk q
          · rw [q]; exact ⟨by omega, hr, hf, e.symm⟩
        · rw [if_neg e] at h
          exact wk h
      | false =>
        rw [clR_n hr hf] at h
        have h : (if c = (clR N T ch p r).1 then 2 ^ r else (clR N T ch p r).2.2.1 c).testBit z = true := h
        have := (clR_1 (N := N) (T := T) (ch := ch) (p := p) r).1
        rw [if_neg (by omega)] at h
        exact wk h
theorem clR_two {N : nw} {T : Nat} {ch : Nat → Nat} {p : Nat → Option Nat} (hT : T < 2 ^ 40) (hp : prI T 40 p) {r : Nat} (hr : isR N r = true) (hr4 : r < 40) (hf : (frM N T ch).testBit (nF N r) = true) : cnt ((clR N T ch p r).2.2.1 (ceI T p (nF N r))) r ≤ 1 := by
  have free : ∀ {z : Nat}, (frM N T ch).testBit (nF N z) = true → T.testBit (nF N z) = true ∧ (svM N 40).testBit (nF N z) = false := fun {z} h => by
    rw [frM_bit, Bool.and_eq_true, Bool.and_eq_true, Bool.and_eq_true, Bool.not_eq_true', Bool.not_eq_true', Bool.not_eq_true'] at h
    exact ⟨h.1.1.1, h.2⟩
  have hc := ceI_lt hT hp (free hf).1
  rcases Nat.lt_or_ge 1 (cnt ((clR N T ch p r).2.2.1 (ceI T p (nF N r))) r) with q | q
  · exfalso
    obtain ⟨a, a1, a2, a3⟩ := fb_ct_kth (p := fun i => ((clR N T ch p r).2.2.1 (ceI T p (nF N r))).testBit i) (k := 0) (Nat.lt_trans Nat.zero_lt_one q)
    obtain ⟨b, b1, b2, b3⟩ := fb_ct_kth (p := fun i => ((clR N T ch p r).2.2.1 (ceI T p (nF N r))).testBit i) (k := 1) q
    have hne : a ≠ b := fun e => by rw [e, b3] at a3; cases a3
    obtain ⟨-, ra, fa, ca⟩ := clR_tab r _ a hc a2
    obtain ⟨-, rb, fb, cb⟩ := clR_tab r _ b hc b2
    have diff : ∀ {x y : Nat}, x < 40 → y < 40 → x ≠ y → isR N x = true → isR N y = true → (frM N T ch).testBit (nF N x) = true → nF N x ≠ nF N y := fun {x y} hx hy hxy h1 h2 h3 e => by
      have h4 := (free h3).2
      have : (svM N 40).testBit (nF N x) = true := by
        rw [svM_bit]
        rcases Nat.lt_or_ge x y with c | c
        · exact ⟨x, y, c, hy, h1, h2, rfl, e.symm⟩
        · exact ⟨y, x, by omega, hx, h2, h1, e.symm, rfl⟩
      rw [h4] at this
      cases this
    have d1 := diff (x := r) (y := a) hr4 (by omega) (by omega) hr ra hf
    have d2 := diff (x := r) (y := b) hr4 (by omega) (by omega) hr rb hf
    have d3 := diff (x := a) (y := b) (by omega) (by omega) hne ra rb fa
    have p1 := ceI_two hT hp (free hf).1 (free fa).1 d1 ca.symm
    have p2 := ceI_two hT hp (free hf).1 (free fb).1 d2 cb.symm
    rw [p1] at p2
    exact d3 (Option.some.inj p2)
  · exact q
