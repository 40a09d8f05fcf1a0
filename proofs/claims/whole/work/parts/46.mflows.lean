/-! the model's flow: slotOf, flows -/
abbrev ct_slotOf (C : jm_C) : Prop := ∀ (N : nw) (u x : Nat) (b : Bool) (t : Nat → Nat) (a : Nat → Nat → Nat) (σ : jm_G) (post : Option jm_V → jm_G → Prop), nw_ok N → mN N σ → isG N u = true → x < 40 → fR σ t a → (∀ p k, a p k < 2 ^ 31) → (∃ k, slB N u k = true ∧ nR N u k = x ∧ (b = true → 0 < a u k)) →
  (∀ k, slB N u k = true → nR N u k = x → (b = true → 0 < a u k) → post (some (jI (nI (3 * u + k)))) σ) → C kX10_slotOf [jR 38 0, jI (nI u), jI (nI x), jI (bI b)] σ post
theorem T_slotOf (L : Nat) {C : jm_C} (hC : jm_mon C) : ct_slotOf (jm_up L C) := by
  intro N u x b t a σ post hok hN hu hx4 hR ha hex hp
  refine jm_start rfl (Nat.le_of_ble_eq_true rfl) hC fun X hg hw => ?_
  have h40 := hok.1
  have hun := isG_lt hu
  refine hg [3] 30 _ ?_
  show X (σ, 3, [some (jR 38 0), some (jI (nI u)), some (jI (nI x)), some (jI (bI b)), some (jI (nI 0))], [])
  have gen : ∀ (d k : Nat), k + d = 3 → (∃ k', k ≤ k' ∧ slB N u k' = true ∧ nR N u k' = x ∧ (b = true → 0 < a u k')) → X (σ, 3, [some (jR 38 0), some (jI (nI u)), some (jI (nI x)), some (jI (bI b)), some (jI (nI k))], []) := by
    intro d
    induction d with
    | zero =>
      intro k hkd ⟨k', h1, h2, _⟩
      have := (slB_lt hok h2).2.2
      omega
    | succ d ih =>
      intro k hkd ⟨k', q1, q2, q3, q4⟩
      have hin : vp_in (nI 3 * nI u + nI k) 120 := by rw [n3I]; exact vp_in_nI (by omega) (by omega)
      have es : σ.1 41 0 (nI 3 * nI u + nI k).toNatClampNeg = srcI N u k := by rw [n3I, nI_clamp (by omega)]; exact mN_src hN hu (by omega)
      have ea : σ.1 47 0 (nI 3 * nI u + nI k).toNatClampNeg = nI (a u k) := by rw [n3I, nI_clamp (by omega)]; exact hR.2 u k (by omega) (by omega)
      have hsrc : srcI N u k = nI x ↔ (slB N u k = true ∧ nR N u k = x) := by
        unfold srcI
        by_cases hk : k < ar (nK N u)
        · have := nR_lt hok hu hk
          rw [if_pos hk, nI_eq (by omega) (by omega)]
          exact ⟨fun q => ⟨slB_iff.mpr ⟨hu, hk⟩, q⟩, fun q => q.2⟩
        · rw [if_neg hk]
          exact ⟨fun q => absurd q.symm (oN_none (by omega)), fun q => absurd (slB_iff.mp q.1).2 hk⟩
      have nx : ¬ (slB N u k = true ∧ nR N u k = x ∧ (b = true → 0 < a u k)) → X (σ, 3, [some (jR 38 0), some (jI (nI u)), some (jI (nI x)), some (jI (bI b)), some (jI (nI k + nI 1))], []) := by
        intro hno
        rw [nI_add]
        refine ih (k + 1) (by omega) ⟨k', ?_, q2, q3, q4⟩
        by_cases e : k = k'
        · rw [← e] at q2 q3 q4; exact absurd ⟨q2, q3, q4⟩ hno
        · omega
      refine hg [3] 40 _ ?_
      refine br_c (fun h => ?_) (fun _ => ?_)
      · have h : nI 3 ≤ nI k := h
        rw [nI_leI (by omega) (by omega)] at h
        omega
      · refine And.intro hin ?_
        refine br_c (fun h => ?_) (fun h => ?_)
        · have h : σ.1 41 0 (nI 3 * nI u + nI k).toNatClampNeg = nI x := h
          rw [es, hsrc] at h
          refine br_c (fun h2 => ?_) (fun h2 => ?_)
          · have h2 := bI_0.mp h2
            refine And.intro trivial ?_
            show post (some (jI (nI 3 * nI u + nI k))) σ
            rw [n3I]
            exact hp k h.1 h.2 (fun e => by rw [h2] at e; cases e)
          · have h2 := bI_n0.mp h2
            refine And.intro hin ?_
            refine br_c (fun h3 => ?_) (fun h3 => ?_)
            · have h3 : σ.1 47 0 (nI 3 * nI u + nI k).toNatClampNeg ≤ 0 := h3
              rw [ea, pos_0 (ha u k)] at h3
              exact nx fun q => by have := q.2.2 h2; omega
            · have h3 : ¬ σ.1 47 0 (nI 3 * nI u + nI k).toNatClampNeg ≤ 0 := h3
              rw [ea, pos_0 (ha u k)] at h3
              refine And.intro trivial ?_
              show post (some (jI (nI 3 * nI u + nI k))) σ
              rw [n3I]
              exact hp k h.1 h.2 (fun _ => by omega)
        · have h : ¬ σ.1 41 0 (nI 3 * nI u + nI k).toNatClampNeg = nI x := h
          rw [es, hsrc] at h
          exact nx fun q => h ⟨q.1, q.2.1⟩
  obtain ⟨k, h1⟩ := hex
  exact gen 3 0 (by omega) ⟨k, by omega, h1⟩
theorem c_slotOf {C : jm_C} (h : ct_slotOf C) {N : nw} {u x : Nat} {b : Bool} {t : Nat → Nat} {a : Nat → Nat → Nat} {σ : jm_G} {post : Option jm_V → jm_G → Prop} {y z w : Int32} (hy : y = nI u) (hz : z = nI x) (hb : w = bI b) (hok : nw_ok N) (hN : mN N σ) (hu : isG N u = true) (hx4 : x < 40) (hR : fR σ t a) (ha : ∀ p k, a p k < 2 ^ 31) (hex : ∃ k, slB N u k = true ∧ nR N u k = x ∧ (b = true → 0 < a u k))
  (hp : ∀ k, slB N u k = true → nR N u k = x → (b = true → 0 < a u k) → post (some (jI (nI (3 * u + k)))) σ) : C kX10_slotOf [jR 38 0, jI y, jI z, jI w] σ post := by
  subst hy; subst hz; subst hb; exact h N u x b t a σ post hok hN hu hx4 hR ha hex hp
theorem mod40 {x : Nat} (h : x < 80) : nI x - nI x / nI 40 * nI 40 = nI (x % 40) := pk_rem (by omega) (by omega) (by omega)
theorem fR_t {σ : jm_G} {t t' : Nat → Nat} {a : Nat → Nat → Nat} {u : Nat} {x : Int32} (h : fR σ t a) (hx : x = nI (t' u)) (ht : ∀ v, v ≠ u → t' v = t v) : fR (wI σ 46 0 (upd (σ.1 46 0) u x)) t' a := by
  refine ⟨fun v hv => ?_, fun p k hp hk => ?_⟩
  · rw [wI1, if_pos ⟨rfl, rfl⟩, upd_at]
    by_cases e : v = u
    · rw [if_pos e, hx, e]
    · rw [if_neg e, ht v e]; exact h.1 v hv
  · rw [wI1, if_neg (by omega)]; exact h.2 p k hp hk
theorem fR_a {σ : jm_G} {t : Nat → Nat} {a a' : Nat → Nat → Nat} {u k0 : Nat} {x : Int32} (h : fR σ t a) (hk0 : k0 < 3) (hx : x = nI (a' u k0)) (ht : ∀ p k, ¬ (p = u ∧ k = k0) → a' p k = a p k) : fR (wI σ 47 0 (upd (σ.1 47 0) (3 * u + k0) x)) t a' := by
  refine ⟨fun v hv => ?_, fun p k hp hk => ?_⟩
  · rw [wI1, if_neg (by omega)]; exact h.1 v hv
  · rw [wI1, if_pos ⟨rfl, rfl⟩, upd_at]
    by_cases e : p = u ∧ k = k0
    · rw [e.1, e.2, if_pos rfl, hx]
    · rw [if_neg (by omega), ht p k e]; exact h.2 p k hp hk
abbrev ct_flows (C : jm_C) : Prop := ∀ (N : nw) (g m F leaf q p : Nat) (l t : Nat → Nat) (a : Nat → Nat → Nat) (Q : Nat → Nat) (cf : Nat → Option Nat) (σ : jm_G) (post : Option jm_V → jm_G → Prop), nw_ok N → mN N σ → isG N g = true → fR σ t a → mF N g m l t a F → F < 900 → mQ σ q Q cf → bM N g m l t a Q q p cf → p < q → Q p = 40 + leaf → isG N leaf = false →
  (∀ σ' t' a', mf [46, 47] [] σ σ' → fR σ' t' a' → mF N g m l t' a' (F + 1) → post none σ') → C kX10_flows [jR 38 0, jI (nI (40 + leaf))] σ post
theorem T_flows (L : Nat) {C : jm_C} (hC : jm_mon C) (h1 : ct_slotOf C) : ct_flows (jm_up L C) := by
  intro N g m F leaf q p l t a Q cf σ post hok hN hgt hR hF hF9 hQ hb hpq hQp hlf hp
  refine jm_start rfl (Nat.le_of_ble_eq_true rfl) hC fun X hg hw => ?_
  have h40 := hok.1
  have hg4 : g < 40 := by have := isG_lt hgt; omega
  have hq80 := mQ_le hQ
  have hgQ := hb.1
  refine hg [2] 30 _ ?_
  show X (σ, 2, [some (jR 38 0), some (jI (nI (40 + leaf))), some (jI (nI (40 + leaf))), none, none, none], [])
  have gen : ∀ (d n : Nat), n + d = 81 → ∀ (τ : jm_G) (t' : Nat → Nat) (a' : Nat → Nat → Nat) (x : Nat), ch cf (Q p) n = some x → mf [46, 47] [] σ τ → fR τ t' a' → wk N g m F l t a cf (Q p) n t' a' →
      X (τ, 2, [some (jR 38 0), some (jI (nI (40 + leaf))), some (jI (nI x)), none, none, none], []) := by
    intro d
    induction d with
    | zero =>
      intro n hnd τ t' a' x hx
      rw [gh_far hgQ hpq (by omega)] at hx
      cases hx
    | succ d ih =>
      intro n hnd τ t' a' x hx hf hRt hwk
      obtain ⟨i, hi, hix⟩ := gh_at hgQ hpq hx
      obtain ⟨hx80, -, hcf, hcz⟩ := hQ.2.1 i hi
      rw [hix] at hx80 hcf hcz
      have hNt := mN_mf hN hf (by decide) (by decide)
      have hfr : τ.1 48 0 (nI x).toNatClampNeg = fN (cf x) := by rw [nI_clamp (by omega), (hf.1 48 0 (by omega) (by decide)).1]; exact hcf
      have hin : vp_in (nI x) 80 := vp_in_nI hx80 (by omega)
      have ht31 : ∀ v, t' v < 2 ^ 31 := fun v => by
        have q1 := (hwk.2.2.2.1 v).1
        have q2 := hF.2.2.2.2.2.2.1 v
        omega
      have ha31 : ∀ p k, a' p k < 2 ^ 31 := fun p k => by
        have q1 := (hwk.2.2.2.2.1 p k).1
        have q2 := hF.2.2.2.2.2.2.2 p k
        omega
      refine hg [2] 80 _ ?_
      refine And.intro hin ?_
      cases hcx : cf x with
      | none =>
        rw [hcx] at hfr
        refine br_c (fun _ => ?_) (fun h => absurd hfr h)
        have hxg : x = 40 + g := by
          rcases hgQ.2 i hi with ⟨-, q2⟩ | ⟨j, -, q2, -⟩
          · rw [← hix]; exact q2
          · rw [hix, hcx] at q2; cases q2
        rw [hxg] at hx
        exact And.intro trivial (hp τ t' a' hf hRt (wk_end hF hwk hg4 hx))
      | some z =>
        have hz80 := hcz z hcx
        rw [hcx] at hfr
        have hfr : τ.1 48 0 (nI x).toNatClampNeg = nI z := hfr
        have hr : rMs N g m l t a z x ∧ eI N g z := by
          rcases hgQ.2 i hi with ⟨q1, -⟩ | ⟨j, hj, q2, q3⟩
          · rw [hix, hcx] at q1; cases q1
          · rw [hix, hcx] at q2
            rw [hix, ← Option.some.inj q2] at q3
            refine ⟨q3, ?_⟩
            rw [Option.some.inj q2]
            exact hb.2.2.2.1 j (by omega)
        refine br_c (fun h => ?_) (fun _ => ?_)
        · have h : τ.1 48 0 (nI x).toNatClampNeg = nI 1000 := h
          rw [hfr, nI_eq (by omega) (by omega)] at h
          omega
        · have e40 : ¬ nI 40 = 0 := by
            have : ¬ nI 40 = nI 0 := by rw [nI_eq (by omega) (by omega)]; omega
            exact this
          have ez : τ.1 48 0 (nI x).toNatClampNeg - τ.1 48 0 (nI x).toNatClampNeg / nI 40 * nI 40 = nI (z % 40) := by rw [hfr]; exact mod40 hz80
          have exm : nI x - nI x / nI 40 * nI 40 = nI (x % 40) := mod40 hx80
          refine And.intro hin ?_
          refine And.intro e40 ?_
          refine And.intro e40 ?_
          have hnx : ch cf (Q p) (n + 1) = some z := by rw [ch_succ hx, hcx]
          have nx : ∀ (υ : jm_G) (t'' : Nat → Nat) (a'' : Nat → Nat → Nat) (w1 w2 w3 : Int32), mf [46, 47] [] τ υ → fR υ t'' a'' → wk N g m F l t a cf (Q p) (n + 1) t'' a'' →
              X (υ, 2, [some (jR 38 0), some (jI (nI (40 + leaf))), some (jI (τ.1 48 0 (nI x).toNatClampNeg)), some (jI w1), some (jI w2), some (jI w3)], []) := by
            intro υ t'' a'' w1 w2 w3 q1 q2 q3
            refine hw _ _ _ [some (jR 38 0), some (jI (nI (40 + leaf))), some (jI (τ.1 48 0 (nI x).toNatClampNeg)), none, none, none] _ (by repeat' first | exact trivial | exact rfl | apply And.intro) ?_
            rw [hfr]
            exact ih (n + 1) (by omega) υ t'' a'' z hnx (mf_trans hf q1) q2 q3
          obtain ⟨hr, hez⟩ := hr
          rcases hr with ⟨u, e, hgu, ⟨k, r1, r2⟩ | ⟨r1, r2⟩⟩ | ⟨hz4, hzg, ⟨r1, r2⟩ | ⟨u, k, r1, r2, r3, r4, r5⟩⟩
          · -- along a source
            have hu4 : u < 40 := by have := isG_lt hgu; omega
            have hl := slB_lt hok r1
            have zu : z % 40 = u := by omega
            have xx : x % 40 = x := by omega
            have hiu : iN N g u := by
              rcases hez with ⟨q1, -⟩ | ⟨-, -, q1⟩
              · omega
              · rw [e, show 40 + u - 40 = u by omega] at q1; exact q1
            refine br_c (fun h => ?_) (fun _ => ?_)
            · have h : τ.1 48 0 (nI x).toNatClampNeg - τ.1 48 0 (nI x).toNatClampNeg / nI 40 * nI 40 = nI x - nI x / nI 40 * nI 40 := h
              rw [ez, exm, nI_eq (by omega) (by omega)] at h
              omega
            · refine br_c (fun h => ?_) (fun _ => ?_)
              · have h : τ.1 48 0 (nI x).toNatClampNeg < nI 40 := h
                rw [hfr, nI_ltI (by omega) (by omega)] at h
                omega
              · refine c_slotOf h1 (u := u) (x := x) (b := false) (ez.trans (by rw [zu])) (exm.trans (by rw [xx])) rfl hok hNt hgu (by omega) hRt ha31 ⟨k, r1, r2, fun q => by cases q⟩ fun k0 s1 s2 _ => ?_
                have hk0 := slB_lt hok s1
                have hin2 : vp_in (nI (3 * u + k0)) 120 := vp_in_nI (by omega) (by omega)
                refine And.intro hin2 ?_
                refine And.intro hin2 ?_
                have e3 : (nI (3 * u + k0)).toNatClampNeg = 3 * u + k0 := nI_clamp (by omega)
                have ha2 : ∀ p' k', (fun p' k' => if p' = u ∧ k' = k0 then a' p' k' + 1 else a' p' k') p' k' = a' p' k' + (if p' = u ∧ k' = k0 then 1 else 0) := by
                  intro p' k'
                  by_cases q : p' = u ∧ k' = k0
                  · simp only [if_pos q]
                  · simp only [if_neg q, Nat.add_zero]
                refine nx _ t' (fun p' k' => if p' = u ∧ k' = k0 then a' p' k' + 1 else a' p' k') _ _ _ (mf_wI (mf_refl _ _ _) (by decide) (by decide)) ?_ (wk_A hok hgQ hpq hx (by rw [hcx, e]) s1 s2 hiu hwk ha2)
                show fR (wI τ 47 0 (upd (τ.1 47 0) (nI (3 * u + k0)).toNatClampNeg (τ.1 47 0 (nI (3 * u + k0)).toNatClampNeg + nI 1))) _ _
                rw [e3]
                refine fR_a hRt hk0.2.2 ?_ (fun p' k' q => by simp only [if_neg q])
                rw [hRt.2 u k0 (by omega) hk0.2.2, nI_add]
                show _ = nI (if u = u ∧ k0 = k0 then _ else _)
                rw [if_pos ⟨rfl, rfl⟩]
          · -- back through a node
            subst r2
            have hx4 : x < 40 := by have := isG_lt hgu; omega
            have zu : z % 40 = x := by omega
            have xx : x % 40 = x := by omega
            have hcx' : cf x = some (40 + x) := by rw [hcx, e]
            have hteq := wk_B0 hgQ hpq hx hcx' hwk
            have hinx : vp_in (τ.1 48 0 (nI x).toNatClampNeg - τ.1 48 0 (nI x).toNatClampNeg / nI 40 * nI 40) 40 := by rw [ez, zu]; exact vp_in_nI hx4 (by omega)
            refine br_c (fun _ => ?_) (fun h => ?_)
            · refine And.intro hinx ?_
              refine br_c (fun _ => ?_) (fun h => ?_)
              · refine And.intro hinx ?_
                have ha2 : ∀ v, t' v = (fun v => if v = x then t' v - 1 else t' v) v + (if v = x then 1 else 0) := by
                  intro v
                  by_cases q : v = x
                  · simp only [if_pos q]; rw [q]; omega
                  · simp only [if_neg q, Nat.add_zero]
                refine nx _ (fun v => if v = x then t' v - 1 else t' v) a' _ _ _ (mf_wI (mf_refl _ _ _) (by decide) (by decide)) ?_ (wk_B hF hok hgQ hpq hx hx4 hcx' r1 hwk ha2)
                show fR (wI τ 46 0 (upd (τ.1 46 0) (τ.1 48 0 (nI x).toNatClampNeg - τ.1 48 0 (nI x).toNatClampNeg / nI 40 * nI 40).toNatClampNeg (τ.1 46 0 (τ.1 48 0 (nI x).toNatClampNeg - τ.1 48 0 (nI x).toNatClampNeg / nI 40 * nI 40).toNatClampNeg + -(nI 1)))) _ _
                rw [ez, zu, nI_clamp (by omega)]
                refine fR_t hRt ?_ (fun v q => by simp only [if_neg q])
                rw [hRt.1 x hx4]
                simp only [if_pos (Eq.refl x)]
                rw [show t' x = (t' x - 1) + 1 by omega, nI_m1]
                rfl
              · have h : ¬ nI 40 ≤ τ.1 48 0 (nI x).toNatClampNeg := h
                rw [hfr, nI_leI (by omega) (by omega)] at h
                omega
            · have h : ¬ τ.1 48 0 (nI x).toNatClampNeg - τ.1 48 0 (nI x).toNatClampNeg / nI 40 * nI 40 = nI x - nI x / nI 40 * nI 40 := h
              rw [ez, exm, zu, xx] at h
              exact absurd rfl h
          · -- through a node
            have zz : z % 40 = z := by omega
            have xz : x % 40 = z := by omega
            have hiz : iN N g z := by
              rcases hez with ⟨-, q1⟩ | ⟨q1, -⟩
              · exact q1
              · omega
            have hinz : vp_in (τ.1 48 0 (nI x).toNatClampNeg - τ.1 48 0 (nI x).toNatClampNeg / nI 40 * nI 40) 40 := by rw [ez, zz]; exact vp_in_nI hz4 (by omega)
            refine br_c (fun _ => ?_) (fun h => ?_)
            · refine And.intro hinz ?_
              refine br_c (fun h => ?_) (fun _ => ?_)
              · have h : nI 40 ≤ τ.1 48 0 (nI x).toNatClampNeg := h
                rw [hfr, nI_leI (by omega) (by omega)] at h
                omega
              · refine And.intro hinz ?_
                have ha2 : ∀ v, (fun v => if v = z then t' v + 1 else t' v) v = t' v + (if v = z then 1 else 0) := by
                  intro v
                  by_cases q : v = z
                  · simp only [if_pos q]
                  · simp only [if_neg q, Nat.add_zero]
                refine nx _ (fun v => if v = z then t' v + 1 else t' v) a' _ _ _ (mf_wI (mf_refl _ _ _) (by decide) (by decide)) ?_ (wk_C hgQ hpq (by rw [← r1]; exact hx) hz4 hzg hiz (by rw [← r1]; exact hcx) r2 hwk ha2)
                show fR (wI τ 46 0 (upd (τ.1 46 0) (τ.1 48 0 (nI x).toNatClampNeg - τ.1 48 0 (nI x).toNatClampNeg / nI 40 * nI 40).toNatClampNeg (τ.1 46 0 (τ.1 48 0 (nI x).toNatClampNeg - τ.1 48 0 (nI x).toNatClampNeg / nI 40 * nI 40).toNatClampNeg + nI 1))) _ _
                rw [ez, zz, nI_clamp (by omega)]
                refine fR_t hRt ?_ (fun v q => by simp only [if_neg q])
                rw [hRt.1 z hz4, nI_add]
                show _ = nI (if z = z then _ else _)
                rw [if_pos rfl]
            · have h : ¬ τ.1 48 0 (nI x).toNatClampNeg - τ.1 48 0 (nI x).toNatClampNeg / nI 40 * nI 40 = nI x - nI x / nI 40 * nI 40 := h
              rw [ez, exm, zz, xz] at h
              exact absurd rfl h
          · -- back along a source
            have hu4 : u < 40 := (slB_lt hok r3).2.1
            have hgu := (slB_iff.mp r3).1
            have hl := slB_lt hok r3
            have zz : z % 40 = z := by omega
            have xu : x % 40 = u := by omega
            rw [r1] at hx hcx
            refine br_c (fun h => ?_) (fun _ => ?_)
            · have h : τ.1 48 0 (nI x).toNatClampNeg - τ.1 48 0 (nI x).toNatClampNeg / nI 40 * nI 40 = nI x - nI x / nI 40 * nI 40 := h
              rw [ez, exm, nI_eq (by omega) (by omega)] at h
              omega
            · refine br_c (fun _ => ?_) (fun h => ?_)
              · have hsame : ∀ k, nR N u k = z → a' u k = a u k := fun k q => wk_D0 hgQ hpq hx (by rw [q]; exact hcx) hwk
                refine c_slotOf h1 (u := u) (x := z) (b := true) (exm.trans (by rw [xu])) (ez.trans (by rw [zz])) rfl hok hNt hgu hz4 hRt ha31 ⟨k, r3, r4, fun _ => by rw [hsame k r4]; exact r5⟩ fun k0 s1 s2 s3 => ?_
                have s3 := s3 rfl
                have hk0 := slB_lt hok s1
                have hin2 : vp_in (nI (3 * u + k0)) 120 := vp_in_nI (by omega) (by omega)
                refine And.intro hin2 ?_
                refine And.intro hin2 ?_
                have e3 : (nI (3 * u + k0)).toNatClampNeg = 3 * u + k0 := nI_clamp (by omega)
                have ha2 : ∀ p' k', a' p' k' = (fun p' k' => if p' = u ∧ k' = k0 then a' p' k' - 1 else a' p' k') p' k' + (if p' = u ∧ k' = k0 then 1 else 0) := by
                  intro p' k'
                  by_cases q : p' = u ∧ k' = k0
                  · simp only [if_pos q]; rw [q.1, q.2]; omega
                  · simp only [if_neg q, Nat.add_zero]
                refine nx _ t' (fun p' k' => if p' = u ∧ k' = k0 then a' p' k' - 1 else a' p' k') _ _ _ (mf_wI (mf_refl _ _ _) (by decide) (by decide)) ?_ (wk_D hok hgQ hpq hx hz4 hcx s1 s2 hwk ha2)
                show fR (wI τ 47 0 (upd (τ.1 47 0) (nI (3 * u + k0)).toNatClampNeg (τ.1 47 0 (nI (3 * u + k0)).toNatClampNeg - nI 1))) _ _
                rw [e3]
                refine fR_a hRt hk0.2.2 ?_ (fun p' k' q => by simp only [if_neg q])
                rw [hRt.2 u k0 (by omega) hk0.2.2, pk_sub (by omega)]
                show _ = nI (if u = u ∧ k0 = k0 then _ else _)
                rw [if_pos ⟨rfl, rfl⟩]
              · have h : ¬ τ.1 48 0 (nI x).toNatClampNeg < nI 40 := h
                rw [hfr, nI_ltI (by omega) (by omega)] at h
                omega
  refine gen 81 0 (by omega) σ t a (40 + leaf) (by rw [← hQp]; rfl) (mf_refl _ _ _) hR ?_
  rw [hQp]
  exact wk_0 hF hgt hlf
