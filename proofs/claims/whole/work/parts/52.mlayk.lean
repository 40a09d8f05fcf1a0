/-! the model's laysKept -/
theorem f8_iff {l : Nat → Nat} {P P' : Nat → Prop} {n : Nat} {kc : Nat → Nat} (h : ∀ x, P x ↔ P' x) (hk : f8 l P n kc) : f8 l P' n kc := by
  obtain ⟨a1, a2, a3, a4⟩ := hk
  exact ⟨a1, fun i hi => (h _).mp (a2 i hi), a3, fun x hx => a4 x ((h x).mpr hx)⟩
theorem mkR_mf {A B : List Nat} {σ τ : jm_G} {n : Nat} {kp : Nat → Nat × (Nat → Nat)} (h : mkR σ n kp) (hm : mf A B σ τ) (h1 : ∀ x, x ∈ A → ¬ x ∈ [50, 51]) : mkR τ n kp := by
  unfold mkR
  rw [(hm.1 51 0 (by omega) (fun q => h1 51 q (by decide))).1, (hm.1 50 0 (by omega) (fun q => h1 50 q (by decide))).2]
  exact h
theorem c_setOf {C : jm_C} (h : ct_setOf C) {N : nw} {s i n : Nat} {kp : Nat → Nat × (Nat → Nat)} {σ : jm_G} {post : Option jm_V → jm_G → Prop} {x y : Int32} (hx : x = nI s) (hy : y = nI i) (hok : nw_ok N) (hN : mN N σ) (hs : s < n) (hn : n ≤ nN N) (hi : i < 9) (hk : mkR σ n kp) (hl : isG N s = false → (kp s).1 = 0) (hp : post (some (jJ (lN (stO kp s i)))) σ) : C kX10_setOf [jR 38 0, jI x, jI y] σ post := by
  subst hx; subst hy; exact h N s i n kp σ post hok hN hs hn hi hk hl hp
abbrev ct_mlayK (C : jm_C) : Prop := ∀ (N : nw) (g K : Nat) (σ : jm_G) (post : Option jm_V → jm_G → Prop), nw_ok N → mN N σ → isG N g = true → 3 ≤ K → K ≤ 6 → σ.1 38 0 7 = nI K → (∀ j, j < g → σ.1 44 0 j = nI (lev N K j) ∧ lev N K j < 100) → σ.2 45 0 g = lN (nea N K g) → nOK N K (g + 1) → mkR σ g (kp N K) →
  (∀ σ', mf [50, 51, 52] [21] σ σ' → (∀ j, j ≠ g → σ'.1 51 0 j = σ.1 51 0 j) → (∀ j, (j < 8 * g ∨ 8 * g + 8 ≤ j) → σ'.2 50 0 j = σ.2 50 0 j) → σ'.1 51 0 g = nI (kp N K g).1 → (∀ c, c < (kp N K g).1 → σ'.2 50 0 (8 * g + c) = lN ((kp N K g).2 c)) → post none σ') → C kX10_laysKept [jR 38 0, jI (nI g)] σ post
theorem T_mlayK (L : Nat) {C : jm_C} (hC : jm_mon C) (h1 : ct_makes C) (h2 : ct_msrcOf C) (h3 : ct_setOf C) (h4 : ct_puts C) : ct_mlayK (jm_up L C) := by
  intro N g K σ post hok hN hgt hK hK6 h7 hlv h45 hnO hkR hp
  refine jm_start rfl (Nat.le_of_ble_eq_true rfl) hC fun X hg hw => ?_
  have h40 := hok.1
  have hgn := isG_lt hgt
  have eg : (nI g).toNatClampNeg = g := nI_clamp (by omega)
  have hing : vp_in (nI g) 40 := vp_in_nI (by omega) (by omega)
  have har := ar_pos (nK N g)
  have hkp := kp_ok hok (n := g) (K := K) (fun s hs => hnO s (by omega))
  have hcOK : ∀ x, cand N K g (kp N K) x → cOK K g x := fun x hx => cand_ok hok hgt hnO hkp hx
  have hne := hcOK _ (Or.inl rfl)
  have hleaf : ∀ s, isG N s = false → (kp N K s).1 = 0 := fun s hs => by rw [kp_leaf hs]
  have hz : ∀ p, p < ar (nK N g) → (kp N K (nR N g p)).1 ≤ 8 ∧ ∀ c, c < (kp N K (nR N g p)).1 → (kp N K (nR N g p)).2 c ≠ 0 := fun p hp9 => ⟨kp_le hok, fun c hc e => by
    obtain ⟨j, hj⟩ := (hkp _ (nR_lt hok hgt hp9) c hc).2.2.2
    rw [e, Nat.zero_testBit] at hj
    cases hj⟩
  have h9 : ¬ nI 9 = 0 := by
    have : ¬ nI 9 = nI 0 := by rw [nI_eq (by omega) (by omega)]; omega
    exact this
  have hlim : mlim N g ≤ 729 := by unfold mlim; split <;> (try split) <;> omega
  -- how those are put in row
  have second : ∀ (τ : jm_G) (m : Nat) (R : Nat → Nat), mf [52] [21] σ τ → dR τ m R → (∀ j, j < m → cand N K g (kp N K) (R j)) → (∀ x, cand N K g (kp N K) x → ∃ j, j < m ∧ R j = x) →
      X (τ, 188, [some (jR 38 0), some (jI (nI g)), some (jI (nI (ar (nK N g)))), some (jI (nI 9)), some (jI (nI 0)), some (jI (nI 0)), none, none, none, none, none], []) := by
    intro τ m R hf hR hM1 hM2
    have gen : ∀ (d k : Nat), k + d = m → ∀ (υ : jm_G) (n : Nat) (kc : Nat → Nat), mf [50] [] τ υ → (∀ j, (j < 8 * g ∨ 8 * g + 8 ≤ j) → υ.2 50 0 j = τ.2 50 0 j) → (∀ c, c < n → υ.2 50 0 (8 * g + c) = lN (kc c)) → f8 (lev N K) (fun y => mn (cand N K g (kp N K)) y ∧ ∃ j, j < k ∧ R j = y) n kc →
        X (υ, 188, [some (jR 38 0), some (jI (nI g)), some (jI (nI (ar (nK N g)))), some (jI (nI 9)), some (jI (nI n)), some (jI (nI k)), none, none, none, none, none], []) := by
      intro d
      induction d with
      | zero =>
        intro k hkd υ n kc q1 q2 q3 q4
        have e : k = m := by omega
        subst e
        have e21 : υ.1 38 0 21 = nI k := by rw [(q1.2 0 21 (by decide)).1]; exact hR.1
        have hk2 : isKept (lev N K) (cand N K g (kp N K)) n kc := f8_iff (fun x => ⟨fun h => h.1, fun h => ⟨h, hM2 x h.1⟩⟩) q4
        obtain ⟨k1, k2⟩ := keep_eq hk2
        rw [← kp_gate hok hgt] at k1 k2
        have hn8 := hk2.1
        have hkm := hR.2.1
        refine hg [188, 203] 40 _ ?_
        refine br_c (fun _ => ?_) (fun h => ?_)
        · refine And.intro hing ?_
          refine And.intro trivial (hp _ (mf_wI (mf_trans (mf_wide hf (by decide) (by decide)) (mf_wide q1 (by decide) (by decide))) (by decide) (by decide)) (fun j hj => ?_) (fun j hj => ?_) ?_ (fun c hc => ?_))
          · rw [wI1, if_pos ⟨rfl, rfl⟩, eg, upd_at, if_neg hj]
            show υ.1 51 0 j = _
            rw [(q1.1 51 0 (by omega) (by decide)).1, (hf.1 51 0 (by omega) (by decide)).1]
          · rw [wI2, q2 j hj, (hf.1 50 0 (by omega) (by decide)).2]
          · rw [wI1, if_pos ⟨rfl, rfl⟩, eg, upd_at, if_pos rfl, k1]
          · rw [k1] at hc
            rw [wI2, k2 c hc]
            exact q3 c hc
        · have h : ¬ υ.1 38 0 21 ≤ nI k := h
          rw [e21, nI_leI (by omega) (by omega)] at h
          omega
      | succ d ih =>
        intro k hkd υ n kc q1 q2 q3 q4
        have hkm := hR.2.1
        have hn8 := q4.1
        have e21 : υ.1 38 0 21 = nI m := by rw [(q1.2 0 21 (by decide)).1]; exact hR.1
        have e52 : υ.2 52 0 = τ.2 52 0 := (q1.1 52 0 (by omega) (by decide)).2
        have hRv : ∀ j, j < m → R j < 2 ^ 40 ∧ υ.2 52 0 (nI j).toNatClampNeg = lN (R j) := fun j hj => by rw [nI_clamp (by omega), e52]; exact hR.2.2.1 j hj
        refine hg [188, 203] 40 _ ?_
        refine br_c (fun h => ?_) (fun _ => ?_)
        · have h : υ.1 38 0 21 ≤ nI k := h
          rw [e21, nI_leI (by omega) (by omega)] at h
          omega
        · have inner : ∀ (e j : Nat), j + e = m → ∀ b : Bool, (b = true ↔ ∀ i, i < j → i ≠ k → ¬ sub (R i) (R k)) →
              X (υ, 203, [some (jR 38 0), some (jI (nI g)), some (jI (nI (ar (nK N g)))), some (jI (nI 9)), some (jI (nI n)), some (jI (nI k)), some (jI (bI b)), some (jI (nI j)), none, none, none], []) := by
            intro e
            induction e with
            | zero =>
              intro j hje b hb
              have ej : j = m := by omega
              subst ej
              refine hg [188, 203] 60 _ ?_
              refine br_c (fun _ => ?_) (fun h => ?_)
              · refine br_c (fun h => ?_) (fun h => ?_)
                · have h := bI_0.mp h
                  refine hw _ _ _ [some (jR 38 0), some (jI (nI g)), some (jI (nI (ar (nK N g)))), some (jI (nI 9)), some (jI (nI n)), some (jI (nI k + nI 1)), none, none, none, none, none] _ (by repeat' first | exact trivial | exact rfl | apply And.intro) ?_
                  rw [nI_add]
                  refine ih (k + 1) (by omega) υ n kc q1 q2 q3 (f8_iff (fun y => ⟨fun w => ⟨w.1, ?_⟩, fun w => ⟨w.1, ?_⟩⟩) q4)
                  · obtain ⟨i, hi, ei⟩ := w.2; exact ⟨i, by omega, ei⟩
                  · obtain ⟨i, hi, ei⟩ := w.2
                    by_cases q : i = k
                    · exfalso
                      have : b = true := hb.mpr fun i2 hi2 hne2 hs2 => by
                        have := w.1.2 (R i2) (hM1 i2 hi2) (by rw [← ei, q]; exact hs2)
                        exact hne2 (hR.2.2.2 i2 k hi2 (by omega) (by rw [this, ← ei, q]))
                      rw [h] at this
                      cases this
                    · exact ⟨i, by omega, ei⟩
                · have h := bI_n0.mp h
                  have hall := hb.mp h
                  obtain ⟨rk1, rk2⟩ := hRv k (by omega)
                  have hck := hcOK _ (hM1 k (by omega))
                  have hmn : mn (cand N K g (kp N K)) (R k) := ⟨hM1 k (by omega), fun y hy hs => by
                    obtain ⟨i, hi, ei⟩ := hM2 y hy
                    by_cases q : i = k
                    · rw [← ei, q]
                    · exact absurd (by rw [ei]; exact hs) (hall i hi q)⟩
                  have hNu : mN N υ := mN_mf (mN_mf hN hf (by decide) (by decide)) q1 (by decide) (by decide)
                  have e44 : υ.1 44 0 = σ.1 44 0 := by rw [(q1.1 44 0 (by omega) (by decide)).1, (hf.1 44 0 (by omega) (by decide)).1]
                  refine And.intro (vp_in_nI (by omega) (by omega)) ?_
                  have call : ∀ {post' : Option jm_V → jm_G → Prop}, (∀ v ω, post' v ω → post' v ω) → C kX10_puts [jR 38 0, jI (nI g), jJ (lN (R k)), jI (nI n)] υ post' → C kX10_puts [jR 38 0, jI (nI g), jJ (υ.2 52 0 (nI k).toNatClampNeg), jI (nI n)] υ post' := fun _ h => by rw [rk2]; exact h
                  refine call (fun _ _ h => h) ?_
                  refine h4 N g (R k) n kc (lev N K) υ _ hok hNu hgn hn8 rk1 (by have := hck.2.1; omega) (fun c hc => ?_) (fun j hj => ?_) q4.2.2.1 q3 fun ω n' kc' o1 o2 o3 o4 => ?_
                  · have := hcOK _ (q4.2.1 c hc).1.1
                    exact ⟨this.1, by have := this.2.1; omega⟩
                  · have hjg : j < g := by
                      rcases hj with hj | ⟨c, hc, hj⟩
                      · exact hck.2.2.1 j hj
                      · exact (hcOK _ (q4.2.1 c hc).1.1).2.2.1 j hj
                    rw [e44]
                    exact ⟨by omega, hlv j hjg⟩
                  · refine hw _ _ _ [some (jR 38 0), some (jI (nI g)), some (jI (nI (ar (nK N g)))), some (jI (nI 9)), some (jI (nI n')), some (jI (nI k + nI 1)), none, none, none, none, none] _ (by repeat' first | exact trivial | exact rfl | apply And.intro) ?_
                    rw [nI_add]
                    refine ih (k + 1) (by omega) ω n' kc' (mf_trans q1 o1) (fun j hj => (o2 j hj).trans (q2 j hj)) o3 (f8_iff (fun y => ⟨?_, ?_⟩) (ins_f8 q4 (fun y hy he => ?_) o4))
                    · rintro (⟨w1, i, hi, ei⟩ | w)
                      · exact ⟨w1, i, by omega, ei⟩
                      · rw [w]; exact ⟨hmn, k, by omega, rfl⟩
                    · rintro ⟨w1, i, hi, ei⟩
                      by_cases q : i = k
                      · rw [q] at ei; exact Or.inr ei.symm
                      · exact Or.inl ⟨w1, i, by omega, ei⟩
                    · obtain ⟨w1, i, hi, ei⟩ := hy
                      have hcy := hcOK _ w1.1
                      have := plc_inj hcy.1 hck.1 (by have := hcy.2.1; omega) (by have := hck.2.1; omega) he
                      have := hR.2.2.2 i k (by omega) (by omega) (by rw [ei, this])
                      omega
              · have h : ¬ υ.1 38 0 21 ≤ nI j := h
                rw [e21, nI_leI (by omega) (by omega)] at h
                omega
            | succ e ihe =>
              intro j hje b hb
              refine hg [188, 203] 60 _ ?_
              refine br_c (fun h => ?_) (fun _ => ?_)
              · have h : υ.1 38 0 21 ≤ nI j := h
                rw [e21, nI_leI (by omega) (by omega)] at h
                omega
              · refine br_c (fun h => ?_) (fun h => ?_)
                · have h := bI_0.mp h
                  show X (υ, 203, [some (jR 38 0), some (jI (nI g)), some (jI (nI (ar (nK N g)))), some (jI (nI 9)), some (jI (nI n)), some (jI (nI k)), some (jI (bI false)), some (jI (nI j + nI 1)), none, none, none], [])
                  rw [nI_add]
                  refine ihe (j + 1) (by omega) false ⟨fun w => (by cases w), fun w => ?_⟩
                  rw [← h]
                  exact hb.mpr fun i hi => w i (by omega)
                · have h := bI_n0.mp h
                  have hall := hb.mp h
                  refine br_c (fun h5 => ?_) (fun h5 => ?_)
                  · have h5 : nI j = nI k := h5
                    rw [nI_eq (by omega) (by omega)] at h5
                    show X (υ, 203, [some (jR 38 0), some (jI (nI g)), some (jI (nI (ar (nK N g)))), some (jI (nI 9)), some (jI (nI n)), some (jI (nI k)), some (jI (bI true)), some (jI (nI j + nI 1)), none, none, none], [])
                    rw [nI_add]
                    refine ihe (j + 1) (by omega) true ⟨fun _ i hi hne2 => ?_, fun _ => rfl⟩
                    exact hall i (by omega) hne2
                  · have h5 : ¬ nI j = nI k := h5
                    rw [nI_eq (by omega) (by omega)] at h5
                    obtain ⟨j1, j2⟩ := hRv j (by omega)
                    obtain ⟨k1, k2⟩ := hRv k (by omega)
                    refine And.intro (vp_in_nI (by omega) (by omega)) ?_
                    refine And.intro (vp_in_nI (by omega) (by omega)) ?_
                    have es : υ.2 52 0 (nI j).toNatClampNeg &&& (υ.2 52 0 (nI k).toNatClampNeg ^^^ (-1)) = lN (sD (R j) (R k)) := by rw [j2, k2, lN_andn]
                    have ls : sD (R j) (R k) < 2 ^ 64 := Nat.lt_trans (sD_lt j1) (by omega)
                    refine br_c (fun h6 => ?_) (fun h6 => ?_)
                    · have h6 : lg_cmp (υ.2 52 0 (nI j).toNatClampNeg &&& (υ.2 52 0 (nI k).toNatClampNeg ^^^ (-1))) (lN 0) = 0 := h6
                      rw [es, cmp_0, lN_inj ls (by omega), sD_0] at h6
                      show X (υ, 203, [some (jR 38 0), some (jI (nI g)), some (jI (nI (ar (nK N g)))), some (jI (nI 9)), some (jI (nI n)), some (jI (nI k)), some (jI (bI false)), some (jI (nI j + nI 1)), none, none, none], [])
                      rw [nI_add]
                      exact ihe (j + 1) (by omega) false ⟨fun w => (by cases w), fun w => absurd h6 (w j (by omega) h5)⟩
                    · have h6 : ¬ lg_cmp (υ.2 52 0 (nI j).toNatClampNeg &&& (υ.2 52 0 (nI k).toNatClampNeg ^^^ (-1))) (lN 0) = 0 := h6
                      rw [es, cmp_0, lN_inj ls (by omega), sD_0] at h6
                      show X (υ, 203, [some (jR 38 0), some (jI (nI g)), some (jI (nI (ar (nK N g)))), some (jI (nI 9)), some (jI (nI n)), some (jI (nI k)), some (jI (bI true)), some (jI (nI j + nI 1)), none, none, none], [])
                      rw [nI_add]
                      refine ihe (j + 1) (by omega) true ⟨fun _ i hi hne2 => ?_, fun _ => rfl⟩
                      by_cases q : i = j
                      · rw [q]; exact h6
                      · exact hall i (by omega) hne2
          exact inner m 0 (by omega) true ⟨fun _ i hi => absurd hi (by omega), fun _ => rfl⟩
    exact gen m 0 (by omega) τ 0 (fun _ => 0) (mf_refl _ _ _) (fun _ _ => rfl) (fun c hc => absurd hc (by omega)) ⟨by omega, fun i hi => absurd hi (by omega), fun i j _ hj => absurd hj (by omega), fun x hx => by obtain ⟨-, j, hj, -⟩ := hx; omega⟩
  have w52 : ∀ {υ τ : jm_G}, mf [52] [21] υ τ → mN N υ → mN N τ := fun h hn => mN_mf hn h (by decide) (by decide)
  -- which are made
  have first : ∀ (d k : Nat), k + d = mlim N g → ∀ (τ : jm_G) (m : Nat) (R : Nat → Nat), mf [52] [21] σ τ → dR τ m R → m ≤ 1 + k → (∀ j, j < m → cand N K g (kp N K) (R j)) → (∃ j, j < m ∧ R j = nea N K g) → (∀ k' x, k' < k → mOK N g (kp N K) k' x → cnt x 40 ≤ K → ∃ j, j < m ∧ R j = x) →
      X (τ, 31, [some (jR 38 0), some (jI (nI g)), some (jI (nI (ar (nK N g)))), some (jI (nI 9)), some (jI (nI k)), none, none, none, none, none, none], []) := by
    intro d
    induction d with
    | zero =>
      intro k hkd τ m R hf hR hm hM1 hnr hM2
      have fin : X (τ, 188, [some (jR 38 0), some (jI (nI g)), some (jI (nI (ar (nK N g)))), some (jI (nI 9)), some (jI (nI 0)), some (jI (nI 0)), none, none, none, none, none], []) := by
        refine second τ m R hf hR hM1 fun x hx => ?_
        rcases id hx with e | ⟨q1, a, b, c, qa, qb, qc, e⟩
        · rw [e]; exact hnr
        · obtain ⟨k', r1, r2⟩ := cand_mOK hz qa qb qc e
          exact hM2 k' x (by omega) r2 q1
      unfold mlim at hkd
      refine hg [188] 40 _ ?_
      refine br_c (fun h => ?_) (fun h => ?_)
      · have h : nI (ar (nK N g)) = nI 1 := h
        rw [nI_eq (by omega) (by omega)] at h
        rw [if_pos h] at hkd
        refine br_c (fun _ => fin) (fun h5 => ?_)
        have h5 : ¬ nI 9 ≤ nI k := h5
        rw [nI_leI (by omega) (by omega)] at h5
        omega
      · have h : ¬ nI (ar (nK N g)) = nI 1 := h
        rw [nI_eq (by omega) (by omega)] at h
        rw [if_neg h] at hkd
        refine br_c (fun h2 => ?_) (fun h2 => ?_)
        · have h2 : nI (ar (nK N g)) = nI 2 := h2
          rw [nI_eq (by omega) (by omega)] at h2
          rw [if_pos h2] at hkd
          refine br_c (fun _ => fin) (fun h5 => ?_)
          have h5 : ¬ nI 9 * nI 9 ≤ nI k := h5
          rw [pk_mul, nI_leI (by omega) (by omega)] at h5
          omega
        · have h2 : ¬ nI (ar (nK N g)) = nI 2 := h2
          rw [nI_eq (by omega) (by omega)] at h2
          rw [if_neg h2] at hkd
          refine br_c (fun _ => fin) (fun h5 => ?_)
          have h5 : ¬ nI 9 * nI 9 * nI 9 ≤ nI k := h5
          rw [pk_mul, pk_mul, nI_leI (by omega) (by omega)] at h5
          omega
    | succ d ih =>
      intro k hkd τ m R hf hR hm hM1 hnr hM2
      have hNt := w52 hf hN
      have hkt := mkR_mf hkR hf (by decide)
      have e7 : τ.1 38 0 7 = nI K := by rw [(hf.2 0 7 (by decide)).1]; exact h7
      -- the next one
      have nx : ∀ (υ : jm_G) (m' : Nat) (R' : Nat → Nat) (A B D : Int64), mf [52] [21] τ υ → dR υ m' R' → m' ≤ m + 1 → (∀ j, j < m' → cand N K g (kp N K) (R' j)) → (∃ j, j < m' ∧ R' j = nea N K g) → (∀ k' x, k' < k + 1 → mOK N g (kp N K) k' x → cnt x 40 ≤ K → ∃ j, j < m' ∧ R' j = x) →
          X (υ, 31, [some (jR 38 0), some (jI (nI g)), some (jI (nI (ar (nK N g)))), some (jI (nI 9)), some (jI (nI k + nI 1)), some (jJ A), none, some (jJ B), none, some (jJ D), none], []) := by
        intro υ m' R' A B D q1 q2 q3 q4 q5 q6
        refine hw _ _ _ [some (jR 38 0), some (jI (nI g)), some (jI (nI (ar (nK N g)))), some (jI (nI 9)), some (jI (nI k + nI 1)), none, none, none, none, none, none] _ (by repeat' first | exact trivial | exact rfl | apply And.intro) ?_
        rw [nI_add]
        exact ih (k + 1) (by omega) υ m' R' (mf_trans hf q1) q2 (by omega) q4 q5 q6
      have skip : ∀ (A B D : Int64), (mva N g (kp N K) k = 0 ∨ mvb N g (kp N K) k = 0 ∨ mvc N g (kp N K) k = 0) → X (τ, 31, [some (jR 38 0), some (jI (nI g)), some (jI (nI (ar (nK N g)))), some (jI (nI 9)), some (jI (nI k + nI 1)), some (jJ A), none, some (jJ B), none, some (jJ D), none], []) := by
        intro A B D h0
        refine nx τ m R A B D (mf_refl _ _ _) hR (by omega) hM1 hnr fun k' x hk' hO hc => ?_
        by_cases e : k' = k
        · rw [e] at hO
          obtain ⟨o1, o2, o3, -⟩ := hO
          rcases h0 with q | q | q
          · exact absurd q o1
          · exact absurd q o2
          · exact absurd q o3
        · exact hM2 k' x (by omega) hO hc
      have st40 : ∀ p i, p < ar (nK N g) → stO (kp N K) (nR N g p) i < 2 ^ 40 := by
        intro p i hp9
        have hs := nR_lt hok hgt hp9
        unfold stO
        split
        · exact pw_lt (by omega)
        · split
          · exact (hkp _ hs (i - 1) (by omega)).1
          · omega
      have hA40 : mva N g (kp N K) k < 2 ^ 40 := st40 0 _ (by omega)
      have hB40 : mvb N g (kp N K) k < 2 ^ 40 := by
        unfold mvb; split
        · exact st40 1 _ (by assumption)
        · exact hA40
      have hC40 : mvc N g (kp N K) k < 2 ^ 40 := by
        unfold mvc; split
        · exact st40 2 _ (by assumption)
        · exact hA40
      have z0 : ∀ {S : Nat}, S < 2 ^ 40 → (lg_cmp (lN S) (lN 0) = 0 ↔ S = 0) := fun hS => by rw [cmp_0, lN_inj (Nat.lt_trans hS (by omega)) (by omega)]
      have h143 : X (τ, 143, [some (jR 38 0), some (jI (nI g)), some (jI (nI (ar (nK N g)))), some (jI (nI 9)), some (jI (nI k)), some (jJ (lN (mva N g (kp N K) k))), none, some (jJ (lN (mvb N g (kp N K) k))), none, some (jJ (lN (mvc N g (kp N K) k))), none], []) := by
        refine hg [31] 60 _ ?_
        refine br_c (fun h => ?_) (fun h => ?_)
        · exact skip _ _ _ (Or.inl ((z0 hA40).mp h))
        · have hA : ¬ mva N g (kp N K) k = 0 := fun e => h ((z0 hA40).mpr e)
          refine br_c (fun h => ?_) (fun h => ?_)
          · exact skip _ _ _ (Or.inr (Or.inl ((z0 hB40).mp h)))
          · have hB : ¬ mvb N g (kp N K) k = 0 := fun e => h ((z0 hB40).mpr e)
            refine br_c (fun h => ?_) (fun h => ?_)
            · exact skip _ _ _ (Or.inr (Or.inr ((z0 hC40).mp h)))
            · have hD : ¬ mvc N g (kp N K) k = 0 := fun e => h ((z0 hC40).mpr e)
              have call : ∀ {post' : Option jm_V → jm_G → Prop}, (∀ v ω, post' v ω → post' v ω) → C kX10_makes [jR 38 0, jJ (lN (mva N g (kp N K) k ||| mvb N g (kp N K) k ||| mvc N g (kp N K) k))] τ post' → C kX10_makes [jR 38 0, jJ (lN (mva N g (kp N K) k) ||| lN (mvb N g (kp N K) k) ||| lN (mvc N g (kp N K) k))] τ post' := fun _ h => by rw [fb_orL, fb_orL]; exact h
              refine call (fun _ _ h => h) ?_
              refine h1 m _ K R τ _ hR (by omega) (or_lt (or_lt hA40 hB40) hC40) hK6 e7 fun υ m' R' o1 o2 o3 o4 => ?_
              obtain ⟨m1, m2, m3, m4⟩ := o4
              refine nx υ m' R' _ _ _ o1 o2 o3 (fun j hj => ?_) ?_ (fun k' x hk' hO hc => ?_)
              · by_cases q : j < m
                · rw [m2 j q]; exact hM1 j q
                · obtain ⟨c1, c2⟩ := m3 j (by omega) hj
                  exact mOK_cand ⟨hA, hB, hD, c2⟩ c1
              · obtain ⟨j, q1, q2⟩ := hnr
                exact ⟨j, by omega, by rw [m2 j q1]; exact q2⟩
              · by_cases e : k' = k
                · rw [e] at hO
                  exact m4 x ⟨hc, hO.2.2.2⟩
                · obtain ⟨j, q1, q2⟩ := hM2 k' x (by omega) hO hc
                  exact ⟨j, by omega, by rw [m2 j q1]; exact q2⟩
      have kd : nI k / nI 9 = nI (k / 9) := pk_div (by omega) (by omega) (by omega)
      have srcs : ∀ p, p < ar (nK N g) → τ.1 41 0 (3 * g + p) = nI (nR N g p) := fun p hp9 => by
        rw [mN_src hNt hgt (by omega)]
        unfold srcI
        rw [if_pos hp9]
      have h111 : X (τ, 111, [some (jR 38 0), some (jI (nI g)), some (jI (nI (ar (nK N g)))), some (jI (nI 9)), some (jI (nI k)), some (jJ (lN (mva N g (kp N K) k))), none, some (jJ (lN (mvb N g (kp N K) k))), none, none, none], []) := by
        refine hg [143] 60 _ ?_
        refine br_c (fun h => ?_) (fun h => ?_)
        · have h : nI (ar (nK N g)) ≤ nI 2 := h
          rw [nI_leI (by omega) (by omega)] at h
          have e : mvc N g (kp N K) k = mva N g (kp N K) k := by unfold mvc; rw [if_neg (by omega)]
          rw [e] at h143
          exact h143
        · have h : ¬ nI (ar (nK N g)) ≤ nI 2 := h
          rw [nI_leI (by omega) (by omega)] at h
          have hk9 : k < 729 := by omega
          have e : mvc N g (kp N K) k = stO (kp N K) (nR N g 2) (k / 9 / 9) := by unfold mvc; rw [if_pos (by omega)]
          refine And.intro (show vp_in (nI 3 * nI g + nI 2) 120 by rw [n3I]; exact vp_in_nI (by omega) (by omega)) ?_
          refine And.intro h9 ?_
          refine And.intro h9 ?_
          refine c_setOf h3 (s := nR N g 2) (i := k / 9 / 9) (n := g) (kp := kp N K) (show τ.1 41 0 (nI 3 * nI g + nI 2).toNatClampNeg = nI (nR N g 2) by rw [n3I, nI_clamp (by omega)]; exact srcs 2 (by omega)) (show nI k / nI 9 / nI 9 = nI (k / 9 / 9) by rw [kd, pk_div (by omega) (by omega) (by omega)]) hok hNt (nR_lt hok hgt (by omega)) (by omega) (by omega) hkt (hleaf _) ?_
          rw [e] at h143
          exact h143
      have h79 : X (τ, 79, [some (jR 38 0), some (jI (nI g)), some (jI (nI (ar (nK N g)))), some (jI (nI 9)), some (jI (nI k)), some (jJ (lN (mva N g (kp N K) k))), none, none, none, none, none], []) := by
        refine hg [111] 60 _ ?_
        refine br_c (fun h => ?_) (fun h => ?_)
        · have h : nI (ar (nK N g)) ≤ nI 1 := h
          rw [nI_leI (by omega) (by omega)] at h
          have e : mvb N g (kp N K) k = mva N g (kp N K) k := by unfold mvb; rw [if_neg (by omega)]
          rw [e] at h111
          exact h111
        · have h : ¬ nI (ar (nK N g)) ≤ nI 1 := h
          rw [nI_leI (by omega) (by omega)] at h
          have e : mvb N g (kp N K) k = stO (kp N K) (nR N g 1) (k / 9 % 9) := by unfold mvb; rw [if_pos (by omega)]
          refine And.intro (show vp_in (nI 3 * nI g + nI 1) 120 by rw [n3I]; exact vp_in_nI (by omega) (by omega)) ?_
          refine And.intro h9 ?_
          refine And.intro h9 ?_
          refine c_setOf h3 (s := nR N g 1) (i := k / 9 % 9) (n := g) (kp := kp N K) (show τ.1 41 0 (nI 3 * nI g + nI 1).toNatClampNeg = nI (nR N g 1) by rw [n3I, nI_clamp (by omega)]; exact srcs 1 (by omega)) (show nI k / nI 9 - nI k / nI 9 / nI 9 * nI 9 = nI (k / 9 % 9) by rw [kd, pk_rem (by omega) (by omega) (by omega)]) hok hNt (nR_lt hok hgt (by omega)) (by omega) (by omega) hkt (hleaf _) ?_
          rw [e] at h111
          exact h111
      have h61 : X (τ, 61, [some (jR 38 0), some (jI (nI g)), some (jI (nI (ar (nK N g)))), some (jI (nI 9)), some (jI (nI k)), none, none, none, none, none, none], []) := by
        refine hg [79] 60 _ ?_
        refine And.intro (show vp_in (nI 3 * nI g) 120 by rw [n3]; exact vp_in_nI (by omega) (by omega)) ?_
        refine And.intro h9 ?_
        refine c_setOf h3 (s := nR N g 0) (i := k % 9) (n := g) (kp := kp N K) (show τ.1 41 0 (nI 3 * nI g).toNatClampNeg = nI (nR N g 0) by rw [n3, nI_clamp (by omega)]; exact srcs 0 (by omega)) (pk_rem (by omega) (by omega) (by omega)) hok hNt (nR_lt hok hgt (by omega)) (by omega) (by omega) hkt (hleaf _) ?_
        exact h79
      unfold mlim at hkd
      refine hg [61, 188] 40 _ ?_
      refine br_c (fun h => ?_) (fun h => ?_)
      · have h : nI (ar (nK N g)) = nI 1 := h
        rw [nI_eq (by omega) (by omega)] at h
        rw [if_pos h] at hkd
        refine br_c (fun h5 => ?_) (fun _ => h61)
        have h5 : nI 9 ≤ nI k := h5
        rw [nI_leI (by omega) (by omega)] at h5
        omega
      · have h : ¬ nI (ar (nK N g)) = nI 1 := h
        rw [nI_eq (by omega) (by omega)] at h
        rw [if_neg h] at hkd
        refine br_c (fun h2 => ?_) (fun h2 => ?_)
        · have h2 : nI (ar (nK N g)) = nI 2 := h2
          rw [nI_eq (by omega) (by omega)] at h2
          rw [if_pos h2] at hkd
          refine br_c (fun h5 => ?_) (fun _ => h61)
          have h5 : nI 9 * nI 9 ≤ nI k := h5
          rw [pk_mul, nI_leI (by omega) (by omega)] at h5
          omega
        · have h2 : ¬ nI (ar (nK N g)) = nI 2 := h2
          rw [nI_eq (by omega) (by omega)] at h2
          rw [if_neg h2] at hkd
          refine br_c (fun h5 => ?_) (fun _ => h61)
          have h5 : nI 9 * nI 9 * nI 9 ≤ nI k := h5
          rw [pk_mul, pk_mul, nI_leI (by omega) (by omega)] at h5
          omega
  refine hg [31] 60 _ ?_
  refine And.intro hing ?_
  have call : ∀ {post' : Option jm_V → jm_G → Prop}, (∀ v ω, post' v ω → post' v ω) → C kX10_makes [jR 38 0, jJ (lN (nea N K g))] (wI σ 38 0 (upd (σ.1 38 0) 21 (nI 0))) post' → C kX10_makes [jR 38 0, jJ (σ.2 45 0 (nI g).toNatClampNeg)] (wI σ 38 0 (upd (σ.1 38 0) 21 (nI 0))) post' := fun _ h => by rw [eg, h45]; exact h
  refine call (fun _ _ h => h) ?_
  have hf0 : mf [52] [21] σ (wI σ 38 0 (upd (σ.1 38 0) 21 (nI 0))) := mf_sF (mf_refl _ _ _) (by decide)
  refine h1 0 (nea N K g) K (fun _ => 0) _ _ ⟨?_, by omega, fun i hi => absurd hi (by omega), fun i j hi => absurd hi (by omega)⟩ (by omega) hne.1 hK6 ?_ fun υ m R o1 o2 o3 o4 => ?_
  · rw [wI1, if_pos ⟨rfl, rfl⟩, upd_at, if_pos rfl]
  · rw [(hf0.2 0 7 (by decide)).1]; exact h7
  · obtain ⟨m1, m2, m3, m4⟩ := o4
    have hfu := mf_trans hf0 o1
    have hNu := w52 hfu hN
    refine And.intro hing ?_
    have ek : υ.1 40 0 (nI g).toNatClampNeg = nI (nK N g) := by
      rw [eg, hNu.2.2.1 g hgn, if_pos hgt]
    have call2 : ∀ {post' : Option jm_V → jm_G → Prop}, (∀ v ω, post' v ω → post' v ω) → C kX10_sourcesOf [jI (nI (nK N g))] υ post' → C kX10_sourcesOf [jI (υ.1 40 0 (nI g).toNatClampNeg)] υ post' := fun _ h => by rw [ek]; exact h
    refine call2 (fun _ _ h => h) ?_
    refine h2 (nK N g) υ _ (hok.2.2.1 g hgt).1 ?_
    refine first (mlim N g) 0 (by omega) υ m R hfu o2 (by omega) (fun j hj => ?_) (m4 _ ⟨hne.2.1, rfl⟩) (fun k' x hk' => absurd hk' (by omega))
    rw [(m3 j (by omega) hj).2]
    exact Or.inl rfl
