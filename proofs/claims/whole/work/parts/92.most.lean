/-! the component's mostPairsOf, mostPairs -/
theorem mtS_bit {T K : Nat} {ch : Nat → Nat} (hT : T < 2 ^ 40) (a b : Nat) : (mtS T K ch a).testBit b = true ↔ T.testBit a = true ∧ T.testBit b = true ∧ b ≠ a ∧ prB K ch a b = true := by
  unfold mtS
  rw [mk_bit]
  simp only [Bool.and_eq_true, decide_eq_true_eq, Bool.not_eq_true', decide_eq_false_iff_not]
  constructor
  · rintro ⟨-, ⟨⟨h1, h2⟩, h3⟩, h4⟩
    exact ⟨h1, h2, h3, h4⟩
  · rintro ⟨h1, h2, h3, h4⟩
    exact ⟨bit_lt hT h2, ⟨⟨h1, h2⟩, h3⟩, h4⟩
abbrev ct_most (m : Nat) (C : jm_C) : Prop := ∀ (N : nw) (K T X dp : Nat) (ch : Nat → Nat) (σ : jm_G) (v : Int64) (x : Int32) (post : Option jm_V → jm_G → Prop), nw_ok N → cMt N (mtS T K ch) σ → allG N T → (∀ j, X.testBit j = true → T.testBit j = true) → cnt X 40 ≤ 2 * m + 1 → dp + m ≤ 14 → v = lN X → x = nI dp → (∀ n, n ≤ 40 → isMx (prB K ch) (fun z => X.testBit z = true) n → post (some (jI (nI n))) σ) → C kX0_mostPairsOf [jR 30 0, jJ v, jI x] σ post
theorem T_most (L m : Nat) {C : jm_C} (hC : jm_mon C) (h1 : ct_withMates C) (h2 : ct_fewest C) (h3 : ct_bc C) (h4 : ct_bit C) (h5 : ct_low C) (h6 : 0 < m → ct_most (m - 1) C) : ct_most m (jm_up L C) := by
  intro N K T X dp ch σ v x post hok hm hT hXT hcX hdp hv hx hp
  subst hv
  subst hx
  refine jm_start rfl (Nat.le_of_ble_eq_true rfl) hC fun Y hg hw => ?_
  have h40 := hok.1
  have hT4 := allG_lt hok hT
  have hX : X < 2 ^ 40 := set_lt fun i hi => by
    cases q : X.testBit i with
    | false => rfl
    | true => have := bit_lt hT4 (hXT i q); omega
  have hXn : ∀ j, X.testBit j = true → j < nN N := fun j hj => isG_lt (hT j (hXT j hj))
  have hmt4 : ∀ a, mtS T K ch a < 2 ^ 40 := fun a => mk_lt _ _
  have hsy := prB_symm K ch
  generalize hAB : mk (fun a => X.testBit a && !decide (mtS T K ch a &&& X = 0)) 40 = AB
  have hAB4 : AB < 2 ^ 40 := by rw [← hAB]; exact mk_lt _ _
  have hABb : ∀ z, AB.testBit z = true ↔ X.testBit z = true ∧ ∃ w, X.testBit w = true ∧ w ≠ z ∧ prB K ch z w = true := fun z => by
    rw [← hAB, mk_bit, Bool.and_eq_true, decide_eq_true_eq, Bool.and_eq_true, Bool.not_eq_true', decide_eq_false_iff_not]
    constructor
    · rintro ⟨-, hx, hne⟩
      obtain ⟨w, hw2⟩ := Nat.exists_testBit_of_ne_zero hne
      rw [Nat.testBit_and, Bool.and_eq_true, mtS_bit hT4] at hw2
      exact ⟨hx, w, hw2.2, hw2.1.2.2.1, hw2.1.2.2.2⟩
    · rintro ⟨hx, w, w1, w2, w3⟩
      refine ⟨bit_lt hX hx, hx, fun e => ?_⟩
      have : (mtS T K ch z &&& X).testBit w = true := by
        rw [Nat.testBit_and, Bool.and_eq_true, mtS_bit hT4]
        exact ⟨⟨hXT z hx, hXT w w1, w2, w3⟩, w1⟩
      rw [e, Nat.zero_testBit] at this
      cases this
  have hMX : ∀ n, hM (prB K ch) n (fun z => X.testBit z = true) ↔ hM (prB K ch) n (fun z => AB.testBit z = true) := fun n =>
    ⟨fun h => hM_mono n (fun z hz => (hABb z).mpr hz) (hM_able hsy n h), fun h => hM_mono n (fun z hz => ((hABb z).mp hz).1) h⟩
  have hABX : ∀ j, AB.testBit j = true → X.testBit j = true := fun j hj => ((hABb j).mp hj).1
  have hcAB : cnt AB 40 ≤ cnt X 40 := cnt_sub fun i _ hi => hABX i hi
  have hp2 : ∀ n, isMx (prB K ch) (fun z => AB.testBit z = true) n → post (some (jI (nI n))) σ := fun n hn => by
    have := hM_cnt n hAB4 hn.1
    have := cnt_le AB 40
    exact hp n (by omega) ⟨(hMX n).mpr hn.1, fun q => hn.2 ((hMX (n + 1)).mp q)⟩
  refine hg [51] 60 _ ?_
  refine h1 N (mtS T K ch) X σ _ _ hok hm hmt4 hX hXn rfl ?_
  rw [hAB]
  refine br_c (fun z => ?_) (fun z => ?_)
  · have z : AB = 0 := (lN_inj (by omega) (by omega)).mp ((cmp_0 _ _).mp z)
    refine And.intro trivial (hp2 0 ⟨trivial, ?_⟩)
    rintro ⟨a, b, -, ha, -⟩
    have ha : AB.testBit a = true := ha
    rw [z, Nat.zero_testBit] at ha
    cases ha
  · have hAB0 : AB ≠ 0 := fun e => z ((cmp_0 _ _).mpr (by rw [e]; rfl))
    have hc40 := cnt_le AB 40
    refine br_c (fun _ => ?_) (fun y => ?_)
    · refine h2 N (mtS T K ch) AB σ _ _ hok hm hmt4 hAB4 hAB0 (fun j hj => hXn j (hABX j hj)) rfl fun t ht => ?_
      refine c_bc h3 (S := AB) rfl (Nat.lt_trans hAB4 (by omega)) ?_
      rw [cnt64 hAB4]
      refine And.intro (by decide) ?_
      have ht4 := bit_lt hAB4 ht
      refine And.intro (vp_in_nI (by omega) (by omega)) ?_
      have htn := hXn t (hABX t ht)
      show Y (σ, 51, [some (jR 30 0), some (jJ (lN X)), none, some (jI (nI dp)), some (jJ (lN AB)), none, some (jI (nI t)), some (jI (nI (cnt AB 40) / nI 2)), some (jI (nI 0)), some (jJ (σ.2 30 0 (nI t).toNatClampNeg &&& lN AB)), none, none, none], [])
      rw [nI_clamp (by omega), hm t htn, fb_andL, pk_div (by omega) (by omega) (by omega)]
      -- a mate of it
      obtain ⟨u, u1, u2, u3⟩ := ((hABb t).mp ht).2
      have huAB : AB.testBit u = true := (hABb u).mpr ⟨u1, t, hABX t ht, fun e => u2 e.symm, by rw [hsy]; exact u3⟩
      have hWb : ∀ w, (mtS T K ch t &&& AB).testBit w = true ↔ AB.testBit w = true ∧ w ≠ t ∧ prB K ch t w = true := fun w => by
        rw [Nat.testBit_and, Bool.and_eq_true, mtS_bit hT4]
        constructor
        · rintro ⟨⟨-, -, a, b⟩, c⟩
          exact ⟨c, a, b⟩
        · rintro ⟨a, b, c⟩
          exact ⟨⟨hXT t (hABX t ht), hXT w (hABX w a), b, c⟩, a⟩
      generalize hW : mtS T K ch t &&& AB = W at hWb
      have hW4 : W < 2 ^ 40 := by rw [← hW]; exact Nat.lt_of_le_of_lt Nat.and_le_right hAB4
      -- at least two
      have hm1 : 0 < m := by
        have c1 := cnt_del ht4 ht
        have c2 := cnt_del (S := sD AB (2 ^ t)) (bit_lt hAB4 huAB) (by rw [sD_pw, huAB]; simp; exact u2)
        omega
      have gen : ∀ (d k q : Nat), k + d = 40 → hM (prB K ch) q (fun z => AB.testBit z = true) → (∀ w, w < k → W.testBit w = true → ¬ hM (prB K ch) q (fun z => AB.testBit z = true ∧ z ≠ t ∧ z ≠ w)) → Y (σ, 51, [some (jR 30 0), some (jJ (lN X)), none, some (jI (nI dp)), some (jJ (lN AB)), none, some (jI (nI t)), some (jI (nI (cnt AB 40 / 2))), some (jI (nI q)), some (jJ (lN (hi W k))), none, none, none], []) := by
        intro d
        induction d with
        | zero =>
          intro k q hk hq hall
          have ek : k = 40 := by omega
          subst ek
          rw [hi_end hW4]
          refine hg [51] 40 _ ?_
          refine br_c (fun _ => And.intro trivial (hp2 q ⟨hq, fun hq1 => ?_⟩)) (fun h => absurd ((cmp_0 _ _).mpr rfl) h)
          obtain ⟨b, b1, b2, b3, b4⟩ := hM_ex hsy (S := fun z => AB.testBit z = true) (v := t) (u := u) ht huAB u2 u3 hq1
          exact hall b (bit_lt hAB4 b2) ((hWb b).mpr ⟨b2, b1, b3⟩) b4
        | succ d ih =>
          intro k q hk hq hall
          have hqc := hM_cnt q hAB4 hq
          cases hb : W.testBit k with
          | false =>
            have := ih (k + 1) q (by omega) hq (fun w hw2 hwb => by
              by_cases e : w = k
              · rw [e, hb] at hwb; cases hwb
              · exact hall w (by omega) hwb)
            rw [hi_skip hb] at this
            exact this
          | true =>
            obtain ⟨k1, k2, k3⟩ := (hWb k).mp hb
            refine hg [51] 90 _ ?_
            refine br_c (fun h => absurd h (hi_n0 hW4 hb)) (fun _ => ?_)
            refine br_c (fun y => ?_) (fun y => ?_)
            · have y : nI (cnt AB 40 / 2) ≤ nI q := y
              rw [nI_leI (by omega) (by omega)] at y
              refine And.intro trivial (hp2 q ⟨hq, fun hq1 => ?_⟩)
              have := hM_cnt (q + 1) hAB4 hq1
              omega
            · have y : ¬ nI (cnt AB 40 / 2) ≤ nI q := y
              rw [nI_leI (by omega) (by omega)] at y
              refine h4 t σ _ (by omega) ?_
              refine h5 W k σ _ (p40 hW4) hb ?_
              refine h4 k σ _ (by omega) ?_
              have hk4 : k < 40 := by omega
              have hbit : ∀ z, (sD (sD AB (2 ^ t)) (2 ^ k)).testBit z = true ↔ AB.testBit z = true ∧ z ≠ t ∧ z ≠ k := fun z => by
                rw [sD_pw, sD_pw]
                simp only [Bool.and_eq_true, Bool.not_eq_true', decide_eq_false_iff_not]
                exact ⟨fun h => ⟨h.1.1, h.1.2, h.2⟩, fun h => ⟨⟨h.1, h.2.1⟩, h.2.2⟩⟩
              have c1 := cnt_del ht4 ht
              have c2 := cnt_del (S := sD AB (2 ^ t)) hk4 (by rw [sD_pw, k1]; simp; exact k2)
              refine h6 hm1 N K T (sD (sD AB (2 ^ t)) (2 ^ k)) (dp + 1) ch σ _ _ _ hok hm hT (fun j hj => hXT j (hABX j ((hbit j).mp hj).1)) (by omega) (by omega) (show (lN AB &&& (lN (2 ^ t) ^^^ (-1))) &&& (lN (2 ^ k) ^^^ (-1)) = _ by rw [lN_andn, lN_andn]) (nI_add _ _) fun n hn4 hn => ?_
              have hn := isMx_iff hbit hn
              refine hw _ _ _ [some (jR 30 0), some (jJ (lN X)), none, some (jI (nI dp)), some (jJ (lN AB)), none, some (jI (nI t)), some (jI (nI (cnt AB 40 / 2))), some (jI (if nI q < nI 1 + nI n then nI 1 + nI n else nI q)), some (jJ (lN (hi W k) &&& (lN (hi W k) - lN 1))), none, none, none] _ (by repeat' first | exact trivial | exact rfl | apply And.intro) ?_
              rw [nxt hb, nI_add, maxI (by omega) (by omega)]
              have hq2 : hM (prB K ch) (max q (1 + n)) (fun z => AB.testBit z = true) := by
                rcases Nat.le_total q (1 + n) with c | c
                · rw [Nat.max_eq_right c, Nat.add_comm]
                  exact ⟨t, k, fun e => k2 e.symm, ht, k1, k3, hn.1⟩
                · rw [Nat.max_eq_left c]; exact hq
              refine ih (k + 1) _ (by omega) hq2 fun w hw2 hwb hh => ?_
              by_cases e : w = k
              · rw [e] at hh
                exact hn.2 (hM_lt (by omega) hh)
              · exact hall w (by omega) hwb (hM_lt (by omega) hh)
      have := gen 40 0 0 (by omega) trivial (fun w hw2 => absurd hw2 (by omega))
      rw [hi_0] at this
      exact this
    · have y : ¬ nI dp ≤ nI 14 := y
      rw [nI_leI (by omega) (by omega)] at y
      omega
/-- the most pairs that can be made -/
noncomputable def mpN (N : nw) (K : Nat) (ch : Nat → Nat) : Nat := lst (fun n => isMx (prB K ch) (fun z => (tbs N ch).testBit z = true) n)
theorem mpN_eq {N : nw} {K : Nat} {ch : Nat → Nat} {n : Nat} (h : isMx (prB K ch) (fun z => (tbs N ch).testBit z = true) n) : mpN N K ch = n := lst_eq h fun j hj hh => by
  have := isMx_one hh h
  omega
noncomputable def mpI (N : nw) (K : Nat) (ch : Nat → Nat) : Int32 := @ite _ (cnt (tbs N ch) 40 ≤ 14) (Classical.propDecidable _) (nI (mpN N K ch)) (-(nI 1))
abbrev ct_cmost (C : jm_C) : Prop := ∀ (N : nw) (K : Nat) (ch : Nat → Nat) (σ : jm_G) (post : Option jm_V → jm_G → Prop), nw_ok N → cV N ch σ → cL N K ch σ → post (some (jI (mpI N K ch))) σ → C kX0_mostPairs [jR 29 0] σ post
theorem T_cmost (L : Nat) {C : jm_C} (hC : jm_mon C) (h1 : ct_bc C) (h2 : ct_most 7 C) : ct_cmost (jm_up L C) := by
  intro N K ch σ post hok hV hL hp
  refine jm_start rfl (Nat.le_of_ble_eq_true rfl) hC fun X hg hw => ?_
  have hT4 := tbs_lt hok ch
  have hc := cnt_le (tbs N ch) 40
  unfold mpI at hp
  refine hg [] 40 _ ?_
  refine c_bc h1 hV.2.2 (Nat.lt_trans hT4 (by omega)) ?_
  rw [cnt64 hT4]
  refine br_c (fun z => ?_) (fun z => ?_)
  · have z : nI (cnt (tbs N ch) 40) ≤ nI 14 := z
    rw [nI_leI (by omega) (by omega)] at z
    rw [if_pos z] at hp
    refine h2 N K (tbs N ch) (tbs N ch) 0 ch σ _ _ _ hok hL.1 (tbs_G N ch) (fun j hj => hj) (by omega) (by omega) hV.2.2 rfl fun n _ hn => ?_
    rw [mpN_eq hn] at hp
    exact And.intro trivial hp
  · have z : ¬ nI (cnt (tbs N ch) 40) ≤ nI 14 := z
    rw [nI_leI (by omega) (by omega)] at z
    rw [if_neg z] at hp
    exact And.intro trivial hp
