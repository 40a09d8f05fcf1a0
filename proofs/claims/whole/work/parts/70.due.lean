/-! DUE, and the component's findDue -/
/-- a due, 100 more than it is -/
def dI (d : Nat) : Int32 := nI d - nI 100
theorem dI_toInt {a : Nat} (h : a < 2 ^ 30) : (dI a).toInt = (a : Int) - 100 := pk_sub_toInt h (by omega)
theorem dI_lt {a b : Nat} (ha : a < 2 ^ 30) (hb : b < 2 ^ 30) : dI a < dI b ↔ a < b := by
  rw [Int32.lt_iff_toInt_lt, dI_toInt ha, dI_toInt hb]
  omega
theorem dI_le {a b : Nat} (ha : a < 2 ^ 30) (hb : b < 2 ^ 30) : dI a ≤ dI b ↔ a ≤ b := by
  rw [Int32.le_iff_toInt_le, dI_toInt ha, dI_toInt hb]
  omega
theorem dI_pred {a : Nat} (h1 : 1 ≤ a) (ha : a < 2 ^ 30) : dI a - nI 1 = dI (a - 1) := by
  apply Int32.toInt_inj.mp
  have e1 : (nI 1).toInt = 1 := nI_toInt (by omega)
  rw [fb_subI (by rw [dI_toInt ha, e1]; omega) (by rw [dI_toInt ha, e1]; omega), dI_toInt ha, dI_toInt (by omega), e1]
  omega
theorem dI_nI (x : Nat) : nI x = dI (x + 100) := by unfold dI; rw [pk_sub (by omega), show x + 100 - 100 = x by omega]
theorem dI_gt {d x : Nat} (hd : d < 2 ^ 30) (hx : x < 2 ^ 29) : dI d < nI x ↔ ¬ x + 100 ≤ d := by
  rw [dI_nI x, dI_lt hd (by omega)]
  omega
def due0 (N : nw) (D i : Nat) : Nat := if (rts N).testBit i then D + 100 else 1100
def duS (ch : Nat → Nat) (n : Nat) (d : Nat → Nat) (k : Nat) : Nat := if (ch n).testBit k && decide (d n - 1 < d k) then d n - 1 else d k
def duT (ch : Nat → Nat) (T : Nat) : Nat → (Nat → Nat) → (Nat → Nat)
  | 0, d => d
  | n + 1, d => duT ch T n (if T.testBit n then duS ch n d else d)
def duP (ch : Nat → Nat) (n : Nat) (d : Nat → Nat) (k j : Nat) : Nat := if j < k then duS ch n d j else d j
def dB (d : Nat → Nat) : Prop := ∀ k, k < 40 → 60 + k ≤ d k ∧ d k ≤ 1100
theorem dB_0 (N : nw) {D : Nat} (h : D ≤ 100) : dB (due0 N D) := fun k hk => by
  unfold due0
  split <;> omega
theorem dB_S {ch : Nat → Nat} {n : Nat} {d : Nat → Nat} (hn : n < 40) (hl : ∀ j, (ch n).testBit j = true → j < n) (h : dB d) : dB (duS ch n d) := fun k hk => by
  unfold duS
  by_cases q : ((ch n).testBit k && decide (d n - 1 < d k)) = true
  · rw [if_pos q]
    rw [Bool.and_eq_true] at q
    have := hl k q.1
    have := h n hn
    omega
  · rw [if_neg q]
    exact h k hk
theorem duS_n {ch : Nat → Nat} {n : Nat} {d : Nat → Nat} (hl : ∀ j, (ch n).testBit j = true → j < n) : duS ch n d n = d n := by
  unfold duS
  rw [if_neg]
  intro q
  rw [Bool.and_eq_true] at q
  have := hl n q.1
  omega
theorem duS_f {ch : Nat → Nat} {n k : Nat} {d : Nat → Nat} (h : (ch n).testBit k = false) : duS ch n d k = d k := by
  unfold duS
  rw [h]
  rfl
theorem dB_T {N : nw} {ch : Nat → Nat} {T : Nat} (hl : chL N ch) (hT : allG N T) : ∀ n d, n ≤ 40 → dB d → dB (duT ch T n d)
  | 0, d, _, h => h
  | n + 1, d, hn, h => by
    rw [duT]
    apply dB_T hl hT n _ (by omega)
    split
    · rename_i q
      exact dB_S (by omega) (hl n (hT n q)) h
    · exact h
def dR3 (N : nw) (d : Nat → Nat) (σ : jm_G) : Prop := ∀ j, j < nN N → σ.1 23 0 j = dI (d j)
abbrev ct_findDue (C : jm_C) : Prop := ∀ (N : nw) (ch : Nat → Nat) (T D : Nat) (σ : jm_G) (v : Int64) (x : Int32) (post : Option jm_V → jm_G → Prop), nw_ok N → cN N σ → cCh N ch σ → chL N ch → allG N T → σ.2 22 0 4 = lN T → D ≤ 100 → v = lN (rts N) → x = nI D → (∀ σ', off 23 23 σ σ' → dR3 N (duT ch T (nN N) (due0 N D)) σ' → post none σ') → C kX3_findDue [jR 22 0, jJ v, jI x] σ post
theorem T_findDue (L : Nat) {C : jm_C} (hC : jm_mon C) (h1 : ct_has C) (h2 : ct_low C) : ct_findDue (jm_up L C) := by
  intro N ch T D σ v x post hok hN hch hl hT h22 hD hv hx hp
  subst hv
  subst hx
  refine jm_start rfl (Nat.le_of_ble_eq_true rfl) hC fun X hg hw => ?_
  have hn := hok.1
  have hT4 := allG_lt hok hT
  -- the second loop
  have down : ∀ (n : Nat), n ≤ nN N → ∀ (d : Nat → Nat) (τ : jm_G) (x : Int32), x = nI n + -(nI 1) → off 23 23 σ τ → dB d → dR3 N d τ → duT ch T n d = duT ch T (nN N) (due0 N D) → X (τ, 55, [some (jR 22 0), some (jJ (lN (rts N))), none, some (jI (nI D)), some (jI x), none, none, none], []) := by
    intro n
    induction n with
    | zero =>
      intro _ d τ x hx ho hd hr he
      rw [nI_0m1] at hx
      subst hx
      refine hg [55] 30 _ ?_
      refine br_c (fun _ => ?_) (fun h => absurd m1_neg h)
      refine And.intro trivial (hp τ ho ?_)
      rw [← he]
      exact hr
    | succ n ih =>
      intro hnn d τ x hx ho hd hr he
      rw [nI_m1] at hx
      subst hx
      rw [duT] at he
      have ht22 : τ.2 22 0 4 = lN T := by rw [(ho 22 0 (by omega)).2]; exact h22
      have hcht : cCh N ch τ := fun g hg' => by rw [(ho 24 0 (by omega)).2]; exact hch g hg'
      refine hg [55, 81] 40 _ ?_
      refine br_c (fun h => absurd h (nI_pos (by omega))) (fun _ => ?_)
      refine c_has h1 (S := T) (n := n) ht22 rfl (p40 hT4) (by omega) ?_
      refine br_c (fun h => ?_) (fun h => ?_)
      · rw [bI_0.mp h] at he
        exact ih (by omega) d τ _ rfl ho hd hr he
      · have hb := bI_n0.mp h
        rw [hb, if_pos rfl] at he
        have hgn := hT n hb
        have hln := hl n hgn
        have hcn : ch n < 2 ^ 40 := lt40 (g := n) (by omega) hln
        refine And.intro (vp_in_nI (by omega) (by omega)) ?_
        show X (τ, 81, [some (jR 22 0), some (jJ (lN (rts N))), none, some (jI (nI D)), some (jI (nI n)), some (jJ (τ.2 24 0 (nI n).toNatClampNeg)), none, none], [])
        rw [nI_clamp (by omega), hcht n hgn]
        have inner : ∀ (m k : Nat), k + m = 40 → ∀ (υ : jm_G), off 23 23 σ υ → dR3 N (duP ch n d k) υ → X (υ, 81, [some (jR 22 0), some (jJ (lN (rts N))), none, some (jI (nI D)), some (jI (nI n)), some (jJ (lN (hi (ch n) k))), none, none], []) := by
          intro m
          induction m with
          | zero =>
            intro k hk υ hoυ hrυ
            have e : k = 40 := by omega
            subst e
            rw [hi_end hcn]
            refine hg [55, 81] 40 _ ?_
            refine br_c (fun _ => ?_) (fun h => absurd ((cmp_0 _ _).mpr rfl) h)
            refine hw _ _ _ [some (jR 22 0), some (jJ (lN (rts N))), none, some (jI (nI D)), some (jI (nI n + -(nI 1))), none, none, none] _ (by repeat' first | exact trivial | exact rfl | apply And.intro) ?_
            refine ih (by omega) (duS ch n d) υ _ rfl hoυ (dB_S (by omega) hln hd) (fun j hj => ?_) he
            rw [hrυ j hj]
            unfold duP
            rw [if_pos (by omega)]
          | succ m ihm =>
            intro k hk υ hoυ hrυ
            cases hbk : (ch n).testBit k with
            | false =>
              have := ihm (k + 1) (by omega) υ hoυ (fun j hj => by
                rw [hrυ j hj]
                unfold duP
                by_cases q : j < k
                · rw [if_pos q, if_pos (by omega)]
                · rw [if_neg q]
                  by_cases e : j = k
                  · rw [e, if_pos (by omega), duS_f hbk]
                  · rw [if_neg (by omega)])
              rw [hi_skip hbk] at this
              exact this
            | true =>
              have hkn := hln k hbk
              refine hg [55, 81] 40 _ ?_
              refine br_c (fun h => absurd h (hi_n0 hcn hbk)) (fun _ => ?_)
              refine h2 (ch n) k υ _ (p40 hcn) hbk ?_
              refine And.intro (vp_in_nI (by omega) (by omega)) ?_
              refine And.intro (vp_in_nI (by omega) (by omega)) ?_
              refine And.intro (vp_in_nI (by omega) (by omega)) ?_
              refine hw _ _ _ [some (jR 22 0), some (jJ (lN (rts N))), none, some (jI (nI D)), some (jI (nI n)), some (jJ (lN (hi (ch n) k) &&& (lN (hi (ch n) k) - lN 1))), none, none] _ (by repeat' first | exact trivial | exact rfl | apply And.intro) ?_
              show X (wI υ 23 0 (upd (υ.1 23 0) (nI k).toNatClampNeg (if υ.1 23 0 (nI n).toNatClampNeg - nI 1 < υ.1 23 0 (nI k).toNatClampNeg then υ.1 23 0 (nI n).toNatClampNeg - nI 1 else υ.1 23 0 (nI k).toNatClampNeg)), 81, [some (jR 22 0), some (jJ (lN (rts N))), none, some (jI (nI D)), some (jI (nI n)), some (jJ (lN (hi (ch n) k) &&& (lN (hi (ch n) k) - lN 1))), none, none], [])
              have en : υ.1 23 0 n = dI (d n) := by
                rw [hrυ n (by omega)]
                unfold duP
                rw [if_neg (by omega)]
              have ek : υ.1 23 0 k = dI (d k) := by
                rw [hrυ k (by omega)]
                unfold duP
                rw [if_neg (by omega)]
              have bn := hd n (by omega)
              have bk := hd k (by omega)
              have ev : (if dI (d n) - nI 1 < dI (d k) then dI (d n) - nI 1 else dI (d k)) = dI (duS ch n d k) := by
                rw [dI_pred (by omega) (by omega)]
                unfold duS
                rw [hbk, Bool.true_and]
                by_cases q : d n - 1 < d k
                · rw [if_pos ((dI_lt (by omega) (by omega)).mpr q), if_pos (by simpa using q)]
                · rw [if_neg (fun z => q ((dI_lt (by omega) (by omega)).mp z)), if_neg (by simpa using q)]
              rw [nI_clamp (by omega), nI_clamp (by omega), en, ek, ev, nxt hbk]
              refine ihm (k + 1) (by omega) _ (off_wI hoυ (by omega) (by omega)) fun j hj => ?_
              rw [wI1, if_pos ⟨rfl, rfl⟩, upd_at]
              by_cases e : j = k
              · rw [if_pos e, e]
                unfold duP
                rw [if_pos (by omega)]
              · rw [if_neg e, hrυ j hj]
                unfold duP
                by_cases q : j < k
                · rw [if_pos q, if_pos (by omega)]
                · rw [if_neg q, if_neg (by omega)]
        have := inner 40 0 (by omega) τ ho (fun j hj => by
          rw [hr j hj]
          unfold duP
          rw [if_neg (by omega)])
        rw [hi_0] at this
        exact this
  -- the first
  refine hg [3] 20 _ ?_
  show X (σ, 3, [some (jR 22 0), some (jJ (lN (rts N))), none, some (jI (nI D)), some (jI (nI 0)), none, none, none], [])
  have first : ∀ (m k : Nat), k + m = nN N → ∀ (τ : jm_G), off 23 23 σ τ → (∀ j, j < k → τ.1 23 0 j = dI (due0 N D j)) → X (τ, 3, [some (jR 22 0), some (jJ (lN (rts N))), none, some (jI (nI D)), some (jI (nI k)), none, none, none], []) := by
    intro m
    induction m with
    | zero =>
      intro k hk τ ho hr
      have e : k = nN N := by omega
      subst e
      have hNt := cN_off hN ho (by omega) (by omega)
      refine hg [3, 55] 30 _ ?_
      refine br_c (fun _ => ?_) (fun h => ?_)
      · show X (τ, 55, [some (jR 22 0), some (jJ (lN (rts N))), none, some (jI (nI D)), some (jI (τ.1 2 0 9 - nI 1)), none, none, none], [])
        rw [hNt.1]
        exact down (nN N) (Nat.le_refl _) (due0 N D) τ _ (sub1 _) ho (dB_0 N hD) hr rfl
      · have h : ¬ τ.1 2 0 9 ≤ nI (nN N) := h
        rw [hNt.1, nI_leI (by omega) (by omega)] at h
        omega
    | succ m ih =>
      intro k hk τ ho hr
      have hNt := cN_off hN ho (by omega) (by omega)
      have go : ∀ z : Int32, z = dI (due0 N D k) → X (wI τ 23 0 (upd (τ.1 23 0) (nI k).toNatClampNeg z), 3, [some (jR 22 0), some (jJ (lN (rts N))), none, some (jI (nI D)), some (jI (nI k + nI 1)), none, none, none], []) := by
        intro z hz
        rw [nI_clamp (by omega), nI_add]
        refine ih (k + 1) (by omega) _ (off_wI ho (by omega) (by omega)) fun j hj => ?_
        rw [wI1, if_pos ⟨rfl, rfl⟩, upd_at]
        by_cases e : j = k
        · rw [if_pos e, e, hz]
        · rw [if_neg e]; exact hr j (by omega)
      refine hg [3, 55] 30 _ ?_
      refine br_c (fun h => ?_) (fun _ => ?_)
      · have h : τ.1 2 0 9 ≤ nI k := h
        rw [hNt.1, nI_leI (by omega) (by omega)] at h
        omega
      · refine h1 (rts N) k τ _ (p40 (rts_lt40 hok)) (by omega) ?_
        refine br_c (fun h => ?_) (fun h => ?_)
        · refine And.intro (vp_in_nI (by omega) (by omega)) ?_
          refine go (nI 1000) ?_
          unfold due0
          rw [bI_0.mp h]
          exact dI_nI 1000
        · refine And.intro (vp_in_nI (by omega) (by omega)) ?_
          refine go (nI D) ?_
          unfold due0
          rw [bI_n0.mp h]
          exact dI_nI D
  exact first (nN N) 0 (by omega) σ (off_refl _ _ _) fun j hj => absurd hj (by omega)
