/-! CHOSEN AGAIN: what both sides compute; the component's bestCut -/
def bsC (N : nw) (ch : Nat → Nat) (g c : Nat) : Nat := cnt (tbs N (add1 g ch c)) 40
def bsA (N : nw) (ch : Nat → Nat) (c : Nat) : Nat := 1 + mxL (arv N ch) c 40
def bsP (N : nw) (ch : Nat → Nat) (g d c : Nat) (b : Nat × Nat × Nat) : Prop := bsA N ch c + 100 ≤ d ∧ (bsC N ch g c < b.2.1 ∨ (bsC N ch g c = b.2.1 ∧ bsA N ch c < b.2.2))
noncomputable def bs1 (N : nw) (ch : Nat → Nat) (g d c : Nat) (b : Nat × Nat × Nat) : Nat × Nat × Nat := @ite _ (bsP N ch g d c b) (Classical.propDecidable _) (c, bsC N ch g c, bsA N ch c) b
noncomputable def bst (N : nw) (K : Nat) (ch : Nat → Nat) (g d : Nat) : Nat → Nat × Nat × Nat
  | 0 => (ch g, bsC N ch g (ch g), bsA N ch (ch g))
  | n + 1 => bs1 N ch g d ((kp N K g).2 n) (bst N K ch g d n)
noncomputable def bstC (N : nw) (K : Nat) (ch : Nat → Nat) (g d : Nat) : Nat := (bst N K ch g d (kp N K g).1).1
noncomputable def agn (N : nw) (K : Nat) (dd ch : Nat → Nat) : Nat → Nat → Nat
  | 0 => ch
  | g + 1 => if (tbs N (agn N K dd ch g)).testBit g then add1 g (agn N K dd ch g) (bstC N K (agn N K dd ch g) g (dd g)) else agn N K dd ch g
theorem bst_y {N : nw} {K : Nat} {ch : Nat → Nat} {g d n : Nat} (h : bsP N ch g d ((kp N K g).2 n) (bst N K ch g d n)) : bst N K ch g d (n + 1) = ((kp N K g).2 n, bsC N ch g ((kp N K g).2 n), bsA N ch ((kp N K g).2 n)) := by
  show bs1 _ _ _ _ _ _ = _
  unfold bs1
  rw [if_pos h]
theorem bst_n {N : nw} {K : Nat} {ch : Nat → Nat} {g d n : Nat} (h : ¬ bsP N ch g d ((kp N K g).2 n) (bst N K ch g d n)) : bst N K ch g d (n + 1) = bst N K ch g d n := by
  show bs1 _ _ _ _ _ _ = _
  unfold bs1
  rw [if_neg h]
theorem bst_in {N : nw} {K : Nat} {ch : Nat → Nat} {g d : Nat} : ∀ n, (bst N K ch g d n).1 = ch g ∨ ∃ c, c < n ∧ (bst N K ch g d n).1 = (kp N K g).2 c
  | 0 => Or.inl rfl
  | n + 1 => by
    by_cases h : bsP N ch g d ((kp N K g).2 n) (bst N K ch g d n)
    · rw [bst_y h]; exact Or.inr ⟨n, by omega, rfl⟩
    · rw [bst_n h]
      rcases bst_in (N := N) (K := K) (ch := ch) (g := g) (d := d) n with q | ⟨c, q1, q2⟩
      · exact Or.inl q
      · exact Or.inr ⟨c, by omega, q2⟩
theorem bsA_le {N : nw} {ch : Nat → Nat} (hl : chL N ch) {c : Nat} (hc : c < 2 ^ 40) : bsA N ch c ≤ 41 := by
  unfold bsA
  have := mxL_le (l := arv N ch) (S := c) (m := 40) (fun j hj => by have := arv_le hl j; have := bit_lt hc hj; omega) 40
  omega
theorem bst_b {N : nw} {K : Nat} {ch : Nat → Nat} {g d : Nat} (hl : chL N ch) (h0 : ch g < 2 ^ 40) (hk : ∀ c, c < (kp N K g).1 → (kp N K g).2 c < 2 ^ 40) : ∀ n, n ≤ (kp N K g).1 → (bst N K ch g d n).2.1 ≤ 40 ∧ (bst N K ch g d n).2.2 ≤ 41
  | 0, _ => ⟨cnt_le _ _, bsA_le hl h0⟩
  | n + 1, hn => by
    by_cases h : bsP N ch g d ((kp N K g).2 n) (bst N K ch g d n)
    · rw [bst_y h]; exact ⟨cnt_le _ _, bsA_le hl (hk n (by omega))⟩
    · rw [bst_n h]; exact bst_b hl h0 hk n (by omega)
theorem bstC_ok {N : nw} {K : Nat} {ch : Nat → Nat} {g d : Nat} (hok : nw_ok N) (hn : nOK N K (nN N)) (hch : chOK N K ch) (hg : isG N g = true) : cOK K g (bstC N K ch g d) ∧ Sep N g (bstC N K ch g d) := by
  unfold bstC
  rcases bst_in (N := N) (K := K) (ch := ch) (g := g) (d := d) (kp N K g).1 with q | ⟨c, q1, q2⟩
  · rw [q]; exact hch g hg
  · rw [q2]; exact ⟨kp_ok hok hn g (isG_lt hg) c q1, kp_sep hok hn g (isG_lt hg) c q1⟩
theorem agn_ok {N : nw} {K : Nat} {dd ch : Nat → Nat} (hok : nw_ok N) (hn : nOK N K (nN N)) (hch : chOK N K ch) : ∀ n, chOK N K (agn N K dd ch n)
  | 0 => hch
  | n + 1 => by
    have ih := agn_ok (dd := dd) hok hn hch n
    rw [agn]
    split
    · intro g hg
      by_cases e : g = n
      · subst e
        rw [add1_q]
        exact bstC_ok hok hn ih hg
      · show cOK K g (if g = n then _ else agn N K dd ch n g) ∧ Sep N g (if g = n then _ else agn N K dd ch n g)
        rw [if_neg e]
        exact ih g hg
    · exact ih
theorem agn_ne {N : nw} {K : Nat} {dd ch : Nat → Nat} {n j : Nat} (h : j ≠ n) : agn N K dd ch (n + 1) j = agn N K dd ch n j := by
  rw [agn]
  split
  · exact if_neg h
  · rfl
theorem agn_t {N : nw} {K : Nat} {dd ch : Nat → Nat} {n : Nat} (h : (tbs N (agn N K dd ch n)).testBit n = true) : agn N K dd ch (n + 1) = add1 n (agn N K dd ch n) (bstC N K (agn N K dd ch n) n (dd n)) := by
  rw [agn, if_pos h]
theorem agn_f {N : nw} {K : Nat} {dd ch : Nat → Nat} {n : Nat} (h : (tbs N (agn N K dd ch n)).testBit n = false) : agn N K dd ch (n + 1) = agn N K dd ch n := by
  rw [agn, h]
  rfl
theorem agn_g {N : nw} {K : Nat} {dd ch : Nat → Nat} {n : Nat} (h : isG N n = false) : agn N K dd ch (n + 1) = agn N K dd ch n := by
  apply agn_f
  cases hb : (tbs N (agn N K dd ch n)).testBit n with
  | false => rfl
  | true => rw [tbs_G N _ n hb] at h; cases h
theorem agn_end {N : nw} {K : Nat} {dd ch : Nat → Nat} : ∀ d, agn N K dd ch (nN N + d) = agn N K dd ch (nN N)
  | 0 => rfl
  | d + 1 => by
    rw [← Nat.add_assoc, agn_g (by simp [isG]; omega), agn_end d]
noncomputable def agD (N : nw) (K sl : Nat) (ch : Nat → Nat) : Nat → Nat := duT ch (tbs N ch) (nN N) (due0 N (mxL (lev N K) (rts N) 40 + sl))
noncomputable def agX (N : nw) (K sl : Nat) (ch : Nat → Nat) : Nat → Nat := agn N K (agD N K sl ch) ch 40
theorem agX_n {N : nw} {K sl : Nat} {ch : Nat → Nat} (hok : nw_ok N) : agn N K (agD N K sl ch) ch (nN N) = agX N K sl ch := by
  have := agn_end (N := N) (K := K) (dd := agD N K sl ch) (ch := ch) (40 - nN N)
  have h40 := hok.1
  rw [show nN N + (40 - nN N) = 40 by omega] at this
  exact this.symm
theorem agD_b {N : nw} {K sl : Nat} {ch : Nat → Nat} (hok : nw_ok N) (hK : 3 ≤ K) (hl : chL N ch) (hs : sl ≤ 5) : mxL (lev N K) (rts N) 40 + sl ≤ 100 ∧ dB (agD N K sl ch) := by
  have h40 := hok.1
  have h1 := mxL_le (l := lev N K) (S := rts N) (m := 40) (fun j hj => by have := rts_lt hok hj; have := lev_bound hok hK (N := N) (K := K) j; omega) 40
  exact ⟨by omega, dB_T hl (tbs_G N ch) _ _ h40 (dB_0 N (by omega))⟩
theorem no0 {x : Nat} (hx : x < 2 ^ 40) (h : ∃ j, x.testBit j = true) : ¬ lg_cmp (lN x) (lN 0) = 0 := fun e => by
  have := (lN_inj (by omega) (by omega)).mp ((cmp_0 _ _).mp e)
  obtain ⟨j, hj⟩ := h
  rw [this, Nat.zero_testBit] at hj
  cases hj
abbrev ct_bestCut (C : jm_C) : Prop := ∀ (N : nw) (K i g d : Nat) (ch : Nat → Nat) (σ : jm_G) (v : Int64) (post : Option jm_V → jm_G → Prop), nw_ok N → cN N σ → cA N i K (nN N) σ → chOK N K ch → cCh N ch σ → (∀ j, j < g → σ.1 25 0 j = nI (arv N ch j)) → σ.1 23 0 g = dI d → d ≤ 1100 → (tbs N ch).testBit g = true → v = lN (hgr N ch g) → post (some (jJ (lN (bstC N K ch g d)))) σ → C kX3_bestCut [jR 22 0, jR 17 i, jI (nI g), jJ v] σ post
theorem T_bestCut (L : Nat) {C : jm_C} (hC : jm_mon C) (h1 : ct_tabWith C) (h2 : ct_bc C) (h3 : ct_arrBy C) (h4 : ct_keptCut C) : ct_bestCut (jm_up L C) := by
  intro N K i g d ch σ v post hok hN hA hcO hch harr hdue hd htb hv hp
  subst hv
  refine jm_start rfl (Nat.le_of_ble_eq_true rfl) hC fun X hg hw => ?_
  have h40 := hok.1
  have hgt := tbs_G N ch g htb
  have hgn := isG_lt hgt
  have hl := chOK_L hcO
  have hnO : nOK N K (nN N) := hA.2.2.2.2
  have c0 := (hcO g hgt).1
  have kOK : ∀ c, c < (kp N K g).1 → cOK K g ((kp N K g).2 c) := kp_ok hok hnO g hgn
  have k8 : (kp N K g).1 ≤ 8 := kp_le hok
  have eg : (nI g).toNatClampNeg = g := nI_clamp (by omega)
  have e24 : σ.2 24 0 (nI g).toNatClampNeg = lN (ch g) := by rw [eg]; exact hch g hgt
  have arr : ∀ x : Nat, (∀ j, x.testBit j = true → j < g) → ∀ j, x.testBit j = true → σ.1 25 0 j = nI (arv N ch j) ∧ arv N ch j < 100 := fun x hx j hj => ⟨harr j (hx j hj), by have := arv_le hl j; have := hx j hj; omega⟩
  have hin : vp_in (nI g) 40 := vp_in_nI (by omega) (by omega)
  have tlt : ∀ x, tbs N (add1 g ch x) < 2 ^ 40 := fun x => tbs_lt hok _
  have eA : ∀ x, 1 + mxL (arv N ch) x 40 = bsA N ch x := fun _ => rfl
  have eC : ∀ x, cnt (tbs N (add1 g ch x)) 40 = bsC N ch g x := fun _ => rfl
  have gen : ∀ (m c : Nat), c + m = 8 → c ≤ (kp N K g).1 → X (σ, 32, [some (jR 22 0), some (jR 17 i), some (jI (nI g)), some (jJ (lN (hgr N ch g))), none, some (jJ (lN (bst N K ch g d c).1)), none, some (jI (nI (bst N K ch g d c).2.1)), some (jI (nI (bst N K ch g d c).2.2)), some (jI (nI c)), none, none, none, none], []) := by
    intro m
    induction m with
    | zero =>
      intro c hc hck
      have e : c = (kp N K g).1 := by omega
      refine hg [32] 40 _ ?_
      refine br_c (fun _ => ?_) (fun h => absurd (show nI 8 ≤ nI c from nI_le (by omega) (by omega)) h)
      refine And.intro trivial ?_
      unfold bstC at hp
      rw [← e] at hp
      exact hp
    | succ m ih =>
      intro c hc hck
      have hbd := bst_b (d := d) hl c0.1 (fun z hz => (kOK z hz).1) c hck
      refine hg [32, 90] 60 _ ?_
      refine br_c (fun h => ?_) (fun _ => ?_)
      · have h : nI 8 ≤ nI c := h
        rw [nI_leI (by omega) (by omega)] at h
        omega
      · refine h4 N i K (nN N) g c σ _ hA hgn h40 (by omega) ?_
        by_cases hk : c < (kp N K g).1
        · have ek : kpI N K g c = (kp N K g).2 c := by unfold kpI; rw [if_pos hk]
          rw [ek]
          have kc := kOK c hk
          have ih2 := ih (c + 1) (by omega) (by omega)
          have ha41 := bsA_le hl kc.1
          have hc40 : bsC N ch g ((kp N K g).2 c) ≤ 40 := cnt_le _ _
          refine br_c (fun h => absurd h (no0 kc.1 kc.2.2.2)) (fun _ => ?_)
          refine h3 ((kp N K g).2 c) (arv N ch) σ _ _ rfl kc.1 (arr _ kc.2.2.1) ?_
          rw [eA]
          refine And.intro hin ?_
          refine br_c (fun h => ?_) (fun h => ?_)
          · have h : σ.1 23 0 (nI g).toNatClampNeg < nI (bsA N ch ((kp N K g).2 c)) := h
            rw [eg, hdue, dI_gt (by omega) (by omega)] at h
            rw [bst_n (fun q => h q.1), ← nI_add] at ih2
            show X (σ, 32, [some (jR 22 0), some (jR 17 i), some (jI (nI g)), some (jJ (lN (hgr N ch g))), none, some (jJ (lN (bst N K ch g d c).1)), none, some (jI (nI (bst N K ch g d c).2.1)), some (jI (nI (bst N K ch g d c).2.2)), some (jI (nI c + nI 1)), some (jJ (lN ((kp N K g).2 c))), none, some (jI (nI (bsA N ch ((kp N K g).2 c)))), none], [])
            refine hw _ _ _ [some (jR 22 0), some (jR 17 i), some (jI (nI g)), some (jJ (lN (hgr N ch g))), none, some (jJ (lN (bst N K ch g d c).1)), none, some (jI (nI (bst N K ch g d c).2.1)), some (jI (nI (bst N K ch g d c).2.2)), some (jI (nI c + nI 1)), none, none, none, none] _ (by repeat' first | exact trivial | exact rfl | apply And.intro) ?_
            exact ih2
          · have h : ¬ σ.1 23 0 (nI g).toNatClampNeg < nI (bsA N ch ((kp N K g).2 c)) := h
            rw [eg, hdue, dI_gt (by omega) (by omega)] at h
            have h : bsA N ch ((kp N K g).2 c) + 100 ≤ d := Classical.not_not.mp h
            refine h1 N ch ((kp N K g).2 c) (hgr N ch g) g σ _ _ _ _ hok hN hch (hgr_G N ch g) (by omega) rfl rfl rfl ?_
            rw [← tbs_put hl hgn htb]
            refine c_bc h2 (S := tbs N (add1 g ch ((kp N K g).2 c))) rfl (Nat.lt_trans (tlt _) (by omega)) ?_
            rw [cnt64 (tlt _), eC]
            have stay : ¬ bsP N ch g d ((kp N K g).2 c) (bst N K ch g d c) → X (σ, 32, [some (jR 22 0), some (jR 17 i), some (jI (nI g)), some (jJ (lN (hgr N ch g))), none, some (jJ (lN (bst N K ch g d c).1)), none, some (jI (nI (bst N K ch g d c).2.1)), some (jI (nI (bst N K ch g d c).2.2)), some (jI (nI c + nI 1)), none, none, none, none], []) := by
              intro q
              rw [bst_n q, ← nI_add] at ih2
              exact ih2
            have take : bsP N ch g d ((kp N K g).2 c) (bst N K ch g d c) → X (σ, 32, [some (jR 22 0), some (jR 17 i), some (jI (nI g)), some (jJ (lN (hgr N ch g))), none, some (jJ (lN ((kp N K g).2 c))), none, some (jI (nI (bsC N ch g ((kp N K g).2 c)))), some (jI (nI (bsA N ch ((kp N K g).2 c)))), some (jI (nI c + nI 1)), none, none, none, none], []) := by
              intro q
              rw [bst_y q, ← nI_add] at ih2
              exact ih2
            show X (σ, 90, [some (jR 22 0), some (jR 17 i), some (jI (nI g)), some (jJ (lN (hgr N ch g))), none, some (jJ (lN (bst N K ch g d c).1)), none, some (jI (nI (bst N K ch g d c).2.1)), some (jI (nI (bst N K ch g d c).2.2)), some (jI (nI c)), some (jJ (lN ((kp N K g).2 c))), none, some (jI (nI (bsA N ch ((kp N K g).2 c)))), some (jI (nI (bsC N ch g ((kp N K g).2 c))))], [])
            refine hg [32] 60 _ ?_
            refine br_c (fun q => ?_) (fun q => ?_)
            · have q : nI (bsC N ch g ((kp N K g).2 c)) < nI (bst N K ch g d c).2.1 := q
              rw [nI_ltI (by omega) (by omega)] at q
              show X (σ, 32, [some (jR 22 0), some (jR 17 i), some (jI (nI g)), some (jJ (lN (hgr N ch g))), none, some (jJ (lN ((kp N K g).2 c))), none, some (jI (nI (bsC N ch g ((kp N K g).2 c)))), some (jI (nI (bsA N ch ((kp N K g).2 c)))), some (jI (nI c + nI 1)), some (jJ (lN ((kp N K g).2 c))), none, some (jI (nI (bsA N ch ((kp N K g).2 c)))), some (jI (nI (bsC N ch g ((kp N K g).2 c))))], [])
              refine hw _ _ _ [some (jR 22 0), some (jR 17 i), some (jI (nI g)), some (jJ (lN (hgr N ch g))), none, some (jJ (lN ((kp N K g).2 c))), none, some (jI (nI (bsC N ch g ((kp N K g).2 c)))), some (jI (nI (bsA N ch ((kp N K g).2 c)))), some (jI (nI c + nI 1)), none, none, none, none] _ (by repeat' first | exact trivial | exact rfl | apply And.intro) ?_
              exact take ⟨h, Or.inl q⟩
            · have q : ¬ nI (bsC N ch g ((kp N K g).2 c)) < nI (bst N K ch g d c).2.1 := q
              rw [nI_ltI (by omega) (by omega)] at q
              refine br_c (fun q2 => ?_) (fun q2 => ?_)
              · have q2 : nI (bsC N ch g ((kp N K g).2 c)) = nI (bst N K ch g d c).2.1 := q2
                rw [nI_eq (by omega) (by omega)] at q2
                refine br_c (fun q3 => ?_) (fun q3 => ?_)
                · have q3 : nI (bst N K ch g d c).2.2 ≤ nI (bsA N ch ((kp N K g).2 c)) := q3
                  rw [nI_leI (by omega) (by omega)] at q3
                  show X (σ, 32, [some (jR 22 0), some (jR 17 i), some (jI (nI g)), some (jJ (lN (hgr N ch g))), none, some (jJ (lN (bst N K ch g d c).1)), none, some (jI (nI (bst N K ch g d c).2.1)), some (jI (nI (bst N K ch g d c).2.2)), some (jI (nI c + nI 1)), some (jJ (lN ((kp N K g).2 c))), none, some (jI (nI (bsA N ch ((kp N K g).2 c)))), some (jI (nI (bsC N ch g ((kp N K g).2 c))))], [])
                  refine hw _ _ _ [some (jR 22 0), some (jR 17 i), some (jI (nI g)), some (jJ (lN (hgr N ch g))), none, some (jJ (lN (bst N K ch g d c).1)), none, some (jI (nI (bst N K ch g d c).2.1)), some (jI (nI (bst N K ch g d c).2.2)), some (jI (nI c + nI 1)), none, none, none, none] _ (by repeat' first | exact trivial | exact rfl | apply And.intro) ?_
                  refine stay fun z => ?_
                  rcases z.2 with z | z
                  · exact q z
                  · omega
                · have q3 : ¬ nI (bst N K ch g d c).2.2 ≤ nI (bsA N ch ((kp N K g).2 c)) := q3
                  rw [nI_leI (by omega) (by omega)] at q3
                  show X (σ, 32, [some (jR 22 0), some (jR 17 i), some (jI (nI g)), some (jJ (lN (hgr N ch g))), none, some (jJ (lN ((kp N K g).2 c))), none, some (jI (nI (bsC N ch g ((kp N K g).2 c)))), some (jI (nI (bsA N ch ((kp N K g).2 c)))), some (jI (nI c + nI 1)), some (jJ (lN ((kp N K g).2 c))), none, some (jI (nI (bsA N ch ((kp N K g).2 c)))), some (jI (nI (bsC N ch g ((kp N K g).2 c))))], [])
                  refine hw _ _ _ [some (jR 22 0), some (jR 17 i), some (jI (nI g)), some (jJ (lN (hgr N ch g))), none, some (jJ (lN ((kp N K g).2 c))), none, some (jI (nI (bsC N ch g ((kp N K g).2 c)))), some (jI (nI (bsA N ch ((kp N K g).2 c)))), some (jI (nI c + nI 1)), none, none, none, none] _ (by repeat' first | exact trivial | exact rfl | apply And.intro) ?_
                  exact take ⟨h, Or.inr ⟨q2, by omega⟩⟩
              · have q2 : ¬ nI (bsC N ch g ((kp N K g).2 c)) = nI (bst N K ch g d c).2.1 := q2
                rw [nI_eq (by omega) (by omega)] at q2
                show X (σ, 32, [some (jR 22 0), some (jR 17 i), some (jI (nI g)), some (jJ (lN (hgr N ch g))), none, some (jJ (lN (bst N K ch g d c).1)), none, some (jI (nI (bst N K ch g d c).2.1)), some (jI (nI (bst N K ch g d c).2.2)), some (jI (nI c + nI 1)), some (jJ (lN ((kp N K g).2 c))), none, some (jI (nI (bsA N ch ((kp N K g).2 c)))), some (jI (nI (bsC N ch g ((kp N K g).2 c))))], [])
                refine hw _ _ _ [some (jR 22 0), some (jR 17 i), some (jI (nI g)), some (jJ (lN (hgr N ch g))), none, some (jJ (lN (bst N K ch g d c).1)), none, some (jI (nI (bst N K ch g d c).2.1)), some (jI (nI (bst N K ch g d c).2.2)), some (jI (nI c + nI 1)), none, none, none, none] _ (by repeat' first | exact trivial | exact rfl | apply And.intro) ?_
                refine stay fun z => ?_
                rcases z.2 with z | z
                · exact q z
                · exact q2 z.1
        · have ek : kpI N K g c = 0 := by unfold kpI; rw [if_neg hk]
          have e : c = (kp N K g).1 := by omega
          rw [ek]
          refine br_c (fun _ => ?_) (fun h => absurd ((cmp_0 _ _).mpr rfl) h)
          refine And.intro trivial ?_
          unfold bstC at hp
          rw [← e] at hp
          exact hp
  refine hg [32] 60 _ ?_
  refine And.intro hin ?_
  refine h1 N ch (ch g) (hgr N ch g) g σ _ _ _ _ hok hN hch (hgr_G N ch g) (by omega) e24 rfl rfl ?_
  rw [← tbs_put hl hgn htb]
  refine c_bc h2 (S := tbs N (add1 g ch (ch g))) rfl (Nat.lt_trans (tlt _) (by omega)) ?_
  rw [cnt64 (tlt _), eC]
  refine h3 (ch g) (arv N ch) σ _ _ e24 c0.1 (arr _ c0.2.2.1) ?_
  rw [eA]
  show X (σ, 32, [some (jR 22 0), some (jR 17 i), some (jI (nI g)), some (jJ (lN (hgr N ch g))), none, some (jJ (σ.2 24 0 (nI g).toNatClampNeg)), none, some (jI (nI (bsC N ch g (ch g)))), some (jI (nI (bsA N ch (ch g)))), some (jI (nI 0)), none, none, none, none], [])
  rw [e24]
  exact gen 8 0 (by omega) (by omega)
