/-! the component's Contents: caresOf, nodesByTables -/
theorem bit_add6 : ∀ i, i < 6 → ∀ q, q < 64 → (q.testBit i = false → q + 2 ^ i = q ^^^ 2 ^ i ∧ (q + 2 ^ i).testBit i = true ∧ q + 2 ^ i < 64) ∧ (q.testBit i = true → (q + 2 ^ i).testBit i = false) := by decide +kernel
theorem cares_iff {H m i : Nat} (hm : m ≤ 6) (hi : i < m) (hH : H < 2 ^ 2 ^ m) : (H &&& plM i) / 2 ^ 2 ^ i = sD H (plM i) ↔ crP H m i = false := by
  have h64 := pw6 hm
  have hp2 := Nat.two_pow_pos i
  have hz : ∀ q, 2 ^ m ≤ q → H.testBit q = false := fun q hq => Nat.testBit_lt_two_pow (Nat.lt_of_lt_of_le hH (Nat.pow_le_pow_right (by omega) hq))
  have hE : ∀ q, ((H &&& plM i) / 2 ^ 2 ^ i).testBit q = (H.testBit (q + 2 ^ i) && (decide (q + 2 ^ i < 64) && (q + 2 ^ i).testBit i)) := fun q => by rw [Nat.testBit_div_two_pow, Nat.testBit_and, plM_bit]
  have hF : ∀ q, (sD H (plM i)).testBit q = (H.testBit q && !(decide (q < 64) && q.testBit i)) := fun q => by rw [sD_bit, plM_bit]
  constructor
  · intro he
    unfold crP
    rw [decide_eq_false_iff_not]
    rintro ⟨j, hj, hne⟩
    apply hne
    have key : ∀ z, z < 2 ^ m → z.testBit i = false → H.testBit z = H.testBit (z ^^^ 2 ^ i) := fun z hz2 hb => by
      obtain ⟨a1, a2, a3⟩ := (bit_add6 i (by omega) z (by omega)).1 hb
      have this : ((H &&& plM i) / 2 ^ 2 ^ i).testBit z = (sD H (plM i)).testBit z := by rw [he]
      rw [hE, hF, a2, hb] at this
      simp only [a3, decide_true, Bool.and_true, Bool.and_false, Bool.not_false] at this
      rw [← a1]
      exact this.symm
    cases hb : j.testBit i with
    | false => exact key j hj hb
    | true =>
      have hb2 : (j ^^^ 2 ^ i).testBit i = false := by rw [fb_bit_flip, hb]; simp
      have := key (j ^^^ 2 ^ i) (Nat.xor_lt_two_pow hj (pw_lt hi)) hb2
      rw [Nat.xor_assoc, Nat.xor_self, Nat.xor_zero] at this
      exact this.symm
  · intro hc
    unfold crP at hc
    rw [decide_eq_false_iff_not] at hc
    have hc2 : ∀ j, j < 2 ^ m → H.testBit j = H.testBit (j ^^^ 2 ^ i) := fun j hj => Classical.byContradiction fun h => hc ⟨j, hj, h⟩
    apply set_eq
    intro q
    rw [hE, hF]
    by_cases hq : q < 64
    · cases hb : q.testBit i with
      | true =>
        rw [(bit_add6 i (by omega) q hq).2 hb]
        simp [hq]
      | false =>
        obtain ⟨a1, a2, a3⟩ := (bit_add6 i (by omega) q hq).1 hb
        rw [a2]
        simp only [a3, decide_true, Bool.and_true, Bool.and_false, Bool.not_false]
        by_cases hm2 : q < 2 ^ m
        · rw [a1, ← hc2 q hm2]
        · rw [hz q (by omega), hz (q + 2 ^ i) (by omega)]
    · have h2 : ¬ q + 2 ^ i < 64 := by omega
      rw [hz q (by omega)]
      simp [h2]
abbrev ct_ccares (C : jm_C) : Prop := ∀ (N : nw) (K g : Nat) (ch : Nat → Nat) (σ : jm_G) (post : Option jm_V → jm_G → Prop), nw_ok N → cN N σ → cP σ → chOK N K ch → K ≤ 6 → cCh N ch σ → cB N ch σ → isG N g = true → (∀ σ', off 26 28 σ σ' → cB N ch σ' → post (some (jI (nI (crs (hld N ch g) (cnt (ch g) 40))))) σ') → C kX2_caresOf [jR 26 0, jI (nI g)] σ post
theorem T_ccares (L : Nat) {C : jm_C} (hC : jm_mon C) (h1 : ct_bitsOf C) (h2 : ct_bc C) : ct_ccares (jm_up L C) := by
  intro N K g ch σ post hok hN hP hcO hK6 hch hB hgt hp
  refine jm_start rfl (Nat.le_of_ble_eq_true rfl) hC fun X hg hw => ?_
  have h40 := hok.1
  have hgn := isG_lt hgt
  obtain ⟨c1, c2, c3, -⟩ := (hcO g hgt).1
  have hc6 : cnt (ch g) 40 ≤ 6 := by omega
  have eg : (nI g).toNatClampNeg = g := nI_clamp (by omega)
  have hin : vp_in (nI g) 40 := vp_in_nI (by omega) (by omega)
  have hH2 : hld N ch g < 2 ^ 2 ^ cnt (ch g) 40 := mk_lt _ _
  have hH := hld_lt (N := N) hc6
  refine hg [26] 40 _ ?_
  refine h1 N K g ch σ _ hok hN hP hcO hK6 hch hB hgt fun τ ho hBt => ?_
  refine And.intro hin ?_
  refine c_bc h2 (S := ch g) (show τ.2 24 0 (nI g).toNatClampNeg = lN (ch g) by rw [eg, (ho 24 0 (by omega)).2]; exact hch g hgt) (Nat.lt_trans c1 (by omega)) ?_
  rw [cnt64 c1]
  have hp := hp τ ho hBt
  have hPt := cP_off hP ho (by omega)
  show X (τ, 26, [some (jR 26 0), some (jI (nI g)), some (jJ (lN (hld N ch g))), none, some (jI (nI (cnt (ch g) 40))), some (jI (nI 0)), some (jI (nI 0)), none, none, none, none], [])
  generalize hld N ch g = H at hp hH hH2 ⊢
  generalize cnt (ch g) 40 = m at hp hc6 hH2 ⊢
  have gen : ∀ (d i : Nat), i + d = m → X (τ, 26, [some (jR 26 0), some (jI (nI g)), some (jJ (lN H)), none, some (jI (nI m)), some (jI (nI (mk (crP H m) i))), some (jI (nI i)), none, none, none, none], []) := by
    intro d
    induction d with
    | zero =>
      intro i hi
      have e : i = m := by omega
      subst e
      refine hg [26] 40 _ ?_
      refine br_c (fun _ => And.intro trivial hp) (fun h => absurd (show nI i ≤ nI i from nI_le (Nat.le_refl _) (by omega)) h)
    | succ d ih =>
      intro i hi
      have ihi := ih (i + 1) (by omega)
      rw [mk] at ihi
      have h32 : 2 ^ i ≤ 32 := Nat.le_trans (Nat.pow_le_pow_right (by omega) (show i ≤ 5 by omega)) (by decide)
      have e101 : τ.2 101 0 (nI i).toNatClampNeg = lN (plM i) := by rw [nI_clamp (by omega)]; exact hPt i (by omega)
      have hin6 : vp_in (nI i) 6 := vp_in_nI (by omega) (by omega)
      have l1 : H &&& plM i < 2 ^ 64 := Nat.lt_of_le_of_lt Nat.and_le_left hH
      have eOn : ((lN H &&& τ.2 101 0 (nI i).toNatClampNeg).toUInt64 >>> ((nI 1 <<< (nI i &&& 31)).toInt64.toUInt64 &&& Int64.toUInt64 63)).toInt64 = lN ((H &&& plM i) / 2 ^ 2 ^ i) := by rw [e101, fb_andL, shI1 (by omega), wb_shr l1 (by omega)]
      have eOff : lN H &&& (τ.2 101 0 (nI i).toNatClampNeg ^^^ (-1)) = lN (sD H (plM i)) := by rw [e101, lN_andn]
      have hiff := cares_iff hc6 (show i < m by omega) hH2
      have l2 : (H &&& plM i) / 2 ^ 2 ^ i < 2 ^ 64 := Nat.lt_of_le_of_lt (Nat.div_le_self _ _) l1
      have l3 : sD H (plM i) < 2 ^ 64 := sD_lt hH
      refine hg [26] 60 _ ?_
      refine br_c (fun h => ?_) (fun _ => ?_)
      · have h : nI m ≤ nI i := h
        rw [nI_leI (by omega) (by omega)] at h
        omega
      · refine br_c (fun h => ?_) (fun _ => ?_)
        · have h : nI 6 ≤ nI i := h
          rw [nI_leI (by omega) (by omega)] at h
          omega
        · refine And.intro hin6 ?_
          refine And.intro hin6 ?_
          refine br_c (fun h => ?_) (fun h => ?_)
          · have h : lg_cmp ((lN H &&& τ.2 101 0 (nI i).toNatClampNeg).toUInt64 >>> ((nI 1 <<< (nI i &&& 31)).toInt64.toUInt64 &&& Int64.toUInt64 63)).toInt64 (lN H &&& (τ.2 101 0 (nI i).toNatClampNeg ^^^ (-1))) = 0 := h
            rw [eOn, eOff, cmp_0, lN_inj l2 l3, hiff] at h
            rw [h, if_neg (fun q => by cases q), Nat.or_zero, ← nI_add] at ihi
            refine hw _ _ _ [some (jR 26 0), some (jI (nI g)), some (jJ (lN H)), none, some (jI (nI m)), some (jI (nI (mk (crP H m) i))), some (jI (nI i + nI 1)), none, none, none, none] _ (by repeat' first | exact trivial | exact rfl | apply And.intro) ?_
            exact ihi
          · have h : ¬ lg_cmp ((lN H &&& τ.2 101 0 (nI i).toNatClampNeg).toUInt64 >>> ((nI 1 <<< (nI i &&& 31)).toInt64.toUInt64 &&& Int64.toUInt64 63)).toInt64 (lN H &&& (τ.2 101 0 (nI i).toNatClampNeg ^^^ (-1))) = 0 := h
            rw [eOn, eOff, cmp_0, lN_inj l2 l3, hiff] at h
            have h : crP H m i = true := by simpa using h
            rw [h, if_pos rfl, ← nI_add] at ihi
            refine hw _ _ _ [some (jR 26 0), some (jI (nI g)), some (jJ (lN H)), none, some (jI (nI m)), some (jI (nI (mk (crP H m) i) ||| (nI 1 <<< (nI i &&& 31)))), some (jI (nI i + nI 1)), none, none, none, none] _ (by repeat' first | exact trivial | exact rfl | apply And.intro) ?_
            rw [shI1 (by omega), fb_orI]
            exact ihi
  exact gen m 0 (by omega)
abbrev ct_byTab (C : jm_C) : Prop := ∀ (N : nw) (K on last : Nat) (ch : Nat → Nat) (σ : jm_G) (v : Int64) (post : Option jm_V → jm_G → Prop), nw_ok N → cN N σ → cP σ → chOK N K ch → K ≤ 6 → cCh N ch σ → cB N ch σ → v = lN on → on < 2 ^ 40 → last < nN N → (∀ σ', off 26 28 σ σ' → cB N ch σ' → post (some (jJ (lN (mk (byV N ch (fun i => on.testBit i)) (last + 1))))) σ') → C kX2_nodesByTables [jR 26 0, jJ v, jI (nI last)] σ post
theorem T_byTab (L : Nat) {C : jm_C} (hC : jm_mon C) (h1 : ct_has C) (h2 : ct_bit C) (h3 : ct_bitsOf C) (h4 : ct_told C) : ct_byTab (jm_up L C) := by
  intro N K on last ch σ v post hok hN hP hcO hK6 hch hB hv hon hlast hp
  subst hv
  refine jm_start rfl (Nat.le_of_ble_eq_true rfl) hC fun X hg hw => ?_
  have h40 := hok.1
  refine hg [6] 40 _ ?_
  show X (σ, 6, [some (jR 26 0), some (jJ (lN on)), none, some (jI (nI last)), some (jJ (lN 0)), none, some (jI (nI 0)), none], [])
  have gen : ∀ (d n : Nat), n + d = last + 1 → ∀ (τ : jm_G), off 26 28 σ τ → cB N ch τ → X (τ, 6, [some (jR 26 0), some (jJ (lN on)), none, some (jI (nI last)), some (jJ (lN (mk (byV N ch (fun i => on.testBit i)) n))), none, some (jI (nI n)), none], []) := by
    intro d
    induction d with
    | zero =>
      intro n hn τ ho hBt
      have e : n = last + 1 := by omega
      subst e
      refine hg [6] 40 _ ?_
      refine br_c (fun _ => And.intro trivial (hp τ ho hBt)) (fun h => absurd (show nI last < nI (last + 1) from nI_lt (by omega) (by omega)) h)
    | succ d ih =>
      intro n hn τ ho hBt
      have hNt := cN_off hN ho (by omega) (by omega)
      have hcht : cCh N ch τ := fun g hgg => by rw [(ho 24 0 (by omega)).2]; exact hch g hgg
      have hmk : mk (byV N ch (fun i => on.testBit i)) n < 2 ^ 40 := mk_lt40 _ (by omega)
      have no : ∀ (υ : jm_G) (c : Int32), off 26 28 σ υ → cB N ch υ → byV N ch (fun i => on.testBit i) n = false → X (υ, 6, [some (jR 26 0), some (jJ (lN on)), none, some (jI (nI last)), some (jJ (lN (mk (byV N ch (fun i => on.testBit i)) n))), none, some (jI (nI n + nI 1)), some (jI c)], []) := by
        intro υ c hu hBu hb
        refine hw _ _ _ [some (jR 26 0), some (jJ (lN on)), none, some (jI (nI last)), some (jJ (lN (mk (byV N ch (fun i => on.testBit i)) n))), none, some (jI (nI n + nI 1)), none] _ (by repeat' first | exact trivial | exact rfl | apply And.intro) ?_
        have := ih (n + 1) (by omega) υ hu hBu
        rw [mk, hb, if_neg (fun q => by cases q), Nat.or_zero] at this
        rw [nI_add]
        exact this
      have yes : ∀ (υ : jm_G) (c : Int32), off 26 28 σ υ → cB N ch υ → byV N ch (fun i => on.testBit i) n = true → X (υ, 6, [some (jR 26 0), some (jJ (lN on)), none, some (jI (nI last)), some (jJ (lN (mk (byV N ch (fun i => on.testBit i)) n) ||| lN (2 ^ n))), none, some (jI (nI n + nI 1)), some (jI c)], []) := by
        intro υ c hu hBu hb
        refine hw _ _ _ [some (jR 26 0), some (jJ (lN on)), none, some (jI (nI last)), some (jJ (lN (mk (byV N ch (fun i => on.testBit i)) n) ||| lN (2 ^ n))), none, some (jI (nI n + nI 1)), none] _ (by repeat' first | exact trivial | exact rfl | apply And.intro) ?_
        have := ih (n + 1) (by omega) υ hu hBu
        rw [mk, hb, if_pos rfl] at this
        rw [nI_add, fb_orL]
        exact this
      refine hg [6] 80 _ ?_
      refine br_c (fun h => ?_) (fun _ => ?_)
      · have h : nI last < nI n := h
        rw [nI_ltI (by omega) (by omega)] at h
        omega
      · refine c_has h1 (S := gM N) (n := n) hNt.2.2.1 rfl (p40 (gM_lt hok)) (by omega) ?_
        rw [gM_bit]
        refine br_c (fun h => ?_) (fun h => ?_)
        · have hgf := bI_0.mp h
          refine h1 on n τ _ (p40 hon) (by omega) ?_
          refine br_c (fun z => ?_) (fun z => ?_)
          · exact no τ _ ho hBt (by rw [byV_leaf hgf]; exact bI_0.mp z)
          · refine h2 n τ _ (by omega) ?_
            exact yes τ _ ho hBt (by rw [byV_leaf hgf]; exact bI_n0.mp z)
        · have hgt := bI_n0.mp h
          obtain ⟨c1, c2, c3, -⟩ := (hcO n hgt).1
          have hc6 : cnt (ch n) 40 ≤ 6 := by omega
          have hlt := tld_lt (ch n) (byV N ch (fun i => on.testBit i)) 40
          have h64 := pw6 hc6
          have hH := hld_lt (N := N) hc6
          refine h3 N K n ch τ _ hok hNt (cP_off hP ho (by omega)) hcO hK6 hcht hBt hgt fun υ o1 hBu => ?_
          have hou := off_trans ho o1
          refine And.intro (vp_in_nI (by omega) (by omega)) ?_
          refine h4 (ch n) (mk (byV N ch (fun i => on.testBit i)) n) (byV N ch (fun i => on.testBit i)) υ _ _ _ (show υ.2 24 0 (nI n).toNatClampNeg = lN (ch n) by rw [nI_clamp (by omega), (o1 24 0 (by omega)).2]; exact hcht n hgt) rfl c1 (p40 hmk) hc6 (fun j hj => by rw [mk_bit]; have := c3 j hj; simp [this]) ?_
          have ev : ((lN (hld N ch n)).toUInt64 >>> ((nI (tld (ch n) (byV N ch (fun i => on.testBit i)) 40)).toInt64.toUInt64 &&& Int64.toUInt64 63)).toInt64 &&& lN 1 = lN (byV N ch (fun i => on.testBit i) n).toNat := by
            rw [wb_shr hH (by omega), lN_and1, bit_div, byV_gate c3 hgt]
          refine br_c (fun z => ?_) (fun z => ?_)
          · have z : lg_cmp (((lN (hld N ch n)).toUInt64 >>> ((nI (tld (ch n) (byV N ch (fun i => on.testBit i)) 40)).toInt64.toUInt64 &&& Int64.toUInt64 63)).toInt64 &&& lN 1) (lN 0) = 0 := z
            rw [ev, cmp_0] at z
            refine br_c (fun _ => ?_) (fun h => absurd rfl h)
            refine no υ _ hou hBu ?_
            cases q : byV N ch (fun i => on.testBit i) n with
            | false => rfl
            | true => rw [q] at z; exact absurd z (by decide)
          · have z : ¬ lg_cmp (((lN (hld N ch n)).toUInt64 >>> ((nI (tld (ch n) (byV N ch (fun i => on.testBit i)) 40)).toInt64.toUInt64 &&& Int64.toUInt64 63)).toInt64 &&& lN 1) (lN 0) = 0 := z
            rw [ev, cmp_0] at z
            refine br_c (fun h => absurd h (by decide)) (fun _ => ?_)
            refine h2 n υ _ (by omega) ?_
            refine yes υ _ hou hBu ?_
            cases q : byV N ch (fun i => on.testBit i) n with
            | true => rfl
            | false => rw [q] at z; exact absurd rfl z
  exact gen (last + 1) 0 (by omega) σ (off_refl _ _ _) hB
