/-! HOLDS, CARES, BY TABLES: what both sides compute; the model's methods -/
def plc9 (S p n : Nat) : Bool := p.testBit (cnt S n)
def hlV (N : nw) (S g p : Nat) : Bool := vx N S (plc9 S p) (fun _ => false) g
def hld (N : nw) (ch : Nat → Nat) (g : Nat) : Nat := mk (hlV N (ch g) g) (2 ^ cnt (ch g) 40)
theorem pw6 {m : Nat} (h : m ≤ 6) : 2 ^ m ≤ 64 := Nat.le_trans (Nat.pow_le_pow_right (by omega) h) (by decide)
theorem hld_lt {N : nw} {ch : Nat → Nat} {g : Nat} (h : cnt (ch g) 40 ≤ 6) : hld N ch g < 2 ^ 64 := Nat.lt_of_lt_of_le (mk_lt _ _) (Nat.pow_le_pow_right (by omega) (pw6 h))
def tld (S : Nat) (f : Nat → Bool) : Nat → Nat
  | 0 => 0
  | n + 1 => tld S f n ||| (if S.testBit n && f n then 2 ^ cnt S n else 0)
theorem tld_lt (S : Nat) (f : Nat → Bool) : ∀ n, tld S f n < 2 ^ cnt S n
  | 0 => Nat.two_pow_pos _
  | n + 1 => by
    rw [tld, cnt_succ]
    refine or_lt (Nat.lt_of_lt_of_le (tld_lt S f n) (Nat.pow_le_pow_right (by omega) (by omega))) ?_
    by_cases q : (S.testBit n && f n) = true
    · rw [if_pos q]
      rw [Bool.and_eq_true] at q
      rw [q.1]
      exact pw_lt (by show cnt S n < cnt S n + 1; omega)
    · rw [if_neg q]
      exact Nat.two_pow_pos _
theorem tld_end {S n : Nat} {f : Nat → Bool} (h : ∀ j, S.testBit j = true → j < n) : ∀ d, tld S f (n + d) = tld S f n
  | 0 => rfl
  | d + 1 => by
    rw [← Nat.add_assoc, tld, tld_end h d]
    have : S.testBit (n + d) = false := by
      cases q : S.testBit (n + d) with
      | false => rfl
      | true => have := h _ q; omega
    rw [this]
    exact Nat.or_zero _
theorem tld_cong {S : Nat} {f f' : Nat → Bool} (h : ∀ j, S.testBit j = true → f j = f' j) : ∀ n, tld S f n = tld S f' n
  | 0 => rfl
  | n + 1 => by
    rw [tld, tld, tld_cong h n]
    cases q : S.testBit n with
    | false => rfl
    | true => rw [h n q]
/-- what nodes are by tables -/
def byT (N : nw) (ch : Nat → Nat) (lf : Nat → Bool) : Nat → Nat → Bool
  | 0 => fun _ => false
  | n + 1 => fun i => if i = n then (if isG N n then (hld N ch n).testBit (tld (ch n) (byT N ch lf n) 40) else lf n) else byT N ch lf n i
def byV (N : nw) (ch : Nat → Nat) (lf : Nat → Bool) (i : Nat) : Bool := byT N ch lf (i + 1) i
theorem byT_lt (N : nw) (ch : Nat → Nat) (lf : Nat → Bool) : ∀ n i, i < n → byT N ch lf n i = byV N ch lf i
  | 0, _, h => absurd h (by omega)
  | n + 1, i, h => by
    by_cases e : i = n
    · subst e; rfl
    · show (if i = n then _ else byT N ch lf n i) = _
      rw [if_neg e]
      exact byT_lt N ch lf n i (by omega)
theorem byV_leaf {N : nw} {ch : Nat → Nat} {lf : Nat → Bool} {i : Nat} (h : isG N i = false) : byV N ch lf i = lf i := by
  show (if i = i then (if isG N i then _ else lf i) else _) = _
  rw [if_pos rfl, h]
  rfl
theorem byV_gate {N : nw} {ch : Nat → Nat} {lf : Nat → Bool} {i : Nat} (hl : ∀ j, (ch i).testBit j = true → j < i) (h : isG N i = true) : byV N ch lf i = (hld N ch i).testBit (tld (ch i) (byV N ch lf) 40) := by
  show (if i = i then (if isG N i then (hld N ch i).testBit (tld (ch i) (byT N ch lf i) 40) else lf i) else _) = _
  rw [if_pos rfl, if_pos h, tld_cong fun j hj => byT_lt N ch lf i j (hl j hj)]
/-- bits on which a word hangs -/
def crP (H m i : Nat) : Bool := decide (∃ j, j < 2 ^ m ∧ H.testBit j ≠ H.testBit (j ^^^ 2 ^ i))
def crs (H m : Nat) : Nat := mk (crP H m) m
abbrev ct_holdsOf (C : jm_C) : Prop := ∀ (N : nw) (K g on : Nat) (ch : Nat → Nat) (σ : jm_G) (post : Option jm_V → jm_G → Prop), nw_ok N → mN N σ → mSt N on σ → chOK N K ch → K ≤ 6 → mCh N ch σ → isG N g = true → (∀ σ', mf [56] [] σ σ' → post (some (jJ (lN (hld N ch g)))) σ') → C kX10_holdsOf [jR 38 0, jI (nI g)] σ post
theorem T_holdsOf (L : Nat) {C : jm_C} (hC : jm_mon C) (h1 : ct_mmany C) (h2 : ct_fixes C) (h3 : ct_works C) : ct_holdsOf (jm_up L C) := by
  intro N K g on ch σ post hok hN hst hcO hK6 hch hgt hp
  refine jm_start rfl (Nat.le_of_ble_eq_true rfl) hC fun X hg hw => ?_
  have h40 := hok.1
  have hgn := isG_lt hgt
  obtain ⟨c1, c2, c3, -⟩ := (hcO g hgt).1
  have hsep := (hcO g hgt).2
  have hc6 : cnt (ch g) 40 ≤ 6 := by omega
  have eg : (nI g).toNatClampNeg = g := nI_clamp (by omega)
  have hin : vp_in (nI g) 40 := vp_in_nI (by omega) (by omega)
  have hp64 := pw6 hc6
  refine hg [5] 20 _ ?_
  show X (σ, 5, [some (jR 38 0), some (jI (nI g)), some (jJ (lN 0)), none, some (jI (nI 0))], [])
  have gen : ∀ (d j : Nat), j + d = 2 ^ cnt (ch g) 40 → ∀ (τ : jm_G), mf [56] [] σ τ → X (τ, 5, [some (jR 38 0), some (jI (nI g)), some (jJ (lN (mk (hlV N (ch g) g) j))), none, some (jI (nI j))], []) := by
    intro d
    induction d with
    | zero =>
      intro j hj τ ho
      have e : j = 2 ^ cnt (ch g) 40 := by omega
      have e53 : τ.2 53 0 (nI g).toNatClampNeg = lN (ch g) := by rw [eg]; exact mCh_mf hch ho (by decide) g hgt
      refine hg [5] 40 _ ?_
      refine And.intro hin ?_
      refine c_mmany h1 e53 (p40 c1) ?_
      refine br_c (fun _ => ?_) (fun h => ?_)
      · refine And.intro trivial ?_
        rw [e]
        exact hp τ ho
      · have h : ¬ nI 1 <<< (nI (cnt (ch g) 40) &&& 31) ≤ nI j := h
        rw [shI1 (by omega), nI_leI (by omega) (by omega)] at h
        omega
    | succ d ih =>
      intro j hj τ ho
      have hNt := mN_mf hN ho (by decide) (by decide)
      have e53 : ∀ υ, mf [56] [] σ υ → υ.2 53 0 (nI g).toNatClampNeg = lN (ch g) := fun υ hu => by rw [eg]; exact mCh_mf hch hu (by decide) g hgt
      refine hg [5] 60 _ ?_
      refine And.intro hin ?_
      refine c_mmany h1 (e53 τ ho) (p40 c1) ?_
      refine br_c (fun h => ?_) (fun _ => ?_)
      · have h : nI 1 <<< (nI (cnt (ch g) 40) &&& 31) ≤ nI j := h
        rw [shI1 (by omega), nI_leI (by omega) (by omega)] at h
        omega
      · refine And.intro hin ?_
        refine h2 N (ch g) j τ _ _ hok hNt (e53 τ ho) c1 hc6 (by omega) fun υ o1 o2 => ?_
        have hou := mf_trans ho o1
        refine And.intro hin ?_
        refine h3 N (ch g) on (plc9 (ch g) j) υ _ _ hok (mN_mf hN hou (by decide) (by decide)) (fun i hi => by rw [(hou.1 43 0 (by omega) (by decide)).1]; exact hst i hi) (e53 υ hou) c1 o2 fun ω q1 q2 => ?_
        have how := mf_trans hou q1
        have ev : ω.1 56 0 (nI g).toNatClampNeg = bI (hlV N (ch g) g j) := by
          rw [eg, q2 g hgn]
          unfold hlV
          rw [vx_sep hok hsep g (rch_self N g _)]
        refine And.intro hin ?_
        have := ih (j + 1) (by omega) ω how
        rw [mk] at this
        refine br_c (fun h => ?_) (fun h => ?_)
        · have h : ω.1 56 0 (nI g).toNatClampNeg = 0 := h
          rw [ev] at h
          rw [bI_0.mp h] at this
          show X (ω, 5, [some (jR 38 0), some (jI (nI g)), some (jJ (lN (mk (hlV N (ch g) g) j) ||| lN 0)), none, some (jI (nI j + nI 1))], [])
          rw [fb_orL, nI_add]
          exact this
        · have h : ¬ ω.1 56 0 (nI g).toNatClampNeg = 0 := h
          rw [ev] at h
          rw [bI_n0.mp h, if_pos rfl] at this
          show X (ω, 5, [some (jR 38 0), some (jI (nI g)), some (jJ (lN (mk (hlV N (ch g) g) j) ||| (lN 1 <<< ((nI j).toInt64 &&& 63)))), none, some (jI (nI j + nI 1))], [])
          rw [lN_shl1 (by omega), fb_orL, nI_add]
          exact this
  exact gen (2 ^ cnt (ch g) 40) 0 (by omega) σ (mf_refl _ _ _)
abbrev ct_mcares (C : jm_C) : Prop := ∀ (N : nw) (K g on : Nat) (ch : Nat → Nat) (σ : jm_G) (post : Option jm_V → jm_G → Prop), nw_ok N → mN N σ → mSt N on σ → chOK N K ch → K ≤ 6 → mCh N ch σ → isG N g = true → (∀ σ', mf [56] [] σ σ' → post (some (jI (nI (crs (hld N ch g) (cnt (ch g) 40))))) σ') → C kX10_caresOf [jR 38 0, jI (nI g)] σ post
theorem T_mcares (L : Nat) {C : jm_C} (hC : jm_mon C) (h1 : ct_holdsOf C) (h2 : ct_mmany C) (h3 : ct_has64 C) : ct_mcares (jm_up L C) := by
  intro N K g on ch σ post hok hN hst hcO hK6 hch hgt hp
  refine jm_start rfl (Nat.le_of_ble_eq_true rfl) hC fun X hg hw => ?_
  have h40 := hok.1
  have hgn := isG_lt hgt
  obtain ⟨c1, c2, c3, -⟩ := (hcO g hgt).1
  have hc6 : cnt (ch g) 40 ≤ 6 := by omega
  have eg : (nI g).toNatClampNeg = g := nI_clamp (by omega)
  have hin : vp_in (nI g) 40 := vp_in_nI (by omega) (by omega)
  have hp64 := pw6 hc6
  have hH := hld_lt (N := N) hc6
  refine hg [23] 40 _ ?_
  refine h1 N K g on ch σ _ hok hN hst hcO hK6 hch hgt fun τ ho => ?_
  refine And.intro hin ?_
  refine c_mmany h2 (show τ.2 53 0 (nI g).toNatClampNeg = lN (ch g) by rw [eg]; exact mCh_mf hch ho (by decide) g hgt) (p40 c1) ?_
  have hp := hp τ ho
  show X (τ, 23, [some (jR 38 0), some (jI (nI g)), some (jJ (lN (hld N ch g))), none, some (jI (nI (cnt (ch g) 40))), some (jI (nI 0)), some (jI (nI 0)), none], [])
  generalize hld N ch g = H at hp hH ⊢
  generalize cnt (ch g) 40 = m at hp hc6 hp64 ⊢
  have gen : ∀ (d i : Nat), i + d = m → X (τ, 23, [some (jR 38 0), some (jI (nI g)), some (jJ (lN H)), none, some (jI (nI m)), some (jI (nI (mk (crP H m) i))), some (jI (nI i)), none], []) := by
    intro d
    induction d with
    | zero =>
      intro i hi
      have e : i = m := by omega
      subst e
      refine hg [23, 33] 40 _ ?_
      refine br_c (fun _ => And.intro trivial hp) (fun h => absurd (show nI i ≤ nI i from nI_le (Nat.le_refl _) (by omega)) h)
    | succ d ih =>
      intro i hi
      have hmk : mk (crP H m) i < 2 ^ i := mk_lt _ _
      have hpi : 2 ^ i ≤ 64 := pw6 (by omega)
      refine hg [23, 33] 40 _ ?_
      refine br_c (fun h => ?_) (fun _ => ?_)
      · have h : nI m ≤ nI i := h
        rw [nI_leI (by omega) (by omega)] at h
        omega
      · show X (τ, 33, [some (jR 38 0), some (jI (nI g)), some (jJ (lN H)), none, some (jI (nI m)), some (jI (nI (mk (crP H m) i))), some (jI (nI i)), some (jI (nI 0))], [])
        -- over all words
        have inner : ∀ (e j : Nat) (b : Bool), j + e = 2 ^ m → (b = true ↔ ∃ z, z < j ∧ H.testBit z ≠ H.testBit (z ^^^ 2 ^ i)) → X (τ, 33, [some (jR 38 0), some (jI (nI g)), some (jJ (lN H)), none, some (jI (nI m)), some (jI (nI (mk (crP H m) i ||| (if b then 2 ^ i else 0)))), some (jI (nI i)), some (jI (nI j))], []) := by
          intro e
          induction e with
          | zero =>
            intro j b hj hb
            have ej : j = 2 ^ m := by omega
            subst ej
            refine hg [23, 33] 40 _ ?_
            refine br_c (fun _ => ?_) (fun h => ?_)
            · refine hw _ _ _ [some (jR 38 0), some (jI (nI g)), some (jJ (lN H)), none, some (jI (nI m)), some (jI (nI (mk (crP H m) i ||| (if b then 2 ^ i else 0)))), some (jI (nI i + nI 1)), none] _ (by repeat' first | exact trivial | exact rfl | apply And.intro) ?_
              have := ih (i + 1) (by omega)
              rw [mk] at this
              have eb : crP H m i = b := by
                unfold crP
                apply Bool.eq_iff_iff.mpr
                rw [hb, decide_eq_true_eq]
              rw [eb] at this
              rw [nI_add]
              exact this
            · have h : ¬ nI 1 <<< (nI m &&& 31) ≤ nI (2 ^ m) := h
              rw [shI1 (by omega)] at h
              exact absurd (nI_le (Nat.le_refl _) (by omega)) h
          | succ e ihe =>
            intro j b hj hb
            have hjx : j ^^^ 2 ^ i < 64 := Nat.lt_of_lt_of_le (Nat.xor_lt_two_pow (n := m) (by omega) (pw_lt (by omega))) (by omega)
            refine hg [23, 33] 60 _ ?_
            refine br_c (fun h => ?_) (fun _ => ?_)
            · have h : nI 1 <<< (nI m &&& 31) ≤ nI j := h
              rw [shI1 (by omega), nI_leI (by omega) (by omega)] at h
              omega
            · refine h3 H j τ _ hH (by omega) ?_
              have call : ∀ {post' : Option jm_V → jm_G → Prop}, (∀ v ω, post' v ω → post' v ω) → C kX10_has64 [jJ (lN H), jI (nI (j ^^^ 2 ^ i))] τ post' → C kX10_has64 [jJ (lN H), jI (nI j ^^^ (nI 1 <<< (nI i &&& 31)))] τ post' := fun _ h => by rw [shI1 (by omega), fb_xorI]; exact h
              refine call (fun _ _ h => h) ?_
              refine h3 H (j ^^^ 2 ^ i) τ _ hH hjx ?_
              refine br_c (fun h => ?_) (fun h => ?_)
              · have h : bI (H.testBit j) = bI (H.testBit (j ^^^ 2 ^ i)) := h
                have h := bI_inj h
                have := ihe (j + 1) b (by omega) (hb.trans ⟨fun ⟨z, h1, h2⟩ => ⟨z, by omega, h2⟩, fun ⟨z, h1, h2⟩ => ⟨z, by
                  by_cases ez : z = j
                  · rw [ez] at h2; exact absurd h h2
                  · omega, h2⟩⟩)
                show X (τ, 33, [some (jR 38 0), some (jI (nI g)), some (jJ (lN H)), none, some (jI (nI m)), some (jI (nI (mk (crP H m) i ||| (if b then 2 ^ i else 0)) ||| nI 0)), some (jI (nI i)), some (jI (nI j + nI 1))], [])
                rw [fb_orI, Nat.or_zero, nI_add]
                exact this
              · have h : ¬ bI (H.testBit j) = bI (H.testBit (j ^^^ 2 ^ i)) := h
                have h : H.testBit j ≠ H.testBit (j ^^^ 2 ^ i) := fun q => h (by rw [q])
                have := ihe (j + 1) true (by omega) ⟨fun _ => ⟨j, by omega, h⟩, fun _ => rfl⟩
                rw [if_pos rfl] at this
                show X (τ, 33, [some (jR 38 0), some (jI (nI g)), some (jJ (lN H)), none, some (jI (nI m)), some (jI (nI (mk (crP H m) i ||| (if b then 2 ^ i else 0)) ||| (nI 1 <<< (nI i &&& 31)))), some (jI (nI i)), some (jI (nI j + nI 1))], [])
                rw [shI1 (by omega), fb_orI, nI_add]
                have eo : mk (crP H m) i ||| (if b then 2 ^ i else 0) ||| 2 ^ i = mk (crP H m) i ||| 2 ^ i := by
                  rw [Nat.or_assoc]
                  congr 1
                  cases b with
                  | true => rw [if_pos rfl, Nat.or_self]
                  | false => rw [if_neg (by simp), Nat.zero_or]
                rw [eo]
                exact this
        have := inner (2 ^ m) 0 false (by omega) ⟨fun q => (by cases q), fun ⟨z, h1, _⟩ => absurd h1 (by omega)⟩
        rw [if_neg (by simp), Nat.or_zero] at this
        exact this
  exact gen m 0 (by omega)
