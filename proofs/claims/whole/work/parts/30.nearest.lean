/-! nearestCut -/
theorem flow_le {N : nw} (hok : nw_ok N) {g C : Nat} (hC : C_ok N g C) {t : Nat → Nat} {e : Nat → Nat → Nat} {s : Nat → Nat} (hf : fl_ok N g C t e s) {T : Nat} (hT : Sep N g T) (hTC : ∀ j, T.testBit j = true → C.testBit j = false) : fb_sm s 40 ≤ cnt T 40 := by
  have hTC' := C_in hok hC hTC
  obtain ⟨I', hI'⟩ := pick fun v => fV N g C v ∧ ∃ i, (rch N g T).testBit i = true ∧ (sM N i).testBit v = true
  obtain ⟨O', hO'⟩ := pick fun v => fV N g C v ∧ (rch N g T).testBit v = true
  have hI' : ∀ v, I' v = true ↔ fV N g C v ∧ ∃ i, (rch N g T).testBit i = true ∧ (sM N i).testBit v = true := hI'
  have hO' : ∀ v, O' v = true ↔ fV N g C v ∧ (rch N g T).testBit v = true := hO'
  have hIT : ∀ v, I' v = true → O' v = false → T.testBit v = true := fun v hv hn => by
    obtain ⟨h1, i, hi, hs⟩ := (hI' v).mp hv
    cases ht : T.testBit v with
    | true => rfl
    | false =>
      have := (hO' v).mpr ⟨h1, rch_closed hok hi hs ht⟩
      rw [hn] at this
      cases this
  have h1 := cutsum hf I' O' (fun v hv => by
    obtain ⟨hv2, c, hc, hs⟩ := hf.1 v hv
    exact (hI' v).mpr ⟨hv2, c, hTC' c hc, hs⟩) (fun u hu => hT.2 u ((hO' u).mp hu).2) (fun u v hu he => by
    obtain ⟨q1, q2, q3⟩ := hf.2.1 u v he
    exact (hI' v).mpr ⟨q3, u, ((hO' u).mp hu).2, q2⟩)
  have h2 : fb_sm (fun v => if I' v then t v else 0) 40 ≤ fb_sm (fun u => if O' u then t u else 0) 40 + fb_sm (fun v => if I' v && !O' v then t v else 0) 40 := by
    rw [← fb_sm_add]
    apply sm_le
    intro v _
    cases hv : I' v with
    | true => cases hu : O' v <;> simp
    | false => simp
  have h3 : fb_sm (fun v => if I' v && !O' v then t v else 0) 40 ≤ fb_sm (fun v => if I' v && !O' v then 1 else 0) 40 := by
    apply sm_le
    intro v _
    cases I' v && !O' v
    · simp
    · simp; exact hf.2.2.2.2 v
  have h4 : fb_sm (fun v => if I' v && !O' v then 1 else 0) 40 ≤ cnt T 40 := by
    rw [cnt_sm]
    apply sm_le
    intro v _
    cases hv : I' v with
    | false => simp
    | true =>
      cases hu : O' v with
      | true => simp
      | false => simp [hIT v hv hu]
  omega
/-- the sources of a set of gates below a number -/
def uS (N : nw) (C : Nat) : Nat → Nat
  | 0 => 0
  | k + 1 => uS N C k ||| (if C.testBit k then sM N k else 0)
theorem uS_bit (N : nw) (C j : Nat) : ∀ n, (uS N C n).testBit j = true ↔ ∃ c, c < n ∧ C.testBit c = true ∧ (sM N c).testBit j = true
  | 0 => by
    show (0 : Nat).testBit j = true ↔ _
    rw [Nat.zero_testBit]
    exact ⟨fun h => (by cases h), fun ⟨c, h, _⟩ => absurd h (by omega)⟩
  | n + 1 => by
    rw [uS, Nat.testBit_or, Bool.or_eq_true, uS_bit N C j n]
    constructor
    · rintro (⟨c, h1, h2⟩ | h)
      · exact ⟨c, by omega, h2⟩
      · cases hc : C.testBit n with
        | true => rw [hc, if_pos rfl] at h; exact ⟨n, by omega, hc, h⟩
        | false => rw [hc] at h; simp at h
    · rintro ⟨c, h1, h2, h3⟩
      by_cases e : c = n
      · subst e; rw [h2, if_pos rfl]; exact Or.inr h3
      · exact Or.inl ⟨c, by omega, h2, h3⟩
theorem uS_lt {N : nw} (hok : nw_ok N) (C : Nat) : ∀ n, uS N C n < 2 ^ 40
  | 0 => by show 0 < _; omega
  | n + 1 => by
    rw [uS]
    refine or_lt (uS_lt hok C n) ?_
    split
    · exact sM_lt40 hok n
    · omega
theorem wS_0 (N : nw) (g C : Nat) (ah : Nat → Option Nat) : wS N g C 0 ah ∧ fb_sm (wsrc 0 ah) 40 = 0 := by
  have h0 : ∀ v, (0 : Nat).testBit v = true → False := fun v h => by rw [Nat.zero_testBit] at h; cases h
  refine ⟨⟨fun v h => (h0 v h).elim, fun v h => (h0 v h).elim, fun v u h => (h0 v h).elim, fun u h => (h0 u h).elim, fun u v w h => (h0 v h).elim⟩, sm_none fun k => ?_⟩
  unfold wsrc
  rw [if_neg]
  exact fun h => h0 k h.1
abbrev ct_nearest (C : jm_C) : Prop := ∀ (N : nw) (g Cs k : Nat) (σ : jm_G) (post : Option jm_V → jm_G → Prop), nw_ok N → cN N σ → C_ok N g Cs → Cs < 2 ^ 40 → k < 100 →
  (∀ σ' U, off 10 13 σ σ' → nearC N g Cs U → cnt U 40 ≤ k → U < 2 ^ 40 → post (some (jJ (lN U))) σ') →
  ((∀ T, Sep N g T → (∀ j, T.testBit j = true → Cs.testBit j = false) → k < cnt T 40) → ∀ σ', off 10 13 σ σ' → post (some (jJ (lN 0))) σ') → C kX8_nearestCut [jR 10 0, jJ (lN Cs), jI (nI k)] σ post
theorem T_nearest (L : Nat) {C : jm_C} (hC : jm_mon C) (h1 : ct_low C) (h2 : ct_findWay C) (h3 : ct_layWay C) : ct_nearest (jm_up L C) := by
  intro N g Cs k σ post hok hN hCs hlt hk hp1 hp2
  refine jm_start rfl (Nat.le_of_ble_eq_true rfl) hC fun X hg hw => ?_
  have hn := hok.1
  refine hg [6] 30 _ ?_
  show X (σ, 6, [some (jR 10 0), some (jJ (lN Cs)), none, some (jI (nI k)), some (jJ (lN 0)), none, some (jJ (lN Cs)), none], [])
  have hSt : ∀ y, (sD (uS N Cs 40) Cs).testBit y = true ↔ rS N Cs y := by
    intro y
    rw [sD_bit, Bool.and_eq_true, Bool.not_eq_true', uS_bit]
    exact ⟨fun ⟨⟨c, _, b⟩, d⟩ => ⟨d, c, b⟩, fun ⟨d, c, b⟩ => ⟨⟨c, bit_lt hlt b.1, b⟩, d⟩⟩
  have hSl : sD (uS N Cs 40) Cs < 2 ^ 40 := sD_lt (uS_lt hok Cs 40)
  have gen : ∀ (m w : Nat), w + m = k + 1 → ∀ (τ : jm_G) (on : Nat) (ah : Nat → Option Nat), off 10 13 σ τ → on < 2 ^ 40 → τ.2 10 0 4 = lN on → ahR τ on ah → wS N g Cs on ah → fb_sm (wsrc on ah) 40 = w →
      X (τ, 61, [some (jR 10 0), some (jJ (lN Cs)), none, some (jI (nI k)), some (jJ (lN (sD (uS N Cs 40) Cs))), none, some (jI (nI w)), none], []) := by
    intro m
    induction m with
    | zero =>
      intro w hwm τ on ah ho hon e4 hah hws hsm
      refine hg [61] 40 _ ?_
      refine br_c (fun h => ?_) (fun h => ?_)
      · refine And.intro trivial (hp2 (fun T hT hd => ?_) τ ho)
        have := flow_le hok hCs (wS_fl hok hws) hT hd
        omega
      · have h : ¬ nI k < nI w := h
        rw [nI_ltI (by omega) (by omega)] at h
        omega
    | succ m ih =>
      intro w hwm τ on ah ho hon e4 hah hws hsm
      have eN := cN_off hN ho (by omega) (by omega)
      refine hg [61] 40 _ ?_
      refine br_c (fun h => ?_) (fun h => ?_)
      · have h : nI k < nI w := h
        rw [nI_ltI (by omega) (by omega)] at h
        omega
      · refine h2 N g Cs on _ ah τ _ hok eN hCs hws hon e4 hah hSl hSt ?_ ?_
        · intro τ' us ls o1 o4 o5 o6 hus hnr hct
          refine br_c (fun _ => ?_) (fun h => absurd rfl h)
          refine And.intro trivial ?_
          show post (some (jJ (τ'.2 10 0 5 &&& (τ'.2 10 0 6 ^^^ (-1))))) τ'
          rw [o5, o6, lN_andn]
          exact hp1 τ' _ (off_trans ho (off_wide o1 (by omega) (by omega))) hnr (by omega) (sD_lt hus)
        · intro τ' leaf q p Q cf o1 o4 oQ ob hpq hQp hlf hl4
          refine br_c (fun h => absurd h (oN_none (by omega))) (fun _ => ?_)
          have e40 : nI leaf + nI 40 = nI (40 + leaf) := by rw [nI_add, Nat.add_comm]
          have call : ∀ {post' : Option jm_V → jm_G → Prop}, (∀ σ', post' none σ' → post' none σ') → C kX8_layWay [jR 10 0, jI (nI (40 + leaf))] τ' post' → C kX8_layWay [jR 10 0, jI (nI leaf + nI 40)] τ' post' := fun _ h => by rw [e40]; exact h
          refine call (fun _ h => h) ?_
          refine h3 N g Cs on leaf q p Q ah cf τ' _ hok hCs hws hon o4 (fun v hv => by rw [(o1 13 0 (by omega)).1]; exact hah v hv) oQ ob hpq hQp hlf hl4 ?_
          intro τ'' on' ah' p1 p2 p3 p4 p5 p6
          refine hw _ _ _ [some (jR 10 0), some (jJ (lN Cs)), none, some (jI (nI k)), some (jJ (lN (sD (uS N Cs 40) Cs))), none, some (jI (nI w + nI 1)), none] _ (by repeat' first | exact trivial | exact rfl | apply And.intro) ?_
          rw [nI_add]
          exact ih (w + 1) (by omega) τ'' on' ah' (off_trans ho (off_trans (off_wide o1 (by omega) (by omega)) p1)) p2 p3 p4 p5 (by omega)
  have main := jm_bits (X := X) Cs (fun j => (σ, 6, [some (jR 10 0), some (jJ (lN Cs)), none, some (jI (nI k)), some (jJ (lN (uS N Cs j))), none, some (jJ (lN (hi Cs j))), none], [])) 40 ?_ ?_ ?_ 0 (by omega)
  · have main : X (σ, 6, [some (jR 10 0), some (jJ (lN Cs)), none, some (jI (nI k)), some (jJ (lN 0)), none, some (jJ (lN (hi Cs 0))), none], []) := main
    rw [hi_0] at main
    exact main
  · show X (σ, 6, [some (jR 10 0), some (jJ (lN Cs)), none, some (jI (nI k)), some (jJ (lN (uS N Cs 40))), none, some (jJ (lN (hi Cs 40))), none], [])
    rw [hi_end hlt]
    refine hg [61] 30 _ ?_
    refine br_c (fun h => ?_) (fun h => ?_)
    · obtain ⟨w1, w2⟩ := wS_0 N g Cs (fun _ => none)
      refine hw _ _ _ [some (jR 10 0), some (jJ (lN Cs)), none, some (jI (nI k)), some (jJ (lN (uS N Cs 40) &&& (lN Cs ^^^ (-1)))), none, some (jI (nI 0)), none] _ (by repeat' first | exact trivial | exact rfl | apply And.intro) ?_
      rw [lN_andn]
      refine gen (k + 1) 0 (by omega) _ 0 (fun _ => none) (off_wJ (off_refl _ _ _) (by omega) (by omega)) (by omega) ?_ (fun v hv => by rw [Nat.zero_testBit] at hv; cases hv) w1 w2
      show vp_updL (σ.2 10 0) 4 (lN 0) 4 = _
      rw [updL_at, if_pos rfl]
    · exact absurd ((cmp_0 _ _).mpr rfl) h
  · intro j hj hb
    have e : uS N Cs (j + 1) = uS N Cs j := by rw [uS, hb]; simp
    simp only [e, hi_skip hb]
  · intro j hj hb ih
    refine hg [6] 30 _ ?_
    refine br_c (fun h => ?_) (fun h => ?_)
    · exact absurd h (hi_n0 hlt hb)
    · refine h1 Cs j σ _ (p40 hlt) hb ?_
      refine And.intro (vp_in_nI (by omega) (by omega)) ?_
      refine jm_eqv (X := X) ih rfl rfl ?_ rfl
      show [some (jR 10 0), some (jJ (lN Cs)), none, some (jI (nI k)), some (jJ (lN (uS N Cs j) ||| σ.2 6 0 (nI j).toNatClampNeg)), none, some (jJ (lN (hi Cs j) &&& (lN (hi Cs j) - lN 1))), none] = _
      rw [nxt hb, nI_clamp (by omega), hN.2.2.2.2.2.2.2.1 j (by omega), fb_orL, uS, hb, if_pos rfl]
