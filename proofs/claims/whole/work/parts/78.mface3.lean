/-! THE MODEL'S FACE: what holds between calls; is, set, clock, differs -/
def aOK (N : nw) (K : Nat) (md : Bool) (ch : Nat → Nat) (on : Nat) : Prop := nw_ok N ∧ 3 ≤ K ∧ K ≤ 6 ∧ onOK N on ∧ (md = true → chOK N K ch)
def mR (N : nw) (K : Nat) (md : Bool) (ch : Nat → Nat) (on : Nat) (σ : jm_G) : Prop := mB N K md on σ ∧ mLd N K σ ∧ (md = true → mCh N ch σ)
theorem mf_off {A B : List Nat} {σ τ : jm_G} (h : mf A B σ τ) (hA : ∀ t, t ∈ A → 38 ≤ t ∧ t ≤ 70) : off 38 70 σ τ := fun t i ht => h.1 t i (by omega) fun q => by have := hA t q; omega
theorem mR_mf {N : nw} {K : Nat} {md : Bool} {ch : Nat → Nat} {on : Nat} {A B : List Nat} {σ τ : jm_G} (h : mR N K md ch on σ) (hm : mf A B σ τ) (h1 : ∀ t, t ∈ A → ¬ t ∈ [39, 40, 41, 42, 43, 44, 45, 50, 51, 53]) (h2 : ∀ t, t ∈ B → ¬ t ∈ [1, 6, 7, 8, 9]) : mR N K md ch on τ := by
  obtain ⟨⟨b1, b2, b3, b4⟩, ⟨b, l1, l2⟩, c1⟩ := h
  refine ⟨⟨mN_mf b1 hm (fun t q z => h1 t q ?_) (fun t q z => h2 t q ?_), ?_, ?_, fun i hi => ?_⟩, ⟨b, ?_, fun q => mL_mf (l2 q) hm (fun t q z => h1 t q ?_)⟩, fun q => mCh_mf (c1 q) hm (fun z => h1 53 z (by decide))⟩
  · simp only [List.mem_cons, List.not_mem_nil, or_false] at z ⊢; omega
  · simp only [List.mem_cons, List.not_mem_nil, or_false] at z ⊢; omega
  · rw [(hm.2 0 7 (fun z => h2 7 z (by decide))).1]; exact b2
  · rw [(hm.2 0 8 (fun z => h2 8 z (by decide))).1]; exact b3
  · rw [(hm.1 43 0 (by omega) (fun z => h1 43 z (by decide))).1]; exact b4 i hi
  · rw [(hm.2 0 9 (fun z => h2 9 z (by decide))).1]; exact l1
  · simp only [List.mem_cons, List.not_mem_nil, or_false] at z ⊢; omega
theorem mR_th {N : nw} {K : Nat} {md : Bool} {ch : Nat → Nat} {on : Nat} {σ : jm_G} (h : mR N K md ch on σ) (x : Int32) : mR N K md ch on (sF σ 0 x) := mR_mf h (mf_sF (A := []) (B := [0]) (mf_refl _ _ _) (by decide)) (by decide) (by decide)
theorem off_th (σ : jm_G) (x : Int32) : off 38 70 σ (sF σ 0 x) := off_wI (off_refl _ _ _) (by omega) (by omega)
/-- another state of the leaves -/
theorem mR_on {N : nw} {K : Nat} {md : Bool} {ch : Nat → Nat} {on on' : Nat} {σ τ : jm_G} {A B : List Nat} (h : mR N K md ch on σ) (hm : mf A B σ τ) (h1 : ∀ t, t ∈ A → ¬ t ∈ [39, 40, 41, 42, 44, 45, 50, 51, 53]) (h2 : ∀ t, t ∈ B → ¬ t ∈ [1, 6, 7, 8, 9]) (hs : mSt N on' τ) : mR N K md ch on' τ := by
  obtain ⟨⟨b1, b2, b3, -⟩, ⟨b, l1, l2⟩, c1⟩ := h
  refine ⟨⟨mN_mf b1 hm (fun t q z => h1 t q ?_) (fun t q z => h2 t q ?_), ?_, ?_, hs⟩, ⟨b, ?_, fun q => mL_mf (l2 q) hm (fun t q z => h1 t q ?_)⟩, fun q => mCh_mf (c1 q) hm (fun z => h1 53 z (by decide))⟩
  · simp only [List.mem_cons, List.not_mem_nil, or_false] at z ⊢; omega
  · simp only [List.mem_cons, List.not_mem_nil, or_false] at z ⊢; omega
  · rw [(hm.2 0 7 (fun z => h2 7 z (by decide))).1]; exact b2
  · rw [(hm.2 0 8 (fun z => h2 8 z (by decide))).1]; exact b3
  · rw [(hm.2 0 9 (fun z => h2 9 z (by decide))).1]; exact l1
  · simp only [List.mem_cons, List.not_mem_nil, or_false] at z ⊢; omega
/-- works with nothing fixed -/
theorem c_works {C : jm_C} (h : ct_works C) {N : nw} {on : Nat} {σ : jm_G} {post : Option jm_V → jm_G → Prop} (hok : nw_ok N) (hN : mN N σ) (hs : mSt N on σ) (hp : ∀ σ', mf [56] [] σ σ' → (∀ i, i < nN N → σ'.1 56 0 i = bI (vl N (fun i => on.testBit i) i)) → post none σ') : C kX10_works [jR 38 0, jJ (lN 0)] σ post :=
  h N 0 on (fun _ => false) σ _ post hok hN hs rfl (by omega) (fun i _ q => by rw [Nat.zero_testBit] at q; cases q) fun τ o1 o2 => hp τ o1 fun i hi => by rw [o2 i hi, vx_0 hok]
def isA (N : nw) (on : Nat) (x : Int32) : Int32 := if inN (nN N) x then bI (vl N (fun i => on.testBit i) x.toNatClampNeg) else -(nI 1)
abbrev ct_mis (C : jm_C) : Prop := ∀ (N : nw) (K : Nat) (md : Bool) (ch : Nat → Nat) (on : Nat) (x : Int32) (σ : jm_G) (post : Option jm_V → jm_G → Prop), aOK N K md ch on → mR N K md ch on σ → (∀ σ', mR N K md ch on σ' → off 38 70 σ σ' → post (some (jI (isA N on x))) σ') → C kX10_is [jR 38 0, jI x] σ post
theorem T_mis (L : Nat) {C : jm_C} (hC : jm_mon C) (h1 : ct_misNode C) (h2 : ct_works C) : ct_mis (jm_up L C) := by
  intro N K md ch on x σ post hA hR hp
  refine jm_start rfl (Nat.le_of_ble_eq_true rfl) hC fun X hg hw => ?_
  obtain ⟨hok, -, -, -, -⟩ := hA
  have h40 := hok.1
  have hR0 := mR_th hR (nI 0)
  unfold isA at hp
  refine hg [] 40 _ ?_
  refine h1 (nN N) x (sF σ 0 (nI 0)) _ hR0.1.1.1 ?_
  refine br_c (fun h => ?_) (fun h => ?_)
  · have h := bI_0.mp h
    rw [h, if_neg (fun q => by cases q)] at hp
    exact And.intro trivial (hp _ hR0 (off_th _ _))
  · have h := bI_n0.mp h
    rw [h, if_pos rfl] at hp
    obtain ⟨i, hi, rfl⟩ := inN_t (by omega) h
    have ei : (nI i).toNatClampNeg = i := nI_clamp (by omega)
    rw [ei] at hp
    refine c_works h2 hok hR0.1.1 hR0.1.2.2.2 fun τ o1 o2 => ?_
    have hp := hp τ (mR_mf hR0 o1 (by decide) (by decide)) (off_trans (off_th σ (nI 0)) (mf_off o1 (by decide)))
    refine And.intro (vp_in_nI (by omega) (by omega)) ?_
    have ev : τ.1 56 0 (nI i).toNatClampNeg = bI (vl N (fun i => on.testBit i) i) := by rw [ei]; exact o2 i hi
    refine br_c (fun q => ?_) (fun q => ?_)
    · have q : τ.1 56 0 (nI i).toNatClampNeg = 0 := q
      rw [ev] at q
      rw [bI_0.mp q] at hp
      exact And.intro trivial hp
    · have q : ¬ τ.1 56 0 (nI i).toNatClampNeg = 0 := q
      rw [ev] at q
      rw [bI_n0.mp q] at hp
      exact And.intro trivial hp
def seA (N : nw) (on : Nat) (x : Int32) : Int32 := if atN (nN N) x (isI N) then bI (on.testBit x.toNatClampNeg) else -(nI 1)
def seO (N : nw) (on : Nat) (x : Int32) (b : Bool) : Nat := if atN (nN N) x (isI N) then setO on x.toNatClampNeg b else on
theorem setO_bit (on i : Nat) (b : Bool) (j : Nat) : (setO on i b).testBit j = if j = i then b else on.testBit j := by
  unfold setO
  cases b with
  | true =>
    rw [if_pos rfl, or_bit]
    by_cases e : j = i
    · simp [e]
    · simp [e]
  | false =>
    rw [if_neg (by simp), sD_pw]
    by_cases e : j = i
    · simp [e]
    · simp [e]
theorem isI_of {N : nw} {k : Nat} (hk : k < nN N) : isI N k = decide (nS N k = 0) := by simp [isI, hk]; rfl
abbrev ct_mset (C : jm_C) : Prop := ∀ (N : nw) (K : Nat) (md : Bool) (ch : Nat → Nat) (on : Nat) (x : Int32) (b : Bool) (σ : jm_G) (post : Option jm_V → jm_G → Prop), aOK N K md ch on → mR N K md ch on σ → (∀ σ', mR N K md ch (seO N on x b) σ' → off 38 70 σ σ' → post (some (jI (seA N on x))) σ') → C kX10_set [jR 38 0, jI x, jI (bI b)] σ post
theorem T_mset (L : Nat) {C : jm_C} (hC : jm_mon C) (h1 : ct_misNode C) : ct_mset (jm_up L C) := by
  intro N K md ch on x b σ post hA hR hp
  refine jm_start rfl (Nat.le_of_ble_eq_true rfl) hC fun X hg hw => ?_
  obtain ⟨hok, -, -, -, -⟩ := hA
  have h40 := hok.1
  have hR0 := mR_th hR (nI 0)
  unfold seA seO at hp
  refine hg [] 60 _ ?_
  refine h1 (nN N) x (sF σ 0 (nI 0)) _ hR0.1.1.1 ?_
  refine br_c (fun h => ?_) (fun h => ?_)
  · have h := bI_0.mp h
    have e : atN (nN N) x (isI N) = false := by simp only [atN, h]; rfl
    rw [e, if_neg (fun q => by cases q), if_neg (fun q => by cases q)] at hp
    exact And.intro trivial (hp _ hR0 (off_th _ _))
  · obtain ⟨i, hi, rfl⟩ := inN_t (by omega) (bI_n0.mp h)
    have ei : (nI i).toNatClampNeg = i := nI_clamp (by omega)
    have hin : vp_in (nI i) 40 := vp_in_nI (by omega) (by omega)
    have e39 : σ.1 39 0 (nI i).toNatClampNeg = nI (nS N i) := by rw [ei]; exact hR.1.1.2.1 i hi
    have e43 : σ.1 43 0 (nI i).toNatClampNeg = bI (on.testBit i) := by rw [ei]; exact hR.1.2.2.2 i hi
    have eat : atN (nN N) (nI i) (isI N) = isI N i := by rw [atN_nI (by omega) (by omega)]; simp [hi]
    rw [eat, ei] at hp
    refine And.intro hin ?_
    refine br_c (fun q => ?_) (fun q => ?_)
    · have q : σ.1 39 0 (nI i).toNatClampNeg = 0 := q
      rw [e39, show (0 : Int32) = nI 0 from rfl, nS_eq hok hi (by omega)] at q
      rw [isI_of hi, show decide (nS N i = 0) = true by simpa using q, if_pos rfl, if_pos rfl] at hp
      have f0 : mf [43] [0] σ (sF σ 0 (nI 0)) := mf_sF (mf_refl _ _ _) (by decide)
      have fin := hp (wI (sF σ 0 (nI 0)) 43 0 (upd (σ.1 43 0) (nI i).toNatClampNeg (bI b))) (mR_on (A := [43]) (B := [0]) hR (mf_wI f0 (by decide) (by decide)) (by decide) (by decide) (fun j hj => by
        show upd (σ.1 43 0) (nI i).toNatClampNeg (bI b) j = _
        rw [ei, upd_at, setO_bit]
        by_cases e : j = i
        · rw [if_pos e, if_pos e]
        · rw [if_neg e, if_neg e]; exact hR.1.2.2.2 j hj)) (off_wI (off_th _ _) (by omega) (by omega))
      refine And.intro hin ?_
      refine br_c (fun z => ?_) (fun z => ?_)
      · have z : σ.1 43 0 (nI i).toNatClampNeg = 0 := z
        rw [e43] at z
        rw [bI_0.mp z] at fin
        exact And.intro ⟨hin, bI_01 b⟩ (And.intro trivial fin)
      · have z : ¬ σ.1 43 0 (nI i).toNatClampNeg = 0 := z
        rw [e43] at z
        rw [bI_n0.mp z] at fin
        exact And.intro ⟨hin, bI_01 b⟩ (And.intro trivial fin)
    · have q : ¬ σ.1 39 0 (nI i).toNatClampNeg = 0 := q
      rw [e39, show (0 : Int32) = nI 0 from rfl, nS_eq hok hi (by omega)] at q
      rw [isI_of hi, show decide (nS N i = 0) = false by simpa using q, if_neg (fun q => by cases q), if_neg (fun q => by cases q)] at hp
      exact And.intro trivial (hp _ hR0 (off_th _ _))
def ckA (N : nw) (on : Nat) (x : Int32) : Int32 := if decide (¬ x < nI 1) && decide (¬ nI 64 < x) then nI (cnt (itO N on x.toNatClampNeg ^^^ itO N on (x.toNatClampNeg - 1)) 64) else -(nI 1)
def ckO (N : nw) (on : Nat) (x : Int32) : Nat := if decide (¬ x < nI 1) && decide (¬ nI 64 < x) then itO N on x.toNatClampNeg else on
theorem nxO_bit {N : nw} (hok : nw_ok N) (on k : Nat) : (nxO N on).testBit k = ((on.testBit k && isI N k) || (isR N k && vl N (fun i => on.testBit i) (nF N k))) := by
  unfold nxO nxR
  rw [Nat.testBit_or, Nat.testBit_and, iM_bit, mk_bit]
  congr 1
  cases hr : isR N k with
  | false => simp
  | true =>
    have h1 := isR_lt hr
    have h2 := hok.1
    have h3 := hok.2.2.2.1 k hr
    rw [onM_bit]
    simp [h3]
    omega
theorem nxO_ok {N : nw} (hok : nw_ok N) (on : Nat) : onOK N (nxO N on) := fun i h => by
  rw [nxO_bit hok, Bool.or_eq_true, Bool.and_eq_true, Bool.and_eq_true] at h
  rcases h with h | h
  · have h1 := isI_lt h.2
    refine ⟨h1, ?_⟩
    rw [isG_of h1]
    have := h.2
    rw [isI_of h1] at this
    simp at this ⊢
    omega
  · have h1 := isR_lt h.1
    refine ⟨h1, ?_⟩
    rw [isG_of h1]
    have := h.1
    rw [isR_of h1] at this
    simp at this ⊢
    omega
theorem itO_ok {N : nw} (hok : nw_ok N) {on : Nat} (h : onOK N on) : ∀ t, onOK N (itO N on t)
  | 0 => h
  | t + 1 => nxO_ok hok _
theorem onOK_lt {N : nw} (hok : nw_ok N) {on : Nat} (h : onOK N on) : on < 2 ^ 40 := set_lt fun i hi => by
  cases hb : on.testBit i with
  | false => rfl
  | true => have := (h i hb).1; have := hok.1; omega
theorem nxO_other {N : nw} (hok : nw_ok N) {on k : Nat} (ho : onOK N on) (hk : k < nN N) (h : isR N k = false) : (nxO N on).testBit k = on.testBit k := by
  rw [nxO_bit hok, h, Bool.false_and, Bool.or_false]
  cases hb : on.testBit k with
  | false => rfl
  | true =>
    have h1 := (ho k hb).2
    have h3 := hok.2.1 k hk
    rw [isG_of hk] at h1
    rw [isR_of hk] at h
    rw [isI_of hk]
    simp at h1 h ⊢
    omega
abbrev ct_mclock (C : jm_C) : Prop := ∀ (N : nw) (K : Nat) (md : Bool) (ch : Nat → Nat) (on : Nat) (x : Int32) (σ : jm_G) (post : Option jm_V → jm_G → Prop), aOK N K md ch on → mR N K md ch on σ → (∀ σ', mR N K md ch (ckO N on x) σ' → off 38 70 σ σ' → post (some (jI (ckA N on x))) σ') → C kX10_clock [jR 38 0, jI x] σ post
theorem T_mclock (L : Nat) {C : jm_C} (hC : jm_mon C) (h1 : ct_within C) (h2 : ct_works C) : ct_mclock (jm_up L C) := by
  intro N K md ch on x σ post hA hR hp
  refine jm_start rfl (Nat.le_of_ble_eq_true rfl) hC fun X hg hw => ?_
  obtain ⟨hok, -, -, hon, -⟩ := hA
  have h40 := hok.1
  have hR0 := mR_th hR (nI 0)
  unfold ckA ckO at hp
  refine hg [21] 40 _ ?_
  refine h1 x (nI 1) (nI 64) (sF σ 0 (nI 0)) _ ?_
  refine br_c (fun h => ?_) (fun h => ?_)
  · have h := bI_0.mp h
    rw [h, if_neg (fun q => by cases q), if_neg (fun q => by cases q)] at hp
    exact And.intro trivial (hp _ hR0 (off_th _ _))
  · have h := bI_n0.mp h
    rw [h, if_pos rfl, if_pos rfl] at hp
    obtain ⟨t, t1, t2, rfl⟩ := wi_nI (by omega) (by omega) h
    rw [nI_clamp (by omega)] at hp
    show X (sF σ 0 (nI 0), 21, [some (jR 38 0), some (jI (nI t)), some (jI (nI 0)), some (jI (nI 0)), none], [])
    have f0 : mf [43, 56] [0] σ (sF σ 0 (nI 0)) := mf_sF (mf_refl _ _ _) (by decide)
    have gen : ∀ (d s : Nat), s + d = t → ∀ (τ : jm_G) (z : Int32), mf [43, 56] [0] σ τ → mSt N (itO N on s) τ → (0 < s → z = nI (cnt (itO N on s ^^^ itO N on (s - 1)) 64)) → X (τ, 21, [some (jR 38 0), some (jI (nI t)), some (jI z), some (jI (nI s)), none], []) := by
      intro d
      induction d with
      | zero =>
        intro s hs τ z ho hst hz
        have e : s = t := by omega
        subst e
        refine hg [21] 40 _ ?_
        refine br_c (fun _ => ?_) (fun h => absurd (show nI s ≤ nI s from nI_le (Nat.le_refl _) (by omega)) h)
        rw [hz (by omega)]
        exact And.intro trivial (hp τ (mR_on hR ho (by decide) (by decide) hst) (mf_off ho (by decide)))
      | succ d ih =>
        intro s hs τ z ho hst hz
        have hNt := mN_mf hR.1.1 ho (by decide) (by decide)
        refine hg [21, 36] 40 _ ?_
        refine br_c (fun h => ?_) (fun _ => ?_)
        · have h : nI t ≤ nI s := h
          rw [nI_leI (by omega) (by omega)] at h
          omega
        · refine c_works h2 hok hNt hst fun υ o1 o2 => ?_
          have hon2 := itO_ok hok hon s
          have hou : mf [43, 56] [0] σ υ := mf_trans ho (mf_wide o1 (by decide) (by decide))
          have hsu : mSt N (itO N on s) υ := fun i hi => by rw [(o1.1 43 0 (by omega) (by decide)).1]; exact hst i hi
          show X (υ, 36, [some (jR 38 0), some (jI (nI t)), some (jI (nI 0)), some (jI (nI s)), some (jI (nI 0))], [])
          generalize hq : itO N on s = q at hon2 hsu o2
          have hnx : itO N on (s + 1) = nxO N q := by rw [itO, hq]
          have inner : ∀ (e k : Nat), k + e = nN N → ∀ (ω : jm_G), mf [43] [] υ ω → (∀ i, i < nN N → ω.1 43 0 i = bI (if i < k then (nxO N q).testBit i else q.testBit i)) → X (ω, 36, [some (jR 38 0), some (jI (nI t)), some (jI (nI (cnt (nxO N q ^^^ q) k))), some (jI (nI s)), some (jI (nI k))], []) := by
            intro e
            induction e with
            | zero =>
              intro k hk ω hw1 hw2
              have ek : k = nN N := by omega
              subst ek
              have hNw := mN_mf hR.1.1 (mf_trans hou (mf_wide hw1 (by decide) (by decide))) (by decide) (by decide)
              refine hg [21, 36] 40 _ ?_
              refine br_c (fun _ => ?_) (fun h => ?_)
              · refine hw _ _ _ [some (jR 38 0), some (jI (nI t)), some (jI (nI (cnt (nxO N q ^^^ q) (nN N)))), some (jI (nI s + nI 1)), none] _ (by repeat' first | exact trivial | exact rfl | apply And.intro) ?_
                rw [nI_add]
                refine ih (s + 1) (by omega) ω _ (mf_trans hou (mf_wide hw1 (by decide) (by decide))) (fun i hi => ?_) (fun _ => ?_)
                · rw [hw2 i hi, if_pos hi, hnx]
                · rw [hnx, show s + 1 - 1 = s by omega, hq]
                  have l1 : nxO N q ^^^ q < 2 ^ 40 := Nat.xor_lt_two_pow (nxO_lt hok q) (onOK_lt hok hon2)
                  rw [cnt64 l1]
                  have : ∀ d, cnt (nxO N q ^^^ q) (nN N + d) = cnt (nxO N q ^^^ q) (nN N) := by
                    intro d
                    induction d with
                    | zero => rfl
                    | succ d ihd =>
                      rw [← Nat.add_assoc, cnt_succ, ihd, Nat.testBit_xor, onOK_n hon2 (by omega), onOK_n (nxO_ok hok q) (by omega)]
                      rfl
                  have e := this (40 - nN N)
                  rw [show nN N + (40 - nN N) = 40 by omega] at e
                  rw [e]
              · have h : ¬ ω.1 38 0 1 ≤ nI (nN N) := h
                rw [hNw.1, nI_leI (by omega) (by omega)] at h
                omega
            | succ e ihe =>
              intro k hk ω hw1 hw2
              have hNw := mN_mf hR.1.1 (mf_trans hou (mf_wide hw1 (by decide) (by decide))) (by decide) (by decide)
              have ek : (nI k).toNatClampNeg = k := nI_clamp (by omega)
              have hin : vp_in (nI k) 40 := vp_in_nI (by omega) (by omega)
              refine hg [21, 36] 60 _ ?_
              refine br_c (fun h => ?_) (fun _ => ?_)
              · have h : ω.1 38 0 1 ≤ nI k := h
                rw [hNw.1, nI_leI (by omega) (by omega)] at h
                omega
              · refine And.intro hin ?_
                refine br_c (fun h => ?_) (fun h => ?_)
                · have h : ω.1 39 0 (nI k).toNatClampNeg = nI 2 := h
                  rw [ek, hNw.2.1 k (by omega), nS_eq hok (by omega) (by omega)] at h
                  have hr : isR N k = true := by rw [isR_of (by omega)]; simpa using h
                  have hgf : isG N k = false := by rw [isG_of (by omega)]; simp [h]
                  have hif : isI N k = false := by rw [isI_of (by omega)]; simp [h]
                  have hf := hok.2.2.2.1 k hr
                  have e41 : ω.1 41 0 (nI 3 * nI k).toNatClampNeg = nI (nF N k) := by
                    rw [n3, nI_clamp (by omega)]
                    have := hNw.2.2.2.1 k (by omega) 0 (by omega)
                    rw [show 3 * k + 0 = 3 * k from rfl] at this
                    rw [this]
                    unfold sofI
                    simp [hgf, hr]
                  have i3 : vp_in (nI 3 * nI k) 120 := by rw [n3]; exact vp_in_nI (by omega) (by omega)
                  have i4 : vp_in (ω.1 41 0 (nI 3 * nI k).toNatClampNeg) 40 := by rw [e41]; exact vp_in_nI (by omega) (by omega)
                  have ev : ω.1 56 0 (ω.1 41 0 (nI 3 * nI k).toNatClampNeg).toNatClampNeg = bI ((nxO N q).testBit k) := by
                    rw [e41, nI_clamp (by omega), (hw1.1 56 0 (by omega) (by decide)).1, o2 _ hf, nxO_bit hok, hr, hif]
                    simp
                  have es : ω.1 43 0 (nI k).toNatClampNeg = bI (q.testBit k) := by rw [ek, hw2 k (by omega), if_neg (by omega)]
                  have next := ihe (k + 1) (by omega) (wI ω 43 0 (upd (ω.1 43 0) k (bI ((nxO N q).testBit k)))) (mf_wI hw1 (by decide) (by decide)) (fun i hi => by
                    rw [wI1, if_pos ⟨rfl, rfl⟩, upd_at]
                    by_cases z : i = k
                    · rw [if_pos z, z, if_pos (by omega)]
                    · rw [if_neg z, hw2 i hi]
                      by_cases z2 : i < k
                      · rw [if_pos z2, if_pos (by omega)]
                      · rw [if_neg z2, if_neg (by omega)])
                  rw [cnt_succ, Nat.testBit_xor] at next
                  refine And.intro hin (And.intro i3 (And.intro i4 ?_))
                  refine br_c (fun z => ?_) (fun z => ?_)
                  · have z : ω.1 43 0 (nI k).toNatClampNeg = ω.1 56 0 (ω.1 41 0 (nI 3 * nI k).toNatClampNeg).toNatClampNeg := z
                    rw [es, ev] at z
                    have z := bI_inj z
                    refine And.intro i3 (And.intro i4 ?_)
                    refine And.intro ⟨hin, show ω.1 56 0 (ω.1 41 0 (nI 3 * nI k).toNatClampNeg).toNatClampNeg = 0 ∨ ω.1 56 0 (ω.1 41 0 (nI 3 * nI k).toNatClampNeg).toNatClampNeg = 1 by rw [ev]; exact bI_01 _⟩ ?_
                    show X (wI ω 43 0 (upd (ω.1 43 0) (nI k).toNatClampNeg (ω.1 56 0 (ω.1 41 0 (nI 3 * nI k).toNatClampNeg).toNatClampNeg)), 36, [some (jR 38 0), some (jI (nI t)), some (jI (nI (cnt (nxO N q ^^^ q) k) + nI 0)), some (jI (nI s)), some (jI (nI k + nI 1))], [])
                    rw [ev, ek, nI_add, nI_add]
                    rw [← z, Bool.xor_self] at next
                    rw [← z]
                    exact next
                  · have z : ¬ ω.1 43 0 (nI k).toNatClampNeg = ω.1 56 0 (ω.1 41 0 (nI 3 * nI k).toNatClampNeg).toNatClampNeg := z
                    rw [es, ev] at z
                    refine And.intro i3 (And.intro i4 ?_)
                    refine And.intro ⟨hin, show ω.1 56 0 (ω.1 41 0 (nI 3 * nI k).toNatClampNeg).toNatClampNeg = 0 ∨ ω.1 56 0 (ω.1 41 0 (nI 3 * nI k).toNatClampNeg).toNatClampNeg = 1 by rw [ev]; exact bI_01 _⟩ ?_
                    show X (wI ω 43 0 (upd (ω.1 43 0) (nI k).toNatClampNeg (ω.1 56 0 (ω.1 41 0 (nI 3 * nI k).toNatClampNeg).toNatClampNeg)), 36, [some (jR 38 0), some (jI (nI t)), some (jI (nI (cnt (nxO N q ^^^ q) k) + nI 1)), some (jI (nI s)), some (jI (nI k + nI 1))], [])
                    have ex : ((nxO N q).testBit k ^^ q.testBit k) = true := by
                      cases c1 : (nxO N q).testBit k <;> cases c2 : q.testBit k
                      · rw [c1, c2] at z; exact absurd rfl z
                      · rfl
                      · rfl
                      · rw [c1, c2] at z; exact absurd rfl z
                    rw [ev, ek, nI_add, nI_add]
                    rw [ex] at next
                    exact next
                · have h : ¬ ω.1 39 0 (nI k).toNatClampNeg = nI 2 := h
                  rw [ek, hNw.2.1 k (by omega), nS_eq hok (by omega) (by omega)] at h
                  have hr : isR N k = false := by rw [isR_of (by omega)]; simpa using h
                  have ho2 := nxO_other hok hon2 (show k < nN N by omega) hr
                  have next := ihe (k + 1) (by omega) ω hw1 (fun i hi => by
                    rw [hw2 i hi]
                    by_cases z : i = k
                    · rw [z, if_neg (by omega), if_pos (by omega), ho2]
                    · by_cases z2 : i < k
                      · rw [if_pos z2, if_pos (by omega)]
                      · rw [if_neg z2, if_neg (by omega)])
                  rw [cnt_succ, Nat.testBit_xor, ho2, Bool.xor_self] at next
                  show X (ω, 36, [some (jR 38 0), some (jI (nI t)), some (jI (nI (cnt (nxO N q ^^^ q) k))), some (jI (nI s)), some (jI (nI k + nI 1))], [])
                  rw [nI_add]
                  exact next
          exact inner (nN N) 0 (by omega) υ (mf_refl _ _ _) (fun i hi => by rw [if_neg (by omega)]; exact hsu i hi)
    exact gen t 0 (by omega) _ _ f0 hR0.1.2.2.2 (fun h => by omega)
