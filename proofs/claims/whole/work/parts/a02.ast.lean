/-! one abstract state; the model's faces against it -/
/-- network, K, mapped, chosen, on -/
abbrev ast : Type := nw × Nat × Bool × (Nat → Nat) × Nat
def okA (A : ast) : Prop := aOK A.1 A.2.1 A.2.2.1 A.2.2.2.1 A.2.2.2.2
def mRA (A : ast) (σ : jm_G) : Prop := mR A.1 A.2.1 A.2.2.1 A.2.2.2.1 A.2.2.2.2 σ
def fM (C : jm_C) (k : Nat) (args : List jm_V) (ans : ast → jm_V) (nx : ast → ast) : Prop := ∀ (A : ast) (σ : jm_G) (post : Option jm_V → jm_G → Prop), okA A → mRA A σ → (∀ σ', okA (nx A) → mRA (nx A) σ' → off 38 70 σ σ' → post (some (ans A)) σ') → C k (jR 38 0 :: args) σ post
def same (A : ast) : ast := A
theorem mR_new {N : nw} {K on : Nat} {ch : Nat → Nat} {σ : jm_G} (hB : mB N K false on σ) (h9 : σ.1 38 0 9 = nI 0) : mR N K false ch on σ := ⟨hB, ⟨false, h9, fun e => by cases e⟩, fun e => by cases e⟩
/-! what changes -/
def nsI (A : ast) : ast := if nN A.1 < 40 then (addI A.1, A.2.1, false, A.2.2.2.1, A.2.2.2.2) else A
def anI (A : ast) : Int32 := if nN A.1 < 40 then nI (nN A.1) else -(nI 1)
def nsR (A : ast) : ast := if nN A.1 < 40 then (addR A.1, A.2.1, false, A.2.2.2.1, A.2.2.2.2) else A
def nsG (xk xa xb xc : Int32) (A : ast) : ast := if gOK (nN A.1) xk xa xb xc then (addG A.1 xk.toNatClampNeg xa.toNatClampNeg xb.toNatClampNeg xc.toNatClampNeg, A.2.1, false, A.2.2.2.1, A.2.2.2.2) else A
def anG (xk xa xb xc : Int32) (A : ast) : Int32 := if gOK (nN A.1) xk xa xb xc then nI (nN A.1) else -(nI 1)
def feO (A : ast) (x y : Int32) : Bool := atN (nN A.1) x (isR A.1) && inN (nN A.1) y
def nsF (x y : Int32) (A : ast) : ast := if feO A x y then (setF A.1 x.toNatClampNeg y.toNatClampNeg, A.2.1, false, A.2.2.2.1, A.2.2.2.2) else A
def ouO (A : ast) (x : Int32) : Bool := atN (nN A.1) x (fun i => !(nO A.1).testBit i) && decide (cnt (nO A.1) 40 < 12)
def nsO (x : Int32) (A : ast) : ast := if ouO A x then (addO A.1 x.toNatClampNeg, A.2.1, false, A.2.2.2.1, A.2.2.2.2) else A
def anO (x : Int32) (A : ast) : Int32 := if ouO A x then nI (cnt (nO A.1 ||| 2 ^ x.toNatClampNeg) 40) else -(nI 1)
def wi36 (x : Int32) : Bool := decide (¬ x < nI 3) && decide (¬ nI 6 < x)
def nsK (x : Int32) (A : ast) : ast := if wi36 x then (if x = nI A.2.1 then A else (A.1, x.toNatClampNeg, false, A.2.2.2.1, A.2.2.2.2)) else A
def anK (x : Int32) (A : ast) : Int32 := if wi36 x then nI A.2.1 else -(nI 1)
noncomputable def nsM (A : ast) : ast := (A.1, A.2.1, true, nea A.1 A.2.1, A.2.2.2.2)
noncomputable def anM (A : ast) : Int32 := nI (cnt (tbs A.1 (nea A.1 A.2.1)) 40)
def wi05 (x : Int32) : Bool := decide (¬ x < nI 0) && decide (¬ nI 5 < x)
noncomputable def nsA (x : Int32) (A : ast) : ast := if A.2.2.1 && wi05 x then (A.1, A.2.1, true, agX A.1 A.2.1 x.toNatClampNeg A.2.2.2.1, A.2.2.2.2) else A
noncomputable def anA (x : Int32) (A : ast) : Int32 := if A.2.2.1 && wi05 x then nI (cnt (tbs A.1 A.2.2.2.1) 40) - nI (cnt (tbs A.1 (agX A.1 A.2.1 x.toNatClampNeg A.2.2.2.1)) 40) else -(nI 1)
def nsS (x : Int32) (b : Bool) (A : ast) : ast := (A.1, A.2.1, A.2.2.1, A.2.2.2.1, seO A.1 A.2.2.2.2 x b)
def nsC (x : Int32) (A : ast) : ast := (A.1, A.2.1, A.2.2.1, A.2.2.2.1, ckO A.1 A.2.2.2.2 x)
/-! it stays well formed -/
theorem gOK_t {n : Nat} {xk xa xb xc : Int32} (hn : n ≤ 40) (h : gOK n xk xa xb xc = true) : n < 40 ∧ xk.toNatClampNeg < 7 ∧ xa.toNatClampNeg < n ∧ (1 < ar xk.toNatClampNeg → xb.toNatClampNeg < n) ∧ (2 < ar xk.toNatClampNeg → xc.toNatClampNeg < n) := by
  unfold gOK at h
  simp only [Bool.and_eq_true, Bool.or_eq_true, decide_eq_true_eq] at h
  obtain ⟨⟨⟨⟨h1, h2⟩, h3⟩, h4⟩, h5⟩ := h
  have tn : ∀ {m : Nat} {x : Int32}, m ≤ 40 → inN m x = true → x.toNatClampNeg < m := fun {m x} hm hx => by
    obtain ⟨j, hj, e⟩ := inN_t (by omega) hx
    rw [e, nI_clamp (by omega)]
    exact hj
  refine ⟨h2, tn (by omega) h1, tn hn h3, fun q => ?_, fun q => ?_⟩
  · rcases h4 with h4 | h4
    · omega
    · exact tn hn h4
  · rcases h5 with h5 | h5
    · omega
    · exact tn hn h5
theorem okA_new {N M : nw} {K on : Nat} {md : Bool} {ch : Nat → Nat} (h : aOK N K md ch on) (hM : nw_ok M) (hn : nN N ≤ nN M) (hg : ∀ i, i < nN N → isG M i = isG N i) : aOK M K false ch on := ⟨hM, h.2.1, h.2.2.1, fun i hi => by
  have q := h.2.2.2.1 i hi
  exact ⟨by omega, by rw [hg i q.1]; exact q.2⟩, fun e => by cases e⟩
theorem okA_I {A : ast} (h : okA A) : okA (nsI A) := by
  unfold nsI
  by_cases q : nN A.1 < 40
  · rw [if_pos q]
    exact okA_new h (ok_addI h.1 q) (show nN A.1 ≤ nN A.1 + 1 by omega) fun i hi => isG_addI A.1 i
  · rw [if_neg q]; exact h
theorem okA_R {A : ast} (h : okA A) : okA (nsR A) := by
  unfold nsR
  by_cases q : nN A.1 < 40
  · rw [if_pos q]
    exact okA_new h (ok_addR h.1 q) (show nN A.1 ≤ nN A.1 + 1 by omega) fun i hi => isG_addR A.1 i
  · rw [if_neg q]; exact h
theorem okA_G {A : ast} (h : okA A) (xk xa xb xc : Int32) : okA (nsG xk xa xb xc A) := by
  unfold nsG
  cases q : gOK (nN A.1) xk xa xb xc with
  | true =>
    rw [if_pos rfl]
    obtain ⟨g1, g2, g3, g4, g5⟩ := gOK_t h.1.1 q
    exact okA_new h (ok_addG h.1 g1 g2 g3 g4 g5) (show nN A.1 ≤ nN A.1 + 1 by omega) fun i hi => by
      rw [isG_addG, show decide (i = nN A.1) = false by simp; omega, Bool.or_false]
  | false => rw [if_neg (fun e => by cases e)]; exact h
theorem feO_t {A : ast} {x y : Int32} (h : okA A) (q : feO A x y = true) : isR A.1 x.toNatClampNeg = true ∧ y.toNatClampNeg < nN A.1 ∧ x = nI x.toNatClampNeg ∧ y = nI y.toNatClampNeg := by
  unfold feO at q
  rw [Bool.and_eq_true] at q
  have h40 := h.1.1
  obtain ⟨r, hr, ex, hrr⟩ := atN_t (by omega) q.1
  obtain ⟨v, hv, ey⟩ := inN_t (by omega) q.2
  rw [ex, ey, nI_clamp (by omega), nI_clamp (by omega)]
  exact ⟨hrr, hv, rfl, rfl⟩
theorem okA_F {A : ast} (h : okA A) (x y : Int32) : okA (nsF x y A) := by
  unfold nsF
  cases q : feO A x y with
  | true =>
    rw [if_pos rfl]
    exact okA_new h (ok_setF h.1 (feO_t h q).2.1) (Nat.le_refl _) fun i hi => rfl
  | false => rw [if_neg (fun e => by cases e)]; exact h
theorem ouO_t {A : ast} {x : Int32} (h : okA A) (q : ouO A x = true) : x.toNatClampNeg < nN A.1 ∧ (nO A.1).testBit x.toNatClampNeg = false ∧ cnt (nO A.1) 40 < 12 ∧ x = nI x.toNatClampNeg := by
  unfold ouO at q
  rw [Bool.and_eq_true, decide_eq_true_eq] at q
  have h40 := h.1.1
  obtain ⟨r, hr, ex, hrr⟩ := atN_t (by omega) q.1
  rw [ex, nI_clamp (by omega)]
  exact ⟨hr, by simpa using hrr, q.2, rfl⟩
theorem cnt_addO {S i : Nat} (hi : i < 40) (h : S.testBit i = false) : cnt (S ||| 2 ^ i) 40 = cnt S 40 + 1 := by
  have e := cnt_del (S := S ||| 2 ^ i) hi (by rw [or_bit]; simp)
  have e2 : sD (S ||| 2 ^ i) (2 ^ i) = S := set_eq fun j => by
    rw [sD_pw, or_bit]
    by_cases q : j = i
    · rw [q, h]; simp
    · simp [q]
  rw [e2] at e
  omega
theorem okA_O {A : ast} (h : okA A) (x : Int32) : okA (nsO x A) := by
  unfold nsO
  cases q : ouO A x with
  | true =>
    rw [if_pos rfl]
    obtain ⟨g1, g2, g3, g4⟩ := ouO_t h q
    have h40 := h.1.1
    exact okA_new h (ok_addO h.1 g1 (by rw [cnt_addO (by omega) g2]; omega)) (Nat.le_refl _) fun i hi => rfl
  | false => rw [if_neg (fun e => by cases e)]; exact h
theorem okA_K {A : ast} (h : okA A) (x : Int32) : okA (nsK x A) := by
  unfold nsK
  cases q : wi36 x with
  | true =>
    rw [if_pos rfl]
    obtain ⟨k, k1, k2, ex⟩ := wi_nI (a := 3) (b := 6) (by omega) (by omega) q
    by_cases e : x = nI A.2.1
    · rw [if_pos e]; exact h
    · rw [if_neg e]
      refine ⟨h.1, ?_, ?_, h.2.2.2.1, fun e => by cases e⟩
      · show 3 ≤ x.toNatClampNeg
        rw [ex, nI_clamp (by omega)]; exact k1
      · show x.toNatClampNeg ≤ 6
        rw [ex, nI_clamp (by omega)]; exact k2
  | false => rw [if_neg (fun e => by cases e)]; exact h
theorem okA_M {A : ast} (h : okA A) (hn : nOK A.1 A.2.1 (nN A.1)) : okA (nsM A) := ⟨h.1, h.2.1, h.2.2.1, h.2.2.2.1, fun _ => nea_ok h.1 hn⟩
theorem okA_A {A : ast} (h : okA A) (hn : nOK A.1 A.2.1 (nN A.1)) (x : Int32) : okA (nsA x A) := by
  unfold nsA
  cases q : A.2.2.1 && wi05 x with
  | true =>
    rw [if_pos rfl]
    rw [Bool.and_eq_true] at q
    exact ⟨h.1, h.2.1, h.2.2.1, h.2.2.2.1, fun _ => agn_ok h.1 hn (h.2.2.2.2 q.1) 40⟩
  | false => rw [if_neg (fun e => by cases e)]; exact h
theorem okA_S {A : ast} (h : okA A) (x : Int32) (b : Bool) : okA (nsS x b A) := by
  refine ⟨h.1, h.2.1, h.2.2.1, ?_, h.2.2.2.2⟩
  show onOK A.1 (seO A.1 A.2.2.2.2 x b)
  unfold seO
  have h40 := h.1.1
  cases q : atN (nN A.1) x (isI A.1) with
  | true =>
    rw [if_pos rfl]
    obtain ⟨j, hj, ex, hI⟩ := atN_t (by omega) q
    rw [ex, nI_clamp (by omega)]
    intro i hi
    rw [setO_bit] at hi
    by_cases e : i = j
    · rw [e]
      refine ⟨hj, ?_⟩
      rw [isI_of hj, decide_eq_true_eq] at hI
      rw [isG_of hj, hI]
      rfl
    · rw [if_neg e] at hi
      exact h.2.2.2.1 i hi
  | false => rw [if_neg (fun e => by cases e)]; exact h.2.2.2.1
theorem okA_C {A : ast} (h : okA A) (x : Int32) : okA (nsC x A) := by
  refine ⟨h.1, h.2.1, h.2.2.1, ?_, h.2.2.2.2⟩
  show onOK A.1 (ckO A.1 A.2.2.2.2 x)
  unfold ckO
  split
  · exact itO_ok h.1 h.2.2.2.1 _
  · exact h.2.2.2.1
/-! what only asks -/
theorem F_mis {C : jm_C} (h : ct_mis C) (x : Int32) : fM C kX10_is [jI x] (fun A => jI (isA A.1 A.2.2.2.2 x)) same := fun A σ post hA hR hp => h _ _ _ _ _ x σ post hA hR fun σ' r o => hp σ' hA r o
theorem F_mset {C : jm_C} (h : ct_mset C) (x : Int32) (b : Bool) : fM C kX10_set [jI x, jI (bI b)] (fun A => jI (seA A.1 A.2.2.2.2 x)) (nsS x b) := fun A σ post hA hR hp => h _ _ _ _ _ x b σ post hA hR fun σ' r o => hp σ' (okA_S hA x b) r o
theorem F_mclock {C : jm_C} (h : ct_mclock C) (x : Int32) : fM C kX10_clock [jI x] (fun A => jI (ckA A.1 A.2.2.2.2 x)) (nsC x) := fun A σ post hA hR hp => h _ _ _ _ _ x σ post hA hR fun σ' r o => hp σ' (okA_C hA x) r o
theorem F_mdiffers {C : jm_C} (h : ct_mdiffers C) (x y : Int32) : fM C kX10_differs [jI x, jI y] (fun A => jI (dfA A.1 A.2.2.2.2 x y)) same := fun A σ post hA hR hp => h _ _ _ _ _ x y σ post hA hR fun σ' r o => hp σ' hA r o
theorem F_mchosen {C : jm_C} (h : ct_mchosen C) (x : Int32) : fM C kX10_chosen [jI x] (fun A => jJ (lN (chA A.1 A.2.2.1 A.2.2.2.1 x))) same := fun A σ post hA hR hp => h _ _ _ _ _ x σ post hA hR fun σ' r o => hp σ' hA r o
theorem F_mcomes {C : jm_C} (h : ct_mcomesF C) (x : Int32) : fM C kX10_comes_ [jI x] (fun A => jI (cmA A.1 A.2.2.1 A.2.2.2.1 A.2.2.2.2 x)) same := fun A σ post hA hR hp => h _ _ _ _ _ x σ post hA hR fun σ' r o => hp σ' hA r o
theorem F_mslow {C : jm_C} (h : ct_mslow C) (x : Int32) : fM C kX10_slow [jI x] (fun A => jI (slA A.1 A.2.2.1 A.2.2.2.1 x)) same := fun A σ post hA hR hp => h _ _ _ _ _ x σ post hA hR fun σ' r o => hp σ' hA r o
theorem F_mtable {C : jm_C} (h : ct_mtable C) (x w : Int32) : fM C kX10_table [jI x, jI w] (fun A => jI (tbA A.1 A.2.1 A.2.2.1 A.2.2.2.1 x w)) same := fun A σ post hA hR hp => h _ _ _ _ _ x w σ post hA hR fun σ' r o => hp σ' hA r o
theorem F_mmapped {C : jm_C} (h : ct_mmapped C) (w : Int32) : fM C kX10_mapped [jI w] (fun A => jI (mpA A.1 A.2.1 A.2.2.1 A.2.2.2.1 w)) same := fun A σ post hA hR hp => h _ _ _ _ _ w σ post hA hR fun σ' r o => hp σ' hA r o
theorem F_mcell {C : jm_C} (h : ct_mcell C) (x w : Int32) : fM C kX10_cell [jI x, jI w] (fun A => jI (ceA A.1 A.2.1 A.2.2.1 A.2.2.2.1 x w)) same := fun A σ post hA hR hp => h _ _ _ _ _ x w σ post hA hR fun σ' r o => hp σ' hA r o
theorem F_mclusters {C : jm_C} (h : ct_mclusters C) (x y : Int32) : fM C kX10_clusters [jI x, jI y] (fun A => jI (cuA A.1 A.2.1 A.2.2.1 A.2.2.2.1 x y)) same := fun A σ post hA hR hp => h _ _ _ _ _ x y σ post hA hR fun σ' r o => hp σ' hA r o
theorem F_mcluster {C : jm_C} (h : ct_mcluster C) (x y z : Int32) : fM C kX10_cluster [jI x, jI y, jI z] (fun A => jI (cuB A.1 A.2.1 A.2.2.1 A.2.2.2.1 x y z)) same := fun A σ post hA hR hp => h _ _ _ _ _ x y z σ post hA hR fun σ' r o => hp σ' hA r o
theorem F_mcross {C : jm_C} (h : ct_mcross C) (x y : Int32) : fM C kX10_cross [jI x, jI y] (fun A => jI (cuC A.1 A.2.1 A.2.2.1 A.2.2.2.1 x y)) same := fun A σ post hA hR hp => h _ _ _ _ _ x y σ post hA hR fun σ' r o => hp σ' hA r o
theorem F_mcount {C : jm_C} (h : ct_mcount C) (w : Int32) : fM C kX10_count [jI w] (fun A => jI (cnA A.1 A.2.1 A.2.2.1 w)) same := fun A σ post hA hR hp => h _ _ _ _ _ w σ post hA hR fun σ' r o => hp σ' hA r o
/-! behind laying -/
theorem mRA_ly {A : ast} {σ τ : jm_G} (h : mRA A σ) (hm : mf lyA (0 :: lyB) σ τ) (hL : mL A.1 A.2.1 (nN A.1) τ) (h9 : τ.1 38 0 9 = bI true) : mRA A τ := by
  obtain ⟨⟨a1, a2, a3, a4⟩, -, a5⟩ := h
  refine ⟨⟨mN_mf a1 hm (by decide) (by decide), ?_, ?_, fun i hi => ?_⟩, ⟨true, h9, fun _ => hL⟩, fun e => mCh_mf (a5 e) hm (by decide)⟩
  · rw [(hm.2 0 7 (by decide)).1]; exact a2
  · rw [(hm.2 0 8 (by decide)).1]; exact a3
  · rw [(hm.1 43 0 (by omega) (by decide)).1]; exact a4 i hi
theorem F_mdepth {C : jm_C} (h : ct_mdepth C) : fM C kX10_depth [] (fun A => jI (nI (mxL (lev A.1 A.2.1) (rts A.1) 40))) same := fun A σ post hA hR hp => h _ _ σ post hA.1 hR.1.1 hA.2.1 hA.2.2.1 hR.1.2.1 hR.2.1 fun σ' o1 _ o3 o4 => hp σ' hA (mRA_ly hR o1 o3 o4) (mf_off o1 (by decide))
theorem F_mkept {C : jm_C} (h : ct_mkept C) (x c : Int32) : fM C kX10_kept [jI x, jI c] (fun A => jJ (lN (kpA A.1 A.2.1 x c))) same := fun A σ post hA hR hp => h _ _ x c σ post hA.1 hR.1.1 hA.2.1 hA.2.2.1 hR.1.2.1 hR.2.1 fun σ' o1 _ o3 o4 => hp σ' hA (mRA_ly hR o1 o3 o4) (mf_off o1 (by decide))
theorem F_mcone {C : jm_C} (h : ct_mcone C) (x : Int32) : fM C kX10_cone [jI x] (fun A => jI (coA9 A.1 A.2.1 x)) same := fun A σ post hA hR hp => h _ _ x σ post hA.1 hR.1.1 hA.2.1 hA.2.2.1 hR.1.2.1 hR.2.1 fun σ' o1 _ o3 o4 => hp σ' hA (mRA_ly hR o1 o3 o4) (mf_off o1 (by decide))
theorem F_mnear {C : jm_C} (h : ct_mnear C) (x i : Int32) : fM C kX10_near [jI x, jI i] (fun A => jI (neA A.1 A.2.1 x i)) same := fun A σ post hA hR hp => h _ _ x i σ post hA.1 hR.1.1 hA.2.1 hA.2.2.1 hR.1.2.1 hR.2.1 fun σ' o1 _ o3 o4 => hp σ' hA (mRA_ly hR o1 o3 o4) (mf_off o1 (by decide))
theorem F_mnode {C : jm_C} (h : ct_mnode C) (x w : Int32) : fM C kX10_node [jI x, jI w] (fun A => jI (ndA A.1 A.2.1 x w)) same := fun A σ post hA hR hp => h _ _ x w σ post hA.1 hR.1.1 hA.2.1 hA.2.2.1 hR.1.2.1 hR.2.1 fun σ' o1 _ o3 o4 => hp σ' hA (mRA_ly hR o1 o3 o4) (mf_off o1 (by decide))
theorem F_misCut {C : jm_C} (h : ct_misCut C) (x : Int32) {S : Nat} (hS : S < 2 ^ 64) : fM C kX10_isCut [jI x, jJ (lN S)] (fun A => jI (bI (icA A.1 A.2.1 x S))) same := fun A σ post hA hR hp => h _ _ S x σ post hA.1 hR.1.1 hA.2.2.1 hR.1.2.1 hS (hp _ hA (mR_th hR (nI 0)) (off_th _ _))
/-! what changes, in the model -/
theorem F_minput {C : jm_C} (h : ct_minput C) : fM C kX10_input [] (fun A => jI (anI A)) nsI := fun A σ post hA hR hp => by
  have hp : ∀ σ', okA (nsI A) → mRA (nsI A) σ' → off 38 70 σ σ' → post (some (jI (anI A))) σ' := hp
  have h40 := hA.1.1
  have hok := okA_I hA
  unfold nsI at hp hok
  unfold anI at hp
  refine h _ _ _ _ σ post hA.1 hR.1 hA.2.2.2.1 (fun q => ?_) (fun q σ' b1 b2 b3 => ?_)
  · have q2 : ¬ nN A.1 < 40 := by omega
    rw [if_neg q2] at hok
    rw [if_neg q2, if_neg q2] at hp
    exact hp _ hok (mR_th hR (nI 0)) (off_th _ _)
  · rw [if_pos q] at hok
    rw [if_pos q, if_pos q] at hp
    exact hp σ' hok (mR_new b1 b2) (off_wide b3 (by omega) (by omega))
theorem F_mregister {C : jm_C} (h : ct_mregister C) : fM C kX10_register [] (fun A => jI (anI A)) nsR := fun A σ post hA hR hp => by
  have hp : ∀ σ', okA (nsR A) → mRA (nsR A) σ' → off 38 70 σ σ' → post (some (jI (anI A))) σ' := hp
  have h40 := hA.1.1
  have hok := okA_R hA
  unfold nsR at hp hok
  unfold anI at hp
  refine h _ _ _ _ σ post hA.1 hR.1 hA.2.2.2.1 (fun q => ?_) (fun q σ' b1 b2 b3 => ?_)
  · have q2 : ¬ nN A.1 < 40 := by omega
    rw [if_neg q2] at hok
    rw [if_neg q2, if_neg q2] at hp
    exact hp _ hok (mR_th hR (nI 0)) (off_th _ _)
  · rw [if_pos q] at hok
    rw [if_pos q, if_pos q] at hp
    exact hp σ' hok (mR_new b1 b2) (off_wide b3 (by omega) (by omega))
theorem F_mfeed {C : jm_C} (h : ct_mfeed C) (x y : Int32) : fM C kX10_feed [jI x, jI y] (fun A => jI (bI (feO A x y))) (nsF x y) := fun A σ post hA hR hp => by
  have hp : ∀ σ', okA (nsF x y A) → mRA (nsF x y A) σ' → off 38 70 σ σ' → post (some (jI (bI (feO A x y)))) σ' := hp
  have hok := okA_F hA x y
  have h40 := hA.1.1
  unfold nsF at hp hok
  refine h _ _ _ _ x y σ post hA.1 hR.1 (fun q => ?_) (fun r v hr hv ex ey σ' b1 b2 b3 => ?_)
  · have q : feO A x y = false := q
    rw [q, if_neg (fun e => by cases e)] at hok
    rw [q, if_neg (fun e => by cases e)] at hp
    exact hp _ hok (mR_th hR (nI 0)) (off_th _ _)
  · have hrn := isR_lt hr
    have q : feO A x y = true := by
      unfold feO
      rw [ex, ey, atN_nI (by omega) (by omega), inN_nI (by omega) (by omega), hr]
      simp [hrn, hv]
    rw [q, if_pos rfl, ex, ey, nI_clamp (by omega), nI_clamp (by omega)] at hok
    rw [q, if_pos rfl, ex, ey, nI_clamp (by omega), nI_clamp (by omega)] at hp
    exact hp σ' hok (mR_new b1 b2) (off_wide b3 (by omega) (by omega))
theorem F_moutput {C : jm_C} (h : ct_moutput C) (x : Int32) : fM C kX10_output [jI x] (fun A => jI (anO x A)) (nsO x) := fun A σ post hA hR hp => by
  have hp : ∀ σ', okA (nsO x A) → mRA (nsO x A) σ' → off 38 70 σ σ' → post (some (jI (anO x A))) σ' := hp
  have hok := okA_O hA x
  have h40 := hA.1.1
  unfold nsO at hp hok
  unfold anO at hp
  refine h _ _ _ _ x σ post hA.1 hR.1 (fun q => ?_) (fun i hi hb hc ex σ' b1 b2 b3 => ?_)
  · have q : ouO A x = false := q
    rw [q, if_neg (fun e => by cases e)] at hok
    rw [q, if_neg (fun e => by cases e), if_neg (fun e => by cases e)] at hp
    exact hp _ hok (mR_th hR (nI 0)) (off_th _ _)
  · have q : ouO A x = true := by
      unfold ouO
      rw [ex, atN_nI (by omega) (by omega), hb]
      simp [hi, hc]
    rw [q, if_pos rfl, ex, nI_clamp (by omega)] at hok
    rw [q, if_pos rfl, if_pos rfl, ex, nI_clamp (by omega)] at hp
    exact hp σ' hok (mR_new b1 b2) (off_wide b3 (by omega) (by omega))
theorem wI_same (σ : jm_G) (t i : Nat) : wI σ t i (σ.1 t i) = σ := by
  refine Prod.ext (funext fun a => funext fun b => ?_) rfl
  rw [wI1]
  by_cases e : a = t ∧ b = i
  · rw [if_pos e, e.1, e.2]
  · rw [if_neg e]
theorem upd_same (f : Nat → Int32) (k : Nat) : upd f k (f k) = f := funext fun j => by
  rw [upd_at]
  by_cases e : j = k
  · rw [if_pos e, e]
  · rw [if_neg e]
theorem F_minputs {C : jm_C} (h : ct_minputs C) (x : Int32) : fM C kX10_inputs [jI x] (fun A => jI (anK x A)) (nsK x) := fun A σ post hA hR hp => by
  have hp : ∀ σ', okA (nsK x A) → mRA (nsK x A) σ' → off 38 70 σ σ' → post (some (jI (anK x A))) σ' := hp
  have hok := okA_K hA x
  have hK3 := hA.2.1
  have hK6 := hA.2.2.1
  unfold nsK at hp hok
  unfold anK at hp
  have hR0 := mR_th hR (nI 0)
  refine h _ _ _ _ x σ post hR.1 (by omega) (fun q => ?_) (fun k k1 k2 ex e => ?_) (fun k k1 k2 ex e σ' b1 b2 b3 => ?_)
  · have q : wi36 x = false := q
    rw [q, if_neg (fun e => by cases e)] at hok
    rw [q, if_neg (fun e => by cases e), if_neg (fun e => by cases e)] at hp
    exact hp _ hok hR0 (off_th _ _)
  · have q : wi36 x = true := by rw [ex]; exact wi_in (by omega) k1 k2
    have e2 : x = nI A.2.1 := by rw [ex, e]
    rw [q, if_pos rfl, if_pos e2] at hok
    rw [q, if_pos rfl, if_pos rfl, if_pos e2] at hp
    have e7 : (sF σ 0 (nI 0)).1 38 0 7 = nI A.2.1 := hR0.1.2.1
    have es : sF (sF σ 0 (nI 0)) 7 (nI A.2.1) = sF σ 0 (nI 0) := by
      show wI (sF σ 0 (nI 0)) 38 0 (upd ((sF σ 0 (nI 0)).1 38 0) 7 (nI A.2.1)) = _
      rw [← e7, upd_same, wI_same]
    rw [es]
    exact hp _ hok hR0 (off_th _ _)
  · have q : wi36 x = true := by rw [ex]; exact wi_in (by omega) k1 k2
    have e2 : ¬ x = nI A.2.1 := fun z => e (by rw [ex, nI_eq (by omega) (by omega)] at z; exact z)
    rw [q, if_pos rfl, if_neg e2, ex, nI_clamp (by omega)] at hok
    rw [q, if_pos rfl, if_pos rfl, if_neg e2, ex, nI_clamp (by omega)] at hp
    exact hp σ' hok (mR_new b1 b2) (off_wide b3 (by omega) (by omega))
theorem mB_addG {N : nw} {k a b c b2 c2 K on : Nat} {md : Bool} {σ : jm_G} (h : mB (addG N k a b c) K md on σ) (hb : 1 < ar k → b = b2) (hc : 2 < ar k → c = c2) : mB (addG N k a b2 c2) K md on σ := by
  obtain ⟨⟨a1, a2, a3, a4, a5, a6⟩, r⟩ := h
  have hG : ∀ i, isG (addG N k a b2 c2) i = isG (addG N k a b c) i := fun i => by rw [isG_addG, isG_addG]
  refine ⟨⟨a1, a2, fun i hi => ?_, fun i hi j hj => ?_, fun i hi => ?_, a6⟩, r⟩
  · rw [hG]; exact a3 i hi
  · rw [a4 i hi j hj]
    unfold sofI
    rw [hG, isR_addG, isR_addG]
    have e : srcI (addG N k a b c) i j = srcI (addG N k a b2 c2) i j := by
      show (if j < ar (if i = nN N then k else nK N i) then nI (if i = nN N then (if j = 0 then a else if j = 1 then b else c) else nR N i j) else -(nI 1)) = (if j < ar (if i = nN N then k else nK N i) then nI (if i = nN N then (if j = 0 then a else if j = 1 then b2 else c2) else nR N i j) else -(nI 1))
      by_cases e : i = nN N
      · rw [if_pos e, if_pos e, if_pos e]
        by_cases q : j < ar k
        · rw [if_pos q, if_pos q]
          by_cases j0 : j = 0
          · rw [if_pos j0, if_pos j0]
          · rw [if_neg j0, if_neg j0]
            by_cases j1 : j = 1
            · rw [if_pos j1, if_pos j1, hb (by omega)]
            · rw [if_neg j1, if_neg j1, hc (by omega)]
        · rw [if_neg q, if_neg q]
      · rw [if_neg e, if_neg e, if_neg e]
    rw [e]
    rfl
  · rw [a5 i hi]
    show lN (if i = nN N then (2 ^ a ||| nB N a) ||| (if 1 < ar k then 2 ^ b ||| nB N b else 0) ||| (if 2 < ar k then 2 ^ c ||| nB N c else 0) else nB N i) = lN (if i = nN N then (2 ^ a ||| nB N a) ||| (if 1 < ar k then 2 ^ b2 ||| nB N b2 else 0) ||| (if 2 < ar k then 2 ^ c2 ||| nB N c2 else 0) else nB N i)
    have e1 : (if 1 < ar k then 2 ^ b ||| nB N b else 0) = (if 1 < ar k then 2 ^ b2 ||| nB N b2 else 0) := by
      by_cases q : 1 < ar k
      · rw [if_pos q, if_pos q, hb q]
      · rw [if_neg q, if_neg q]
    have e2 : (if 2 < ar k then 2 ^ c ||| nB N c else 0) = (if 2 < ar k then 2 ^ c2 ||| nB N c2 else 0) := by
      by_cases q : 2 < ar k
      · rw [if_pos q, if_pos q, hc q]
      · rw [if_neg q, if_neg q]
    rw [e1, e2]
theorem F_mgate {C : jm_C} (h : ct_mgate C) (xk xa xb xc : Int32) : fM C kX10_gate [jI xk, jI xa, jI xb, jI xc] (fun A => jI (anG xk xa xb xc A)) (nsG xk xa xb xc) := fun A σ post hA hR hp => by
  have hp : ∀ σ', okA (nsG xk xa xb xc A) → mRA (nsG xk xa xb xc A) σ' → off 38 70 σ σ' → post (some (jI (anG xk xa xb xc A))) σ' := hp
  have hok := okA_G hA xk xa xb xc
  have h40 := hA.1.1
  unfold nsG at hp hok
  unfold anG at hp
  refine h _ _ _ _ xk xa xb xc σ post hA.1 hR.1 hA.2.2.2.1 (fun q => ?_) (fun k a b c hn hk ek ha ea hb hc σ' b1 b2 b3 => ?_)
  · rw [q, if_neg (fun e => by cases e)] at hok
    rw [q, if_neg (fun e => by cases e), if_neg (fun e => by cases e)] at hp
    exact hp _ hok (mR_th hR (nI 0)) (off_th _ _)
  · have e1 : xk.toNatClampNeg = k := by rw [ek]; exact nI_clamp (by omega)
    have e2 : xa.toNatClampNeg = a := by rw [ea]; exact nI_clamp (by omega)
    have q : gOK (nN A.1) xk xa xb xc = true := by
      unfold gOK
      rw [e1, ek, ea, inN_nI (by omega) (by omega), inN_nI (by omega) (by omega)]
      simp only [hk, hn, ha, decide_true, Bool.true_and, Bool.and_eq_true, Bool.or_eq_true, decide_eq_true_eq]
      constructor
      · by_cases z : 1 < ar k
        · obtain ⟨z1, z2⟩ := hb z
          right
          rw [z2, inN_nI (by omega) (by omega)]
          simpa using z1
        · left; omega
      · by_cases z : 2 < ar k
        · obtain ⟨z1, z2⟩ := hc z
          right
          rw [z2, inN_nI (by omega) (by omega)]
          simpa using z1
        · left; omega
    rw [q, if_pos rfl, e1, e2] at hok
    rw [q, if_pos rfl, if_pos rfl, e1, e2] at hp
    refine hp σ' hok (mR_new (mB_addG b1 (fun z => ?_) (fun z => ?_)) b2) (off_wide b3 (by omega) (by omega))
    · obtain ⟨z1, z2⟩ := hb z
      rw [z2, nI_clamp (by omega)]
    · obtain ⟨z1, z2⟩ := hc z
      rw [z2, nI_clamp (by omega)]
theorem mRA_mg {A B : ast} {σ τ : jm_G} (h : mRA A σ) (hm : mf mgA mgB σ τ) (hN : B.1 = A.1) (hK : B.2.1 = A.2.1) (hmd : B.2.2.1 = true) (hon : B.2.2.2.2 = A.2.2.2.2) (h8 : τ.1 38 0 8 = bI true) (hL : mL A.1 A.2.1 (nN A.1) τ) (h9 : τ.1 38 0 9 = bI true) (hc : mCh A.1 B.2.2.2.1 τ) : mRA B τ := by
  obtain ⟨⟨a1, a2, a3, a4⟩, -, a5⟩ := h
  unfold mRA
  rw [hN, hK, hmd, hon]
  refine ⟨⟨mN_mf a1 hm (by decide) (by decide), ?_, h8, fun i hi => ?_⟩, ⟨true, h9, fun _ => hL⟩, fun e => hc⟩
  · rw [(hm.2 0 7 (by decide)).1]; exact a2
  · rw [(hm.1 43 0 (by omega) (by decide)).1]; exact a4 i hi
theorem F_mmap {C : jm_C} (h : ct_mmap C) : fM C kX10_map [] (fun A => jI (anM A)) nsM := fun A σ post hA hR hp => h _ _ σ post hA.1 hR.1.1 hA.2.1 hA.2.2.1 hR.1.2.1 hR.2.1 fun σ' o1 o2 o3 o4 o5 => hp σ' (okA_M hA o3.2.2) (mRA_mg (B := nsM A) hR o1 rfl rfl rfl rfl o2 o3 o4 o5) (mf_off o1 (by decide))
theorem F_magain {C : jm_C} (h : ct_magain C) (x : Int32) : fM C kX10_again [jI x] (fun A => jI (anA x A)) (nsA x) := fun A σ post hA hR hp => by
  have hp : ∀ σ', okA (nsA x A) → mRA (nsA x A) σ' → off 38 70 σ σ' → post (some (jI (anA x A))) σ' := hp
  have hok := fun hn => okA_A hA hn x
  unfold nsA at hp hok
  unfold anA at hp
  refine h _ _ _ A.2.2.2.1 x σ post hA.1 hR.1.1 hA.2.1 hA.2.2.1 hR.1.2.1 hR.2.1 hR.1.2.2.1 (fun e => ⟨hA.2.2.2.2 e, hR.2.2 e⟩) (fun q => ?_) (fun em sl hsl ex σ' o1 o2 o3 o4 o5 => ?_)
  · have q : (A.2.2.1 && wi05 x) = false := q
    rw [q, if_neg (fun e => by cases e), if_neg (fun e => by cases e)] at hp
    exact hp _ hA (mR_th hR (nI 0)) (off_th _ _)
  · have q : (A.2.2.1 && wi05 x) = true := by
      rw [em, ex, Bool.true_and]
      exact wi_in (by omega) (by omega) hsl
    rw [q, if_pos rfl, ex, nI_clamp (by omega)] at hok
    rw [q, if_pos rfl, if_pos rfl, ex, nI_clamp (by omega)] at hp
    exact hp σ' (hok o3.2.2) (mRA_mg (B := (A.1, A.2.1, true, agX A.1 A.2.1 sl A.2.2.2.1, A.2.2.2.2)) hR o1 rfl rfl rfl rfl o2 o3 o4 o5) (mf_off o1 (by decide))
