/-! the component against the abstract state -/
def cR (N : nw) (K : Nat) (md : Bool) (ch : Nat → Nat) (on : Nat) (σ : jm_G) : Prop := cN N σ ∧ σ.1 0 0 7 = nI K ∧ σ.1 0 0 8 = bI md ∧ σ.2 8 0 2 = lN on ∧ cAll N σ ∧ (∀ j, j < 40 → isG N j = false → σ.1 25 0 j = nI 0) ∧ cP σ ∧ (md = true → cV N ch σ ∧ cB N ch σ ∧ cL N K ch σ ∧ cU (clX N K ch) σ)
theorem cAll_off {N : nw} {lo hi : Nat} {σ τ : jm_G} (h : cAll N σ) (ho : off lo hi σ τ) (h1 : hi < 17 ∨ 21 < lo) : cAll N τ := fun i hi4 => by
  obtain ⟨n, q1, q2, q3⟩ := h i hi4
  refine ⟨n, q1, cA_off q2 ho h1, ?_⟩
  rw [(ho 17 i (by omega)).1]
  exact q3
theorem cV_off {N : nw} {ch : Nat → Nat} {lo hi : Nat} {σ τ : jm_G} (h : cV N ch σ) (ho : off lo hi σ τ) (h1 : hi < 22 ∨ 25 < lo) : cV N ch τ := by
  refine ⟨fun g hg => ?_, fun j hj => ?_, ?_⟩
  · rw [(ho 24 0 (by omega)).2]; exact h.1 g hg
  · rw [(ho 25 0 (by omega)).1]; exact h.2.1 j hj
  · rw [(ho 22 0 (by omega)).2]; exact h.2.2
theorem cB_off {N : nw} {ch : Nat → Nat} {lo hi : Nat} {σ τ : jm_G} (h : cB N ch σ) (ho : off lo hi σ τ) (h1 : hi < 26 ∨ 28 < lo) : cB N ch τ := by
  obtain ⟨kn, k1, k2, k3⟩ := h
  refine ⟨kn, k1, ?_, fun g hg hb => ?_⟩
  · rw [(ho 26 0 (by omega)).2]; exact k2
  · rw [(ho 27 0 (by omega)).2]; exact k3 g hg hb
theorem cL_off {N : nw} {K : Nat} {ch : Nat → Nat} {lo hi : Nat} {σ τ : jm_G} (h : cL N K ch σ) (ho : off lo hi σ τ) (h1 : hi < 29 ∨ 35 < lo) : cL N K ch τ := by
  obtain ⟨a1, a2, a3, a4, a5, a6⟩ := h
  refine ⟨fun a ha => ?_, fun i hi => ?_, fun i hi => ?_, ?_, ⟨?_, fun c hc => ?_⟩, ?_⟩
  · rw [(ho 30 0 (by omega)).2]; exact a1 a ha
  · rw [(ho 31 0 (by omega)).1]; exact a2 i hi
  · rw [(ho 32 0 (by omega)).1]; exact a3 i hi
  · rw [(ho 29 0 (by omega)).1]; exact a4
  · rw [(ho 29 0 (by omega)).1]; exact a5.1
  · rw [(ho 33 0 (by omega)).2, (ho 34 0 (by omega)).2, (ho 35 0 (by omega)).2]; exact a5.2 c hc
  · rw [(ho 29 0 (by omega)).2]; exact a6
theorem cU_off {s : clS} {lo hi : Nat} {σ τ : jm_G} (h : cU s σ) (ho : off lo hi σ τ) (h1 : hi < 36 ∨ 37 < lo) : cU s τ := by
  unfold cU
  rw [(ho 36 0 (by omega)).1, (ho 37 0 (by omega)).1]
  exact h
theorem cR_g {N : nw} {K : Nat} {md : Bool} {ch : Nat → Nat} {on on' lo hi : Nat} {σ τ : jm_G} (h : cR N K md ch on σ) (ho : off lo hi σ τ) (h1 : 8 ≤ lo) (h2 : hi ≤ 37) (h8 : τ.2 8 0 2 = lN on') (hA : cAll N τ) (hV : hi < 22 ∨ 25 < lo) (hL : hi < 29 ∨ 35 < lo) (hc : md = true → cB N ch τ ∧ cU (clX N K ch) τ) : cR N K md ch on' τ := by
  obtain ⟨a1, a2, a3, a4, a5, a6, a7, a8⟩ := h
  refine ⟨cN_off a1 ho (by omega) (by omega), ?_, ?_, h8, hA, fun j hj hg => ?_, cP_off a7 ho (by omega), fun e => ⟨cV_off (a8 e).1 ho hV, (hc e).1, cL_off (a8 e).2.2.1 ho hL, (hc e).2⟩⟩
  · rw [(ho 0 0 (by omega)).1]; exact a2
  · rw [(ho 0 0 (by omega)).1]; exact a3
  · rw [(ho 25 0 (by omega)).1]; exact a6 j hj hg
theorem cR_ways {N : nw} {K : Nat} {md : Bool} {ch : Nat → Nat} {on : Nat} {σ τ : jm_G} (h : cR N K md ch on σ) (ho : off 10 21 σ τ) (hA : cAll N τ) : cR N K md ch on τ := cR_g h ho (by omega) (by omega) (by rw [(ho 8 0 (by omega)).2]; exact h.2.2.2.1) hA (by omega) (by omega) fun e => ⟨cB_off (h.2.2.2.2.2.2.2 e).2.1 ho (by omega), cU_off (h.2.2.2.2.2.2.2 e).2.2.2 ho (by omega)⟩
theorem cR_sig {N : nw} {K : Nat} {md : Bool} {ch : Nat → Nat} {on on' : Nat} {σ τ : jm_G} (h : cR N K md ch on σ) (ho : off 8 9 σ τ) (h8 : τ.2 8 0 2 = lN on') : cR N K md ch on' τ := cR_g h ho (by omega) (by omega) h8 (cAll_off h.2.2.2.2.1 ho (by omega)) (by omega) (by omega) fun e => ⟨cB_off (h.2.2.2.2.2.2.2 e).2.1 ho (by omega), cU_off (h.2.2.2.2.2.2.2 e).2.2.2 ho (by omega)⟩
theorem cR_con {N : nw} {K : Nat} {md : Bool} {ch : Nat → Nat} {on : Nat} {σ τ : jm_G} (h : cR N K md ch on σ) (ho : off 26 28 σ τ) (hB : md = true → cB N ch τ) : cR N K md ch on τ := cR_g h ho (by omega) (by omega) (by rw [(ho 8 0 (by omega)).2]; exact h.2.2.2.1) (cAll_off h.2.2.2.2.1 ho (by omega)) (by omega) (by omega) fun e => ⟨hB e, cU_off (h.2.2.2.2.2.2.2 e).2.2.2 ho (by omega)⟩
theorem cR_clu {N : nw} {K : Nat} {md : Bool} {ch : Nat → Nat} {on : Nat} {σ τ : jm_G} (h : cR N K md ch on σ) (ho : off 36 37 σ τ) (hU : md = true → cU (clX N K ch) τ) : cR N K md ch on τ := cR_g h ho (by omega) (by omega) (by rw [(ho 8 0 (by omega)).2]; exact h.2.2.2.1) (cAll_off h.2.2.2.2.1 ho (by omega)) (by omega) (by omega) fun e => ⟨cB_off (h.2.2.2.2.2.2.2 e).2.1 ho (by omega), hU e⟩
theorem cAll_agr {N M : nw} {σ : jm_G} (hN : nw_ok N) (hM : nw_ok M) (h : agr N M (nN N)) (hn : nN N ≤ nN M) (hA : cAll N σ) : cAll M σ := fun i hi => by
  obtain ⟨n, q1, q2, q3⟩ := hA i hi
  exact ⟨n, by omega, cA_agr hN hM (agr_le h q1) q2, q3⟩
theorem cR_new {N M : nw} {K : Nat} {md : Bool} {ch : Nat → Nat} {on : Nat} {σ τ : jm_G} (h : cR N K md ch on σ) (hN : nw_ok N) (hM : nw_ok M) (ho : off 2 7 (wI σ 0 0 (upd (σ.1 0 0) 8 (nI 0))) τ) (hc : cN M τ) (ha : agr N M (nN N)) (hn : nN N ≤ nN M) (hg : ∀ j, isG M j = false → isG N j = false) : cR M K false ch on τ ∧ off 0 37 σ τ := by
  obtain ⟨a1, a2, a3, a4, a5, a6, a7, a8⟩ := h
  have o2 : off 0 7 σ τ := off_trans (off_wI (off_refl _ _ _) (by omega) (by omega)) (off_wide ho (by omega) (by omega))
  refine ⟨⟨hc, ?_, ?_, ?_, cAll_agr hN hM ha hn (cAll_off a5 o2 (by omega)), fun j hj hgj => ?_, cP_off a7 o2 (by omega), fun e => by cases e⟩, off_wide o2 (by omega) (by omega)⟩
  · rw [(ho 0 0 (by omega)).1]; exact a2
  · rw [(ho 0 0 (by omega)).1]; rfl
  · rw [(o2 8 0 (by omega)).2]; exact a4
  · rw [(o2 25 0 (by omega)).1]; exact a6 j hj (hg j hgj)
def cRA (A : ast) (σ : jm_G) : Prop := cR A.1 A.2.1 A.2.2.1 A.2.2.2.1 A.2.2.2.2 σ
def fC (C : jm_C) (k : Nat) (args : List jm_V) (ans : ast → jm_V) (nx : ast → ast) : Prop := ∀ (A : ast) (σ : jm_G) (post : Option jm_V → jm_G → Prop), okA A → cRA A σ → (∀ σ', okA (nx A) → cRA (nx A) σ' → off 0 37 σ σ' → post (some (ans A)) σ') → C k (jR 0 0 :: args) σ post
/-! cuts -/
theorem F_cdepth {C : jm_C} (h : ct_cdepth C) : fC C kX9_depth [] (fun A => jI (nI (mxL (lev A.1 A.2.1) (rts A.1) 40))) same := fun A σ post hA hR hp => h _ _ σ post hA.1 hR.1 hA.2.1 hA.2.2.1 hR.2.1 hR.2.2.2.2.1 fun σ' o1 o2 => hp σ' hA (cR_ways hR o1 o2) (off_wide o1 (by omega) (by omega))
theorem F_ckept {C : jm_C} (h : ct_ckept C) (x c : Int32) : fC C kX9_kept [jI x, jI c] (fun A => jJ (lN (kpA A.1 A.2.1 x c))) same := fun A σ post hA hR hp => h _ _ x c σ post hA.1 hR.1 hA.2.1 hA.2.2.1 hR.2.1 hR.2.2.2.2.1 fun σ' o1 o2 => hp σ' hA (cR_ways hR o1 o2) (off_wide o1 (by omega) (by omega))
theorem F_ccone {C : jm_C} (h : ct_ccone C) (x : Int32) : fC C kX9_cone [jI x] (fun A => jI (coA9 A.1 A.2.1 x)) same := fun A σ post hA hR hp => h _ _ x σ post hA.1 hR.1 hA.2.1 hA.2.2.1 hR.2.1 hR.2.2.2.2.1 fun σ' o1 o2 => hp σ' hA (cR_ways hR o1 o2) (off_wide o1 (by omega) (by omega))
theorem F_cnear {C : jm_C} (h : ct_cnear C) (x i : Int32) : fC C kX9_near [jI x, jI i] (fun A => jI (neA A.1 A.2.1 x i)) same := fun A σ post hA hR hp => h _ _ x i σ post hA.1 hR.1 hA.2.1 hA.2.2.1 hR.2.1 hR.2.2.2.2.1 fun σ' o1 o2 => hp σ' hA (cR_ways hR o1 o2) (off_wide o1 (by omega) (by omega))
theorem F_cnode {C : jm_C} (h : ct_cnode C) (x w : Int32) : fC C kX9_node [jI x, jI w] (fun A => jI (ndA A.1 A.2.1 x w)) same := fun A σ post hA hR hp => h _ _ x w σ post hA.1 hR.1 hA.2.1 hA.2.2.1 hR.2.1 hR.2.2.2.2.1 fun σ' o1 o2 => hp σ' hA (cR_ways hR o1 o2) (off_wide o1 (by omega) (by omega))
/-! what changes -/
theorem C_input (L : Nat) {C : jm_C} (hC : jm_mon C) (h1 : ct_isFull C) (h2 : ct_addInput C) : fC (jm_up L C) kX9_input [] (fun A => jI (anI A)) nsI := by
  intro A σ post hA hR hp
  have hp : ∀ σ', okA (nsI A) → cRA (nsI A) σ' → off 0 37 σ σ' → post (some (jI (anI A))) σ' := hp
  have hok := okA_I hA
  have h40 := hA.1.1
  refine jm_start rfl (Nat.le_of_ble_eq_true rfl) hC fun X hg hw => ?_
  unfold nsI at hp hok
  unfold anI at hp
  refine hg [] 40 _ ?_
  refine h1 A.1 σ _ hA.1 hR.1 ?_
  refine br_c (fun q => ?_) (fun q => ?_)
  · have q := bI_0.mp q
    have q : nN A.1 < 40 := by simpa using q
    rw [if_pos q] at hok
    rw [if_pos q, if_pos q] at hp
    refine And.intro (Or.inl rfl) ?_
    refine h2 A.1 (wI σ 0 0 (upd (σ.1 0 0) 8 (nI 0))) _ hA.1 hR.1 q fun τ o1 o2 => ?_
    obtain ⟨r1, r2⟩ := cR_new hR hA.1 hok.1 o2 o1 (agr_addI A.1) (show nN A.1 ≤ nN A.1 + 1 by omega) (fun j hj => by have hj : isG (addI A.1) j = false := hj; rw [isG_addI] at hj; exact hj)
    exact And.intro trivial (hp τ hok r1 r2)
  · have q := bI_n0.mp q
    have q : ¬ nN A.1 < 40 := by simpa using q
    rw [if_neg q] at hok
    rw [if_neg q, if_neg q] at hp
    exact And.intro trivial (hp σ hok hR (off_refl _ _ _))
theorem C_register (L : Nat) {C : jm_C} (hC : jm_mon C) (h1 : ct_isFull C) (h2 : ct_addRegister C) : fC (jm_up L C) kX9_register [] (fun A => jI (anI A)) nsR := by
  intro A σ post hA hR hp
  have hp : ∀ σ', okA (nsR A) → cRA (nsR A) σ' → off 0 37 σ σ' → post (some (jI (anI A))) σ' := hp
  have hok := okA_R hA
  have h40 := hA.1.1
  refine jm_start rfl (Nat.le_of_ble_eq_true rfl) hC fun X hg hw => ?_
  unfold nsR at hp hok
  unfold anI at hp
  refine hg [] 40 _ ?_
  refine h1 A.1 σ _ hA.1 hR.1 ?_
  refine br_c (fun q => ?_) (fun q => ?_)
  · have q := bI_0.mp q
    have q : nN A.1 < 40 := by simpa using q
    rw [if_pos q] at hok
    rw [if_pos q, if_pos q] at hp
    refine And.intro (Or.inl rfl) ?_
    refine h2 A.1 (wI σ 0 0 (upd (σ.1 0 0) 8 (nI 0))) _ hA.1 hR.1 q fun τ o1 o2 => ?_
    obtain ⟨r1, r2⟩ := cR_new hR hA.1 hok.1 o2 o1 (agr_addR A.1) (show nN A.1 ≤ nN A.1 + 1 by omega) (fun j hj => by have hj : isG (addR A.1) j = false := hj; rw [isG_addR] at hj; exact hj)
    exact And.intro trivial (hp τ hok r1 r2)
  · have q := bI_n0.mp q
    have q : ¬ nN A.1 < 40 := by simpa using q
    rw [if_neg q] at hok
    rw [if_neg q, if_neg q] at hp
    exact And.intro trivial (hp σ hok hR (off_refl _ _ _))
theorem C_feed (L : Nat) {C : jm_C} (hC : jm_mon C) (h1 : ct_isSort kX5_isRegister isR C) (h2 : ct_isNode C) (h3 : ct_setFeed C) (x y : Int32) : fC (jm_up L C) kX9_feed [jI x, jI y] (fun A => jI (bI (feO A x y))) (nsF x y) := by
  intro A σ post hA hR hp
  have hp : ∀ σ', okA (nsF x y A) → cRA (nsF x y A) σ' → off 0 37 σ σ' → post (some (jI (bI (feO A x y)))) σ' := hp
  have hok := okA_F hA x y
  have h40 := hA.1.1
  refine jm_start rfl (Nat.le_of_ble_eq_true rfl) hC fun X hg hw => ?_
  unfold nsF at hp hok
  have no : feO A x y = false → post (some (jI (nI 0))) σ := fun q => by
    rw [q, if_neg (fun e => by cases e)] at hok
    rw [q, if_neg (fun e => by cases e)] at hp
    exact hp σ hok hR (off_refl _ _ _)
  refine hg [] 40 _ ?_
  refine h1 A.1 x σ _ hA.1 hR.1 ?_
  refine br_c (fun q => ?_) (fun q => ?_)
  · have q := bI_0.mp q
    exact And.intro (Or.inl rfl) (no (by unfold feO; rw [q]; rfl))
  have q := bI_n0.mp q
  refine h2 A.1 y σ _ hA.1 hR.1 ?_
  refine br_c (fun q2 => ?_) (fun q2 => ?_)
  · have q2 := bI_0.mp q2
    exact And.intro (Or.inl rfl) (no (by unfold feO; rw [q, q2]; rfl))
  have q2 := bI_n0.mp q2
  have qf : feO A x y = true := by unfold feO; rw [q, q2]; rfl
  obtain ⟨e1, e2, e3, e4⟩ := feO_t hA qf
  rw [qf, if_pos rfl] at hok
  rw [qf, if_pos rfl] at hp
  rw [e3, e4]
  refine And.intro (Or.inl rfl) ?_
  refine h3 A.1 x.toNatClampNeg y.toNatClampNeg (wI σ 0 0 (upd (σ.1 0 0) 8 (nI 0))) _ hA.1 hR.1 e1 e2 fun τ o1 o2 => ?_
  obtain ⟨r1, r2⟩ := cR_new hR hA.1 hok.1 o2 o1 (agr_setF A.1 _ _ _) (Nat.le_refl _) (fun j hj => hj)
  exact And.intro (Or.inr rfl) (hp τ hok r1 r2)
theorem C_output (L : Nat) {C : jm_C} (hC : jm_mon C) (h1 : ct_isNode C) (h2 : ct_has C) (h3 : ct_bc C) (h4 : ct_bit C) (x : Int32) : fC (jm_up L C) kX9_output [jI x] (fun A => jI (anO x A)) (nsO x) := by
  intro A σ post hA hR hp
  have hp : ∀ σ', okA (nsO x A) → cRA (nsO x A) σ' → off 0 37 σ σ' → post (some (jI (anO x A))) σ' := hp
  have hok := okA_O hA x
  have h40 := hA.1.1
  refine jm_start rfl (Nat.le_of_ble_eq_true rfl) hC fun X hg hw => ?_
  unfold nsO at hp hok
  unfold anO at hp
  have no : ouO A x = false → post (some (jI (-(nI 1)))) σ := fun q => by
    rw [q, if_neg (fun e => by cases e)] at hok
    rw [q, if_neg (fun e => by cases e), if_neg (fun e => by cases e)] at hp
    exact hp σ hok hR (off_refl _ _ _)
  have hO := nO_lt hA.1
  have e28 : σ.2 2 0 8 = lN (nO A.1) := hR.1.2.2.2.2.1
  have c40 := cnt_le (nO A.1) 40
  refine hg [] 60 _ ?_
  refine h1 A.1 x σ _ hA.1 hR.1 ?_
  refine br_c (fun q => ?_) (fun q => ?_)
  · have q := bI_0.mp q
    exact And.intro trivial (no (by unfold ouO atN; rw [q]; rfl))
  have q := bI_n0.mp q
  obtain ⟨i, hi, ex⟩ := inN_t (by omega) q
  have hat : ∀ p, atN (nN A.1) x p = p i := fun p => by unfold atN; rw [q, ex, nI_clamp (by omega)]; rfl
  refine c_has h2 (S := nO A.1) (n := i) e28 ex (p40 hO) (by omega) ?_
  refine br_c (fun q2 => ?_) (fun q2 => ?_)
  · have q2 := bI_0.mp q2
    refine c_bc h3 (S := nO A.1) e28 (Nat.lt_trans hO (by omega)) ?_
    rw [cnt64 hO]
    refine br_c (fun q3 => ?_) (fun q3 => ?_)
    · have q3 : nI (cnt (nO A.1) 40) < nI 12 := q3
      rw [nI_ltI (by omega) (by omega)] at q3
      have qo : ouO A x = true := by unfold ouO; rw [hat, q2]; simpa using q3
      rw [qo, if_pos rfl, ex, nI_clamp (by omega)] at hok
      rw [qo, if_pos rfl, if_pos rfl, ex, nI_clamp (by omega)] at hp
      refine And.intro (Or.inl rfl) ?_
      refine c_bit h4 (n := i) ex (by omega) ?_
      have hO2 : nO A.1 ||| 2 ^ i < 2 ^ 40 := or_lt hO (pw_lt (by omega))
      refine c_bc h3 (S := nO A.1 ||| 2 ^ i) (show σ.2 2 0 8 ||| lN (2 ^ i) = _ by rw [e28, fb_orL]) (Nat.lt_trans hO2 (by omega)) ?_
      rw [cnt64 hO2]
      have hc : cN (addO A.1 i) (wJ (wI σ 0 0 (upd (σ.1 0 0) 8 (nI 0))) 2 0 (vp_updL (σ.2 2 0) 8 (σ.2 2 0 8 ||| lN (2 ^ i)))) := by
        obtain ⟨a1, a2, a3, a4, a5, a6⟩ := hR.1
        obtain ⟨b1, b2, b3, b4, b5⟩ := a6
        refine ⟨a1, a2, a3, a4, ?_, b1, b2, fun j hj => ?_, b4, b5⟩
        · show σ.2 2 0 8 ||| lN (2 ^ i) = lN (nO A.1 ||| 2 ^ i)
          rw [a5, fb_orL]
        · show σ.2 6 0 j = lN (sM (addO A.1 i) j)
          rw [← sM_agr (agr_addO A.1 i 40) hj]
          exact b3 j hj
      obtain ⟨r1, r2⟩ := cR_new hR hA.1 hok.1 (off_wJ (off_refl _ _ _) (by omega) (by omega)) hc (agr_addO A.1 _ _) (Nat.le_refl _) (fun j hj => hj)
      exact And.intro trivial (hp _ hok r1 r2)
    · have q3 : ¬ nI (cnt (nO A.1) 40) < nI 12 := q3
      rw [nI_ltI (by omega) (by omega)] at q3
      exact And.intro trivial (no (by unfold ouO; rw [show decide (cnt (nO A.1) 40 < 12) = false by simpa using q3, Bool.and_false]))
  · have q2 := bI_n0.mp q2
    exact And.intro trivial (no (by unfold ouO; rw [hat, q2]; rfl))
theorem C_inputs (L : Nat) {C : jm_C} (hC : jm_mon C) (x : Int32) : fC (jm_up L C) kX9_inputs [jI x] (fun A => jI (anK x A)) (nsK x) := by
  intro A σ post hA hR hp
  have hp : ∀ σ', okA (nsK x A) → cRA (nsK x A) σ' → off 0 37 σ σ' → post (some (jI (anK x A))) σ' := hp
  have hok := okA_K hA x
  have h40 := hA.1.1
  have hK6 := hA.2.2.1
  refine jm_start rfl (Nat.le_of_ble_eq_true rfl) hC fun X hg hw => ?_
  unfold nsK at hp hok
  unfold anK at hp
  have no : wi36 x = false → post (some (jI (-(nI 1)))) σ := fun q => by
    rw [q, if_neg (fun e => by cases e)] at hok
    rw [q, if_neg (fun e => by cases e), if_neg (fun e => by cases e)] at hp
    exact hp σ hok hR (off_refl _ _ _)
  have e7 : σ.1 0 0 7 = nI A.2.1 := hR.2.1
  refine hg [] 60 _ ?_
  refine br_c (fun q => ?_) (fun q => ?_)
  · have q : x < nI 3 := q
    exact And.intro trivial (no (by unfold wi36; simp [q]))
  have q : ¬ x < nI 3 := q
  refine br_c (fun q2 => ?_) (fun q2 => ?_)
  · have q2 : x ≤ nI 6 := q2
    have qw : wi36 x = true := by unfold wi36; simp [q, Int32.not_lt.mpr q2]
    rw [qw, if_pos rfl] at hok
    rw [qw, if_pos rfl, if_pos rfl] at hp
    refine br_c (fun q3 => ?_) (fun q3 => ?_)
    · have q3 : x = σ.1 0 0 7 := q3
      have e2 : x = nI A.2.1 := by rw [q3, e7]
      rw [if_pos e2] at hok hp
      refine And.intro trivial ?_
      show post (some (jI (σ.1 0 0 7))) (wI σ 0 0 (upd (σ.1 0 0) 7 x))
      rw [q3, upd_same, wI_same, e7]
      exact hp σ hok hR (off_refl _ _ _)
    · have q3 : ¬ x = σ.1 0 0 7 := q3
      have e2 : ¬ x = nI A.2.1 := by rw [← e7]; exact q3
      rw [if_neg e2] at hok hp
      refine And.intro (Or.inl rfl) (And.intro trivial ?_)
      show post (some (jI (σ.1 0 0 7))) (wI (wI σ 0 0 (upd (σ.1 0 0) 8 (nI 0))) 0 0 (upd (upd (σ.1 0 0) 8 (nI 0)) 7 x))
      rw [e7]
      obtain ⟨k, k1, k2, ex⟩ := wi_nI (a := 3) (b := 6) (by omega) (by omega) qw
      have ek : x = nI x.toNatClampNeg := by rw [ex, nI_clamp (by omega)]
      obtain ⟨a1, a2, a3, a4, a5, a6, a7, a8⟩ := hR
      refine hp _ hok ⟨a1, ek, rfl, a4, a5, a6, a7, fun e => by cases e⟩ (off_wI (off_wI (off_refl _ _ _) (by omega) (by omega)) (by omega) (by omega))
  · have q2 : ¬ x ≤ nI 6 := q2
    exact And.intro trivial (no (by unfold wi36; simp [Int32.not_le.mp q2]))
theorem C_gate (L : Nat) {C : jm_C} (hC : jm_mon C) (h1 : ct_isFull C) (h2 : ct_isKind C) (h3 : ct_srcOf C) (h4 : ct_isNode C) (h5 : ct_addGate C) (xk xa xb xc : Int32) : fC (jm_up L C) kX9_gate [jI xk, jI xa, jI xb, jI xc] (fun A => jI (anG xk xa xb xc A)) (nsG xk xa xb xc) := by
  intro A σ post hA hR hp
  have hp : ∀ σ', okA (nsG xk xa xb xc A) → cRA (nsG xk xa xb xc A) σ' → off 0 37 σ σ' → post (some (jI (anG xk xa xb xc A))) σ' := hp
  have hok := okA_G hA xk xa xb xc
  have h40 := hA.1.1
  refine jm_start rfl (Nat.le_of_ble_eq_true rfl) hC fun X hg hw => ?_
  unfold nsG at hp hok
  unfold anG at hp
  have no : gOK (nN A.1) xk xa xb xc = false → post (some (jI (-(nI 1)))) σ := fun q => by
    rw [q, if_neg (fun e => by cases e)] at hok
    rw [q, if_neg (fun e => by cases e), if_neg (fun e => by cases e)] at hp
    exact hp σ hok hR (off_refl _ _ _)
  refine hg [] 90 _ ?_
  refine h1 A.1 σ _ hA.1 hR.1 ?_
  refine br_c (fun q => ?_) (fun q => ?_)
  · have q := bI_0.mp q
    have q : nN A.1 < 40 := by simpa using q
    refine h2 xk σ _ ?_
    refine br_c (fun q2 => ?_) (fun q2 => ?_)
    · have q2 := bI_0.mp q2
      exact And.intro trivial (no (by unfold gOK; rw [q2]; simp))
    have q2 := bI_n0.mp q2
    obtain ⟨k, hk, ek⟩ := inN_t (by omega) q2
    have e1 : xk.toNatClampNeg = k := by rw [ek]; exact nI_clamp (by omega)
    have har := ar_pos k
    rw [ek]
    refine h3 k σ _ hk hR.1.2.2.2.2.2.2.2.2.2 ?_
    refine h4 A.1 xa σ _ hA.1 hR.1 ?_
    refine br_c (fun q3 => ?_) (fun q3 => ?_)
    · have q3 := bI_0.mp q3
      exact And.intro trivial (no (by unfold gOK; rw [q3]; simp))
    have q3 := bI_n0.mp q3
    obtain ⟨a, ha, ea⟩ := inN_t (by omega) q3
    have e2 : xa.toNatClampNeg = a := by rw [ea]; exact nI_clamp (by omega)
    rw [ea]
    have yes : gOK (nN A.1) xk xa xb xc = true → ∀ b c b' c' : Nat, xb.toNatClampNeg = b → xc.toNatClampNeg = c → b' = (if 1 < ar k then b else a) → c' = (if 2 < ar k then c else a) → ∀ (v w : Int32), v = nI b' → w = nI c' → ∀ (P : Option jm_V → jm_G → Prop), (∀ τ, post (some (jI (nI (nN A.1)))) τ → P (some (jI (nI (nN A.1)))) τ) → C kX5_addGate [jR 2 0, jI (nI k), jI (nI a), jI v, jI w] (wI σ 0 0 (upd (σ.1 0 0) 8 (nI 0))) P := by
      intro qg b c b' c' eb ec hb' hc' v w hv hw2 P hP
      rw [hv, hw2]
      rw [qg, if_pos rfl, e1, e2, eb, ec] at hok
      rw [qg, if_pos rfl, if_pos rfl, e1, e2, eb, ec] at hp
      obtain ⟨g1, g2, g3, g4, g5⟩ := gOK_t h40 qg
      rw [e1, eb] at g4
      rw [e1, ec] at g5
      refine h5 A.1 k a b c b' c' (wI σ 0 0 (upd (σ.1 0 0) 8 (nI 0))) _ hA.1 hR.1 q hk ha g4 g5 hb' hc' fun τ o1 o2 => ?_
      obtain ⟨r1, r2⟩ := cR_new hR hA.1 hok.1 o2 o1 (agr_addG A.1 k a b c) (show nN A.1 ≤ nN A.1 + 1 by omega) (fun j hj => by
        have hj : isG (addG A.1 k a b c) j = false := hj
        rw [isG_addG, Bool.or_eq_false_iff] at hj
        exact hj.1)
      exact hP τ (hp τ hok r1 r2)
    rcases (show ar k = 1 ∨ ar k = 2 ∨ ar k = 3 by omega) with e | e | e
    · have qg : gOK (nN A.1) xk xa xb xc = true := by unfold gOK; rw [q2, q3, e1, e]; simpa using q
      rw [e]
      refine br_c (fun _ => ?_) (fun z => absurd (show nI 1 ≤ nI 1 from nI_le (by omega) (by omega)) z)
      refine br_c (fun _ => ?_) (fun z => absurd (show nI 1 ≤ nI 2 from nI_le (by omega) (by omega)) z)
      refine And.intro (Or.inl rfl) ?_
      refine br_c (fun _ => ?_) (fun z => absurd (show nI 1 ≤ nI 1 from nI_le (by omega) (by omega)) z)
      refine br_c (fun _ => ?_) (fun z => absurd (show nI 1 ≤ nI 2 from nI_le (by omega) (by omega)) z)
      exact yes qg _ _ a a rfl rfl (by rw [e, if_neg (by omega)]) (by rw [e, if_neg (by omega)]) (nI a) (nI a) rfl rfl _ fun τ ht => And.intro trivial ht
    · rw [e]
      refine br_c (fun z => absurd (show nI 2 ≤ nI 1 from z) (by decide)) (fun _ => ?_)
      refine h4 A.1 xb σ _ hA.1 hR.1 ?_
      refine br_c (fun q4 => ?_) (fun q4 => ?_)
      · have q4 := bI_0.mp q4
        exact And.intro trivial (no (by unfold gOK; rw [q4, e1, e]; simp))
      have q4 := bI_n0.mp q4
      obtain ⟨b, hb, eb⟩ := inN_t (by omega) q4
      have qg : gOK (nN A.1) xk xa xb xc = true := by unfold gOK; rw [q2, q3, q4, e1, e]; simpa using q
      refine br_c (fun _ => ?_) (fun z => absurd (show nI 2 ≤ nI 2 from nI_le (by omega) (by omega)) z)
      refine And.intro (Or.inl rfl) ?_
      refine br_c (fun z => absurd (show nI 2 ≤ nI 1 from z) (by decide)) (fun _ => ?_)
      refine br_c (fun _ => ?_) (fun z => absurd (show nI 2 ≤ nI 2 from nI_le (by omega) (by omega)) z)
      exact yes qg b _ b a (by rw [eb]; exact nI_clamp (by omega)) rfl (by rw [e, if_pos (by omega)]) (by rw [e, if_neg (by omega)]) xb (nI a) eb rfl _ fun τ ht => And.intro trivial ht
    · rw [e]
      refine br_c (fun z => absurd (show nI 3 ≤ nI 1 from z) (by decide)) (fun _ => ?_)
      refine h4 A.1 xb σ _ hA.1 hR.1 ?_
      refine br_c (fun q4 => ?_) (fun q4 => ?_)
      · have q4 := bI_0.mp q4
        exact And.intro trivial (no (by unfold gOK; rw [q4, e1, e]; simp))
      have q4 := bI_n0.mp q4
      obtain ⟨b, hb, eb⟩ := inN_t (by omega) q4
      refine br_c (fun z => absurd (show nI 3 ≤ nI 2 from z) (by decide)) (fun _ => ?_)
      refine h4 A.1 xc σ _ hA.1 hR.1 ?_
      refine br_c (fun q5 => ?_) (fun q5 => ?_)
      · have q5 := bI_0.mp q5
        exact And.intro trivial (no (by unfold gOK; rw [q5, e1, e]; simp))
      have q5 := bI_n0.mp q5
      obtain ⟨c, hc, ec⟩ := inN_t (by omega) q5
      have qg : gOK (nN A.1) xk xa xb xc = true := by unfold gOK; rw [q2, q3, q4, q5, e1, e]; simpa using q
      refine And.intro (Or.inl rfl) ?_
      refine br_c (fun z => absurd (show nI 3 ≤ nI 1 from z) (by decide)) (fun _ => ?_)
      refine br_c (fun z => absurd (show nI 3 ≤ nI 2 from z) (by decide)) (fun _ => ?_)
      exact yes qg b c b c (by rw [eb]; exact nI_clamp (by omega)) (by rw [ec]; exact nI_clamp (by omega)) (by rw [e, if_pos (by omega)]) (by rw [e, if_pos (by omega)]) xb xc eb ec _ fun τ ht => And.intro trivial ht
  · have q := bI_n0.mp q
    have q : ¬ nN A.1 < 40 := by simpa using q
    exact And.intro trivial (no (by unfold gOK; rw [show decide (nN A.1 < 40) = false by simpa using q]; simp))
