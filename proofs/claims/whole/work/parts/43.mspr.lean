/-! the model's search: comes, room, spreadsOut, spreadsIn -/
/-- what may be another: cells of these kinds, these places of the model -/
def mf (A B : List Nat) (σ τ : jm_G) : Prop := (∀ t i, t ≠ 38 → ¬ t ∈ A → τ.1 t i = σ.1 t i ∧ τ.2 t i = σ.2 t i) ∧ ∀ i f, ¬ f ∈ B → τ.1 38 i f = σ.1 38 i f ∧ τ.2 38 i f = σ.2 38 i f
theorem mf_refl (A B : List Nat) (σ : jm_G) : mf A B σ σ := ⟨fun _ _ _ _ => ⟨rfl, rfl⟩, fun _ _ _ => ⟨rfl, rfl⟩⟩
theorem mf_trans {A B : List Nat} {σ τ υ : jm_G} (h : mf A B σ τ) (k : mf A B τ υ) : mf A B σ υ := ⟨fun t i a b => ⟨(k.1 t i a b).1.trans (h.1 t i a b).1, (k.1 t i a b).2.trans (h.1 t i a b).2⟩, fun i f a => ⟨(k.2 i f a).1.trans (h.2 i f a).1, (k.2 i f a).2.trans (h.2 i f a).2⟩⟩
theorem mf_wide {A B A' B' : List Nat} {σ τ : jm_G} (h : mf A B σ τ) (h1 : ∀ t, t ∈ A → t ∈ A') (h2 : ∀ t, t ∈ B → t ∈ B') : mf A' B' σ τ := ⟨fun t i a b => h.1 t i a fun q => b (h1 t q), fun i f a => h.2 i f fun q => a (h2 f q)⟩
theorem mf_wI {A B : List Nat} {σ τ : jm_G} {t i : Nat} {f : Nat → Int32} (h : mf A B σ τ) (h1 : t ∈ A) (h2 : t ≠ 38) : mf A B σ (wI τ t i f) := ⟨fun a b q1 q2 => ⟨by rw [wI1, if_neg (fun e => q2 (by rw [e.1]; exact h1))]; exact (h.1 a b q1 q2).1, by rw [wI2]; exact (h.1 a b q1 q2).2⟩, fun a b q => ⟨by rw [wI1, if_neg (fun e => h2 e.1.symm)]; exact (h.2 a b q).1, by rw [wI2]; exact (h.2 a b q).2⟩⟩
theorem mf_wJ {A B : List Nat} {σ τ : jm_G} {t i : Nat} {f : Nat → Int64} (h : mf A B σ τ) (h1 : t ∈ A) (h2 : t ≠ 38) : mf A B σ (wJ τ t i f) := ⟨fun a b q1 q2 => ⟨by rw [wJ1]; exact (h.1 a b q1 q2).1, by rw [wJ2, if_neg (fun e => q2 (by rw [e.1]; exact h1))]; exact (h.1 a b q1 q2).2⟩, fun a b q => ⟨by rw [wJ1]; exact (h.2 a b q).1, by rw [wJ2, if_neg (fun e => h2 e.1.symm)]; exact (h.2 a b q).2⟩⟩
theorem mf_sF {A B : List Nat} {σ τ : jm_G} {k : Nat} {x : Int32} (h : mf A B σ τ) (h1 : k ∈ B) : mf A B σ (wI τ 38 0 (upd (τ.1 38 0) k x)) := ⟨fun a b q1 q2 => ⟨by rw [wI1, if_neg (fun e => q1 e.1)]; exact (h.1 a b q1 q2).1, by rw [wI2]; exact (h.1 a b q1 q2).2⟩, fun a b q => ⟨by
  rw [wI1]
  by_cases e : a = 0
  · rw [if_pos ⟨rfl, e⟩, upd_at, if_neg (fun e2 => q (by rw [e2]; exact h1)), ← (h.2 a b q).1, e]
  · rw [if_neg (fun e2 => e e2.2)]; exact (h.2 a b q).1, by rw [wI2]; exact (h.2 a b q).2⟩⟩
theorem mN_mf {N : nw} {A B : List Nat} {σ τ : jm_G} (h : mN N σ) (hm : mf A B σ τ) (h1 : ∀ t, t ∈ A → ¬ t ∈ [39, 40, 41, 42]) (h2 : ∀ t, t ∈ B → ¬ t ∈ [1, 6]) : mN N τ := by
  obtain ⟨a1, a2, a3, a4, a5, a6⟩ := h
  have e39 := hm.1 39 0 (by omega) (fun q => h1 39 q (by decide))
  have e40 := hm.1 40 0 (by omega) (fun q => h1 40 q (by decide))
  have e41 := hm.1 41 0 (by omega) (fun q => h1 41 q (by decide))
  have e42 := hm.1 42 0 (by omega) (fun q => h1 42 q (by decide))
  have f1 := (hm.2 0 1 (fun q => h2 1 q (by decide))).1
  have f6 := (hm.2 0 6 (fun q => h2 6 q (by decide))).2
  unfold mN
  rw [e39.1, e40.1, e41.1, e42.2, f1, f6]
  exact ⟨a1, a2, a3, a4, a5, a6⟩
def fN (o : Option Nat) : Int32 := match o with
  | some z => nI z
  | none => nI 1000
theorem fN_ne {o : Option Nat} (h : ∀ z, o = some z → z < 80) : fN o ≠ -(nI 1) := by
  cases o with
  | none => exact oN_none (by omega)
  | some z => exact oN_none (by have := h z rfl; omega)
def mQ (σ : jm_G) (q : Nat) (Q : Nat → Nat) (cf : Nat → Option Nat) : Prop :=
  σ.1 38 0 17 = nI q ∧ (∀ i, i < q → Q i < 80 ∧ σ.1 49 0 i = nI (Q i) ∧ σ.1 48 0 (Q i) = fN (cf (Q i)) ∧ ∀ z, cf (Q i) = some z → z < 80) ∧ one q Q ∧ ∀ x, x < 80 → (¬ ∃ i, i < q ∧ Q i = x) → σ.1 48 0 x = -(nI 1)
theorem mQ_q {σ : jm_G} {q y : Nat} {Q : Nat → Nat} {cf : Nat → Option Nat} (h : mQ σ q Q cf) (hy : y < 80) (hn : ¬ ∃ i, i < q ∧ Q i = y) : q < 80 := by
  have hn' : ∀ i, i < q → Q i ≠ y := fun i hi e => hn ⟨i, hi, e⟩
  have := fb_holes 80 (q + 1) (add1 q Q y) (fun i hi => by
    by_cases e : i = q
    · rw [e, add1_q]; exact hy
    · rw [add1_lt (by omega)]; exact (h.2.1 i (by omega)).1) (fun i j hij hj e => by
    have := one_add h.2.2.1 hn' i j (by omega) hj e
    omega)
  omega
theorem mQ_le {σ : jm_G} {q : Nat} {Q : Nat → Nat} {cf : Nat → Option Nat} (h : mQ σ q Q cf) : q ≤ 80 :=
  fb_holes 80 q Q (fun i hi => (h.2.1 i hi).1) (fun i j hij hj e => by have := h.2.2.1 i j (by omega) hj e; omega)
theorem sX_refl (q : Nat) (Q : Nat → Nat) (cf : Nat → Option Nat) (fr : Option Nat) : sX q Q cf q Q cf fr (fun _ => False) := ⟨Nat.le_refl _, fun _ _ => rfl, fun _ _ => rfl, fun i h1 h2 => absurd h2 (by omega), fun _ h => h.elim⟩
theorem sX_comp {q q1 q2 : Nat} {Q Q1 Q2 : Nat → Nat} {cf cf1 cf2 : Nat → Option Nat} {fr : Option Nat} {A B : Nat → Prop} (h : sX q Q cf q1 Q1 cf1 fr A) (k : sX q1 Q1 cf1 q2 Q2 cf2 fr B) : sX q Q cf q2 Q2 cf2 fr (fun y => A y ∨ B y) := by
  obtain ⟨h1, h2, h3, h4, h5⟩ := h
  obtain ⟨k1, k2, k3, k4, k5⟩ := k
  refine ⟨by omega, fun i hi => (k2 i (by omega)).trans (h2 i hi), fun i hi => ?_, fun i hi hi2 => ?_, fun y hy => ?_⟩
  · have := k3 i (by omega)
    rw [h2 i hi] at this
    rw [this]; exact h3 i hi
  · by_cases e : i < q1
    · have := h4 i hi e
      rw [k2 i e, k3 i e]
      exact ⟨Or.inl this.1, this.2⟩
    · have := k4 i (by omega) hi2
      exact ⟨Or.inr this.1, this.2⟩
  · rcases hy with hy | hy
    · obtain ⟨j, hj, e⟩ := h5 y hy
      exact ⟨j, by omega, by rw [k2 j hj]; exact e⟩
    · exact k5 y hy
theorem sX_iff {q q' : Nat} {Q Q' : Nat → Nat} {cf cf' : Nat → Option Nat} {fr : Option Nat} {A B : Nat → Prop} (h : sX q Q cf q' Q' cf' fr A) (e : ∀ y, A y ↔ B y) : sX q Q cf q' Q' cf' fr B := sX_w h (fun y => (e y).mp) (fun y hy => Or.inl ((e y).mpr hy))
abbrev ct_mcomes (C : jm_C) : Prop := ∀ (y q : Nat) (Q : Nat → Nat) (cf : Nat → Option Nat) (fr : Option Nat) (σ : jm_G) (post : Option jm_V → jm_G → Prop), y < 80 → (∀ z, fr = some z → z < 80) → mQ σ q Q cf →
  (∀ σ' q' Q' cf', mf [48, 49] [17] σ σ' → mQ σ' q' Q' cf' → sX q Q cf q' Q' cf' fr (fun w => w = y) → post none σ') → C kX10_comes [jR 38 0, jI (nI y), jI (fN fr)] σ post
theorem T_mcomes (L : Nat) {C : jm_C} (hC : jm_mon C) : ct_mcomes (jm_up L C) := by
  intro y q Q cf fr σ post hy hfr hQ hp
  refine jm_start rfl (Nat.le_of_ble_eq_true rfl) hC fun X hg hw => ?_
  have ey : (nI y).toNatClampNeg = y := nI_clamp (by omega)
  have hin : vp_in (nI y) 80 := vp_in_nI hy (by omega)
  obtain ⟨h17, hQ2, hd, hno⟩ := id hQ
  refine hg [] 60 _ ?_
  refine And.intro hin ?_
  by_cases hs : ∃ i, i < q ∧ Q i = y
  · obtain ⟨i, hi, e⟩ := id hs
    obtain ⟨-, -, h3, h4⟩ := hQ2 i hi
    refine br_c (fun h => ?_) (fun h => ?_)
    · have h : σ.1 48 0 (nI y).toNatClampNeg = -(nI 1) := h
      rw [ey, ← e, h3] at h
      exact absurd h (fN_ne h4)
    · exact And.intro trivial (hp σ q Q cf (mf_refl _ _ _) hQ (sX_w (sX_refl q Q cf fr) (fun _ h => h.elim) (fun w hw => Or.inr (by rw [hw]; exact hs))))
  · have hq80 := mQ_q hQ hy hs
    have hn : ∀ i, i < q → Q i ≠ y := fun i hi e => hs ⟨i, hi, e⟩
    refine br_c (fun h => ?_) (fun h => ?_)
    · refine And.intro hin ?_
      have e17 : (wI σ 48 0 (upd (σ.1 48 0) (nI y).toNatClampNeg (fN fr))).1 38 0 17 = nI q := by rw [wI1, if_neg (by omega)]; exact h17
      refine And.intro (show vp_in (σ.1 38 0 17) 80 by rw [h17]; exact vp_in_nI hq80 (by omega)) ?_
      refine And.intro trivial ?_
      refine hp _ (q + 1) (add1 q Q y) (addc cf y fr) (mf_sF (mf_wI (mf_wI (mf_refl _ _ _) (by decide) (by decide)) (by decide) (by decide)) (by decide)) ⟨?_, fun i hi => ?_, one_add hd hn, fun x hx hnx => ?_⟩ ⟨by omega, fun i hi => add1_lt hi, fun i hi => addc_n (hn i hi), fun i h1 h2 => ?_, fun w hw => ⟨q, by omega, by rw [add1_q, hw]⟩⟩
      · show upd (σ.1 38 0) 17 (σ.1 38 0 17 + nI 1) 17 = _
        rw [upd_at, if_pos rfl, h17, nI_add]
      · show _ ∧ upd (σ.1 49 0) (σ.1 38 0 17).toNatClampNeg (nI y) i = _ ∧ upd (σ.1 48 0) (nI y).toNatClampNeg (fN fr) (add1 q Q y i) = _ ∧ _
        rw [h17, nI_clamp (by omega), ey, upd_at, upd_at]
        by_cases e : i = q
        · rw [e, add1_q, if_pos rfl, if_pos rfl, addc_y]
          exact ⟨hy, rfl, rfl, hfr⟩
        · rw [add1_lt (by omega), if_neg e, if_neg (hn i (by omega)), addc_n (hn i (by omega))]
          exact hQ2 i (by omega)
      · show upd (σ.1 48 0) (nI y).toNatClampNeg (fN fr) x = _
        rw [ey, upd_at, if_neg]
        · refine hno x hx fun ⟨i, hi, e⟩ => hnx ⟨i, by omega, by rw [add1_lt hi]; exact e⟩
        · intro e
          exact hnx ⟨q, by omega, by rw [add1_q, e]⟩
      · have e : i = q := by omega
        rw [e, add1_q, addc_y]
        exact ⟨rfl, rfl⟩
    · have h : ¬ σ.1 48 0 (nI y).toNatClampNeg = -(nI 1) := h
      rw [ey] at h
      exact absurd (hno y hy hs) h
theorem c_mcomes {C : jm_C} (h : ct_mcomes C) {y q : Nat} {Q : Nat → Nat} {cf : Nat → Option Nat} {fr : Option Nat} {σ : jm_G} {post : Option jm_V → jm_G → Prop} {u v : Int32} (hu : u = nI y) (hv : v = fN fr) (hy : y < 80) (hfr : ∀ z, fr = some z → z < 80) (hQ : mQ σ q Q cf)
  (hp : ∀ σ' q' Q' cf', mf [48, 49] [17] σ σ' → mQ σ' q' Q' cf' → sX q Q cf q' Q' cf' fr (fun w => w = y) → post none σ') : C kX10_comes [jR 38 0, jI u, jI v] σ post := by
  subst hu; subst hv; exact h y q Q cf fr σ post hy hfr hQ hp
abbrev ct_mroom (C : jm_C) : Prop := ∀ (v m : Nat) (l : Nat → Nat) (σ : jm_G) (post : Option jm_V → jm_G → Prop), v < 40 → m < 2 ^ 31 → σ.1 44 0 v = nI (l v) → l v < 2 ^ 31 → post (some (jI (nI (rmV m l v)))) σ → C kX10_room [jR 38 0, jI (nI v), jI (nI m)] σ post
theorem T_mroom (L : Nat) {C : jm_C} (hC : jm_mon C) : ct_mroom (jm_up L C) := by
  intro v m l σ post hv hm h44 hl hp
  refine jm_start rfl (Nat.le_of_ble_eq_true rfl) hC fun X hg hw => ?_
  have ev : (nI v).toNatClampNeg = v := nI_clamp (by omega)
  refine hg [] 30 _ ?_
  refine And.intro (vp_in_nI hv (by omega)) ?_
  unfold rmV at hp
  refine br_c (fun h => ?_) (fun h => ?_)
  · have h : nI m ≤ σ.1 44 0 (nI v).toNatClampNeg := h
    rw [ev, h44, nI_leI (by omega) (by omega)] at h
    rw [if_neg (by omega)] at hp
    exact And.intro trivial hp
  · have h : ¬ nI m ≤ σ.1 44 0 (nI v).toNatClampNeg := h
    rw [ev, h44, nI_leI (by omega) (by omega)] at h
    rw [if_pos (by omega)] at hp
    exact And.intro trivial hp
def fR (σ : jm_G) (t : Nat → Nat) (a : Nat → Nat → Nat) : Prop := (∀ v, v < 40 → σ.1 46 0 v = nI (t v)) ∧ ∀ p k, p < 40 → k < 3 → σ.1 47 0 (3 * p + k) = nI (a p k)
theorem fR_mf {A B : List Nat} {σ τ : jm_G} {t : Nat → Nat} {a : Nat → Nat → Nat} (h : fR σ t a) (hm : mf A B σ τ) (h1 : ∀ x, x ∈ A → ¬ x ∈ [46, 47]) : fR τ t a := by
  unfold fR
  rw [(hm.1 46 0 (by omega) (fun q => h1 46 q (by decide))).1, (hm.1 47 0 (by omega) (fun q => h1 47 q (by decide))).1]
  exact h
theorem pos_0 {a : Nat} (h : a < 2 ^ 31) : nI a ≤ 0 ↔ a = 0 := by
  have : nI a ≤ nI 0 ↔ a ≤ 0 := nI_leI h (by omega)
  exact this.trans ⟨fun h => by omega, fun h => by omega⟩
theorem mN_src {N : nw} {σ : jm_G} (h : mN N σ) {u k : Nat} (hu : isG N u = true) (hk : k < 3) : σ.1 41 0 (3 * u + k) = srcI N u k := by
  rw [h.2.2.2.1 u (isG_lt hu) k hk]
  unfold sofI
  rw [if_pos hu]
theorem mN_gate {N : nw} {σ : jm_G} (hok : nw_ok N) (h : mN N σ) {u : Nat} (hu : u < nN N) : σ.1 39 0 u = nI 1 ↔ isG N u = true := by
  rw [h.2.1 u hu, nI_eq (by have := hok.2.1 u hu; omega) (by omega)]
  unfold isG
  rw [Bool.and_eq_true, decide_eq_true_eq]
  simp [hu]
abbrev ct_sprOut (C : jm_C) : Prop := ∀ (N : nw) (u q : Nat) (t : Nat → Nat) (a : Nat → Nat → Nat) (Q : Nat → Nat) (cf : Nat → Option Nat) (σ : jm_G) (post : Option jm_V → jm_G → Prop), nw_ok N → mN N σ → isG N u = true → fR σ t a → t u < 2 ^ 31 → mQ σ q Q cf →
  (∀ σ' q' Q' cf', mf [48, 49] [17] σ σ' → mQ σ' q' Q' cf' → sX q Q cf q' Q' cf' (some (40 + u)) (rmO N t u) → post none σ') → C kX10_spreadsOut [jR 38 0, jI (nI u)] σ post
theorem T_sprOut (L : Nat) {C : jm_C} (hC : jm_mon C) (h1 : ct_mcomes C) : ct_sprOut (jm_up L C) := by
  intro N u q t a Q cf σ post hok hN hgu hR ht hQ hp
  refine jm_start rfl (Nat.le_of_ble_eq_true rfl) hC fun X hg hw => ?_
  have h40 := hok.1
  have hun := isG_lt hgu
  have eu : (nI u).toNatClampNeg = u := nI_clamp (by omega)
  have hfr : ∀ z, some (40 + u) = some z → z < 80 := fun z e => by have := Option.some.inj e; omega
  have e40 : nI 40 + nI u = fN (some (40 + u)) := by rw [nI_add]; rfl
  refine hg [2] 30 _ ?_
  show X (σ, 2, [some (jR 38 0), some (jI (nI u)), some (jI (nI 0)), none], [])
  have gen : ∀ (m k : Nat), k + m = 3 → ∀ (τ : jm_G) (q' : Nat) (Q' : Nat → Nat) (cf' : Nat → Option Nat), mf [48, 49] [17] σ τ → mQ τ q' Q' cf' → sX q Q cf q' Q' cf' (some (40 + u)) (fun y => ∃ j, j < k ∧ slB N u j = true ∧ nR N u j = y) →
      X (τ, 2, [some (jR 38 0), some (jI (nI u)), some (jI (nI k)), none], []) := by
    intro m
    induction m with
    | zero =>
      intro k hkm τ q' Q' cf' hm hQ' hx
      have e : k = 3 := by omega
      subst e
      have hRt := fR_mf hR hm (by decide)
      refine hg [2] 40 _ ?_
      refine br_c (fun _ => ?_) (fun h => absurd (show nI 3 ≤ nI 3 from (nI_leI (by omega) (by omega)).mpr (Nat.le_refl _)) h)
      refine And.intro (vp_in_nI (by omega) (by omega)) ?_
      have et : τ.1 46 0 (nI u).toNatClampNeg = nI (t u) := by rw [eu]; exact hRt.1 u (by omega)
      refine br_c (fun h => ?_) (fun h => ?_)
      · have h : τ.1 46 0 (nI u).toNatClampNeg ≤ 0 := h
        rw [et, pos_0 ht] at h
        refine And.intro trivial (hp τ q' Q' cf' hm hQ' (sX_iff hx fun y => ⟨?_, ?_⟩))
        · rintro ⟨j, -, h2, h3⟩; exact Or.inl ⟨j, h2, h3⟩
        · rintro (⟨j, h2, h3⟩ | ⟨h2, -⟩)
          · exact ⟨j, (slB_lt hok h2).2.2, h2, h3⟩
          · omega
      · have h : ¬ τ.1 46 0 (nI u).toNatClampNeg ≤ 0 := h
        rw [et, pos_0 ht] at h
        refine c_mcomes h1 (y := u) rfl e40 (by omega) hfr hQ' fun σ' q2 Q2 cf2 o1 o2 o3 => ?_
        refine And.intro trivial (hp σ' q2 Q2 cf2 (mf_trans hm o1) o2 (sX_iff (sX_comp hx o3) fun y => ⟨?_, ?_⟩))
        · rintro (⟨j, -, h2, h3⟩ | h2)
          · exact Or.inl ⟨j, h2, h3⟩
          · exact Or.inr ⟨by omega, h2⟩
        · rintro (⟨j, h2, h3⟩ | ⟨-, h2⟩)
          · exact Or.inl ⟨j, (slB_lt hok h2).2.2, h2, h3⟩
          · exact Or.inr h2
    | succ m ih =>
      intro k hkm τ q' Q' cf' hm hQ' hx
      have hNt := mN_mf hN hm (by decide) (by decide)
      refine hg [2] 40 _ ?_
      refine br_c (fun h => ?_) (fun _ => ?_)
      · have h : nI 3 ≤ nI k := h
        rw [nI_leI (by omega) (by omega)] at h
        omega
      · refine And.intro (vp_in_nI (by omega) (by omega)) ?_
        refine br_c (fun _ => ?_) (fun h => ?_)
        · have es : τ.1 41 0 (nI 3 * nI u + nI k).toNatClampNeg = srcI N u k := by rw [n3I, nI_clamp (by omega)]; exact mN_src hNt hgu (by omega)
          refine And.intro (show vp_in (nI 3 * nI u + nI k) 120 by rw [n3I]; exact vp_in_nI (by omega) (by omega)) ?_
          unfold srcI at es
          by_cases hk : k < ar (nK N u)
          · rw [if_pos hk] at es
            have hr := nR_lt hok hgu hk
            refine br_c (fun h => ?_) (fun _ => ?_)
            · have h : τ.1 41 0 (nI 3 * nI u + nI k).toNatClampNeg < 0 := h
              rw [es] at h
              exact absurd h (nI_pos (by omega))
            · refine c_mcomes h1 (y := nR N u k) es e40 (by omega) hfr hQ' fun σ' q2 Q2 cf2 o1 o2 o3 => ?_
              refine hw _ _ _ [some (jR 38 0), some (jI (nI u)), some (jI (nI k + nI 1)), none] _ (by repeat' first | exact trivial | exact rfl | apply And.intro) ?_
              rw [nI_add]
              refine ih (k + 1) (by omega) σ' q2 Q2 cf2 (mf_trans hm o1) o2 (sX_iff (sX_comp hx o3) fun y => ⟨?_, ?_⟩)
              · rintro (⟨j, h0, h2, h3⟩ | h2)
                · exact ⟨j, by omega, h2, h3⟩
                · exact ⟨k, by omega, slB_iff.mpr ⟨hgu, hk⟩, h2.symm⟩
              · rintro ⟨j, h0, h2, h3⟩
                by_cases e : j = k
                · subst e; exact Or.inr h3.symm
                · exact Or.inl ⟨j, by omega, h2, h3⟩
          · rw [if_neg hk] at es
            refine br_c (fun _ => ?_) (fun h => ?_)
            · refine hw _ _ _ [some (jR 38 0), some (jI (nI u)), some (jI (nI k + nI 1)), none] _ (by repeat' first | exact trivial | exact rfl | apply And.intro) ?_
              rw [nI_add]
              refine ih (k + 1) (by omega) τ q' Q' cf' hm hQ' (sX_iff hx fun y => ⟨?_, ?_⟩)
              · rintro ⟨j, h0, h2, h3⟩; exact ⟨j, by omega, h2, h3⟩
              · rintro ⟨j, h0, h2, h3⟩
                by_cases e : j = k
                · subst e; exact absurd (slB_iff.mp h2).2 hk
                · exact ⟨j, by omega, h2, h3⟩
            · have h : ¬ τ.1 41 0 (nI 3 * nI u + nI k).toNatClampNeg < 0 := h
              rw [es] at h
              exact absurd m1_neg h
        · have h : ¬ τ.1 39 0 (nI u).toNatClampNeg = nI 1 := h
          rw [eu, mN_gate hok hNt hun] at h
          exact absurd hgu h
  exact gen 3 0 (by omega) σ q Q cf (mf_refl _ _ _) hQ (sX_iff (sX_refl q Q cf _) fun y => ⟨fun h => h.elim, fun ⟨j, h, _⟩ => absurd h (by omega)⟩)
