/-! WAYS without a shared node: how the component holds its flow; one more way -/
def wS (N : nw) (g C on : Nat) (ah : Nat → Option Nat) : Prop :=
  (∀ v, on.testBit v = true → fV N g C v) ∧ (∀ v, on.testBit v = true → ah v = none → ∃ c, C.testBit c = true ∧ (sM N c).testBit v = true) ∧ (∀ v u, on.testBit v = true → ah v = some u → on.testBit u = true ∧ (sM N u).testBit v = true) ∧
  (∀ u, on.testBit u = true → isG N u = true → ∃ v, on.testBit v = true ∧ ah v = some u) ∧ (∀ u v w, on.testBit v = true → on.testBit w = true → ah v = some u → ah w = some u → v = w)
def wt (on v : Nat) : Nat := if on.testBit v then 1 else 0
def we (on : Nat) (ah : Nat → Option Nat) (u v : Nat) : Nat := if on.testBit v = true ∧ ah v = some u then 1 else 0
def wsrc (on : Nat) (ah : Nat → Option Nat) (v : Nat) : Nat := if on.testBit v = true ∧ ah v = none then 1 else 0
theorem sm_one {u n : Nat} (h : u < n) {f : Nat → Nat} (h1 : f u = 1) (h0 : ∀ k, k ≠ u → f k = 0) : fb_sm f n = 1 := by
  induction n with
  | zero => omega
  | succ n ih =>
    rw [fb_sm_succ]
    by_cases e : u = n
    · subst e
      have : fb_sm f u = 0 := by
        rw [← sm_0 u]
        apply fb_sm_cong
        intro k hk
        exact h0 k (by omega)
      omega
    · rw [ih (by omega), h0 n (by omega)]
theorem sm_none {n : Nat} {f : Nat → Nat} (h0 : ∀ k, f k = 0) : fb_sm f n = 0 := by
  rw [← sm_0 n]
  exact fb_sm_cong fun k _ => h0 k
theorem fV_lt {N : nw} (hok : nw_ok N) {g C v : Nat} (h : fV N g C v) : v < 40 := by have := nB_lt_n hok h.1; have := hok.1; omega
theorem wS_fl {N : nw} (hok : nw_ok N) {g C on : Nat} {ah : Nat → Option Nat} (h : wS N g C on ah) : fl_ok N g C (wt on) (we on ah) (wsrc on ah) := by
  obtain ⟨h1, h2, h3, h4, h5⟩ := h
  refine ⟨fun v hv => ?_, fun u v hv => ?_, fun v => ?_, fun u hu => ?_, fun v => ?_⟩
  · unfold wsrc at hv
    split at hv
    · rename_i q; exact ⟨h1 v q.1, h2 v q.1 q.2⟩
    · exact absurd rfl hv
  · unfold we at hv
    split at hv
    · rename_i q
      obtain ⟨q1, q2⟩ := h3 v u q.1 q.2
      exact ⟨h1 u q1, q2, h1 v q.1⟩
    · exact absurd rfl hv
  · unfold wsrc wt
    cases hb : on.testBit v with
    | false =>
      rw [sm_none (fun u => by unfold we; simp [hb])]
      simp
    | true =>
      cases ha : ah v with
      | none =>
        rw [sm_none (fun u => by unfold we; simp [ha])]
        simp
      | some u =>
        have hu := fV_lt hok (h1 u (h3 v u hb ha).1)
        rw [sm_one hu (by unfold we; simp [hb, ha]) (fun k hk => by unfold we; simp [ha]; intro _; exact fun e => hk e.symm)]
        simp
  · unfold wt
    cases hb : on.testBit u with
    | true =>
      obtain ⟨v, hv, ha⟩ := h4 u hb hu
      have hv40 := fV_lt hok (h1 v hv)
      rw [sm_one hv40 (by unfold we; simp [hv, ha]) (fun k hk => by
        unfold we
        rw [if_neg]
        intro q
        exact hk (h5 u k v q.1 hv q.2 ha))]
      simp
    | false =>
      rw [sm_none (fun v => by
        unfold we
        rw [if_neg]
        intro q
        have := (h3 v u q.1 q.2).1
        rw [hb] at this
        cases this)]
      simp
  · unfold wt; split <;> omega
/-- residual steps between ends: the upper end of v is v, the lower one 40 + v -/
def rE (N : nw) (on : Nat) (ah : Nat → Option Nat) (x y : Nat) : Prop :=
  (x < 40 ∧ on.testBit x = false ∧ y = 40 + x) ∨ (∃ u, x < 40 ∧ on.testBit x = true ∧ ah x = some u ∧ y = 40 + u) ∨ (∃ u, x = 40 + u ∧ (sM N u).testBit y = true) ∨ (∃ u, x = 40 + u ∧ isG N u = true ∧ on.testBit u = true ∧ y = u)
def rS (N : nw) (C y : Nat) : Prop := C.testBit y = false ∧ ∃ c, C.testBit c = true ∧ (sM N c).testBit y = true
/-- the search: so many ends in a row, none twice, each come to from an earlier one; those of the first p looked at -/
def bQ (N : nw) (g C on : Nat) (ah : Nat → Option Nat) (Q : Nat → Nat) (q p : Nat) (cf : Nat → Option Nat) : Prop :=
  (∀ i j, i < q → j < q → Q i = Q j → i = j) ∧ (∀ i, i < q → ((Q i < 40 ∧ fV N g C (Q i)) ∨ (40 ≤ Q i ∧ fV N g C (Q i - 40)))) ∧
  (∀ i, i < q → (cf (Q i) = none ∧ rS N C (Q i) ∧ Q i < 40) ∨ ∃ j, j < i ∧ cf (Q i) = some (Q j) ∧ rE N on ah (Q j) (Q i)) ∧ (∀ y, rS N C y → ∃ i, i < q ∧ Q i = y) ∧ p ≤ q ∧
  (∀ i, i < p → (∀ y, rE N on ah (Q i) y → ∃ j, j < q ∧ Q j = y) ∧ ∀ u, Q i = 40 + u → isG N u = true)
/-- a search that is through: the nearest cut -/
theorem bQ_near {N : nw} (hok : nw_ok N) {g C on : Nat} {ah : Nat → Option Nat} {Q : Nat → Nat} {q : Nat} {cf : Nat → Option Nat} {I O : Nat} (hC : C_ok N g C) (hw : wS N g C on ah) (hb : bQ N g C on ah Q q q cf) (hI : ∀ v, I.testBit v = true ↔ v < 40 ∧ ∃ i, i < q ∧ Q i = v) (hO : ∀ v, O.testBit v = true ↔ v < 40 ∧ ∃ i, i < q ∧ Q i = 40 + v) :
    nearC N g C (sD I O) ∧ cnt (sD I O) 40 = fb_sm (wsrc on ah) 40 := by
  obtain ⟨b1, b2, b3, b4, b5, b6⟩ := hb
  have lower : ∀ i u, i < q → Q i = 40 + u → fV N g C u := fun i u hi e => by
    rcases b2 i hi with ⟨h, -⟩ | ⟨-, h⟩
    · omega
    · rw [e, show 40 + u - 40 = u by omega] at h; exact h
  have upper : ∀ i v, i < q → Q i = v → v < 40 → fV N g C v := fun i v hi e hv => by
    rcases b2 i hi with ⟨-, h⟩ | ⟨h, -⟩
    · rw [e] at h; exact h
    · omega
  refine flow_near hok hC (wS_fl hok hw) ⟨fun c v hc hs hv => ?_, fun u v hu hs => ?_, fun v hv ht => ?_, fun u v hv he => ?_, fun u hu ht => ?_⟩ (fun v hv => ?_) (fun v hv => ?_) (fun I' O' hcl => ?_)
  · obtain ⟨i, hi, e⟩ := b4 v ⟨hv, c, hc, hs⟩
    have h1 := sM_lt hok hs
    have h2 := isG_lt (src_of hs).1
    have := hok.1
    exact (hI v).mpr ⟨by omega, i, hi, e⟩
  · obtain ⟨hu40, i, hi, e⟩ := (hO u).mp hu
    obtain ⟨j, hj, e2⟩ := (b6 i hi).1 v (Or.inr (Or.inr (Or.inl ⟨u, e, hs⟩)))
    have h1 := sM_lt hok hs
    exact (hI v).mpr ⟨by omega, j, hj, e2⟩
  · obtain ⟨hv40, i, hi, e⟩ := (hI v).mp hv
    have hon : on.testBit v = false := by
      cases h : on.testBit v with
      | false => rfl
      | true => unfold wt at ht; rw [h] at ht; cases ht
    obtain ⟨j, hj, e2⟩ := (b6 i hi).1 (40 + v) (Or.inl ⟨by omega, by rw [e]; exact hon, by omega⟩)
    exact (hO v).mpr ⟨hv40, j, hj, e2⟩
  · obtain ⟨hv40, i, hi, e⟩ := (hI v).mp hv
    unfold we at he
    split at he
    · rename_i hq
      obtain ⟨j, hj, e2⟩ := (b6 i hi).1 (40 + u) (Or.inr (Or.inl ⟨u, by omega, by rw [e]; exact hq.1, by rw [e]; exact hq.2, rfl⟩))
      exact (hO u).mpr ⟨fV_lt hok (lower j u hj e2), j, hj, e2⟩
    · exact absurd rfl he
  · obtain ⟨hu40, i, hi, e⟩ := (hO u).mp hu
    have hon : on.testBit u = true := by
      cases h : on.testBit u with
      | true => rfl
      | false => unfold wt at ht; rw [h] at ht; exact absurd rfl ht
    obtain ⟨j, hj, e2⟩ := (b6 i hi).1 u (Or.inr (Or.inr (Or.inr ⟨u, e, (b6 i hi).2 u e, hon, rfl⟩)))
    exact (hI u).mpr ⟨hu40, j, hj, e2⟩
  · obtain ⟨hv40, i, hi, e⟩ := (hI v).mp hv
    exact upper i v hi e hv40
  · obtain ⟨hv40, i, hi, e⟩ := (hO v).mp hv
    exact ⟨lower i v hi e, (b6 i hi).2 v e⟩
  · obtain ⟨c1, c2, c3, c4, c5⟩ := hcl
    have all : ∀ i, i < q → (Q i < 40 → I' (Q i)) ∧ ∀ u, Q i = 40 + u → O' u := by
      intro i
      induction i using Nat.strongRecOn with
      | ind i ih =>
        intro hi
        rcases b3 i hi with ⟨-, ⟨hC9, c, hc, hs⟩, hlt⟩ | ⟨j, hj, -, hr⟩
        · exact ⟨fun _ => c1 c (Q i) hc hs hC9, fun u e => by omega⟩
        · obtain ⟨q1, q2⟩ := ih j hj (by omega)
          rcases hr with ⟨hx, hon, e⟩ | ⟨u, hx, hon, ha, e⟩ | ⟨u, e, hs⟩ | ⟨u, e, hg, hon, e2⟩
          · refine ⟨fun h => by omega, fun u eu => ?_⟩
            have : u = Q j := by omega
            rw [this]
            exact c3 _ (q1 hx) (by unfold wt; simp [hon])
          · refine ⟨fun h => by omega, fun w ew => ?_⟩
            have : w = u := by omega
            rw [this]
            exact c4 u (Q j) (q1 hx) (by unfold we; rw [if_pos ⟨hon, ha⟩]; omega)
          · have h1 := sM_lt hok hs
            have h2 := isG_lt (src_of hs).1
            have := hok.1
            exact ⟨fun _ => c2 u (Q i) (q2 u e) hs, fun w ew => by omega⟩
          · have h2 := isG_lt hg
            have := hok.1
            refine ⟨fun _ => ?_, fun w ew => by omega⟩
            rw [e2]
            exact c5 u (q2 u e) (by unfold wt; simp [hon])
    refine ⟨fun v hv => ?_, fun v hv => ?_⟩
    · obtain ⟨hv40, i, hi, e⟩ := (hI v).mp hv
      have := (all i hi).1 (by omega)
      rwa [e] at this
    · obtain ⟨hv40, i, hi, e⟩ := (hO v).mp hv
      exact (all i hi).2 v e
/-! one more way: a path P of ends, from a start to the lower end of a leaf, each with the one that it was come to from -/
def pth (N : nw) (g C on : Nat) (ah cf : Nat → Option Nat) (leaf : Nat) (P : Nat → Prop) : Prop :=
  P (40 + leaf) ∧ (∀ x z, P x → cf x = some z → P z ∧ rE N on ah z x) ∧ (∀ x, P x → cf x = none → x < 40 ∧ rS N C x) ∧ (∀ x, P x → x ≠ 40 + leaf → ∃ y, P y ∧ cf y = some x) ∧ (∀ x y, P x → P y → cf x = cf y → x = y) ∧ (∀ x, P x → ((x < 40 ∧ fV N g C x) ∨ (40 ≤ x ∧ fV N g C (x - 40)))) ∧ isG N leaf = false ∧ leaf < 40 ∧ ∃ x, P x ∧ cf x = none
/-- behind it -/
def pOn (on : Nat) (cf : Nat → Option Nat) (P : Nat → Prop) (v : Nat) (b : Prop) : Prop := (P (40 + v) ∧ cf (40 + v) = some v) → b
def pNew (on on' : Nat) (ah ah' cf : Nat → Option Nat) (P : Nat → Prop) : Prop :=
  ∀ v, v < 40 → ((P (40 + v) ∧ cf (40 + v) = some v → on'.testBit v = true) ∧ (P v ∧ cf v = some (40 + v) → on'.testBit v = false) ∧ (¬ (P (40 + v) ∧ cf (40 + v) = some v) → ¬ (P v ∧ cf v = some (40 + v)) → on'.testBit v = on.testBit v)) ∧
    ((P v ∧ cf v ≠ some (40 + v) → ah' v = (cf v).map (fun z => z - 40)) ∧ (¬ (P v ∧ cf v ≠ some (40 + v)) → ah' v = ah v))
theorem pth_ws {N : nw} (hok : nw_ok N) {g C on on' leaf : Nat} {ah ah' cf : Nat → Option Nat} {P : Nat → Prop} (hC : C_ok N g C) (hw : wS N g C on ah) (hp : pth N g C on ah cf leaf P) (hn : pNew on on' ah ah' cf P) (hlt : on' < 2 ^ 40) : wS N g C on' ah' ∧ fb_sm (wsrc on' ah') 40 = fb_sm (wsrc on ah) 40 + 1 := by
  obtain ⟨w1, w2, w3, w4, w5⟩ := hw
  obtain ⟨p1, p2, p3, p4, p5, p6, p7, p8, p9⟩ := hp
  -- what an upper end on the path is come to from
  have up : ∀ v, v < 40 → P v → (cf v = none ∧ rS N C v) ∨ (∃ u, cf v = some (40 + u) ∧ (sM N u).testBit v = true ∧ u ≠ v) ∨ (cf v = some (40 + v) ∧ on.testBit v = true ∧ isG N v = true) := by
    intro v hv hP
    cases hc : cf v with
    | none => exact Or.inl ⟨rfl, (p3 v hP hc).2⟩
    | some z =>
      obtain ⟨-, hr⟩ := p2 v z hP hc
      rcases hr with ⟨hx, hon, e⟩ | ⟨u, hx, hon, ha, e⟩ | ⟨u, e, hs⟩ | ⟨u, e, hg, hon, e2⟩
      · omega
      · omega
      · exact Or.inr (Or.inl ⟨u, by rw [e], hs, by have := sM_lt hok hs; omega⟩)
      · subst e2; exact Or.inr (Or.inr ⟨by rw [e], hon, hg⟩)
  -- where it goes on to
  have upS : ∀ v, v < 40 → P v → (on.testBit v = false ∧ P (40 + v) ∧ cf (40 + v) = some v) ∨ (on.testBit v = true ∧ ∃ u, ah v = some u ∧ P (40 + u) ∧ cf (40 + u) = some v) := by
    intro v hv hP
    obtain ⟨y, hy, hc⟩ := p4 v hP (by omega)
    obtain ⟨-, hr⟩ := p2 y v hy hc
    rcases hr with ⟨hx, hon, e⟩ | ⟨u, hx, hon, ha, e⟩ | ⟨u, e, hs⟩ | ⟨u, e, hg, hon, e2⟩
    · subst e; exact Or.inl ⟨hon, hy, hc⟩
    · subst e; exact Or.inr ⟨hon, u, ha, hy, hc⟩
    · omega
    · omega
  -- a lower end
  have lo : ∀ u, u < 40 → P (40 + u) → (cf (40 + u) = some u ∧ on.testBit u = false ∧ P u) ∨ (∃ w, w < 40 ∧ cf (40 + u) = some w ∧ on.testBit w = true ∧ ah w = some u ∧ P w ∧ on.testBit u = true) := by
    intro u hu hP
    cases hc : cf (40 + u) with
    | none => have := (p3 _ hP hc).1; omega
    | some z =>
      obtain ⟨hz, hr⟩ := p2 _ z hP hc
      rcases hr with ⟨hx, hon, e⟩ | ⟨w, hx, hon, ha, e⟩ | ⟨w, e, hs⟩ | ⟨w, e, hg, hon, e2⟩
      · have : z = u := by omega
        subst this
        exact Or.inl ⟨rfl, hon, hz⟩
      · have : w = u := by omega
        subst this
        exact Or.inr ⟨z, hx, rfl, hon, ha, hz, (w3 z w hon ha).1⟩
      · have h1 := sM_lt hok hs
        have h2 := isG_lt (src_of hs).1
        have := hok.1
        omega
      · have h2 := isG_lt hg
        have := hok.1
        omega
  -- the new picture by the old
  have notboth : ∀ v, v < 40 → ¬ ((P (40 + v) ∧ cf (40 + v) = some v) ∧ (P v ∧ cf v = some (40 + v))) := by
    rintro v hv ⟨⟨h1, h2⟩, h3, h4⟩
    rcases lo v hv h1 with ⟨-, hon, -⟩ | ⟨w, -, hc, hon, ha, -, -⟩
    · rcases up v hv h3 with ⟨h5, -⟩ | ⟨u, h5, -, h6⟩ | ⟨-, h5, -⟩
      · rw [h5] at h4; cases h4
      · rw [h5] at h4
        have e := Option.some.inj h4
        have e2 : u = v := by omega
        exact h6 e2
      · rw [hon] at h5; cases h5
    · rw [hc] at h2
      cases h2
      have := (w3 v v hon ha).2
      have := sM_lt hok this
      omega
  have N1 : ∀ v, v < 40 → P v → cf v ≠ some (40 + v) → on'.testBit v = true ∧ ah' v = (cf v).map (fun z => z - 40) := by
    intro v hv hP hne
    refine ⟨?_, (hn v hv).2.1 ⟨hP, hne⟩⟩
    rcases upS v hv hP with ⟨-, h1, h2⟩ | ⟨hon, u, ha, h1, h2⟩
    · exact (hn v hv).1.1 ⟨h1, h2⟩
    · by_cases q : P (40 + v) ∧ cf (40 + v) = some v
      · exact (hn v hv).1.1 q
      · rw [(hn v hv).1.2.2 q (fun z => hne z.2)]; exact hon
  have N2 : ∀ v, v < 40 → P v → cf v = some (40 + v) → on'.testBit v = false := fun v hv hP he => (hn v hv).1.2.1 ⟨hP, he⟩
  have N3 : ∀ v, v < 40 → ¬ P v → on'.testBit v = on.testBit v ∧ ah' v = ah v := by
    intro v hv hP
    refine ⟨(hn v hv).1.2.2 (fun q => ?_) (fun q => hP q.1), (hn v hv).2.2 (fun q => hP q.1)⟩
    exact hP (p2 _ v q.1 q.2).1
  have lt' : ∀ v, on'.testBit v = true → v < 40 := fun v hv => bit_lt hlt hv
  -- who is behind u on a way now
  have Z : ∀ u v, v < 40 → (on'.testBit v = true ∧ ah' v = some u ↔ (¬ P v ∧ on.testBit v = true ∧ ah v = some u) ∨ (P v ∧ cf v = some (40 + u) ∧ u ≠ v)) := by
    intro u v hv
    by_cases hP : P v
    · rcases up v hv hP with ⟨h5, hS⟩ | ⟨w, h5, hs, hne⟩ | ⟨h5, hon, hg⟩
      · obtain ⟨q1, q2⟩ := N1 v hv hP (by rw [h5]; simp)
        rw [h5] at q2
        simp only [Option.map_none] at q2
        rw [q2]
        simp [hP, h5]
      · obtain ⟨q1, q2⟩ := N1 v hv hP (by rw [h5]; simp; exact hne)
        rw [h5] at q2
        simp only [Option.map_some] at q2
        rw [q1, q2]
        simp only [hP, h5, not_true, false_and, false_or, true_and, Option.some.injEq, show 40 + w - 40 = w by omega]
        constructor
        · intro e; subst e; exact ⟨rfl, hne⟩
        · rintro ⟨e, -⟩; omega
      · have q1 := N2 v hv hP h5
        rw [q1]
        simp only [hP, h5, not_true, false_and, false_or, true_and, Option.some.injEq, Bool.false_eq_true]
        constructor
        · intro h; exact h.elim
        · rintro ⟨e, hne⟩; omega
    · obtain ⟨q1, q2⟩ := N3 v hv hP
      rw [q1, q2]
      simp [hP]
  have onV : ∀ v, on'.testBit v = true → fV N g C v := by
    intro v hv
    have hv40 := lt' v hv
    by_cases hP : P v
    · rcases p6 v hP with ⟨-, h⟩ | ⟨h, -⟩
      · exact h
      · omega
    · rw [(N3 v hv40 hP).1] at hv; exact w1 v hv
  have lowU : ∀ u, u < 40 → P (40 + u) → fV N g C u := fun u hu hP => by
    rcases p6 _ hP with ⟨h, -⟩ | ⟨-, h⟩
    · omega
    · rwa [show 40 + u - 40 = u by omega] at h
  refine ⟨⟨onV, fun v hv ha => ?_, fun v u hv ha => ?_, fun u hu hg => ?_, fun u v w hv hw' ha hb => ?_⟩, ?_⟩
  · -- a start
    have hv40 := lt' v hv
    by_cases hP : P v
    · rcases up v hv40 hP with ⟨h5, hS⟩ | ⟨w, h5, hs, hne⟩ | ⟨h5, hon, hg⟩
      · exact hS.2
      · obtain ⟨-, q2⟩ := N1 v hv40 hP (by rw [h5]; simp; exact hne)
        rw [h5, ha] at q2
        cases q2
      · rw [N2 v hv40 hP h5] at hv; cases hv
    · obtain ⟨q1, q2⟩ := N3 v hv40 hP
      exact w2 v (by rw [← q1]; exact hv) (by rw [← q2]; exact ha)
  · -- what is ahead is on a way
    have hv40 := lt' v hv
    rcases (Z u v hv40).mp ⟨hv, ha⟩ with ⟨hP, hon, ha0⟩ | ⟨hP, hc, hne⟩
    · obtain ⟨q1, q2⟩ := w3 v u hon ha0
      have hu40 := fV_lt hok (w1 u q1)
      refine ⟨?_, q2⟩
      by_cases hPu : P u
      · by_cases hcu : cf u = some (40 + u)
        · -- u leaves the ways: its lower end was come to from v's upper end
          obtain ⟨hlu, -⟩ := p2 u _ hPu hcu
          rcases lo u hu40 hlu with ⟨-, h6, -⟩ | ⟨w, hw40, hcw, honw, haw, hPw, -⟩
          · rw [q1] at h6; cases h6
          · have := w5 u v w hon honw ha0 haw
            subst this
            exact absurd hPw hP
        · exact (N1 u hu40 hPu hcu).1
      · rw [(N3 u hu40 hPu).1]; exact q1
    · obtain ⟨hlu, hr⟩ := p2 v _ hP hc
      have hes : (sM N u).testBit v = true := by
        rcases up v hv40 hP with ⟨h5, -⟩ | ⟨w, h5, hs, -⟩ | ⟨h5, -, -⟩
        · rw [h5] at hc; cases hc
        · rw [h5] at hc
          have e := Option.some.inj hc
          have e2 : w = u := by omega
          subst e2
          exact hs
        · rw [h5] at hc
          have : u = v := by have e := Option.some.inj hc; omega
          exact absurd this hne
      refine ⟨?_, hes⟩
      have h2 := isG_lt (src_of hes).1
      have hu40 : u < 40 := by have := hok.1; omega
      rcases lo u hu40 hlu with ⟨h6, -, -⟩ | ⟨w, hw40, hcw, honw, haw, hPw, honu⟩
      · exact (hn u hu40).1.1 ⟨hlu, h6⟩
      · by_cases q : P (40 + u) ∧ cf (40 + u) = some u
        · exact (hn u hu40).1.1 q
        · rw [(hn u hu40).1.2.2 q ?_]; exact honu
          rintro ⟨hPu, hcu⟩
          have := p5 u v hPu hP (by rw [hcu, hc])
          exact hne this
  · -- behind a gate on a way there is one
    have hu40 := lt' u hu
    by_cases hlu : P (40 + u)
    · -- where the path goes on from u's lower end
      have hne : 40 + u ≠ 40 + leaf := fun e => by
        have : u = leaf := by omega
        subst this
        rw [p7] at hg; cases hg
      obtain ⟨y, hy, hc⟩ := p4 _ hlu hne
      obtain ⟨-, hr⟩ := p2 y _ hy hc
      rcases hr with ⟨hx, -, -⟩ | ⟨z, hx, -, -, -⟩ | ⟨z, e, hs⟩ | ⟨z, e, hgz, hon, e2⟩
      · omega
      · omega
      · have : z = u := by omega
        subst this
        have h1 := sM_lt hok hs
        have hy40 : y < 40 := by omega
        exact ⟨y, (Z z y hy40).mpr (Or.inr ⟨hy, hc, by omega⟩)⟩
      · have : z = u := by omega
        subst this
        subst e2
        rw [N2 y hu40 hy hc] at hu
        cases hu
    · have hon : on.testBit u = true := by
        by_cases hPu : P u
        · by_cases hcu : cf u = some (40 + u)
          · exact absurd (p2 u _ hPu hcu).1 hlu
          · rcases upS u hu40 hPu with ⟨-, h, -⟩ | ⟨h, -⟩
            · exact absurd h hlu
            · exact h
        · rw [← (N3 u hu40 hPu).1]; exact hu
      obtain ⟨v, hv, ha⟩ := w4 u hon hg
      have hv40 := fV_lt hok (w1 v hv)
      refine ⟨v, (Z u v hv40).mpr (Or.inl ⟨fun hP => ?_, hv, ha⟩)⟩
      rcases upS v hv40 hP with ⟨h, -⟩ | ⟨-, w, haw, hlw, -⟩
      · rw [hv] at h; cases h
      · rw [ha] at haw; cases haw; exact hlu hlw
  · -- and just one
    have hv40 := lt' v hv
    have hw40 := lt' w hw'
    rcases (Z u v hv40).mp ⟨hv, ha⟩ with ⟨hP, hon, ha0⟩ | ⟨hP, hc, hne⟩
    · rcases (Z u w hw40).mp ⟨hw', hb⟩ with ⟨hQ, hon2, hb0⟩ | ⟨hQ, hc2, hne2⟩
      · exact w5 u v w hon hon2 ha0 hb0
      · -- w is new behind u: then u's lower end is on the path, come to from v: but v isn't
        obtain ⟨hlu, -⟩ := p2 w _ hQ hc2
        have hu40 := fV_lt hok (w1 u (w3 v u hon ha0).1)
        rcases lo u hu40 hlu with ⟨-, h6, -⟩ | ⟨z, hz40, hcz, honz, haz, hPz, -⟩
        · have := (w3 v u hon ha0).1
          rw [h6] at this; cases this
        · have := w5 u v z hon honz ha0 haz
          subst this
          exact absurd hPz hP
    · rcases (Z u w hw40).mp ⟨hw', hb⟩ with ⟨hQ, hon2, hb0⟩ | ⟨hQ, hc2, hne2⟩
      · obtain ⟨hlu, -⟩ := p2 v _ hP hc
        have hu40 := fV_lt hok (w1 u (w3 w u hon2 hb0).1)
        rcases lo u hu40 hlu with ⟨-, h6, -⟩ | ⟨z, hz40, hcz, honz, haz, hPz, -⟩
        · have := (w3 w u hon2 hb0).1
          rw [h6] at this; cases this
        · have := w5 u w z hon2 honz hb0 haz
          subst this
          exact absurd hPz hQ
      · exact p5 v w hP hQ (by rw [hc, hc2])
  · -- one start more
    obtain ⟨x, hx, hcx⟩ := p9
    have hx40 := (p3 x hx hcx).1
    have key : ∀ v, v < 40 → wsrc on' ah' v = wsrc on ah v + (if v = x then 1 else 0) := by
      intro v hv
      unfold wsrc
      by_cases hP : P v
      · have h0 : ¬ (on.testBit v = true ∧ ah v = none) := by
          rintro ⟨q1, q2⟩
          rcases upS v hv hP with ⟨h, -⟩ | ⟨-, w, haw, -⟩
          · rw [q1] at h; cases h
          · rw [q2] at haw; cases haw
        rw [if_neg h0]
        rcases up v hv hP with ⟨h5, hS⟩ | ⟨w, h5, hs, hne⟩ | ⟨h5, hon, hg⟩
        · obtain ⟨q1, q2⟩ := N1 v hv hP (by rw [h5]; simp)
          rw [h5] at q2
          have : v = x := p5 v x hP hx (by rw [h5, hcx])
          rw [if_pos ⟨q1, q2⟩, if_pos this]
        · obtain ⟨q1, q2⟩ := N1 v hv hP (by rw [h5]; simp; exact hne)
          rw [h5] at q2
          have hvx : v ≠ x := fun e => by rw [e, hcx] at h5; cases h5
          rw [if_neg (by rw [q2]; simp), if_neg hvx]
        · have q1 := N2 v hv hP h5
          have hvx : v ≠ x := fun e => by rw [e, hcx] at h5; cases h5
          rw [if_neg (by rw [q1]; simp), if_neg hvx]
      · obtain ⟨q1, q2⟩ := N3 v hv hP
        have hvx : v ≠ x := fun e => hP (by rw [e]; exact hx)
        rw [q1, q2, if_neg hvx]
        rfl
    rw [fb_sm_cong key, fb_sm_add, sm_one hx40 (f := fun v => if v = x then 1 else 0) (by simp) (fun k hk => by simp [hk])]
