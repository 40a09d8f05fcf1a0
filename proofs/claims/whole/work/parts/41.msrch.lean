/-! the model's search: where it is through, the nearest fewest -/
def gQ (r : Nat → Nat → Prop) (S : Nat → Prop) (Q : Nat → Nat) (q : Nat) (cf : Nat → Option Nat) : Prop :=
  one q Q ∧ ∀ i, i < q → (cf (Q i) = none ∧ S (Q i)) ∨ ∃ j, j < i ∧ cf (Q i) = some (Q j) ∧ r (Q j) (Q i)
theorem gh_down {r : Nat → Nat → Prop} {S : Nat → Prop} {Q : Nat → Nat} {q : Nat} {cf : Nat → Option Nat} (hb : gQ r S Q q cf) {s a i : Nat} (ha : ch cf s a = some (Q i)) (hi : i < q) : ∀ (k x : Nat), ch cf s (a + k) = some x → ∃ j, j + k ≤ i ∧ Q j = x := by
  intro k
  induction k with
  | zero =>
    intro x hx
    rw [Nat.add_zero, ha] at hx
    exact ⟨i, by omega, Option.some.inj hx⟩
  | succ k ih =>
    intro x hx
    obtain ⟨y, h1, h2⟩ := ch_pred (n := a + k) hx
    obtain ⟨j, hj, e⟩ := ih y h1
    rcases hb.2 j (by omega) with ⟨h3, -⟩ | ⟨l, hl, h3, -⟩
    · rw [e, h2] at h3; cases h3
    · rw [e, h2] at h3
      exact ⟨l, by omega, (Option.some.inj h3).symm⟩
theorem gh_one {r : Nat → Nat → Prop} {S : Nat → Prop} {Q : Nat → Nat} {q p : Nat} {cf : Nat → Option Nat} (hb : gQ r S Q q cf) (hp : p < q) {a b x : Nat} (h1 : ch cf (Q p) a = some x) (h2 : ch cf (Q p) b = some x) : a = b := by
  have key : ∀ a b, a < b → ch cf (Q p) a = some x → ch cf (Q p) b = some x → False := by
    intro a b hab h1 h2
    obtain ⟨i, hi, e⟩ := gh_down hb (a := 0) (i := p) rfl hp a x (by rw [Nat.zero_add]; exact h1)
    have h1' := h1
    rw [← e] at h1'
    obtain ⟨j, hj, e2⟩ := gh_down hb h1' (by omega) (b - a) x (by rw [show a + (b - a) = b by omega]; exact h2)
    have := hb.1 i j (by omega) (by omega) (by rw [e, e2])
    omega
  rcases Nat.lt_trichotomy a b with h | h | h
  · exact (key a b h h1 h2).elim
  · exact h
  · exact (key b a h h2 h1).elim
theorem gh_far {r : Nat → Nat → Prop} {S : Nat → Prop} {Q : Nat → Nat} {q p : Nat} {cf : Nat → Option Nat} (hb : gQ r S Q q cf) (hp : p < q) {n : Nat} (hn : p < n) : ch cf (Q p) n = none := by
  cases h : ch cf (Q p) n with
  | none => rfl
  | some x =>
    obtain ⟨j, hj, -⟩ := gh_down hb (a := 0) (i := p) rfl hp n x (by rw [Nat.zero_add]; exact h)
    omega
theorem gh_at {r : Nat → Nat → Prop} {S : Nat → Prop} {Q : Nat → Nat} {q p : Nat} {cf : Nat → Option Nat} (hb : gQ r S Q q cf) (hp : p < q) {n x : Nat} (h : ch cf (Q p) n = some x) : ∃ i, i < q ∧ Q i = x := by
  obtain ⟨j, hj, e⟩ := gh_down hb (a := 0) (i := p) rfl hp n x (by rw [Nat.zero_add]; exact h)
  exact ⟨j, by omega, e⟩
theorem gf_asym {r : Nat → Nat → Prop} {S : Nat → Prop} {Q : Nat → Nat} {q : Nat} {cf : Nat → Option Nat} (hb : gQ r S Q q cf) {x y : Nat} (hx : ∃ i, i < q ∧ Q i = x) (hy : ∃ i, i < q ∧ Q i = y) (h1 : cf x = some y) (h2 : cf y = some x) : False := by
  obtain ⟨i, hi, e⟩ := hx
  obtain ⟨j, hj, f⟩ := hy
  have a : j < i := by
    rcases hb.2 i hi with ⟨h3, -⟩ | ⟨l, hl, h3, -⟩
    · rw [e, h1] at h3; cases h3
    · rw [e, h1] at h3
      have := hb.1 j l hj (by omega) (by rw [f]; exact Option.some.inj h3)
      omega
  have b : i < j := by
    rcases hb.2 j hj with ⟨h3, -⟩ | ⟨l, hl, h3, -⟩
    · rw [f, h2] at h3; cases h3
    · rw [f, h2] at h3
      have := hb.1 i l hi (by omega) (by rw [e]; exact Option.some.inj h3)
      omega
  omega
/-- a step of the model's search -/
def rmO (N : nw) (t : Nat → Nat) (u y : Nat) : Prop := (∃ k, slB N u k = true ∧ nR N u k = y) ∨ (0 < t u ∧ y = u)
def rmI (N : nw) (g m : Nat) (l t : Nat → Nat) (a : Nat → Nat → Nat) (x y : Nat) : Prop := (y = 40 + x ∧ t x < (if l x < m then 1 else 1000)) ∨ ∃ p k, y = 40 + p ∧ iN N g p ∧ slB N p k = true ∧ nR N p k = x ∧ 0 < a p k
def rMs (N : nw) (g m : Nat) (l t : Nat → Nat) (a : Nat → Nat → Nat) (x y : Nat) : Prop :=
  (∃ u, x = 40 + u ∧ isG N u = true ∧ rmO N t u y) ∨ (x < 40 ∧ x ≠ g ∧ rmI N g m l t a x y)
def eI (N : nw) (g y : Nat) : Prop := (y < 40 ∧ iN N g y) ∨ (40 ≤ y ∧ y < 80 ∧ iN N g (y - 40))
def bM (N : nw) (g m : Nat) (l t : Nat → Nat) (a : Nat → Nat → Nat) (Q : Nat → Nat) (q p : Nat) (cf : Nat → Option Nat) : Prop :=
  gQ (rMs N g m l t a) (fun x => x = 40 + g) Q q cf ∧ (0 < q ∧ Q 0 = 40 + g) ∧ p ≤ q ∧ (∀ i, i < q → eI N g (Q i)) ∧ ∀ i, i < p → (∀ y, rMs N g m l t a (Q i) y → ∃ j, j < q ∧ Q j = y) ∧ ∀ u, Q i = 40 + u → isG N u = true
theorem iN_lt {N : nw} (hok : nw_ok N) {g v : Nat} (hg : g < 40) (h : iN N g v) : v < 40 ∧ v ≤ g := by
  rcases h with e | e
  · exact ⟨by omega, by omega⟩
  · have := nB_lt hok _ _ e
    exact ⟨by omega, by omega⟩
theorem iN_src {N : nw} (hok : nw_ok N) {g u v : Nat} (h : iN N g u) (hs : (sM N u).testBit v = true) : (nB N g).testBit v = true := by
  rcases h with e | e
  · rw [← e]; exact nB_src hok hs
  · exact nB_trans hok _ _ _ e hs
theorem rMs_eI {N : nw} (hok : nw_ok N) {g m F x y : Nat} {l t : Nat → Nat} {a : Nat → Nat → Nat} (hg : g < 40) (hf : mF N g m l t a F) (hx : eI N g x) (h : rMs N g m l t a x y) : eI N g y := by
  rcases h with ⟨u, e, hgu, ⟨k, h1, h2⟩ | ⟨h1, h2⟩⟩ | ⟨hx4, hne, ⟨h1, -⟩ | ⟨p, k, h1, h2, -⟩⟩
  · have hu : iN N g u := by
      rcases hx with ⟨q, -⟩ | ⟨-, -, q⟩
      · omega
      · rw [e, show 40 + u - 40 = u by omega] at q; exact q
    have hs : (sM N u).testBit y = true := by rw [← h2]; exact nR_src (slB_iff.mp h1).1 (slB_iff.mp h1).2
    have := iN_src hok hu hs
    exact Or.inl ⟨bit_lt (nB_lt40 hok g) this, Or.inr this⟩
  · have := hf.1 u (by omega)
    rw [h2]
    exact Or.inl ⟨bit_lt (nB_lt40 hok g) this, Or.inr this⟩
  · rcases hx with ⟨-, q⟩ | ⟨q, -⟩
    · refine Or.inr ⟨by omega, by omega, ?_⟩
      rw [h1, show 40 + x - 40 = x by omega]; exact q
    · omega
  · have := iN_lt hok hg h2
    refine Or.inr ⟨by omega, by omega, ?_⟩
    rw [h1, show 40 + p - 40 = p by omega]; exact h2
theorem bM_step {N : nw} (hok : nw_ok N) {g m F : Nat} {l t : Nat → Nat} {a : Nat → Nat → Nat} {Q Q' : Nat → Nat} {q q' p : Nat} {cf cf' : Nat → Option Nat} (hg : g < 40) (hf : mF N g m l t a F) (hb : bM N g m l t a Q q p cf) (hp : p < q) (hd : one q' Q') (hx : sX q Q cf q' Q' cf' (some (Q p)) (rMs N g m l t a (Q p))) (hgt : ∀ u, Q p = 40 + u → isG N u = true) : bM N g m l t a Q' q' (p + 1) cf' := by
  obtain ⟨⟨b1, b2⟩, ⟨b3, b4⟩, b5, b6, b7⟩ := hb
  obtain ⟨x1, x2, x3, x4, x5⟩ := hx
  have old : ∀ y, (∃ j, j < q ∧ Q j = y) → ∃ j, j < q' ∧ Q' j = y := fun y ⟨j, hj, e⟩ => ⟨j, by omega, by rw [x2 j hj]; exact e⟩
  refine ⟨⟨hd, fun i hi => ?_⟩, ⟨by omega, by rw [x2 0 b3]; exact b4⟩, by omega, fun i hi => ?_, fun i hi => ?_⟩
  · by_cases h : i < q
    · rw [x2 i h, x3 i h]
      rcases b2 i h with h3 | ⟨j, hj, h3⟩
      · exact Or.inl h3
      · exact Or.inr ⟨j, hj, by rw [x2 j (by omega)]; exact h3⟩
    · obtain ⟨h3, h4⟩ := x4 i (by omega) hi
      exact Or.inr ⟨p, by omega, by rw [x2 p hp]; exact ⟨h4, h3⟩⟩
  · by_cases h : i < q
    · rw [x2 i h]; exact b6 i h
    · exact rMs_eI hok hg hf (b6 p hp) (x4 i (by omega) hi).1
  · rw [x2 i (by omega)]
    by_cases h : i < p
    · exact ⟨fun y hy => old y ((b7 i h).1 y hy), (b7 i h).2⟩
    · have e : i = p := by omega
      subst e
      exact ⟨fun y hy => x5 y hy, hgt⟩
theorem bM_near {N : nw} (hok : nw_ok N) {g m K F : Nat} {t : Nat → Nat} {a : Nat → Nat → Nat} {Q : Nat → Nat} {q : Nat} {cf : Nat → Option Nat} {U : Nat} (hK : 3 ≤ K) (hg : isG N g = true) (hm : 1 ≤ m) (hF : F < 1000) (hf : mF N g m (lev N K) t a F) (hb : bM N g m (lev N K) t a Q q q cf) (hU : ∀ v, U.testBit v = true ↔ v < 40 ∧ (∃ i, i < q ∧ Q i = v) ∧ ¬ ∃ i, i < q ∧ Q i = 40 + v) :
    nearC N g (Cm N (lev N K) g m) U ∧ cnt U 40 = F := by
  have hC := Cm_ok (m := m) hok hK hg hm
  have hg40 : g < 40 := by have := isG_lt hg; have := hok.1; omega
  obtain ⟨C, hCe⟩ : ∃ C, C = Cm N (lev N K) g m := ⟨_, rfl⟩
  have hCb := Cm_bit hok (lev N K) g m
  rw [← hCe] at hC hCb ⊢
  have hCm : ∀ v, (nB N g).testBit v = true → C.testBit v = false → lev N K v < m := fun v h1 h2 => Nat.lt_of_not_le fun q => by
    have := (hCb v).mpr (Or.inr ⟨h1, q⟩)
    rw [h2] at this
    cases this
  obtain ⟨hfl, hsum⟩ := mF_fl hok hC hCm hf
  obtain ⟨⟨b1, b2⟩, ⟨b3, b4⟩, b5, b6, b7⟩ := hb
  have seenU : ∀ u, (∃ i, i < q ∧ Q i = 40 + u) → isG N u = true ∧ ∀ y, rmO N t u y → ∃ j, j < q ∧ Q j = y := fun u ⟨i, hi, e⟩ => ⟨(b7 i hi).2 u e, fun y hy => (b7 i hi).1 y (Or.inl ⟨u, e, (b7 i hi).2 u e, hy⟩)⟩
  have seenI : ∀ v, v < 40 → v ≠ g → (∃ i, i < q ∧ Q i = v) → ∀ y, rmI N g m (lev N K) t a v y → ∃ j, j < q ∧ Q j = y := fun v hv hne ⟨i, hi, e⟩ y hy => (b7 i hi).1 y (by rw [e]; exact Or.inr ⟨hv, hne, hy⟩)
  -- all of those drawn together are come to
  have allC : ∀ d c, g - c = d → C.testBit c = true → ∃ i, i < q ∧ Q i = 40 + c := by
    intro d
    induction d using Nat.strongRecOn with
    | ind d ih =>
      intro c hd hc
      rcases (hC.2.1 c hc).2 with e | ⟨h1, p, hp, hs⟩
      · rw [e]; exact ⟨0, b3, b4⟩
      · have hpg : p ≤ g := by
          rcases (hC.2.1 p hp).2 with e | ⟨e, -⟩
          · omega
          · have := nB_lt hok _ _ e; omega
        have hcp := sM_lt hok hs
        have hcg := nB_lt hok _ _ h1
        have hpS := ih (g - p) (by omega) p rfl hp
        obtain ⟨k, hk, ek⟩ := (src_of hs).2
        have hcS := (seenU p hpS).2 c (Or.inl ⟨k, slB_iff.mpr ⟨(src_of hs).1, hk⟩, ek⟩)
        refine seenI c (by omega) (by omega) hcS (40 + c) (Or.inl ⟨rfl, ?_⟩)
        have hlc : ¬ lev N K c < m := by
          rcases (hCb c).mp hc with e | ⟨-, e⟩
          · omega
          · omega
        rw [if_neg hlc]
        have := hf.2.2.2.2.2.2.1 c
        omega
  obtain ⟨I, hI⟩ : ∃ I : Nat → Bool, ∀ v, I v = true ↔ (C.testBit v = false ∧ ∃ i, i < q ∧ Q i = v) := pick _
  obtain ⟨O, hO⟩ : ∃ O : Nat → Bool, ∀ v, O v = true ↔ (C.testBit v = false ∧ ∃ i, i < q ∧ Q i = 40 + v) := pick _
  have hIm : ∀ v, (mk I 40).testBit v = true ↔ v < 40 ∧ C.testBit v = false ∧ ∃ i, i < q ∧ Q i = v := fun v => by rw [mk_bit, Bool.and_eq_true, decide_eq_true_eq, hI]
  have hOm : ∀ v, (mk O 40).testBit v = true ↔ v < 40 ∧ C.testBit v = false ∧ ∃ i, i < q ∧ Q i = 40 + v := fun v => by rw [mk_bit, Bool.and_eq_true, decide_eq_true_eq, hO]
  have inb : ∀ v, C.testBit v = false → iN N g v → (nB N g).testBit v = true := fun v hc h => by
    rcases h with e | e
    · rw [e, hC.1] at hc; cases hc
    · exact e
  have upI : ∀ v i, v < 40 → i < q → Q i = v → iN N g v := fun v i hv hi e => by
    rcases b6 i hi with ⟨-, h⟩ | ⟨h, -, -⟩
    · rw [e] at h; exact h
    · omega
  have loI : ∀ v i, i < q → Q i = 40 + v → iN N g v ∧ v < 40 := fun v i hi e => by
    rcases b6 i hi with ⟨h, -⟩ | ⟨h, h2, h3⟩
    · omega
    · rw [e, show 40 + v - 40 = v by omega] at h3; exact ⟨h3, by omega⟩
  have hUe : U = sD (mk I 40) (mk O 40) := set_eq fun v => by
    apply Bool.eq_iff_iff.mpr
    rw [hU, sD_bit, Bool.and_eq_true, Bool.not_eq_true', hIm]
    constructor
    · rintro ⟨h1, h2, h3⟩
      have hc : C.testBit v = false := by
        cases hc : C.testBit v with
        | false => rfl
        | true => exact absurd (allC _ v rfl hc) h3
      refine ⟨⟨h1, hc, h2⟩, ?_⟩
      cases ho : (mk O 40).testBit v with
      | false => rfl
      | true => exact absurd ((hOm v).mp ho).2.2 h3
    · rintro ⟨⟨h1, h2, h3⟩, h4⟩
      refine ⟨h1, h3, fun h5 => ?_⟩
      have := (hOm v).mpr ⟨h1, h2, h5⟩
      rw [h4] at this
      cases this
  have s40 : ∀ {u v : Nat}, (sM N u).testBit v = true → v < 40 := fun hs => by
    have h1 := sM_lt hok hs
    have h2 := isG_lt (src_of hs).1
    have := hok.1
    omega
  have src : ∀ {u v : Nat}, (∃ i, i < q ∧ Q i = 40 + u) → (sM N u).testBit v = true → ∃ j, j < q ∧ Q j = v := fun hu hs => by
    obtain ⟨k, hk, ek⟩ := (src_of hs).2
    exact (seenU _ hu).2 _ (Or.inl ⟨k, slB_iff.mpr ⟨(src_of hs).1, hk⟩, ek⟩)
  rw [hUe, ← hsum]
  refine flow_near hok hC hfl ⟨fun c v hc hs hv => ?_, fun u v hu hs => ?_, fun v hv ht => ?_, fun u v hv he => ?_, fun u hu ht => ?_⟩ (fun v hv => ?_) (fun v hv => ?_) (fun I' O' hcl => ?_)
  · exact (hIm v).mpr ⟨s40 hs, hv, src (allC _ c rfl hc) hs⟩
  · obtain ⟨h1, h2, h3⟩ := (hOm u).mp hu
    refine (hIm v).mpr ⟨s40 hs, ?_, src h3 hs⟩
    cases hc : C.testBit v with
    | false => rfl
    | true =>
      obtain ⟨i, hi, e⟩ := h3
      have := hC.2.2 u v (inb u h2 (loI u i hi e).1) hs hc
      rw [h2] at this
      cases this
  · obtain ⟨h1, h2, h3⟩ := (hIm v).mp hv
    obtain ⟨i, hi, e⟩ := h3
    have hb := inb v h2 (upI v i h1 hi e)
    refine (hOm v).mpr ⟨h1, h2, seenI v h1 (fun e2 => by rw [e2, hC.1] at h2; cases h2) ⟨i, hi, e⟩ (40 + v) (Or.inl ⟨rfl, ?_⟩)⟩
    unfold tC at ht
    rw [h2, if_neg (fun q => by cases q)] at ht
    rw [if_pos (hCm v hb h2), ht]
    omega
  · obtain ⟨h1, h2, h3⟩ := (hIm v).mp hv
    unfold eC at he
    cases hc : C.testBit u with
    | true => rw [hc, if_pos rfl] at he; exact absurd rfl he
    | false =>
      rw [hc, if_neg (fun q => by cases q)] at he
      obtain ⟨k, q1, q2, q3⟩ := eF_0 he
      have hu := (hf.2.1 u k q3).2
      exact (hOm u).mpr ⟨(iN_lt hok hg40 hu).1, hc, seenI v h1 (fun e2 => by rw [e2, hC.1] at h2; cases h2) h3 (40 + u) (Or.inr ⟨u, k, rfl, hu, q1, q2, by omega⟩)⟩
  · obtain ⟨h1, h2, h3⟩ := (hOm u).mp hu
    unfold tC at ht
    rw [h2, if_neg (fun q => by cases q)] at ht
    exact (hIm u).mpr ⟨h1, h2, (seenU u h3).2 u (Or.inr ⟨by omega, rfl⟩)⟩
  · obtain ⟨h1, h2, i, hi, e⟩ := (hIm v).mp hv
    exact ⟨inb v h2 (upI v i h1 hi e), h2⟩
  · obtain ⟨h1, h2, i, hi, e⟩ := (hOm v).mp hv
    exact ⟨⟨inb v h2 (loI v i hi e).1, h2⟩, (b7 i hi).2 v e⟩
  · obtain ⟨c1, c2, c3, c4, c5⟩ := hcl
    have all : ∀ i, i < q → (∀ v, v < 40 → Q i = v → C.testBit v = false → I' v) ∧ ∀ u, Q i = 40 + u → C.testBit u = false → O' u := by
      intro i
      induction i using Nat.strongRecOn with
      | ind i ih =>
        intro hi
        rcases b2 i hi with ⟨-, h0⟩ | ⟨j, hj, -, hr⟩
        · refine ⟨fun v hv e _ => by omega, fun u e hc => ?_⟩
          have : u = g := by omega
          rw [this, hC.1] at hc
          cases hc
        · obtain ⟨q1, q2⟩ := ih j hj (by omega)
          rcases hr with ⟨u, e, hgu, ⟨k, r1, r2⟩ | ⟨r1, r2⟩⟩ | ⟨hx4, hne, ⟨r1, r2⟩ | ⟨p, k, r1, r2, r3, r4, r5⟩⟩
          · have hs : (sM N u).testBit (Q i) = true := by rw [← r2]; exact nR_src (slB_iff.mp r1).1 (slB_iff.mp r1).2
            have h4 := s40 hs
            refine ⟨fun v hv ev hcv => ?_, fun w ew => by omega⟩
            rw [ev] at hs
            cases hcu : C.testBit u with
            | true => exact c1 u v hcu hs hcv
            | false => exact c2 u v (q2 u e hcu) hs
          · have hu := (loI u j (by omega) e).2
            refine ⟨fun v hv ev hcv => ?_, fun w ew => by omega⟩
            have : v = u := by omega
            subst this
            refine c5 v (q2 v e hcv) ?_
            unfold tC
            rw [hcv, if_neg (fun q => by cases q)]
            omega
          · refine ⟨fun v hv ev _ => by omega, fun w ew hcw => ?_⟩
            have : w = Q j := by omega
            subst this
            have hb := inb (Q j) hcw (upI (Q j) j hx4 (by omega) rfl)
            rw [if_pos (hCm _ hb hcw)] at r2
            refine c3 _ (q1 _ hx4 rfl hcw) ?_
            unfold tC
            rw [hcw, if_neg (fun q => by cases q)]
            omega
          · have hp40 := (iN_lt hok hg40 r2).1
            refine ⟨fun v hv ev _ => by omega, fun w ew hcw => ?_⟩
            have : w = p := by omega
            subst this
            have he : eF N a w (Q j) ≠ 0 := by
              have h3 := slB_lt hok r3
              have := fb_sm_part (fun k => if slB N w k && decide (nR N w k = Q j) then a w k else 0) h3.2.2
              simp only [r3, r4, decide_true, Bool.and_self, if_true] at this
              unfold eF
              omega
            have hcj : C.testBit (Q j) = false := by
              cases hc : C.testBit (Q j) with
              | false => rfl
              | true => have := mF_par hok hC hf he hc; rw [hcw] at this; cases this
            refine c4 w (Q j) (q1 _ hx4 rfl hcj) ?_
            unfold eC
            rw [hcw, if_neg (fun q => by cases q)]
            exact he
    refine ⟨fun v hv => ?_, fun v hv => ?_⟩
    · obtain ⟨h1, h2, i, hi, e⟩ := (hIm v).mp hv
      exact (all i hi).1 v h1 e h2
    · obtain ⟨h1, h2, i, hi, e⟩ := (hOm v).mp hv
      exact (all i hi).2 v e h2
