/-! the model's flow: by node and by slot; drawn together it is a flow -/
def iN (N : nw) (g v : Nat) : Prop := v = g ∨ (nB N g).testBit v = true
def slB (N : nw) (p k : Nat) : Bool := isG N p && decide (k < ar (nK N p))
def eF (N : nw) (a : Nat → Nat → Nat) (p n : Nat) : Nat := fb_sm (fun k => if slB N p k && decide (nR N p k = n) then a p k else 0) 3
def inF (N : nw) (a : Nat → Nat → Nat) (n : Nat) : Nat := fb_sm (fun p => eF N a p n) 40
def outF (N : nw) (a : Nat → Nat → Nat) (p : Nat) : Nat := fb_sm (fun k => if slB N p k then a p k else 0) 3
theorem slB_iff {N : nw} {p k : Nat} : slB N p k = true ↔ isG N p = true ∧ k < ar (nK N p) := by unfold slB; rw [Bool.and_eq_true, decide_eq_true_eq]
theorem slB_lt {N : nw} (hok : nw_ok N) {p k : Nat} (h : slB N p k = true) : nR N p k < p ∧ p < 40 ∧ k < 3 := by
  obtain ⟨h1, h2⟩ := slB_iff.mp h
  have := isG_lt h1
  have := hok.1
  have := ar_pos (nK N p)
  exact ⟨nR_lt hok h1 h2, by omega, by omega⟩
theorem sm_ite {f : Nat → Nat} {i n v : Nat} (hi : i < n) : fb_sm (fun k => if i = k then v else 0) n = v := by
  induction n with
  | zero => omega
  | succ n ih =>
    rw [fb_sm_succ]
    by_cases e : i = n
    · subst e
      rw [if_pos rfl, fb_sm_cong (g := fun _ => 0) (fun k hk => if_neg (by omega)), sm_0, Nat.zero_add]
    · rw [ih (by omega), if_neg e, Nat.add_zero]
theorem eF_out {N : nw} (hok : nw_ok N) (a : Nat → Nat → Nat) (p : Nat) : fb_sm (fun n => eF N a p n) 40 = outF N a p := by
  show fb_sm (fun n => fb_sm (fun k => if slB N p k && decide (nR N p k = n) then a p k else 0) 3) 40 = _
  rw [sm_swap (fun k n => if slB N p k && decide (nR N p k = n) then a p k else 0) 3 40]
  apply fb_sm_cong
  intro k _
  cases h : slB N p k with
  | false => rw [if_neg (fun q => by cases q), fb_sm_cong (g := fun _ => 0) (fun n _ => by simp), sm_0]
  | true =>
    have := slB_lt hok h
    rw [if_pos rfl, fb_sm_cong (g := fun n => if nR N p k = n then a p k else 0) (fun n _ => by simp)]
    exact sm_ite (f := fun _ => 0) (by omega)
theorem eF_0 {N : nw} {a : Nat → Nat → Nat} {p n : Nat} (h : eF N a p n ≠ 0) : ∃ k, slB N p k = true ∧ nR N p k = n ∧ a p k ≠ 0 := by
  apply Classical.byContradiction
  intro hno
  apply h
  unfold eF
  rw [fb_sm_cong (g := fun _ => 0) (fun k _ => ?_), sm_0]
  split
  · rename_i q
    rw [Bool.and_eq_true, decide_eq_true_eq] at q
    cases e : a p k with
    | zero => rfl
    | succ x => exact absurd ⟨k, q.1, q.2, by omega⟩ hno
  · rfl
/-- one more in one slot -/
theorem eF_inc {N : nw} {a a' : Nat → Nat → Nat} {u k0 : Nat} (hk : k0 < 3) (hs : slB N u k0 = true) (h : ∀ p k, a' p k = a p k + (if p = u ∧ k = k0 then 1 else 0)) (p n : Nat) : eF N a' p n = eF N a p n + (if p = u ∧ nR N u k0 = n then 1 else 0) := by
  unfold eF
  have e : ∀ k, k < 3 → (if slB N p k && decide (nR N p k = n) then a' p k else 0) = (if slB N p k && decide (nR N p k = n) then a p k else 0) + (if k0 = k then (if p = u ∧ nR N u k0 = n then 1 else 0) else 0) := by
    intro k _
    rw [h]
    by_cases e1 : k0 = k
    · subst e1
      by_cases e2 : p = u
      · subst e2
        by_cases e3 : nR N p k0 = n
        · simp [hs, e3]
        · simp [hs, e3]
      · simp [e2]
    · have : ¬ k = k0 := fun q => e1 q.symm
      simp [e1, this]
  rw [fb_sm_cong e, fb_sm_add, sm_ite (f := fun _ => 0) hk]
theorem inF_inc {N : nw} (hok : nw_ok N) {a a' : Nat → Nat → Nat} {u k0 : Nat} (hs : slB N u k0 = true) (h : ∀ p k, a' p k = a p k + (if p = u ∧ k = k0 then 1 else 0)) (n : Nat) : inF N a' n = inF N a n + (if nR N u k0 = n then 1 else 0) := by
  have hl := slB_lt hok hs
  unfold inF
  have e : ∀ p, p < 40 → eF N a' p n = eF N a p n + (if u = p then (if nR N u k0 = n then 1 else 0) else 0) := by
    intro p _
    rw [eF_inc hl.2.2 hs h]
    by_cases e2 : u = p
    · subst e2; simp
    · have : ¬ p = u := fun q => e2 q.symm
      simp [e2, this]
  rw [fb_sm_cong e, fb_sm_add, sm_ite (f := fun _ => 0) hl.2.1]
theorem outF_inc {N : nw} (hok : nw_ok N) {a a' : Nat → Nat → Nat} {u k0 : Nat} (hs : slB N u k0 = true) (h : ∀ p k, a' p k = a p k + (if p = u ∧ k = k0 then 1 else 0)) (p : Nat) : outF N a' p = outF N a p + (if p = u then 1 else 0) := by
  have hl := slB_lt hok hs
  unfold outF
  have e : ∀ k, k < 3 → (if slB N p k then a' p k else 0) = (if slB N p k then a p k else 0) + (if k0 = k then (if p = u then 1 else 0) else 0) := by
    intro k _
    rw [h]
    by_cases e1 : k0 = k
    · subst e1
      by_cases e2 : p = u
      · subst e2; simp [hs]
      · simp [e2]
    · have : ¬ k = k0 := fun q => e1 q.symm
      simp [e1, this]
  rw [fb_sm_cong e, fb_sm_add, sm_ite (f := fun _ => 0) hl.2.2]
/-- a flow of so many from a gate, with room for one through each node of a level below a number -/
def mF (N : nw) (g m : Nat) (l : Nat → Nat) (t : Nat → Nat) (a : Nat → Nat → Nat) (F : Nat) : Prop :=
  (∀ v, t v ≠ 0 → (nB N g).testBit v = true) ∧ (∀ p k, a p k ≠ 0 → slB N p k = true ∧ iN N g p) ∧ (∀ v, v < 40 → inF N a v = t v) ∧ (∀ u, isG N u = true → u ≠ g → outF N a u = t u) ∧ outF N a g = F ∧ (∀ v, l v < m → t v ≤ 1) ∧ (∀ v, t v ≤ F) ∧ ∀ p k, a p k ≤ F
theorem mF_0 (N : nw) (g m : Nat) (l : Nat → Nat) : mF N g m l (fun _ => 0) (fun _ _ => 0) 0 := by
  have e : ∀ p n, eF N (fun _ _ => 0) p n = 0 := fun p n => by unfold eF; rw [fb_sm_cong (g := fun _ => 0) (fun k _ => by simp), sm_0]
  have o : ∀ p, outF N (fun _ _ => 0) p = 0 := fun p => by unfold outF; rw [fb_sm_cong (g := fun _ => 0) (fun k _ => by simp), sm_0]
  refine ⟨fun v h => absurd rfl h, fun p k h => absurd rfl h, fun v _ => ?_, fun u _ _ => o u, o g, fun v _ => Nat.zero_le _, fun v => Nat.le_refl _, fun p k => Nat.le_refl _⟩
  unfold inF
  rw [fb_sm_cong (g := fun _ => 0) (fun p _ => e p v), sm_0]
def tC (C : Nat) (t : Nat → Nat) (v : Nat) : Nat := if C.testBit v then 0 else t v
def eC (N : nw) (C : Nat) (a : Nat → Nat → Nat) (u v : Nat) : Nat := if C.testBit u then 0 else eF N a u v
def sC (N : nw) (C : Nat) (a : Nat → Nat → Nat) (v : Nat) : Nat := if C.testBit v then 0 else fb_sm (fun c => if C.testBit c then eF N a c v else 0) 40
theorem mF_par {N : nw} (hok : nw_ok N) {g m C F : Nat} {l t : Nat → Nat} {a : Nat → Nat → Nat} (hC : C_ok N g C) (h : mF N g m l t a F) {u v : Nat} (he : eF N a u v ≠ 0) (hv : C.testBit v = true) : C.testBit u = true := by
  obtain ⟨k, h1, h2, h3⟩ := eF_0 he
  have hs : (sM N u).testBit v = true := by rw [← h2]; exact nR_src (slB_iff.mp h1).1 (slB_iff.mp h1).2
  rcases (h.2.1 u k h3).2 with e | e
  · rw [e]; exact hC.1
  · exact hC.2.2 u v e hs hv
theorem mF_fl {N : nw} (hok : nw_ok N) {g m C F : Nat} {l t : Nat → Nat} {a : Nat → Nat → Nat} (hC : C_ok N g C) (hCm : ∀ v, (nB N g).testBit v = true → C.testBit v = false → l v < m) (h : mF N g m l t a F) : fl_ok N g C (tC C t) (eC N C a) (sC N C a) ∧ fb_sm (sC N C a) 40 = F := by
  obtain ⟨h1, h2, h3, h4, h5, h6, h7⟩ := id h
  have hpar := fun {u v : Nat} (he : eF N a u v ≠ 0) hv => mF_par hok hC h he hv
  have esrc : ∀ u v, eF N a u v ≠ 0 → isG N u = true ∧ (sM N u).testBit v = true ∧ iN N g u := fun u v he => by
    obtain ⟨k, q1, q2, q3⟩ := eF_0 he
    obtain ⟨q4, q5⟩ := slB_iff.mp q1
    exact ⟨q4, by rw [← q2]; exact nR_src q4 q5, (h2 u k q3).2⟩
  have ebel : ∀ u v, eF N a u v ≠ 0 → (nB N g).testBit v = true := fun u v he => by
    obtain ⟨q1, q2, q3⟩ := esrc u v he
    rcases q3 with e | e
    · rw [← e]; exact nB_src hok q2
    · exact nB_trans hok _ _ _ e q2
  have hC40 : ∀ c, C.testBit c = true → c < 40 := fun c hc => by
    have := isG_lt (hC.2.1 c hc).1
    have := hok.1
    omega
  refine ⟨⟨fun v hv => ?_, fun u v hv => ?_, fun v => ?_, fun u hu => ?_, fun v => ?_⟩, ?_⟩
  · unfold sC at hv
    cases hc : C.testBit v with
    | true => rw [hc, if_pos rfl] at hv; exact absurd rfl hv
    | false =>
      rw [hc, if_neg (fun q => by cases q)] at hv
      have : ∃ c, C.testBit c = true ∧ eF N a c v ≠ 0 := by
        apply Classical.byContradiction
        intro hno
        apply hv
        rw [fb_sm_cong (g := fun _ => 0) (fun c _ => ?_), sm_0]
        split
        · rename_i q
          cases e : eF N a c v with
          | zero => rfl
          | succ x => exact absurd ⟨c, q, by omega⟩ hno
        · rfl
      obtain ⟨c, q1, q2⟩ := this
      exact ⟨⟨ebel c v q2, hc⟩, c, q1, (esrc c v q2).2.1⟩
  · unfold eC at hv
    cases hc : C.testBit u with
    | true => rw [hc, if_pos rfl] at hv; exact absurd rfl hv
    | false =>
      rw [hc, if_neg (fun q => by cases q)] at hv
      obtain ⟨q1, q2, q3⟩ := esrc u v hv
      have hu : (nB N g).testBit u = true := by
        rcases q3 with e | e
        · rw [e, hC.1] at hc; cases hc
        · exact e
      refine ⟨⟨hu, hc⟩, q2, ebel u v hv, ?_⟩
      cases hcv : C.testBit v with
      | false => rfl
      | true => have := hpar hv hcv; rw [hc] at this; cases this
  · unfold sC tC
    cases hc : C.testBit v with
    | true =>
      rw [if_pos rfl, if_pos rfl, Nat.zero_add, fb_sm_cong (g := fun _ => 0) (fun u _ => ?_), sm_0]
      unfold eC
      cases hu : C.testBit u with
      | true => rfl
      | false =>
        rw [if_neg (fun q => by cases q)]
        cases e : eF N a u v with
        | zero => rfl
        | succ x => have := hpar (u := u) (v := v) (by omega) hc; rw [hu] at this; cases this
    | false =>
      rw [if_neg (fun q => by cases q), if_neg (fun q => by cases q), ← fb_sm_add]
      by_cases hv : v < 40
      · rw [← h3 v hv]
        unfold inF
        apply fb_sm_cong
        intro u _
        unfold eC
        cases C.testBit u <;> simp
      · have ht : t v = 0 := by
          cases e : t v with
          | zero => rfl
          | succ x => have := bit_lt (nB_lt40 hok g) (h1 v (by omega)); omega
        rw [ht, fb_sm_cong (g := fun _ => 0) (fun u _ => ?_), sm_0]
        have : eF N a u v = 0 := by
          cases e : eF N a u v with
          | zero => rfl
          | succ x => have := bit_lt (nB_lt40 hok g) (ebel u v (by omega)); omega
        unfold eC
        cases C.testBit u <;> simp [this]
  · unfold eC tC
    cases hc : C.testBit u with
    | true => rw [if_pos rfl, fb_sm_cong (g := fun _ => 0) (fun v _ => by simp), sm_0]
    | false =>
      rw [if_neg (fun q => by cases q), fb_sm_cong (g := fun v => eF N a u v) (fun v _ => by simp), eF_out hok]
      exact h4 u hu (fun e => by rw [e, hC.1] at hc; cases hc)
  · unfold tC
    cases hc : C.testBit v with
    | true => rw [if_pos rfl]; omega
    | false =>
      rw [if_neg (fun q => by cases q)]
      cases e : t v with
      | zero => omega
      | succ x =>
        have := h6 v (hCm v (h1 v (by omega)) hc)
        omega
  · -- what goes out of them is what comes to them and F
    have tg : t g = 0 := by
      cases e : t g with
      | zero => rfl
      | succ x => have := nB_lt hok _ _ (h1 g (by omega)); omega
    have hg40 := hC40 g hC.1
    have A : fb_sm (fun c => if C.testBit c then outF N a c else 0) 40 = F + fb_sm (fun c => if C.testBit c then t c else 0) 40 := by
      have e : ∀ c, c < 40 → (if C.testBit c then outF N a c else 0) = (if g = c then F else 0) + (if C.testBit c then t c else 0) := by
        intro c _
        by_cases e : g = c
        · subst e
          rw [if_pos hC.1, if_pos hC.1, if_pos rfl, tg, h5, Nat.add_zero]
        · rw [if_neg e, Nat.zero_add]
          cases hc : C.testBit c with
          | true => rw [if_pos rfl, if_pos rfl]; exact h4 c (hC.2.1 c hc).1 (fun q => e q.symm)
          | false => rfl
      rw [fb_sm_cong e, fb_sm_add, sm_ite (f := fun _ => 0) hg40]
    have B : fb_sm (fun c => if C.testBit c then outF N a c else 0) 40 = fb_sm (fun v => fb_sm (fun c => if C.testBit c then eF N a c v else 0) 40) 40 := by
      rw [sm_swap (fun c v => if C.testBit c then eF N a c v else 0) 40 40]
      apply fb_sm_cong
      intro c _
      cases C.testBit c with
      | true =>
        rw [if_pos rfl, ← eF_out hok]
        apply fb_sm_cong
        intro v _
        rw [if_pos rfl]
      | false => rw [if_neg (fun q => by cases q), fb_sm_cong (g := fun _ => 0) (fun v _ => by simp), sm_0]
    have D : fb_sm (fun v => fb_sm (fun c => if C.testBit c then eF N a c v else 0) 40) 40 = fb_sm (sC N C a) 40 + fb_sm (fun c => if C.testBit c then t c else 0) 40 := by
      rw [← fb_sm_add]
      apply fb_sm_cong
      intro v hv
      unfold sC
      cases hc : C.testBit v with
      | false => rw [if_neg (fun q => by cases q), if_neg (fun q => by cases q), Nat.add_zero]
      | true =>
        rw [if_pos rfl, if_pos rfl, Nat.zero_add, ← h3 v hv]
        unfold inF
        apply fb_sm_cong
        intro u _
        cases hu : C.testBit u with
        | true => rfl
        | false =>
          rw [if_neg (fun q => by cases q)]
          cases e : eF N a u v with
          | zero => rfl
          | succ x => have := hpar (u := u) (v := v) (by omega) hc; rw [hu] at this; cases this
    omega
