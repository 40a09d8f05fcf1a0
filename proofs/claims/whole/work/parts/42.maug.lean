/-! one more flows along the way by which an end was come to -/
def rmV (m : Nat) (l : Nat → Nat) (v : Nat) : Nat := if l v < m then 1 else 1000
def dl (o : Option Nat) (x : Nat) : Nat := if o = some x then 1 else 0
theorem dl_y {x : Nat} : dl (some x) x = 1 := if_pos rfl
theorem dl_n {x y : Nat} (h : x ≠ y) : dl (some x) y = 0 := if_neg fun e => h (Option.some.inj e)
def wk (N : nw) (g m F : Nat) (l t : Nat → Nat) (a : Nat → Nat → Nat) (cf : Nat → Option Nat) (s n : Nat) (t' : Nat → Nat) (a' : Nat → Nat → Nat) : Prop :=
  (∀ v, v < 40 → inF N a' v + dl (ch cf s n) v = t' v) ∧ (∀ u, isG N u = true → u ≠ g → t' u + dl (ch cf s n) (40 + u) = outF N a' u) ∧ outF N a' g = F + dl (ch cf s n) (40 + g) ∧
  (∀ v, (t' v ≤ t v ∨ (t' v = t v + 1 ∧ t v < rmV m l v)) ∧ (¬ (onC cf s n (40 + v) ∧ cf (40 + v) = some v) → ¬ (onC cf s n v ∧ cf v = some (40 + v)) → t' v = t v)) ∧
  (∀ p k, a' p k ≤ a p k + 1 ∧ (¬ (onC cf s n (nR N p k) ∧ cf (nR N p k) = some (40 + p)) → ¬ (onC cf s n (40 + p) ∧ cf (40 + p) = some (nR N p k)) → a' p k = a p k)) ∧
  (∀ v, t' v ≠ 0 → (nB N g).testBit v = true) ∧ ∀ p k, a' p k ≠ 0 → slB N p k = true ∧ iN N g p
theorem wk_0 {N : nw} {g m F : Nat} {l t : Nat → Nat} {a : Nat → Nat → Nat} {cf : Nat → Option Nat} {leaf : Nat} (hf : mF N g m l t a F) (hg : isG N g = true) (hl : isG N leaf = false) : wk N g m F l t a cf (40 + leaf) 0 t a := by
  obtain ⟨f1, f2, f3, f4, f5, f6, f7, f8⟩ := hf
  have hne : ∀ u, isG N u = true → leaf ≠ u := fun u hu e => by rw [← e, hl] at hu; cases hu
  refine ⟨fun v hv => ?_, fun u hu hug => ?_, ?_, fun v => ⟨Or.inl (Nat.le_refl _), fun _ _ => rfl⟩, fun p k => ⟨by omega, fun _ _ => rfl⟩, f1, f2⟩
  · show _ + dl (some (40 + leaf)) v = _
    rw [dl_n (by omega), f3 v hv, Nat.add_zero]
  · show _ + dl (some (40 + leaf)) (40 + u) = _
    rw [dl_n (by have := hne u hu; omega), f4 u hu hug, Nat.add_zero]
  · show _ = _ + dl (some (40 + leaf)) (40 + g)
    rw [dl_n (by have := hne g hg; omega), f5, Nat.add_zero]
theorem wk_end {N : nw} {g m F : Nat} {l t : Nat → Nat} {a : Nat → Nat → Nat} {cf : Nat → Option Nat} {s n : Nat} {t' : Nat → Nat} {a' : Nat → Nat → Nat} (hf : mF N g m l t a F) (h : wk N g m F l t a cf s n t' a') (hg : g < 40) (he : ch cf s n = some (40 + g)) : mF N g m l t' a' (F + 1) := by
  obtain ⟨f1, f2, f3, f4, f5, f6, f7, f8⟩ := hf
  obtain ⟨w1, w2, w3, w4, w5, w6, w7⟩ := h
  rw [he] at w1 w2 w3
  refine ⟨w6, w7, fun v hv => ?_, fun u hu hug => ?_, ?_, fun v hv => ?_, fun v => ?_, fun p k => ?_⟩
  · have := w1 v hv
    rw [dl_n (by omega)] at this
    omega
  · have := w2 u hu hug
    rw [dl_n (by omega)] at this
    omega
  · rw [w3, dl_y]
  · have h1 := (w4 v).1
    have h2 := f6 v hv
    unfold rmV at h1
    rw [if_pos hv] at h1
    omega
  · have h1 := (w4 v).1
    have h2 := f7 v
    omega
  · have h1 := (w5 p k).1
    have h2 := f8 p k
    omega
section
variable {N : nw} {g m F : Nat} {l t : Nat → Nat} {a : Nat → Nat → Nat} {r : Nat → Nat → Prop} {S : Nat → Prop} {Q : Nat → Nat} {q p0 : Nat} {cf : Nat → Option Nat} {n x z : Nat} {t' : Nat → Nat} {a' : Nat → Nat → Nat}
theorem wk_new (hb : gQ r S Q q cf) (hp : p0 < q) (hx : ch cf (Q p0) n = some x) : ¬ onC cf (Q p0) n x := by
  rintro ⟨k, hk, e⟩
  have := gh_one hb hp hx e
  omega
theorem wk_asym (hb : gQ r S Q q cf) (hp : p0 < q) {y w : Nat} (hy : inC cf (Q p0) y) (h1 : cf y = some w) (h2 : cf w = some y) : False := by
  obtain ⟨k, e⟩ := hy
  have e2 := ch_succ e
  rw [h1] at e2
  exact gf_asym hb (gh_at hb hp e) (gh_at hb hp e2) h1 h2
theorem onC_in {s k y : Nat} (h : onC cf s k y) : inC cf s y := by obtain ⟨k, -, e⟩ := h; exact ⟨k, e⟩
theorem onC_mono {s y : Nat} (h : onC cf s n y) : onC cf s (n + 1) y := by obtain ⟨k, h1, e⟩ := h; exact ⟨k, by omega, e⟩
/-- along a source -/
theorem wk_A (hok : nw_ok N) (hb : gQ r S Q q cf) (hp : p0 < q) (hx : ch cf (Q p0) n = some x) {u k0 : Nat} (hz : cf x = some (40 + u)) (hs : slB N u k0 = true) (hk : nR N u k0 = x) (hu : iN N g u) (h : wk N g m F l t a cf (Q p0) n t' a') {a'' : Nat → Nat → Nat} (ha : ∀ p k, a'' p k = a' p k + (if p = u ∧ k = k0 then 1 else 0)) :
    wk N g m F l t a cf (Q p0) (n + 1) t' a'' := by
  obtain ⟨w1, w2, w3, w4, w5, w6, w7⟩ := h
  have hl := slB_lt hok hs
  have hnx : ch cf (Q p0) (n + 1) = some (40 + u) := by rw [ch_succ hx, hz]
  have hnew := wk_new hb hp hx
  unfold wk
  rw [hnx]
  rw [hx] at w1 w2 w3
  refine ⟨fun v hv => ?_, fun w hw hwg => ?_, ?_, fun v => ⟨(w4 v).1, fun q1 q2 => (w4 v).2 (fun e => q1 ⟨onC_mono e.1, e.2⟩) (fun e => q2 ⟨onC_mono e.1, e.2⟩)⟩, fun p k => ?_, w6, fun p k hpk => ?_⟩
  · have := w1 v hv
    rw [inF_inc hok hs ha, dl_n (by omega), hk]
    by_cases e : x = v
    · rw [e, dl_y] at this; rw [if_pos e]; omega
    · rw [dl_n e] at this; rw [if_neg e]; omega
  · have := w2 w hw hwg
    rw [dl_n (by omega)] at this
    rw [outF_inc hok hs ha]
    by_cases e : w = u
    · rw [e, dl_y, if_pos rfl, ← e]; omega
    · rw [dl_n (by omega), if_neg e]; omega
  · rw [dl_n (by omega)] at w3
    rw [outF_inc hok hs ha]
    by_cases e : g = u
    · rw [← e, dl_y, if_pos rfl]; omega
    · rw [dl_n (by omega), if_neg e]; omega
  · rw [ha]
    by_cases e : p = u ∧ k = k0
    · obtain ⟨rfl, rfl⟩ := e
      rw [if_pos ⟨rfl, rfl⟩, hk]
      have hun := (w5 p k).2
      rw [hk] at hun
      have := hun (fun e => hnew e.1) (fun e => wk_asym hb hp (onC_in e.1) e.2 hz)
      exact ⟨by omega, fun q1 _ => absurd ⟨⟨n, by omega, hx⟩, hz⟩ q1⟩
    · rw [if_neg e, Nat.add_zero]
      exact ⟨(w5 p k).1, fun q1 q2 => (w5 p k).2 (fun e => q1 ⟨onC_mono e.1, e.2⟩) (fun e => q2 ⟨onC_mono e.1, e.2⟩)⟩
  · rw [ha] at hpk
    by_cases e : p = u ∧ k = k0
    · obtain ⟨rfl, rfl⟩ := e
      exact ⟨hs, hu⟩
    · rw [if_neg e, Nat.add_zero] at hpk
      exact w7 p k hpk
/-- back through a node -/
theorem wk_B (hf : mF N g m l t a F) (hok : nw_ok N) (hb : gQ r S Q q cf) (hp : p0 < q) (hx : ch cf (Q p0) n = some x) (hx4 : x < 40) (hz : cf x = some (40 + x)) (ht : 0 < t x) (h : wk N g m F l t a cf (Q p0) n t' a') {t'' : Nat → Nat} (ha : ∀ v, t' v = t'' v + (if v = x then 1 else 0)) :
    wk N g m F l t a cf (Q p0) (n + 1) t'' a' := by
  obtain ⟨w1, w2, w3, w4, w5, w6, w7⟩ := h
  have hnx : ch cf (Q p0) (n + 1) = some (40 + x) := by rw [ch_succ hx, hz]
  have hnew := wk_new hb hp hx
  have hxg : x ≠ g := fun e => by have := nB_lt hok _ _ (hf.1 x (by omega)); omega
  unfold wk
  rw [hnx]
  rw [hx] at w1 w2 w3
  refine ⟨fun v hv => ?_, fun w hw hwg => ?_, ?_, fun v => ?_, fun p k => ⟨(w5 p k).1, fun q1 q2 => (w5 p k).2 (fun e => q1 ⟨onC_mono e.1, e.2⟩) (fun e => q2 ⟨onC_mono e.1, e.2⟩)⟩, fun v hv => w6 v (by have := ha v; omega), w7⟩
  · have h1 := w1 v hv
    have h2 := ha v
    rw [dl_n (by omega)]
    by_cases e : x = v
    · rw [e, dl_y] at h1; rw [if_pos e.symm] at h2; omega
    · rw [dl_n e] at h1; rw [if_neg (fun q => e q.symm)] at h2; omega
  · have h1 := w2 w hw hwg
    have h2 := ha w
    rw [dl_n (by omega)] at h1
    by_cases e : w = x
    · rw [e, dl_y, ← e]; rw [if_pos e] at h2; omega
    · rw [dl_n (by omega)]; rw [if_neg e] at h2; omega
  · rw [dl_n (by omega)] at w3
    rw [dl_n (by omega)]
    exact w3
  · have h2 := ha v
    by_cases e : v = x
    · subst e
      rw [if_pos rfl] at h2
      have h3 := (w4 v).2 (fun e => wk_asym hb hp (onC_in e.1) e.2 hz) (fun e => hnew e.1)
      exact ⟨Or.inl (by omega), fun _ q2 => absurd ⟨⟨n, by omega, hx⟩, hz⟩ q2⟩
    · rw [if_neg e, Nat.add_zero] at h2
      rw [← h2]
      exact ⟨(w4 v).1, fun q1 q2 => (w4 v).2 (fun e => q1 ⟨onC_mono e.1, e.2⟩) (fun e => q2 ⟨onC_mono e.1, e.2⟩)⟩
/-- through a node -/
theorem wk_C (hb : gQ r S Q q cf) (hp : p0 < q) (hx : ch cf (Q p0) n = some (40 + z)) (hz4 : z < 40) (hzg : z ≠ g) (hzI : iN N g z) (hz : cf (40 + z) = some z) (ht : t z < rmV m l z) (h : wk N g m F l t a cf (Q p0) n t' a') {t'' : Nat → Nat} (ha : ∀ v, t'' v = t' v + (if v = z then 1 else 0)) :
    wk N g m F l t a cf (Q p0) (n + 1) t'' a' := by
  obtain ⟨w1, w2, w3, w4, w5, w6, w7⟩ := h
  have hnx : ch cf (Q p0) (n + 1) = some z := by rw [ch_succ hx, hz]
  have hnew := wk_new hb hp hx
  unfold wk
  rw [hnx]
  rw [hx] at w1 w2 w3
  refine ⟨fun v hv => ?_, fun w hw hwg => ?_, ?_, fun v => ?_, fun p k => ⟨(w5 p k).1, fun q1 q2 => (w5 p k).2 (fun e => q1 ⟨onC_mono e.1, e.2⟩) (fun e => q2 ⟨onC_mono e.1, e.2⟩)⟩, fun v hv => ?_, w7⟩
  · have h1 := w1 v hv
    rw [dl_n (by omega)] at h1
    rw [ha v]
    by_cases e : z = v
    · rw [e, dl_y, if_pos rfl]; omega
    · rw [dl_n e, if_neg (fun q => e q.symm)]; omega
  · have h1 := w2 w hw hwg
    rw [ha w, dl_n (by omega)]
    by_cases e : w = z
    · rw [if_pos e]; rw [← e, dl_y] at h1; omega
    · rw [if_neg e]; rw [dl_n (by omega)] at h1; omega
  · rw [dl_n (by omega)] at w3
    rw [dl_n (by omega)]
    exact w3
  · rw [ha v]
    by_cases e : v = z
    · subst e
      rw [if_pos rfl]
      have h3 := (w4 v).2 (fun e => hnew e.1) (fun e => wk_asym hb hp (onC_in e.1) e.2 hz)
      exact ⟨Or.inr ⟨by omega, ht⟩, fun q1 _ => absurd ⟨⟨n, by omega, hx⟩, hz⟩ q1⟩
    · rw [if_neg e, Nat.add_zero]
      exact ⟨(w4 v).1, fun q1 q2 => (w4 v).2 (fun e => q1 ⟨onC_mono e.1, e.2⟩) (fun e => q2 ⟨onC_mono e.1, e.2⟩)⟩
  · rw [ha v] at hv
    by_cases e : v = z
    · subst e
      rcases hzI with q1 | q1
      · exact absurd q1 hzg
      · exact q1
    · rw [if_neg e] at hv
      exact w6 v (by omega)
/-- back along a source -/
theorem wk_D (hok : nw_ok N) (hb : gQ r S Q q cf) (hp : p0 < q) {u k0 : Nat} (hx : ch cf (Q p0) n = some (40 + u)) (hz4 : z < 40) (hz : cf (40 + u) = some z) (hs : slB N u k0 = true) (hk : nR N u k0 = z) (h : wk N g m F l t a cf (Q p0) n t' a') {a'' : Nat → Nat → Nat} (ha : ∀ p k, a' p k = a'' p k + (if p = u ∧ k = k0 then 1 else 0)) :
    wk N g m F l t a cf (Q p0) (n + 1) t' a'' := by
  obtain ⟨w1, w2, w3, w4, w5, w6, w7⟩ := h
  have hnx : ch cf (Q p0) (n + 1) = some z := by rw [ch_succ hx, hz]
  have hnew := wk_new hb hp hx
  unfold wk
  rw [hnx]
  rw [hx] at w1 w2 w3
  refine ⟨fun v hv => ?_, fun w hw hwg => ?_, ?_, fun v => ⟨(w4 v).1, fun q1 q2 => (w4 v).2 (fun e => q1 ⟨onC_mono e.1, e.2⟩) (fun e => q2 ⟨onC_mono e.1, e.2⟩)⟩, fun p k => ?_, w6, fun p k hpk => w7 p k (by have := ha p k; omega)⟩
  · have h1 := w1 v hv
    rw [inF_inc hok hs ha, dl_n (by omega), hk] at h1
    by_cases e : z = v
    · rw [e, dl_y]; rw [if_pos e] at h1; omega
    · rw [dl_n e]; rw [if_neg e] at h1; omega
  · have h1 := w2 w hw hwg
    rw [outF_inc hok hs ha] at h1
    rw [dl_n (by omega)]
    by_cases e : w = u
    · rw [if_pos e, ← e, dl_y] at h1; omega
    · rw [if_neg e, dl_n (by omega)] at h1; omega
  · rw [outF_inc hok hs ha] at w3
    rw [dl_n (by omega)]
    by_cases e : g = u
    · rw [if_pos e, ← e, dl_y] at w3; omega
    · rw [if_neg e, dl_n (by omega)] at w3; omega
  · have h2 := ha p k
    by_cases e : p = u ∧ k = k0
    · obtain ⟨rfl, rfl⟩ := e
      rw [if_pos ⟨rfl, rfl⟩] at h2
      have h3 := (w5 p k).1
      refine ⟨by omega, fun _ q2 => absurd ⟨⟨n, by omega, hx⟩, ?_⟩ q2⟩
      rw [hk]; exact hz
    · rw [if_neg e, Nat.add_zero] at h2
      rw [← h2]
      exact ⟨(w5 p k).1, fun q1 q2 => (w5 p k).2 (fun e => q1 ⟨onC_mono e.1, e.2⟩) (fun e => q2 ⟨onC_mono e.1, e.2⟩)⟩
/-- in the slots of the step to be taken back there is as much as there was -/
theorem wk_D0 (hb : gQ r S Q q cf) (hp : p0 < q) {u k : Nat} (hx : ch cf (Q p0) n = some (40 + u)) (hz : cf (40 + u) = some (nR N u k)) (h : wk N g m F l t a cf (Q p0) n t' a') : a' u k = a u k :=
  (h.2.2.2.2.1 u k).2 (fun e => wk_asym hb hp (onC_in e.1) e.2 hz) (fun e => wk_new hb hp hx e.1)
theorem wk_B0 (hb : gQ r S Q q cf) (hp : p0 < q) (hx : ch cf (Q p0) n = some x) (hz : cf x = some (40 + x)) (h : wk N g m F l t a cf (Q p0) n t' a') : t' x = t x :=
  (h.2.2.2.1 x).2 (fun e => wk_asym hb hp (onC_in e.1) e.2 hz) (fun e => wk_new hb hp hx e.1)
end
