/-! SOUNDNESS, the third part: the closure, instruction by instruction -/
theorem sd_okc {v : jm_V} {r : List jm_V} (h : sd_ok v) (hr : ∀ u ∈ r, sd_ok u) : ∀ u ∈ v :: r, sd_ok u := List.forall_mem_cons.mpr ⟨h, hr⟩
theorem sd_ok1 {a : jm_V} {r : List jm_V} (h : ∀ u ∈ a :: r, sd_ok u) : ∀ u ∈ r, sd_ok u := fun u hu => h u (List.mem_cons_of_mem _ hu)
theorem sd_ok2 {a b : jm_V} {r : List jm_V} (h : ∀ u ∈ a :: b :: r, sd_ok u) : ∀ u ∈ r, sd_ok u := fun u hu => h u (List.mem_cons_of_mem _ (List.mem_cons_of_mem _ hu))
theorem sd_ok3 {a b c : jm_V} {r : List jm_V} (h : ∀ u ∈ a :: b :: c :: r, sd_ok u) : ∀ u ∈ r, sd_ok u := fun u hu => h u (List.mem_cons_of_mem _ (List.mem_cons_of_mem _ (List.mem_cons_of_mem _ hu)))
theorem sd_okI (x : Int32) : sd_ok (jI x) := trivial
theorem sd_okJ (x : Int64) : sd_ok (jJ x) := trivial
theorem sd_in100 {t i : Nat} (h : sd_ok (jR t i)) (ht : t < 100) : (t, i) ∈ sd_cells := by
  rcases h with h | ⟨-, h | h | h⟩
  · exact h
  · exact absurd h (by simp; omega)
  · exact absurd h (by simp; omega)
  · exact absurd h (by simp; omega)
theorem sd_cell_lt {q : Nat × Nat} (h : q ∈ sd_cells) : q.1 < 100 := by
  have h1 : sd_cells.all (fun q => decide (q.1 < 100)) = true := by decide +kernel
  simpa using List.all_eq_true.mp h1 q h
theorem sd_okRo {t i : Nat} (h : sd_ok (jR t i)) (ht : 100 ≤ t) : i = 0 := by
  rcases h with h | ⟨h, -⟩
  · have := sd_cell_lt h
    simp at this
    omega
  · exact h
theorem sd_roI {σ ρ : jm_G} {t i : Nat} {f : Nat → Int32} (h : sd_ro σ ρ) (ht : t < 100) : sd_ro (wI σ t i f) ρ := by
  obtain ⟨h1, h2, h3⟩ := h
  refine ⟨?_, h2, ?_⟩
  · rw [← h1]; simp only [wI]; rw [if_neg (by omega)]
  · rw [← h3]; simp only [wI]; rw [if_neg (by omega)]
theorem sd_roJ {σ ρ : jm_G} {t i : Nat} {f : Nat → Int64} (h : sd_ro σ ρ) (ht : t < 100) : sd_ro (wJ σ t i f) ρ := by
  obtain ⟨h1, h2, h3⟩ := h
  refine ⟨h1, ?_, h3⟩
  rw [← h2]; simp only [wJ]; rw [if_neg (by omega)]
theorem sd_lvok1 {lv : jm_L} {i : Nat} {v : jm_V} (h : ∀ i v, jm_at lv i = some v → sd_ok v) (hv : sd_ok v) : ∀ j u, jm_at (jm_put1 lv i v) j = some u → sd_ok u := by
  intro j u hu
  rcases jm_at_put1 hu with ⟨-, rfl⟩ | ⟨-, h1, -⟩
  · exact hv
  · exact h j u h1
theorem sd_lvok2 {lv : jm_L} {i : Nat} {v : jm_V} (h : ∀ i v, jm_at lv i = some v → sd_ok v) (hv : sd_ok v) : ∀ j u, jm_at (jm_put2 lv i v) j = some u → sd_ok u := by
  intro j u hu
  rcases jm_at_put2 hu with ⟨-, rfl⟩ | ⟨-, -, h1, -⟩
  · exact hv
  · exact h j u h1
def sd_rtok (rk : Nat) (i : Instr) (v : Option jm_V) : Prop :=
  (i = .ireturn ∧ ∃ x, v = some (jI x) ∧ (rk = 1 ∨ (rk = 3 ∧ (x = 0 ∨ x = 1)))) ∨ (i = .lreturn ∧ rk = 2 ∧ ∃ x, v = some (jJ x)) ∨ (i = .areturn ∧ rk = 4 ∧ ∃ q : Nat × Nat, v = some (.inr (.inr q))) ∨ (i = .return_ ∧ rk = 0 ∧ v = none)
section STEP
variable {p : Program} {l : Launch} {e : Env} {R : Room} {s : State} {m : MethodId} {args : Array Value} {below : List Frame} {meth : Method} {c : Code} {cells slots : Nat} {Q : State → Prop} {L own rk nL : Nat} {cc : ByteArray} {D : va_G} {Y : sd_Y} {ad : Nat → Nat → Nat} {ρ : jm_G} {H : Heap} {locs : List Loc}
/-- the world at a call -/
theorem sd_st_at (h : sd_st L D Y ad ρ s s.heap) (hS : va_S (sd_A ad) s.heap H locs) {U : State} (hU : U.heap = H) (hW : s.WarmedH U.vm) : sd_st L D Y ad ρ U U.heap := by
  obtain ⟨h1, h2, h3, h4, h5, h6, h7, h8⟩ := h
  rw [hU]
  refine ⟨va_K.moved hW.alike h1, fun w hw => ?_, h3, (h4.moved hW.alike).kept hS.2.1, (h5.moved hW.alike).kept hS.2.1, (h6.moved hW.alike).kept hS.2.1, (h7.moved hW.alike).kept hS.2.1, (h8.moved hW.alike).kept hS.2.1⟩
  obtain ⟨q, -, rfl⟩ := List.mem_map.mp hw
  exact va_Nw.warmM hW (h2 _ hw)
theorem sd_st_blind {U : State} {g : JFrame} {mk : MethodId} {a : Array Value} (h : sd_st L D Y ad ρ U U.heap) : sd_st L D Y ad ρ (U.calling g mk a) U.heap := by
  obtain ⟨h1, h2, h3, h4, h5, h6, h7, h8⟩ := h
  have hvm : U.vm.Alike (U.calling g mk a).vm := Vm.Alike.refl U.vm
  refine ⟨va_K.moved hvm h1, fun w hw => ?_, h3, h4.moved hvm, h5.moved hvm, h6.moved hvm, h7.moved hvm, h8.moved hvm⟩
  obtain ⟨q, -, rfl⟩ := List.mem_map.mp hw
  exact va_Nw.same rfl rfl (h2 _ hw)
theorem sd_blind {as : List jm_V} {σ : jm_G} : FrameBlind (sd_Pc L D Y ad ρ as σ) := fun a U g mk h => ⟨h.1, sd_st_blind h.2.1, h.2.2⟩
/-- behind a call -/
theorem sd_call {pc : Nat} {ls : Array Slot} {st0 rest : List Value} {a : Array Value} {post : Option jm_V → jm_G → Prop} (hr : va_Run p l e R s m args below meth c H locs cells slots 0 0 (F0 m pc ls st0) rest (sd_Qc D Y ad ρ post a) (sd_A ad)) (hS : va_S (sd_A ad) s.heap H locs)
    (kk : ∀ (r : Option jm_V) (σ' : jm_G) (H1 : Heap) (locs1 : List Loc), post r σ' → sd_ro σ' ρ → (∀ v, r = some v → sd_ok v) → va_P D vwCl (sd_ws ad Y σ') H1 → va_S (sd_A ad) s.heap H1 locs1 → W p l e R s m args below meth c H1 locs1 cells slots Q (F0 m (pc + 3) ls ((r.map (sd_c ad)).toList ++ rest))) : W p l e R s m args below meth c H locs cells slots Q (F0 m pc ls st0) := by
  intro T hT X
  obtain ⟨v, st₀, t, T', L', h0, X', hL, e1, e2, ⟨⟨r, σ', hv, hp, hro, hok, hb⟩, hz, hk⟩, st⟩ := hr T hT X
  cases hv
  rw [h0] at hz hk
  obtain ⟨t2, a1, b1⟩ := kk r σ' T'.heap (locs ++ L') hp hro hok (by rw [e1]; exact hb)
    ⟨Nat.le_trans hS.1 (by rw [e1]; exact hz), fun q h1 h2 => by rw [e1, hk q (Nat.lt_of_lt_of_le h1 hS.1) h2]; exact hS.2.1 q h1 h2, fun q hq => by
      rcases List.mem_append.mp hq with h | h
      · exact hS.2.2 q h
      · exact hL q h⟩ T' rfl X'
  exact ⟨t2, st t2 a1, b1⟩
/-- reading a field -/
theorem sd_getf {σ : jm_G} {pc idx t i k n ci : Nat} {fs : List jm_F} {f : jm_F} {ls : Array Slot} {rest : List Value} (hcx : sd_cx p s m args c L own nL cc D Y ad ρ) (hfl : (own, idx, (ci, k)) ∈ jm_fl) (hk : jm_nth jm_sh t = some (n, .inl (ci, fs))) (hf : jm_nth fs k = some f) (hc : (t, i) ∈ sd_cells) (hP : va_P D vwCl (sd_ws ad Y σ) H) (hd : decode cc pc = .ok (.getfield idx, 3))
    (kk : W p l e R s m args below meth c H locs cells slots Q (F0 m (pc + 3) ls (sd_c ad (jm_val σ t i k f) :: rest))) : W p l e R s m args below meth c H locs cells slots Q (F0 m pc ls (.ref (ad t i) :: rest)) := by
  obtain ⟨hx, hb, hml, hown, hts, hst⟩ := hcx
  obtain ⟨r, hr, hkl, e1, hw⟩ := sd_flF hfl
  obtain ⟨k0, hk0, hws⟩ := sd_get hc ad Y σ
  have hen : sd_en ad Y σ t i = .inr (ci, sd_fs ad σ t i fs 0) := by unfold sd_en; rw [hk]
  rw [hen] at hws
  have hin := (sd_cls r (List.mem_of_getElem? hr)).1
  obtain ⟨C', T', N'⟩ := r
  refine va_get (C := C') (T := T') (N := N') hx hb hts hin hown hst.1 hP k0 hws hr k hkl (hts _ hw) (fun x h => by rw [← e1]; exact h) ?_ hd kk
  rw [sd_fs_get, hf]
  simp
/-- writing a field -/
theorem sd_putf {σ τ : jm_G} {pc idx t i k n ci w : Nat} {fs : List jm_F} {v : jm_V} {ls : Array Slot} {rest : List Value} (hcx : sd_cx p s m args c L own nL cc D Y ad ρ) (hfl : (own, idx, (ci, k)) ∈ jm_fl) (hk : jm_nth jm_sh t = some (n, .inl (ci, fs))) (hf : jm_nth fs k = some (.inl w)) (hw4 : w ≠ 4) (hc : (t, i) ∈ sd_cells) (hP : va_P D vwCl (sd_ws ad Y σ) H) (hS : va_S (sd_A ad) s.heap H locs) (hd : decode cc pc = .ok (.putfield idx, 3))
    (hn : narrow (sd_kty w) (sd_c ad v) = sd_c ad v) (hfit : fits (sd_kty w) (sd_c ad v) = true) (hset : (sd_fs ad σ t i fs 0).set k (sd_c ad v) = sd_fs ad τ t i fs 0) (hoff : ∀ a b : Nat, ¬ (a = t ∧ b = i) → σ.1 a b = τ.1 a b ∧ σ.2 a b = τ.2 a b)
    (kk : ∀ (H1 : Heap) (locs1 : List Loc), va_P D vwCl (sd_ws ad Y τ) H1 → va_S (sd_A ad) s.heap H1 locs1 → W p l e R s m args below meth c H1 locs1 cells slots Q (F0 m (pc + 3) ls rest)) : W p l e R s m args below meth c H locs cells slots Q (F0 m pc ls (sd_c ad v :: .ref (ad t i) :: rest)) := by
  obtain ⟨hx, hb, hml, hown, hts, hst⟩ := hcx
  obtain ⟨r, hr, hkl, e1, hw⟩ := sd_flF hfl
  obtain ⟨r', hr', hlen, hkw⟩ := sd_shF (k := k) (w := w) hk
  cases hr.symm.trans hr'
  obtain ⟨-, hfin, hty⟩ := hkw hf
  have hfin : (r.2.1 k).2.2.2 = false := hfin.resolve_left hw4
  obtain ⟨k0, hk0, hws⟩ := sd_get hc ad Y σ
  have hen : sd_en ad Y σ t i = .inr (ci, sd_fs ad σ t i fs 0) := by unfold sd_en; rw [hk]
  have hen2 : sd_en ad Y τ t i = .inr (ci, sd_fs ad τ t i fs 0) := by unfold sd_en; rw [hk]
  rw [hen] at hws
  obtain ⟨hin, ty0, hty0, hnm⟩ := sd_cls r (List.mem_of_getElem? hr)
  obtain ⟨C', T', N'⟩ := r
  refine va_put (C := C') (T := T') (N := N') hx hb hts hin ty0 hty0 hnm hown hst.1 hP (sd_inD hst.2.2.1) hS k0 hws hr k hkl (hts _ hw) (fun x h => by rw [← e1]; exact h) hfin hty hn hfit (by rw [sd_fs_len, hlen]; exact hkl) hd (fun H1 locs1 hP1 _ hS1 => kk H1 locs1 ?_ hS1)
  have := sd_set (ad := ad) (Y := Y) hk0 hoff
  rw [hen2, ← hset] at this
  rw [← this]
  exact hP1
end STEP
section ROWS
variable {p : Program} {l : Launch} {e : Env} {R : Room} {s : State} {m : MethodId} {args : Array Value} {below : List Frame} {meth : Method} {c : Code} {cells slots : Nat} {Q : State → Prop} {L own rk nL : Nat} {cc : ByteArray} {D : va_G} {Y : sd_Y} {ad : Nat → Nat → Nat} {ρ : jm_G} {H : Heap} {locs : List Loc} {σ : jm_G} {pc t i n mm : Nat} {x : Int32} {ls : Array Slot} {rest : List Value}
theorem sd_en_row {w : Nat} (hk : jm_nth jm_sh t = some (mm, .inr (n, w))) (τ : jm_G) : sd_en ad Y τ t i = sd_ar ad Y τ t i n w := by unfold sd_en; rw [hk]
/-- reading an element of an int row -/
theorem sd_iald (hcx : sd_cx p s m args c L own nL cc D Y ad ρ) (hrow : jm_row L t 0 = some n) (hok : sd_ok (jR t i)) (hro : sd_ro σ ρ) (hin : vp_in x n) (hP : va_P D vwCl (sd_ws ad Y σ) H) (hS : va_S (sd_A ad) s.heap H locs) (hd : decode cc pc = .ok (.iaload, 1))
    (kk : W p l e R s m args below meth c H locs cells slots Q (F0 m (pc + 1) ls (.int (σ.1 t i x.toNatClampNeg) :: rest))) : W p l e R s m args below meth c H locs cells slots Q (F0 m pc ls (.int x :: .ref (ad t i) :: rest)) := by
  obtain ⟨hx, hb, hml, hown, hts, hst⟩ := hcx
  rcases jm_row_inv hrow with ⟨ht, m', hk⟩ | ⟨rfl, -, rfl⟩ | ⟨-, h0, -⟩ | ⟨rfl, -, rfl⟩
  · obtain ⟨k0, hk0, hws⟩ := sd_get (sd_in100 hok ht) ad Y σ
    rw [sd_en_row hk] at hws
    exact va_iald hx hb hst.1 hP k0 0 hws rfl hin hd kk
  · cases sd_okRo hok (by omega)
    exact va_ti hx hb hst.2.2.2.2.2.1 hS hin rfl hd (by rw [← hro.1]; exact kk)
  · cases h0
  · cases sd_okRo hok (by omega)
    exact va_ti hx hb hst.2.2.2.2.2.2.2 hS hin rfl hd (by rw [← hro.2.2]; exact kk)
theorem sd_lald (hcx : sd_cx p s m args c L own nL cc D Y ad ρ) (hrow : jm_row L t 1 = some n) (hok : sd_ok (jR t i)) (hro : sd_ro σ ρ) (hin : vp_in x n) (hP : va_P D vwCl (sd_ws ad Y σ) H) (hS : va_S (sd_A ad) s.heap H locs) (hd : decode cc pc = .ok (.laload, 1))
    (kk : W p l e R s m args below meth c H locs cells slots Q (F0 m (pc + 1) ls (.long (σ.2 t i x.toNatClampNeg) :: rest))) : W p l e R s m args below meth c H locs cells slots Q (F0 m pc ls (.int x :: .ref (ad t i) :: rest)) := by
  obtain ⟨hx, hb, hml, hown, hts, hst⟩ := hcx
  rcases jm_row_inv hrow with ⟨ht, m', hk⟩ | ⟨-, h0, -⟩ | ⟨rfl, -, rfl⟩ | ⟨-, h0, -⟩
  · obtain ⟨k0, hk0, hws⟩ := sd_get (sd_in100 hok ht) ad Y σ
    rw [sd_en_row hk] at hws
    exact va_lald hx hb hst.1 hP k0 1 hws rfl hin hd kk
  · cases h0
  · cases sd_okRo hok (by omega)
    exact va_tl hx hb hst.2.2.2.2.2.2.1 hS hin rfl hd (by rw [← hro.2.1]; exact kk)
  · cases h0
theorem sd_zald (hcx : sd_cx p s m args c L own nL cc D Y ad ρ) (hrow : jm_row L t 2 = some n) (hok : sd_ok (jR t i)) (hin : vp_in x n) (hP : va_P D vwCl (sd_ws ad Y σ) H) (hd : decode cc pc = .ok (.baload, 1))
    (kk : W p l e R s m args below meth c H locs cells slots Q (F0 m (pc + 1) ls (.int (σ.1 t i x.toNatClampNeg) :: rest))) : W p l e R s m args below meth c H locs cells slots Q (F0 m pc ls (.int x :: .ref (ad t i) :: rest)) := by
  obtain ⟨hx, hb, hml, hown, hts, hst⟩ := hcx
  rcases jm_row_inv hrow with ⟨ht, m', hk⟩ | ⟨-, h0, -⟩ | ⟨-, h0, -⟩ | ⟨-, h0, -⟩
  · obtain ⟨k0, hk0, hws⟩ := sd_get (sd_in100 hok ht) ad Y σ
    rw [sd_en_row hk] at hws
    exact va_zald hx hb hst.1 hP k0 2 hws rfl hin hd kk
  · cases h0
  · cases h0
  · cases h0
theorem sd_aald (hcx : sd_cx p s m args c L own nL cc D Y ad ρ) (hrow : jm_row L t 3 = some n) (hok : sd_ok (jR t i)) (hin : vp_in x n) (hP : va_P D vwCl (sd_ws ad Y σ) H) (hd : decode cc pc = .ok (.aaload, 1))
    (kk : W p l e R s m args below meth c H locs cells slots Q (F0 m (pc + 1) ls (.ref (ad 17 x.toNatClampNeg) :: rest))) : W p l e R s m args below meth c H locs cells slots Q (F0 m pc ls (.int x :: .ref (ad t i) :: rest)) := by
  obtain ⟨hx, hb, hml, hown, hts, hst⟩ := hcx
  rcases jm_row_inv hrow with ⟨ht, m', hk⟩ | ⟨-, h0, -⟩ | ⟨-, h0, -⟩ | ⟨-, h0, -⟩
  · obtain ⟨k0, hk0, hws⟩ := sd_get (sd_in100 hok ht) ad Y σ
    rw [sd_en_row hk] at hws
    exact va_aldq hx hb hst.1 hP k0 3 hws rfl hin hd kk
  · cases h0
  · cases h0
  · cases h0
theorem sd_row3 (hrow : jm_row L t 3 = some n) : n = 4 := by
  rcases jm_row_inv hrow with ⟨ht, m', hk⟩ | ⟨-, h0, -⟩ | ⟨-, h0, -⟩ | ⟨-, h0, -⟩
  · have h1 : jm_sh.all (fun h => match h.2 with | .inr (n, 3) => decide (n = 4) | _ => true) = true := by decide +kernel
    rw [jm_nth_eq] at hk
    simpa using List.all_eq_true.mp h1 _ (List.mem_of_getElem? hk)
  · cases h0
  · cases h0
  · cases h0
theorem sd_iast {y : Int32} (hcx : sd_cx p s m args c L own nL cc D Y ad ρ) (ht : t < 100) (hrow : jm_row L t 0 = some n) (hok : sd_ok (jR t i)) (hin : vp_in x n) (hP : va_P D vwCl (sd_ws ad Y σ) H) (hS : va_S (sd_A ad) s.heap H locs) (hd : decode cc pc = .ok (.iastore, 1))
    (kk : ∀ (H1 : Heap) (locs1 : List Loc), va_P D vwCl (sd_ws ad Y (wI σ t i (upd (σ.1 t i) x.toNatClampNeg y))) H1 → va_S (sd_A ad) s.heap H1 locs1 → W p l e R s m args below meth c H1 locs1 cells slots Q (F0 m (pc + 1) ls rest)) : W p l e R s m args below meth c H locs cells slots Q (F0 m pc ls (.int y :: .int x :: .ref (ad t i) :: rest)) := by
  obtain ⟨hx, hb, hml, hown, hts, hst⟩ := hcx
  rcases jm_row_inv hrow with ⟨ht, m', hk⟩ | ⟨h0, -, -⟩ | ⟨h0, -, -⟩ | ⟨h0, -, -⟩
  · obtain ⟨k0, hk0, hws⟩ := sd_get (sd_in100 hok ht) ad Y σ
    rw [sd_en_row hk] at hws
    refine va_iast hx hb hst.1 hP (sd_inD hst.2.2.1) hS k0 0 hws rfl hin hd (fun H1 locs1 hP1 _ hS1 => kk H1 locs1 ?_ hS1)
    have h5 := sd_set (ad := ad) (Y := Y) hk0 (wI_off (σ := σ) (t := t) (i := i) (f := upd (σ.1 t i) x.toNatClampNeg y))
    rw [sd_en_row hk] at h5
    simp only [sd_ar, wI_at] at h5
    rw [← h5]
    exact hP1
  · omega
  · omega
  · omega
theorem sd_zast {y : Int32} (hcx : sd_cx p s m args c L own nL cc D Y ad ρ) (ht : t < 100) (hrow : jm_row L t 2 = some n) (hok : sd_ok (jR t i)) (hin : vp_in x n) (hy : y = 0 ∨ y = 1) (hP : va_P D vwCl (sd_ws ad Y σ) H) (hS : va_S (sd_A ad) s.heap H locs) (hd : decode cc pc = .ok (.bastore, 1))
    (kk : ∀ (H1 : Heap) (locs1 : List Loc), va_P D vwCl (sd_ws ad Y (wI σ t i (upd (σ.1 t i) x.toNatClampNeg y))) H1 → va_S (sd_A ad) s.heap H1 locs1 → W p l e R s m args below meth c H1 locs1 cells slots Q (F0 m (pc + 1) ls rest)) : W p l e R s m args below meth c H locs cells slots Q (F0 m pc ls (.int y :: .int x :: .ref (ad t i) :: rest)) := by
  obtain ⟨hx, hb, hml, hown, hts, hst⟩ := hcx
  have hz : vp_nar .boolean y = y := by rcases hy with rfl | rfl <;> decide
  rcases jm_row_inv hrow with ⟨ht, m', hk⟩ | ⟨h0, -, -⟩ | ⟨h0, -, -⟩ | ⟨h0, -, -⟩
  · obtain ⟨k0, hk0, hws⟩ := sd_get (sd_in100 hok ht) ad Y σ
    rw [sd_en_row hk] at hws
    refine va_zast hx hb hst.1 hP (sd_inD hst.2.2.1) hS k0 2 hws rfl hin hd (fun H1 locs1 hP1 _ hS1 => kk H1 locs1 ?_ hS1)
    have h5 := sd_set (ad := ad) (Y := Y) hk0 (wI_off (σ := σ) (t := t) (i := i) (f := upd (σ.1 t i) x.toNatClampNeg y))
    rw [sd_en_row hk] at h5
    simp only [sd_ar, wI_at] at h5
    rw [hz] at hP1
    rw [← h5]
    exact hP1
  · omega
  · omega
  · omega
theorem sd_last {y : Int64} (hcx : sd_cx p s m args c L own nL cc D Y ad ρ) (ht : t < 100) (hrow : jm_row L t 1 = some n) (hok : sd_ok (jR t i)) (hin : vp_in x n) (hP : va_P D vwCl (sd_ws ad Y σ) H) (hS : va_S (sd_A ad) s.heap H locs) (hd : decode cc pc = .ok (.lastore, 1))
    (kk : ∀ (H1 : Heap) (locs1 : List Loc), va_P D vwCl (sd_ws ad Y (wJ σ t i (vp_updL (σ.2 t i) x.toNatClampNeg y))) H1 → va_S (sd_A ad) s.heap H1 locs1 → W p l e R s m args below meth c H1 locs1 cells slots Q (F0 m (pc + 1) ls rest)) : W p l e R s m args below meth c H locs cells slots Q (F0 m pc ls (.long y :: .int x :: .ref (ad t i) :: rest)) := by
  obtain ⟨hx, hb, hml, hown, hts, hst⟩ := hcx
  rcases jm_row_inv hrow with ⟨ht, m', hk⟩ | ⟨h0, -, -⟩ | ⟨h0, -, -⟩ | ⟨h0, -, -⟩
  · obtain ⟨k0, hk0, hws⟩ := sd_get (sd_in100 hok ht) ad Y σ
    rw [sd_en_row hk] at hws
    refine va_last hx hb hst.1 hP (sd_inD hst.2.2.1) hS k0 1 hws rfl hin hd (fun H1 locs1 hP1 _ hS1 => kk H1 locs1 ?_ hS1)
    have h5 := sd_set (ad := ad) (Y := Y) hk0 (wJ_off (σ := σ) (t := t) (i := i) (f := vp_updL (σ.2 t i) x.toNatClampNeg y))
    rw [sd_en_row hk] at h5
    simp only [sd_ar, wJ_at] at h5
    rw [← h5]
    exact hP1
  · omega
  · omega
  · omega
theorem sd_alen {w : Nat} (hcx : sd_cx p s m args c L own nL cc D Y ad ρ) (hkind : jm_kind L t = some (mm, .inr (n, w))) (hok : sd_ok (jR t i)) (hP : va_P D vwCl (sd_ws ad Y σ) H) (hS : va_S (sd_A ad) s.heap H locs) (hd : decode cc pc = .ok (.arraylength, 1))
    (kk : W p l e R s m args below meth c H locs cells slots Q (F0 m (pc + 1) ls (.int (nI n) :: rest))) : W p l e R s m args below meth c H locs cells slots Q (F0 m pc ls (.ref (ad t i) :: rest)) := by
  have hrow : jm_row L t w = some n := by
    unfold jm_row
    rw [hkind]
    simp
  obtain ⟨hx, hb, hml, hown, hts, hst⟩ := hcx
  rcases jm_row_inv hrow with ⟨ht, m', hk⟩ | ⟨rfl, rfl, rfl⟩ | ⟨rfl, rfl, rfl⟩ | ⟨rfl, rfl, rfl⟩
  · obtain ⟨k0, hk0, hws⟩ := sd_get (sd_in100 hok ht) ad Y σ
    rw [sd_en_row hk] at hws
    unfold sd_ar at hws
    split at hws
    · exact va_alen hx hb hst.1 hP k0 0 hws rfl rfl hd kk
    · exact va_alen hx hb hst.1 hP k0 1 hws rfl rfl hd kk
    · exact va_alen hx hb hst.1 hP k0 2 hws rfl rfl hd kk
    · exact va_alen hx hb hst.1 hP k0 3 hws rfl rfl hd kk
  · cases sd_okRo hok (by omega)
    exact va_tlen hx hb hst.2.2.2.2.2.1 hS rfl hd kk
  · cases sd_okRo hok (by omega)
    exact va_tlen hx hb hst.2.2.2.2.2.2.1 hS rfl hd kk
  · cases sd_okRo hok (by omega)
    exact va_tlen hx hb hst.2.2.2.2.2.2.2 hS rfl hd kk
end ROWS
