/-! the words of the tables, as the steps use them -/
set_option maxRecDepth 100000 in
theorem sd_lenOK : jm_mt.all (fun q => q.2.2.2.all jm_lenQ) = true := by decide +kernel
theorem sd_mapin {α : Type} {f : α → Option Cond} {a : List α} {ps : List Nat} (h : a.map f = ps.map (fun i => lw_tbl[i]?)) {x : α} (hx : x ∈ a) {w : Cond} (hw : f x = some w) : w ∈ lw_tbl := by
  have h1 : f x ∈ a.map f := List.mem_map_of_mem hx
  rw [h] at h1
  obtain ⟨i, -, hi⟩ := List.mem_map.mp h1
  exact List.mem_of_getElem? (hi.trans hw)
theorem sd_good {w : Cond} (h : w ∈ lw_tbl) (hg : goodWord w = true) : w ∈ sd_W := List.mem_filter.mpr ⟨h, hg⟩
theorem sd_flF {own idx ci k : Nat} (h : (own, idx, (ci, k)) ∈ jm_fl) : ∃ r : vw_C, vwCl[ci]? = some r ∧ k < r.2.2 ∧ (r.2.1 k).1 = r.1 ∧ Cond.fieldLink (sd_own own) idx r.1 (r.2.1 k).2.1 (r.2.1 k).2.2.1 ∈ sd_W := by
  have h2 := List.all_eq_true.mp sd_fl2 _ h
  dsimp only at h2
  split at h2
  · rename_i r hr
    simp only [Bool.and_eq_true, decide_eq_true_eq] at h2
    exact ⟨r, hr, h2.1, h2.2, sd_good (sd_mapin sd_fl1 h (by simp [sd_flW, hr])) rfl⟩
  · cases h2
theorem sd_gsF {own idx t : Nat} (h : (own, idx, t) ∈ jm_gs) : (t = 100 ∧ Cond.fieldLink (sd_own own) idx "TableMapper$Network" "SOURCES" "[I" ∈ sd_W) ∨ (t = 101 ∧ Cond.fieldLink (sd_own own) idx "TableMapper$Contents" "PLACES" "[J" ∈ sd_W) := by
  have h2 := List.all_eq_true.mp sd_gs2 _ h
  simp only [decide_eq_true_eq] at h2
  rcases h2 with rfl | rfl
  · exact Or.inl ⟨rfl, sd_good (sd_mapin sd_gs1 h (by simp [sd_gsW])) rfl⟩
  · exact Or.inr ⟨rfl, sd_good (sd_mapin sd_gs1 h (by simp [sd_gsW])) rfl⟩
theorem sd_lcF {own idx : Nat} {v : Int64} (h : (own, idx, v) ∈ jm_lc) : Cond.constantLong (sd_own own) idx v ∈ sd_W := sd_good (sd_mapin sd_lc1 h rfl) rfl
theorem sd_mmF {own idx : Nat} {b : Bool} (h : (own, idx, b) ∈ jm_mm) : Cond.methodLink (sd_own own) idx (sd_mmN b) ∈ sd_W := sd_good (sd_mapin sd_mm1 h rfl) rfl
theorem sd_mF {k : Nat} {q : MethodName × ByteArray × Nat × Option FieldType} (h : sd_mt[k]? = some q) : Cond.code q.1 q.2.1 q.2.2.1 q.2.2.2 ∈ sd_W ∧ ∃ own rk cd, jm_mt[k]? = some (own, rk, q.2.2.1, cd) ∧ q.1.cls = sd_own own ∧ plainName q.1.cls = true ∧ q.1.cls ≠ "java/lang/invoke/MethodHandle" ∧ q.1.cls ≠ "java/lang/invoke/VarHandle" ∧
    ((rk = 0 ∧ q.2.2.2 = none) ∨ (rk = 1 ∧ q.2.2.2 = some .int) ∨ (rk = 2 ∧ q.2.2.2 = some .long) ∨ (rk = 3 ∧ q.2.2.2 = some .boolean) ∨ (rk = 4 ∧ ∃ n, q.2.2.2 = some (.object n))) ∧
    (∀ pc i n, jm_look cd pc = some (i, n) → decode q.2.1 pc = .ok (i, n) ∧ jm_lenQ (pc, i, n) = true) ∧ q.2.2.1 ≤ 60 := by
  have hlt : k < sd_mt.length := (List.getElem?_eq_some_iff.mp h).1
  have hlt2 : k < jm_mt.length := by rw [← sd_mwL.2.1]; exact hlt
  obtain ⟨mrow, hm⟩ : ∃ r, jm_mt[k]? = some r := ⟨_, List.getElem?_eq_getElem hlt2⟩
  have hz : (sd_mt.zip jm_mt)[k]? = some (q, mrow) := List.getElem?_zip_eq_some.mpr ⟨h, hm⟩
  have h1 := List.all_eq_true.mp sd_mk1 _ (List.mem_of_getElem? hz)
  obtain ⟨own, rk, nL, cd⟩ := mrow
  simp only [sd_mkQ, Bool.and_eq_true, decide_eq_true_eq] at h1
  obtain ⟨⟨⟨⟨⟨⟨e1, e2⟩, e3⟩, e4⟩, e5⟩, e6⟩, e7⟩ := h1
  subst e1
  refine ⟨sd_good (sd_mc k q h) rfl, own, rk, cd, hm, e2, e3, e4, e5, ?_, ?_, e7⟩
  · split at e6
    · exact Or.inl ⟨rfl, by simpa using e6⟩
    · exact Or.inr (Or.inl ⟨rfl, by simpa using e6⟩)
    · exact Or.inr (Or.inr (Or.inl ⟨rfl, by simpa using e6⟩))
    · exact Or.inr (Or.inr (Or.inr (Or.inl ⟨rfl, by simpa using e6⟩)))
    · split at e6
      · rename_i n hn
        exact Or.inr (Or.inr (Or.inr (Or.inr ⟨rfl, n, hn⟩)))
      · cases e6
    · cases e6
  · intro pc i n hl
    have h2 := List.all_eq_true.mp (sd_dec k q _ h hm) _ (jm_look_in hl)
    have h3 := List.all_eq_true.mp (List.all_eq_true.mp sd_lenOK _ (List.mem_of_getElem? hm)) _ (jm_look_in hl)
    exact ⟨by simpa using h2, h3⟩
theorem sd_mlF {own idx k n cx : Nat} (h : (own, idx, (k, n, cx)) ∈ jm_ml) : ∃ q, sd_mt[k]? = some q ∧ (Cond.methodLink (sd_own own) idx q.1 ∈ sd_W ∨ ∃ host, Cond.methodLinkNest (sd_own own) idx q.1 host ∈ sd_nest) ∧ Cond.initialized q.1.cls ∈ sd_W ∧
    ((cx = 0 ∧ Cond.static q.1 ∈ sd_W ∧ (parseMethodDescriptor q.1.desc).map (fun d => d.parameters.length) = some n) ∨
     (∃ c r, cx = c + 1 ∧ vwCl[c]? = some r ∧ r.1 = q.1.cls ∧ Cond.instanceMethod q.1 ∈ sd_W ∧ Cond.selects q.1.cls q.1 q.1 ∈ sd_W ∧ 0 < n ∧ (parseMethodDescriptor q.1.desc).map (fun d => d.parameters.length) = some (n - 1))) := by
  have h0 := h
  rw [← sd_mlX1] at h0
  obtain ⟨⟨e, z⟩, hz, he⟩ := List.mem_map.mp h0
  have he : e = (own, idx, (k, n, cx)) := he
  subst he
  have h1 := List.all_eq_true.mp sd_ml1 _ hz
  have h1 : sd_mlQ (own, idx, (k, n, cx)) z = true := h1
  unfold sd_mlQ at h1
  split at h1
  · rename_i q hq
    have hq : sd_mt[k]? = some q := hq
    have hlt : k < sd_mt.length := (List.getElem?_eq_some_iff.mp hq).1
    obtain ⟨ps, hps⟩ : ∃ r, sd_mwP[k]? = some r := ⟨_, List.getElem?_eq_getElem (by rw [← sd_mwL.1]; exact hlt)⟩
    have hzz : (sd_mt.zipIdx.zip sd_mwP)[k]? = some ((q, k), ps) := List.getElem?_zip_eq_some.mpr ⟨by simp [List.getElem?_zipIdx, hq], hps⟩
    have hw := List.all_eq_true.mp sd_mw1 _ (List.mem_of_getElem? hzz)
    simp only [Bool.and_eq_true, decide_eq_true_eq] at hw
    have hin : ∀ w ∈ sd_mw k q, w ∈ sd_W := fun w hm => sd_good (by
      have h5 : some w ∈ (sd_mw k q).map some := List.mem_map_of_mem hm
      rw [hw.1] at h5
      obtain ⟨i, -, hi⟩ := List.mem_map.mp h5
      exact List.mem_of_getElem? hi) (List.all_eq_true.mp hw.2 w hm)
    have hca := List.all_eq_true.mp sd_ca1 _ h
    unfold sd_caQ at hca
    have hca : (match sd_mt[k]? with
      | some m => match sd_stat.getD k true with
        | true => decide (cx = 0) && decide ((parseMethodDescriptor m.1.desc).map (fun d => d.parameters.length) = some n)
        | false => decide (0 < n) && decide ((parseMethodDescriptor m.1.desc).map (fun d => d.parameters.length) = some (n - 1)) && sd_caC cx m.1.cls
      | none => false) = true := hca
    rw [hq] at hca
    dsimp only at hca
    unfold sd_mw at hin
    refine ⟨q, hq, ?_, ?_, ?_⟩
    · split at h1
      · rename_i hb
        exact Or.inl (sd_good (List.mem_of_getElem? (by simpa using h1)) rfl)
      · exact Or.inr ⟨_, List.mem_of_getElem? (by simpa using h1)⟩
    · split at hin
      · exact hin _ (by simp)
      · exact hin _ (by simp)
    · split at hca
      · rename_i hsx
        rw [hsx] at hin
        simp only [Bool.and_eq_true, decide_eq_true_eq] at hca
        exact Or.inl ⟨hca.1, hin _ (by simp), hca.2⟩
      · rename_i hsx
        rw [hsx] at hin
        simp only [Bool.and_eq_true, decide_eq_true_eq] at hca
        obtain ⟨⟨ha, hb⟩, hc⟩ := hca
        have hc2 : ∃ c r, cx = c + 1 ∧ vwCl[c]? = some r ∧ r.1 = q.1.cls := by
                    cases cx with
          | zero => cases hc
          | succ c =>
            unfold sd_caC at hc
            dsimp only at hc
            split at hc
            · rename_i r hr
              exact ⟨c, r, rfl, hr, by simpa using hc⟩
            · cases hc
        obtain ⟨c, r, e1, e2, e3⟩ := hc2
        exact Or.inr ⟨c, r, e1, e2, e3, hin _ (by simp), hin _ (by simp), ha, hb⟩
  · cases h1
theorem sd_rfF {t i n ci k t' : Nat} {fs : List jm_F} {b : Bool} (h : (t, i) ∈ sd_cells) (hk : jm_nth jm_sh t = some (n, .inl (ci, fs))) (hf : jm_nth fs k = some (.inr (t', b))) : (t', jm_pick b i) ∈ sd_cells := by
  have h1 := List.all_eq_true.mp sd_rf1 _ h
  unfold sd_rfQ at h1
  dsimp only at h1
  rw [hk] at h1
  simp only [Bool.and_eq_true] at h1
  have h2 := List.all_eq_true.mp h1.2 (.inr (t', b)) (by rw [jm_nth_eq] at hf; exact List.mem_of_getElem? hf)
  dsimp only at h2
  exact List.contains_iff_mem.mp h2
theorem sd_shF {t n ci k w : Nat} {fs : List jm_F} (hk : jm_nth jm_sh t = some (n, .inl (ci, fs))) : ∃ r, vwCl[ci]? = some r ∧ fs.length = r.2.2 ∧ (jm_nth fs k = some (.inl w) → w < 5 ∧ (w = 4 ∨ (r.2.1 k).2.2.2 = false) ∧ parseFieldDescriptor (r.2.1 k).2.2.1 = some (sd_kty w)) := by
  rw [jm_nth_eq] at hk
  have h1 := List.all_eq_true.mp sd_sh1 _ (List.mem_of_getElem? hk)
  unfold sd_shQ at h1
  dsimp only at h1
  split at h1
  · rename_i r hr
    simp only [Bool.and_eq_true, decide_eq_true_eq] at h1
    refine ⟨r, hr, h1.1, fun hw => ?_⟩
    have hlt : k < r.2.2 := by
      rw [← h1.1]
      rw [jm_nth_eq] at hw
      exact (List.getElem?_eq_some_iff.mp hw).1
    have h2 := List.all_eq_true.mp h1.2 k (List.mem_range.mpr hlt)
    rw [hw] at h2
    simp only [Bool.and_eq_true, Bool.or_eq_true, Bool.not_eq_true', decide_eq_true_eq] at h2
    exact ⟨h2.1.1, h2.1.2, h2.2⟩
  · cases h1
