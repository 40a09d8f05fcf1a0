/-! THE CLOSURE -/
section CLOSE
variable {p : Program} {l : Launch} {e : Env} {R : Room} {s : State} {m : MethodId} {args : Array Value} {below : List Frame} {meth : Method} {c : Code} {cells slots : Nat} {Q : State → Prop} {L own rk nL : Nat} {cc : ByteArray} {D : va_G} {Y : sd_Y} {ad : Nat → Nat → Nat} {ρ : jm_G} {Rt : Option jm_V → jm_G → Prop} {C : jm_C}
def sd_hret (p : Program) (l : Launch) (e : Env) (R : Room) (s : State) (m : MethodId) (args : Array Value) (below : List Frame) (meth : Method) (c : Code) (cells slots : Nat) (Q : State → Prop) (rk : Nat) (cc : ByteArray) (D : va_G) (Y : sd_Y) (ad : Nat → Nat → Nat) (ρ : jm_G) (Rt : Option jm_V → jm_G → Prop) : Prop :=
  ∀ (i : Instr) (v : Option jm_V) (σ : jm_G) (H : Heap) (locs : List Loc) (ls : Array Slot) (pc : Nat), decode cc pc = .ok (i, 1) → sd_rtok rk i v → Rt v σ → sd_ro σ ρ → (∀ u, v = some u → sd_ok u) → va_P D vwCl (sd_ws ad Y σ) H → va_S (sd_A ad) s.heap H locs → W p l e R s m args below meth c H locs cells slots Q (F0 m pc ls (v.toList.map (sd_c ad)))
def sd_hcall (l : Launch) (R : Room) (L : Nat) (D : va_G) (Y : sd_Y) (ad : Nat → Nat → Nat) (ρ : jm_G) (C : jm_C) : Prop :=
  ∀ k as σ post, C k as σ post → ∀ q, sd_mt[k]? = some q → sd_ro σ ρ → (∀ v ∈ as, sd_ok v) → ∃ rm : Room, rm.cells = 0 ∧ rm.slots = 0 ∧ rm.frames + 1 ≤ R.frames ∧ 8 + (q.2.2.1 + 11) + rm.locals ≤ R.locals ∧ Met l q.1 (Cond.code q.1 q.2.1 q.2.2.1 q.2.2.2 :: sd_W) rm (sd_Pc L D Y ad ρ as σ) (sd_Qc D Y ad ρ post) 0 0 (sd_A ad)
theorem sd_invoke {σ : jm_G} {pc idx : Nat} {lv : jm_L} {st : List jm_V} {vt : Bool} {H : Heap} {locs : List Loc} {ls : Array Slot} (hcx : sd_cx p s m args c L own nL cc D Y ad ρ) (hR1 : 1 ≤ R.frames ∧ 21 ≤ R.locals ∧ cells ≤ R.cells ∧ slots ≤ R.slots) (hcall : sd_hcall l R L D Y ad ρ C)
    (hs : jm_sem (sd_X p l e R s m args below meth c cells slots Q nL D Y ad ρ) Rt C (jm_inv L own σ pc lv st idx vt)) (hro : sd_ro σ ρ) (hlv : ∀ i v, jm_at lv i = some v → sd_ok v) (hso : ∀ v ∈ st, sd_ok v) (hlen : lv.length = nL) (hP : va_P D vwCl (sd_ws ad Y σ) H) (hS : va_S (sd_A ad) s.heap H locs) (hl : lv_has ls nL (sd_ll ad lv 0))
    (hd : decode cc pc = .ok (if vt then .invokevirtual idx else .invokestatic idx, 3)) : W p l e R s m args below meth c H locs cells slots Q (F0 m pc ls (st.map (sd_c ad))) := by
  obtain ⟨k, n, cx, as, r, hml, e2, e3, hcat, hkind, hC⟩ := jm_inv_inv hs
  subst e2
  obtain ⟨q, hq, hlink, hini, hsort⟩ := sd_mlF hml
  have hok : ∀ v ∈ as, sd_ok v := fun v hv => hso v (by simp [hv])
  have hokr : ∀ v ∈ r, sd_ok v := fun v hv => hso v (by simp [hv])
  obtain ⟨rm, r1, r2, r3, r4, hM⟩ := hcall k as σ _ hC q hq hro hok
  obtain ⟨hcode, -, -, -, -, -, -, hMH, hVH, -⟩ := sd_mF hq
  have hcx' := hcx
  obtain ⟨hx, hb, hmx, hown, hts, hst⟩ := hcx
  have hGood : GoodIn sd_W (Cond.code q.1 q.2.1 q.2.2.1 q.2.2.2 :: sd_W) := fun w hw => by
    have hw' : w ∈ sd_W := by
      rcases List.mem_cons.mp hw with rfl | h
      · exact hcode
      · exact h
    exact ⟨hw', good_of_word (List.mem_filter.mp hw').2⟩
  have hsz : ls.size = nL := hl.1
  have hcatW : 2 * (F0 m pc ls ((as.reverse ++ r).map (sd_c ad))).monitorRoom + (((r.map (sd_c ad))).map fun v => v.category).sum ≤ 8 := lv_room (by rw [jm_cat_eq]; exact hcat)
  have hPs : PreS s H (sd_Pc L D Y ad ρ as σ) (as.map (sd_c ad)) := ⟨sd_blind, fun U hU hW => ⟨rfl, sd_st_at hst hS hU hW, by rw [hU]; exact hP⟩⟩
  have hback : ∀ {a : Array Value}, va_Run p l e R s m args below meth c H locs cells slots 0 0 (F0 m pc ls ((as.reverse ++ r).map (sd_c ad))) (r.map (sd_c ad)) (sd_Qc D Y ad ρ (fun r' σ' => sd_X p l e R s m args below meth c cells slots Q nL D Y ad ρ (σ', pc + 3, lv, r'.toList ++ r)) a) (sd_A ad) →
      W p l e R s m args below meth c H locs cells slots Q (F0 m pc ls ((as.reverse ++ r).map (sd_c ad))) := fun hr => sd_call hr hS (fun r' σ' H1 locs1 hp hro1 hok1 hP1 hS1 => by
    have h9 := hp hro1 hlv (fun v hv => by
      rcases List.mem_append.mp hv with h | h
      · cases r' with
        | none => cases h
        | some u => simp at h; subst h; exact hok1 _ rfl
      · exact hokr v h) hlen H1 locs1 ls hP1 hS1 hl
    cases r' with
    | none => exact h9
    | some u => exact h9)
  rcases hkind with ⟨rfl, rfl⟩ | ⟨rfl, t, i, as', m', cj, fs, rfl, hk, rfl⟩
  · rcases hsort with ⟨-, hstat, hpar⟩ | ⟨c', r', h0, -⟩
    · rcases hlink with hlk | ⟨host, hlk⟩
      · refine hback (va_runS (As := as.map (sd_c ad)) (rest := r.map (sd_c ad)) ⟨hx, hb, hmx, hown, hts⟩ hM ⟨callB_of n hts hGood rfl r1 r2 (hts _ hini) (hts _ hlk) ⟨hMH, hVH, hpar⟩ ⟨r3, r4⟩, hts _ hstat⟩ hPs rfl (by simp [e3]) hsz (by simp) hcatW hd ⟨by simpa using hR1.2.2.1, by simpa using hR1.2.2.2⟩)
      · refine hback (va_runSN (As := as.map (sd_c ad)) (rest := r.map (sd_c ad)) ⟨hx, hb, hmx, hown, hts⟩ hM ⟨va_cnB n hts hGood rfl r1 r2 (hst.2.1 _ hlk) (hts _ hini) ⟨hMH, hVH, hpar⟩ ⟨r3, r4⟩, hts _ hstat, trivial⟩ hPs rfl (by simp [e3]) hsz (by simp) hcatW hd ⟨by simpa using hR1.2.2.1, by simpa using hR1.2.2.2⟩)
    · cases h0
  · rcases hsort with ⟨h0, -⟩ | ⟨c', rr, h0, hr, hrn, hinst, hsel, hpos, hpar⟩
    · cases h0
    · cases h0
      obtain ⟨ht, hkk⟩ := jm_kind_obj hk
      have hcell : (t, i) ∈ sd_cells := sd_in100 (hok _ (by simp)) ht
      obtain ⟨k0, hk0, hws⟩ := sd_get hcell ad Y σ
      have hen : sd_en ad Y σ t i = .inr (cj, sd_fs ad σ t i fs 0) := by unfold sd_en; rw [hkk]
      rw [hen] at hws
      have hrecv := va_recv (s := s) hst.1 hP hr hws
      rw [hrn] at hrecv
      have hPv : PreV s H q.1.cls (ad t i) (sd_Pc L D Y ad ρ (jR t i :: as') σ) (as'.map (sd_c ad)) := ⟨sd_blind, hrecv, fun U hU hW => ⟨rfl, sd_st_at hst hS hU hW, by rw [hU]; exact hP⟩⟩
      have hn1 : (as'.map (sd_c ad)).length = n - 1 := by simp at e3 ⊢; omega
      rcases hlink with hlk | ⟨host, hlk⟩
      · exact hback (va_runV (As := as'.map (sd_c ad)) (rest := r.map (sd_c ad)) ⟨hx, hb, hmx, hown, hts⟩ hM ⟨callB_of (n - 1) hts hGood rfl r1 r2 (hts _ hini) (hts _ hlk) ⟨hMH, hVH, hpar⟩ ⟨r3, r4⟩, hts _ hinst, hts _ hsel⟩ hPv rfl hn1 hsz (by simp [sd_c]) hcatW hd ⟨by simpa using hR1.2.2.1, by simpa using hR1.2.2.2⟩)
      · exact hback (va_runVN (As := as'.map (sd_c ad)) (rest := r.map (sd_c ad)) ⟨hx, hb, hmx, hown, hts⟩ hM ⟨va_cnB (n - 1) hts hGood rfl r1 r2 (hst.2.1 _ hlk) (hts _ hini) ⟨hMH, hVH, hpar⟩ ⟨r3, r4⟩, hts _ hinst, hts _ hsel⟩ hPv rfl hn1 hsz (by simp [sd_c]) hcatW hd ⟨by simpa using hR1.2.2.1, by simpa using hR1.2.2.2⟩)
set_option maxHeartbeats 4000000 in
theorem sd_step (hcx : sd_cx p s m args c L own nL cc D Y ad ρ) (hR1 : 1 ≤ R.frames ∧ 21 ≤ R.locals ∧ cells ≤ R.cells ∧ slots ≤ R.slots) (hret : sd_hret p l e R s m args below meth c cells slots Q rk cc D Y ad ρ Rt) (hcall : sd_hcall l R L D Y ad ρ C)
    {cd : List (Nat × Instr × Nat)} (hdec : ∀ pc i n, jm_look cd pc = some (i, n) → decode cc pc = .ok (i, n) ∧ jm_lenQ (pc, i, n) = true) :
    ∀ z, jm_sem (sd_X p l e R s m args below meth c cells slots Q nL D Y ad ρ) Rt C (jm_1 L own rk cd z) → sd_X p l e R s m args below meth c cells slots Q nL D Y ad ρ z := by
  intro z hz
  obtain ⟨σ, pc, lv, st⟩ := z
  have hcx' := hcx
  obtain ⟨hx, hb, hml, hown, hts, hst⟩ := hcx'
  have hz' : jm_sem (sd_X p l e R s m args below meth c cells slots Q nL D Y ad ρ) Rt C (match jm_look cd pc with | some (i, _) => jm_st L own rk i (σ, pc, lv, st) | none => jm_no) := hz
  clear hz
  cases hlk : jm_look cd pc with
  | none => rw [hlk] at hz'; exact (jm_no_f hz').elim
  | some q =>
    obtain ⟨i, n⟩ := q
    rw [hlk] at hz'
    obtain ⟨hd, hn⟩ := hdec pc i n hlk
    have hs : jm_sem (sd_X p l e R s m args below meth c cells slots Q nL D Y ad ρ) Rt C (jm_st L own rk i (σ, pc, lv, st)) := hz'
    clear hz' hlk
    intro hro hlv hso hlen H locs ls hP hS hl
    have hro : sd_ro σ ρ := hro
    have hlv : ∀ i v, jm_at lv i = some v → sd_ok v := hlv
    have hso : ∀ v ∈ st, sd_ok v := hso
    have hlen : lv.length = nL := hlen
    have hP : va_P D vwCl (sd_ws ad Y σ) H := hP
    have hl : lv_has ls nL (sd_ll ad lv 0) := hl
    show W p l e R s m args below meth c H locs cells slots Q (F0 m pc ls (st.map (sd_c ad)))
    cases i with
    | aload_n k =>
      cases Nat.eq_of_beq_eq_true hn
      obtain ⟨q, h1, hs⟩ := jm_lod2 hs
      exact lv_aload_n hx hb hd rfl (sd_at hl h1) (hs hro hlv (sd_okc (hlv _ _ h1) hso) hlen H locs ls hP hS hl)
    | aload k =>
      cases Nat.eq_of_beq_eq_true hn
      obtain ⟨q, h1, hs⟩ := jm_lod2 hs
      exact lv_aload hx hb hd (sd_at hl h1) (hs hro hlv (sd_okc (hlv _ _ h1) hso) hlen H locs ls hP hS hl)
    | iload_n k =>
      cases Nat.eq_of_beq_eq_true hn
      obtain ⟨q, h1, hs⟩ := jm_lod0 hs
      exact lv_iload_n hx hb hd rfl (sd_at hl h1) (hs hro hlv (sd_okc trivial hso) hlen H locs ls hP hS hl)
    | iload k =>
      cases Nat.eq_of_beq_eq_true hn
      obtain ⟨q, h1, hs⟩ := jm_lod0 hs
      exact lv_iload hx hb hd (sd_at hl h1) (hs hro hlv (sd_okc trivial hso) hlen H locs ls hP hS hl)
    | lload_n k =>
      cases Nat.eq_of_beq_eq_true hn
      obtain ⟨q, h1, hs⟩ := jm_lod1 hs
      exact lv_lload_n hx hb hd rfl (sd_at hl h1) (hs hro hlv (sd_okc trivial hso) hlen H locs ls hP hS hl)
    | lload k =>
      cases Nat.eq_of_beq_eq_true hn
      obtain ⟨q, h1, hs⟩ := jm_lod1 hs
      exact lv_lload hx hb hd (sd_at hl h1) (hs hro hlv (sd_okc trivial hso) hlen H locs ls hP hS hl)
    | astore_n k =>
      cases Nat.eq_of_beq_eq_true hn
      obtain ⟨q, r, rfl, hi, hs⟩ := jm_sto2 hs
      exact lv_astore_n hx hb hd rfl hl (by rw [← hlen]; exact hi) rfl (fun ls' h' => hs hro (sd_lvok1 hlv (hso _ (by simp))) (sd_ok1 hso) (by rw [jm_put1_len]; exact hlen) H locs ls' hP hS (sd_put1 h'))
    | astore k =>
      cases Nat.eq_of_beq_eq_true hn
      obtain ⟨q, r, rfl, hi, hs⟩ := jm_sto2 hs
      exact lv_astore hx hb hd hl (by rw [← hlen]; exact hi) rfl (fun ls' h' => hs hro (sd_lvok1 hlv (hso _ (by simp))) (sd_ok1 hso) (by rw [jm_put1_len]; exact hlen) H locs ls' hP hS (sd_put1 h'))
    | istore_n k =>
      cases Nat.eq_of_beq_eq_true hn
      obtain ⟨q, r, rfl, hi, hs⟩ := jm_sto0 hs
      exact lv_istore_n hx hb hd rfl hl (by rw [← hlen]; exact hi) rfl (fun ls' h' => hs hro (sd_lvok1 hlv trivial) (sd_ok1 hso) (by rw [jm_put1_len]; exact hlen) H locs ls' hP hS (sd_put1 h'))
    | istore k =>
      cases Nat.eq_of_beq_eq_true hn
      obtain ⟨q, r, rfl, hi, hs⟩ := jm_sto0 hs
      exact lv_istore hx hb hd hl (by rw [← hlen]; exact hi) rfl (fun ls' h' => hs hro (sd_lvok1 hlv trivial) (sd_ok1 hso) (by rw [jm_put1_len]; exact hlen) H locs ls' hP hS (sd_put1 h'))
    | lstore_n k =>
      cases Nat.eq_of_beq_eq_true hn
      obtain ⟨q, r, rfl, hi, hs⟩ := jm_sto1 hs
      exact lv_lstore_n hx hb hd rfl hl (by rw [← hlen]; exact hi) rfl (fun ls' h' => hs hro (sd_lvok2 hlv trivial) (sd_ok1 hso) (by rw [jm_put2_len]; exact hlen) H locs ls' hP hS (sd_put2 h'))
    | lstore k =>
      cases Nat.eq_of_beq_eq_true hn
      obtain ⟨q, r, rfl, hi, hs⟩ := jm_sto1 hs
      exact lv_lstore hx hb hd hl (by rw [← hlen]; exact hi) rfl (fun ls' h' => hs hro (sd_lvok2 hlv trivial) (sd_ok1 hso) (by rw [jm_put2_len]; exact hlen) H locs ls' hP hS (sd_put2 h'))
    | iconst k =>
      cases Nat.eq_of_beq_eq_true hn
      exact lv_iconst hx hb hd (jm_int_eq k) (hs hro hlv (sd_okc trivial hso) hlen H locs ls hP hS hl)
    | bipush k =>
      cases Nat.eq_of_beq_eq_true hn
      have hs : jm_sem (sd_X p l e R s m args below meth c cells slots Q nL D Y ad ρ) Rt C (match jm_small k 128 with | true => jm_nx (σ, pc + 2, lv, jI (jm_int k) :: st) | false => jm_no) := hs
      cases hk : jm_small k 128 with
      | false => rw [hk] at hs; exact (jm_no_f hs).elim
      | true => rw [hk] at hs; exact lv_bipush hx hb hd (jm_int8 hk) (hs hro hlv (sd_okc trivial hso) hlen H locs ls hP hS hl)
    | sipush k =>
      cases Nat.eq_of_beq_eq_true hn
      have hs : jm_sem (sd_X p l e R s m args below meth c cells slots Q nL D Y ad ρ) Rt C (match jm_small k 32768 with | true => jm_nx (σ, pc + 3, lv, jI (jm_int k) :: st) | false => jm_no) := hs
      cases hk : jm_small k 32768 with
      | false => rw [hk] at hs; exact (jm_no_f hs).elim
      | true => rw [hk] at hs; exact lv_sipush hx hb hd (jm_int16 hk) (hs hro hlv (sd_okc trivial hso) hlen H locs ls hP hS hl)
    | lconst k =>
      cases Nat.eq_of_beq_eq_true hn
      exact lv_lconst hx hb hd rfl (hs hro hlv (sd_okc trivial hso) hlen H locs ls hP hS hl)
    | ldc2_w k =>
      cases Nat.eq_of_beq_eq_true hn
      have hs : jm_sem (sd_X p l e R s m args below meth c cells slots Q nL D Y ad ρ) Rt C (match jm_key jm_lc own k with | some v => jm_nx (σ, pc + 3, lv, jJ v :: st) | none => jm_no) := hs
      cases hk : jm_key jm_lc own k with
      | none => rw [hk] at hs; exact (jm_no_f hs).elim
      | some v => rw [hk] at hs; exact lv_ldc2 hx hb hown (hts _ (sd_lcF (jm_key_in hk))) hd (hs hro hlv (sd_okc trivial hso) hlen H locs ls hP hS hl)
    | iadd => cases Nat.eq_of_beq_eq_true hn; obtain ⟨x, y, r, rfl, hs⟩ := jm_ii_inv hs; exact lv_iadd hx hb hd (hs hro hlv (sd_okc trivial (sd_ok2 hso)) hlen H locs ls hP hS hl)
    | isub => cases Nat.eq_of_beq_eq_true hn; obtain ⟨x, y, r, rfl, hs⟩ := jm_ii_inv hs; exact lv_isub hx hb hd (hs hro hlv (sd_okc trivial (sd_ok2 hso)) hlen H locs ls hP hS hl)
    | imul => cases Nat.eq_of_beq_eq_true hn; obtain ⟨x, y, r, rfl, hs⟩ := jm_ii_inv hs; exact lv_imul hx hb hd (hs hro hlv (sd_okc trivial (sd_ok2 hso)) hlen H locs ls hP hS hl)
    | iand => cases Nat.eq_of_beq_eq_true hn; obtain ⟨x, y, r, rfl, hs⟩ := jm_ii_inv hs; exact lv_iand hx hb hd (hs hro hlv (sd_okc trivial (sd_ok2 hso)) hlen H locs ls hP hS hl)
    | ior => cases Nat.eq_of_beq_eq_true hn; obtain ⟨x, y, r, rfl, hs⟩ := jm_ii_inv hs; exact lv_ior hx hb hd (hs hro hlv (sd_okc trivial (sd_ok2 hso)) hlen H locs ls hP hS hl)
    | ixor => cases Nat.eq_of_beq_eq_true hn; obtain ⟨x, y, r, rfl, hs⟩ := jm_ii_inv hs; exact lv_ixor hx hb hd (hs hro hlv (sd_okc trivial (sd_ok2 hso)) hlen H locs ls hP hS hl)
    | ishl => cases Nat.eq_of_beq_eq_true hn; obtain ⟨x, y, r, rfl, hs⟩ := jm_ii_inv hs; exact lv_ishl hx hb hd (hs hro hlv (sd_okc trivial (sd_ok2 hso)) hlen H locs ls hP hS hl)
    | ishr => cases Nat.eq_of_beq_eq_true hn; obtain ⟨x, y, r, rfl, hs⟩ := jm_ii_inv hs; exact lv_ishr hx hb hd (hs hro hlv (sd_okc trivial (sd_ok2 hso)) hlen H locs ls hP hS hl)
    | idiv => cases Nat.eq_of_beq_eq_true hn; obtain ⟨x, y, r, rfl, hs⟩ := jm_ii_inv hs; exact lv_idiv hx hb hd hs.1 (hs.2 hro hlv (sd_okc trivial (sd_ok2 hso)) hlen H locs ls hP hS hl)
    | irem => cases Nat.eq_of_beq_eq_true hn; obtain ⟨x, y, r, rfl, hs⟩ := jm_ii_inv hs; exact lv_irem hx hb hd hs.1 (hs.2 hro hlv (sd_okc trivial (sd_ok2 hso)) hlen H locs ls hP hS hl)
    | ladd => cases Nat.eq_of_beq_eq_true hn; obtain ⟨x, y, r, rfl, hs⟩ := jm_jj_inv hs; exact lv_ladd hx hb hd (hs hro hlv (sd_okc trivial (sd_ok2 hso)) hlen H locs ls hP hS hl)
    | lsub => cases Nat.eq_of_beq_eq_true hn; obtain ⟨x, y, r, rfl, hs⟩ := jm_jj_inv hs; exact lv_lsub hx hb hd (hs hro hlv (sd_okc trivial (sd_ok2 hso)) hlen H locs ls hP hS hl)
    | land => cases Nat.eq_of_beq_eq_true hn; obtain ⟨x, y, r, rfl, hs⟩ := jm_jj_inv hs; exact lv_land hx hb hd (hs hro hlv (sd_okc trivial (sd_ok2 hso)) hlen H locs ls hP hS hl)
    | lor => cases Nat.eq_of_beq_eq_true hn; obtain ⟨x, y, r, rfl, hs⟩ := jm_jj_inv hs; exact lv_lor hx hb hd (hs hro hlv (sd_okc trivial (sd_ok2 hso)) hlen H locs ls hP hS hl)
    | lxor => cases Nat.eq_of_beq_eq_true hn; obtain ⟨x, y, r, rfl, hs⟩ := jm_jj_inv hs; exact lv_lxor hx hb hd (hs hro hlv (sd_okc trivial (sd_ok2 hso)) hlen H locs ls hP hS hl)
    | lcmp => cases Nat.eq_of_beq_eq_true hn; obtain ⟨x, y, r, rfl, hs⟩ := jm_jj_inv hs; exact W.lcmp hx hb hd (hs hro hlv (sd_okc trivial (sd_ok2 hso)) hlen H locs ls hP hS hl)
    | lneg => cases Nat.eq_of_beq_eq_true hn; obtain ⟨x, r, rfl, hs⟩ := jm_j_inv hs; exact lv_lneg hx hb hd (hs hro hlv (sd_okc trivial (sd_ok1 hso)) hlen H locs ls hP hS hl)
    | lshl => cases Nat.eq_of_beq_eq_true hn; obtain ⟨x, y, r, rfl, hs⟩ := jm_ij_inv hs; exact lv_lshl hx hb hd rfl (hs hro hlv (sd_okc trivial (sd_ok2 hso)) hlen H locs ls hP hS hl)
    | lshr => cases Nat.eq_of_beq_eq_true hn; obtain ⟨x, y, r, rfl, hs⟩ := jm_ij_inv hs; exact lv_lshr hx hb hd rfl (hs hro hlv (sd_okc trivial (sd_ok2 hso)) hlen H locs ls hP hS hl)
    | lushr => cases Nat.eq_of_beq_eq_true hn; obtain ⟨x, y, r, rfl, hs⟩ := jm_ij_inv hs; exact lv_lushr hx hb hd rfl (hs hro hlv (sd_okc trivial (sd_ok2 hso)) hlen H locs ls hP hS hl)
    | i2l => cases Nat.eq_of_beq_eq_true hn; obtain ⟨x, r, rfl, hs⟩ := jm_i_inv hs; exact lv_i2l hx hb hd rfl (hs hro hlv (sd_okc trivial (sd_ok1 hso)) hlen H locs ls hP hS hl)
    | l2i => cases Nat.eq_of_beq_eq_true hn; obtain ⟨x, r, rfl, hs⟩ := jm_j_inv hs; exact lv_l2i hx hb hd rfl (hs hro hlv (sd_okc trivial (sd_ok1 hso)) hlen H locs ls hP hS hl)
    | dup =>
      cases Nat.eq_of_beq_eq_true hn
      rcases st with _ | ⟨x | x | x, r⟩
      · exact (jm_no_f hs).elim
      · exact lv_dup hx hb hd rfl (hs hro hlv (sd_okc trivial hso) hlen H locs ls hP hS hl)
      · exact (jm_no_f hs).elim
      · exact lv_dup hx hb hd rfl (hs hro hlv (sd_okc (hso _ (by simp)) hso) hlen H locs ls hP hS hl)
    | dup2 =>
      cases Nat.eq_of_beq_eq_true hn
      rcases st with _ | ⟨x | x | x, r⟩
      · exact (jm_no_f hs).elim
      · rcases r with _ | ⟨y | y | y, r⟩
        · exact (jm_no_f hs).elim
        · exact (jm_no_f hs).elim
        · exact (jm_no_f hs).elim
        · exact lv_dup2_11 hx hb hd rfl rfl (hs hro hlv (sd_okc trivial (sd_okc (hso _ (by simp)) hso)) hlen H locs ls hP hS hl)
      · exact lv_dup2_2 hx hb hd rfl (hs hro hlv (sd_okc trivial hso) hlen H locs ls hP hS hl)
      · exact (jm_no_f hs).elim
    | dup_x1 =>
      cases Nat.eq_of_beq_eq_true hn
      rcases st with _ | ⟨x | x | x, r⟩
      · exact (jm_no_f hs).elim
      · rcases r with _ | ⟨y | y | y, r⟩
        · exact (jm_no_f hs).elim
        · exact (jm_no_f hs).elim
        · exact (jm_no_f hs).elim
        · exact lv_dup_x1 hx hb hd rfl rfl (hs hro hlv (sd_okc trivial (sd_okc (hso _ (by simp)) (sd_okc trivial (sd_ok2 hso)))) hlen H locs ls hP hS hl)
      · exact (jm_no_f hs).elim
      · exact (jm_no_f hs).elim
    | iinc k cst =>
      cases Nat.eq_of_beq_eq_true hn
      have hs : jm_sem (sd_X p l e R s m args below meth c cells slots Q nL D Y ad ρ) Rt C (match jm_at lv k with | some (.inl x) => (match Nat.blt k lv.length with | true => jm_nx (σ, pc + 3, jm_put1 lv k (jI (x + jm_int cst)), st) | false => jm_no) | _ => jm_no) := hs
      cases hv : jm_at lv k with
      | none => rw [hv] at hs; exact (jm_no_f hs).elim
      | some v =>
        rw [hv] at hs
        rcases v with x | x | x
        · have hs : jm_sem (sd_X p l e R s m args below meth c cells slots Q nL D Y ad ρ) Rt C (match Nat.blt k lv.length with | true => jm_nx (σ, pc + 3, jm_put1 lv k (jI (x + jm_int cst)), st) | false => jm_no) := hs
          cases hb2 : Nat.blt k lv.length with
          | false => rw [hb2] at hs; exact (jm_no_f hs).elim
          | true =>
            rw [hb2] at hs
            have hi : k < lv.length := by simpa [Nat.blt_eq] using hb2
            obtain ⟨j, hj⟩ := List.getElem?_of_mem ((sd_ll_in (ad := ad) lv 0 k (.int x)).mpr ⟨k, _, by omega, hv, rfl⟩)
            exact lv_iinc (v := x + jm_int cst) hx hb hd hl hj (by rw [jm_int_eq]) (by rw [← hlen]; exact hi) rfl (fun ls' h' => hs hro (sd_lvok1 hlv trivial) hso (by rw [jm_put1_len]; exact hlen) H locs ls' hP hS (sd_put1 h'))
        · exact (jm_no_f hs).elim
        · exact (jm_no_f hs).elim
    | goto o =>
      obtain ⟨hn1, hn2⟩ := Bool.and_eq_true_iff.mp hn
      cases Nat.eq_of_beq_eq_true hn1
      exact lv_goto hx hb hd (jm_tgt_ok (by simpa using hn2)) (hs hro hlv hso hlen H locs ls hP hS hl)
    | ifCond cnd o =>
      obtain ⟨hn1, hn2⟩ := Bool.and_eq_true_iff.mp hn
      cases Nat.eq_of_beq_eq_true hn1
      have ht := jm_tgt_ok (pc := pc) (o := o) (by simpa using hn2)
      obtain ⟨x, r, rfl, hs⟩ := jm_i_inv hs
      cases cnd with
      | eq => exact lv_if_eq hx hb hd ht (fun h => hs.1 h hro hlv (sd_ok1 hso) hlen H locs ls hP hS hl) (fun h => hs.2 h hro hlv (sd_ok1 hso) hlen H locs ls hP hS hl)
      | ne => exact lv_if_ne hx hb hd ht (fun h => hs.2 h hro hlv (sd_ok1 hso) hlen H locs ls hP hS hl) (fun h => hs.1 h hro hlv (sd_ok1 hso) hlen H locs ls hP hS hl)
      | lt => exact lv_if_lt hx hb hd ht (fun h => hs.1 h hro hlv (sd_ok1 hso) hlen H locs ls hP hS hl) (fun h => hs.2 h hro hlv (sd_ok1 hso) hlen H locs ls hP hS hl)
      | ge => exact lv_if_ge hx hb hd ht (fun h => hs.1 h hro hlv (sd_ok1 hso) hlen H locs ls hP hS hl) (fun h => hs.2 h hro hlv (sd_ok1 hso) hlen H locs ls hP hS hl)
      | gt => exact lv_if_gt hx hb hd ht (fun h => hs.1 h hro hlv (sd_ok1 hso) hlen H locs ls hP hS hl) (fun h => hs.2 h hro hlv (sd_ok1 hso) hlen H locs ls hP hS hl)
      | le => exact lv_if_le hx hb hd ht (fun h => hs.1 h hro hlv (sd_ok1 hso) hlen H locs ls hP hS hl) (fun h => hs.2 h hro hlv (sd_ok1 hso) hlen H locs ls hP hS hl)
    | if_icmp cnd o =>
      obtain ⟨hn1, hn2⟩ := Bool.and_eq_true_iff.mp hn
      cases Nat.eq_of_beq_eq_true hn1
      have ht := jm_tgt_ok (pc := pc) (o := o) (by simpa using hn2)
      obtain ⟨x, y, r, rfl, hs⟩ := jm_ii_inv hs
      cases cnd with
      | eq => exact lv_icmp_eq hx hb hd ht (fun h => hs.1 h hro hlv (sd_ok2 hso) hlen H locs ls hP hS hl) (fun h => hs.2 h hro hlv (sd_ok2 hso) hlen H locs ls hP hS hl)
      | ne => exact lv_icmp_ne hx hb hd ht (fun h => hs.2 h hro hlv (sd_ok2 hso) hlen H locs ls hP hS hl) (fun h => hs.1 h hro hlv (sd_ok2 hso) hlen H locs ls hP hS hl)
      | lt => exact lv_icmp_lt hx hb hd ht (fun h => hs.1 h hro hlv (sd_ok2 hso) hlen H locs ls hP hS hl) (fun h => hs.2 h hro hlv (sd_ok2 hso) hlen H locs ls hP hS hl)
      | ge => exact lv_icmp_ge hx hb hd ht (fun h => hs.1 h hro hlv (sd_ok2 hso) hlen H locs ls hP hS hl) (fun h => hs.2 h hro hlv (sd_ok2 hso) hlen H locs ls hP hS hl)
      | gt => exact lv_icmp_gt hx hb hd ht (fun h => hs.1 h hro hlv (sd_ok2 hso) hlen H locs ls hP hS hl) (fun h => hs.2 h hro hlv (sd_ok2 hso) hlen H locs ls hP hS hl)
      | le => exact lv_icmp_le hx hb hd ht (fun h => hs.1 h hro hlv (sd_ok2 hso) hlen H locs ls hP hS hl) (fun h => hs.2 h hro hlv (sd_ok2 hso) hlen H locs ls hP hS hl)
    | tableswitch dflt lo hi os =>
      obtain ⟨x, r, rfl, hs⟩ := jm_i_inv hs
      have hs : ((x.toInt < lo ∨ hi < x.toInt) → sd_X p l e R s m args below meth c cells slots Q nL D Y ad ρ (σ, jm_tgt pc dflt, lv, r)) ∧ jm_all (sd_X p l e R s m args below meth c cells slots Q nL D Y ad ρ) (jm_tsw σ pc lv r x lo os.toList) := hs
      simp only [jm_lenQ, Bool.and_eq_true, decide_eq_true_eq] at hn
      obtain ⟨⟨hn1, hn2⟩, hn3⟩ := hn
      by_cases hout : x.toInt < lo ∨ hi < x.toInt
      · exact lv_tableOut hx hb hd hout (jm_tgt_ok hn1) (hs.1 hout hro hlv (sd_ok1 hso) hlen H locs ls hP hS hl)
      · have h1 : ¬ x.toInt < lo := fun h => hout (Or.inl h)
        have h2 : ¬ hi < x.toInt := fun h => hout (Or.inr h)
        have hlt : (x.toInt - lo).toNat < os.size := by omega
        have ho : os[(x.toInt - lo).toNat]? = some os[(x.toInt - lo).toNat] := Array.getElem?_eq_getElem hlt
        have ho2 : os.toList[(x.toInt - lo).toNat]? = some os[(x.toInt - lo).toNat] := by rw [Array.getElem?_toList]; exact ho
        have h3 := List.all_eq_true.mp hn3 _ (List.mem_of_getElem? ho2)
        refine lv_tableIn hx hb hd h1 h2 ho (jm_tgt_ok (by simpa using h3)) ?_
        refine jm_tsw_get hs.2 ho2 ?_ hro hlv (sd_ok1 hso) hlen H locs ls hP hS hl
        rw [← jm_int_eq]
        apply Int32.toInt_inj.mp
        have e1 : lo + ((x.toInt - lo).toNat : Int) = x.toInt := by omega
        rw [e1, Int32.ofInt_toInt]
    | getfield idx =>
      cases Nat.eq_of_beq_eq_true hn
      have hs : jm_sem (sd_X p l e R s m args below meth c cells slots Q nL D Y ad ρ) Rt C (jm_getf L own σ pc lv st idx) := hs
      rcases st with _ | ⟨x | x | ⟨t, i⟩, r⟩
      · exact (jm_no_f hs).elim
      · exact (jm_no_f hs).elim
      · exact (jm_no_f hs).elim
      · have hs : jm_sem (sd_X p l e R s m args below meth c cells slots Q nL D Y ad ρ) Rt C (match jm_fld L own idx t with | some (k, f) => jm_nx (σ, pc + 3, lv, jm_val σ t i k f :: r) | none => jm_no) := hs
        cases hf : jm_fld L own idx t with
        | none => rw [hf] at hs; exact (jm_no_f hs).elim
        | some kf =>
          obtain ⟨k, f⟩ := kf
          rw [hf] at hs
          obtain ⟨ci, n', fs, hfl, hkd, hnf⟩ := jm_fld_inv hf
          obtain ⟨ht, hkd⟩ := jm_kind_obj hkd
          have hcell : (t, i) ∈ sd_cells := sd_in100 (hso _ (by simp)) ht
          refine sd_getf hcx hfl hkd hnf hcell hP hd (hs hro hlv (sd_okc ?_ (sd_ok1 hso)) hlen H locs ls hP hS hl)
          rcases f with w | ⟨t', b⟩
          · unfold jm_val
            dsimp only
            split <;> trivial
          · exact Or.inl (sd_rfF hcell hkd hnf)
    | putfield idx =>
      cases Nat.eq_of_beq_eq_true hn
      have hs : jm_sem (sd_X p l e R s m args below meth c cells slots Q nL D Y ad ρ) Rt C (jm_putf L own σ pc lv st idx) := hs
      rcases st with _ | ⟨x | x | x, _ | ⟨y | y | ⟨t, i⟩, r⟩⟩
      all_goals first
        | exact (jm_no_f hs).elim
        | skip
      · have hs : jm_sem (sd_X p l e R s m args below meth c cells slots Q nL D Y ad ρ) Rt C (match jm_fld L own idx t with
            | some (k, .inl w) => match Nat.beq w 0 with
              | true => jm_nx (wI σ t i (upd (σ.1 t i) k x), pc + 3, lv, r)
              | false => match Nat.beq w 2 with
                | true => jm_ck (x = 0 ∨ x = 1) (wI σ t i (upd (σ.1 t i) k x), pc + 3, lv, r)
                | false => jm_no
            | _ => jm_no) := hs
        cases hf : jm_fld L own idx t with
        | none => rw [hf] at hs; exact (jm_no_f hs).elim
        | some kf =>
          obtain ⟨k, w | q⟩ := kf
          · rw [hf] at hs
            obtain ⟨ci, n', fs, hfl, hkd, hnf⟩ := jm_fld_inv hf
            obtain ⟨ht, hkd⟩ := jm_kind_obj hkd
            have hcell : (t, i) ∈ sd_cells := sd_in100 (hso _ (by simp)) ht
            have hs : jm_sem (sd_X p l e R s m args below meth c cells slots Q nL D Y ad ρ) Rt C (match Nat.beq w 0 with
              | true => jm_nx (wI σ t i (upd (σ.1 t i) k x), pc + 3, lv, r)
              | false => match Nat.beq w 2 with
                | true => jm_ck (x = 0 ∨ x = 1) (wI σ t i (upd (σ.1 t i) k x), pc + 3, lv, r)
                | false => jm_no) := hs
            cases hw0 : Nat.beq w 0 with
            | true =>
              rw [hw0] at hs
              cases Nat.eq_of_beq_eq_true hw0
              exact sd_putf (v := jI x) hcx hfl hkd hnf (by decide) hcell hP hS hd rfl rfl (sd_fsI hnf rfl) wI_off (fun H1 locs1 hP1 hS1 => hs (sd_roI hro ht) hlv (sd_ok2 hso) hlen H1 locs1 ls hP1 hS1 hl)
            | false =>
              rw [hw0] at hs
              have hs : jm_sem (sd_X p l e R s m args below meth c cells slots Q nL D Y ad ρ) Rt C (match Nat.beq w 2 with
                | true => jm_ck (x = 0 ∨ x = 1) (wI σ t i (upd (σ.1 t i) k x), pc + 3, lv, r)
                | false => jm_no) := hs
              cases hw2 : Nat.beq w 2 with
              | true =>
                rw [hw2] at hs
                cases Nat.eq_of_beq_eq_true hw2
                have hx01 : x = 0 ∨ x = 1 := hs.1
                exact sd_putf (v := jI x) hcx hfl hkd hnf (by decide) hcell hP hS hd (by rcases hx01 with rfl | rfl <;> rfl) (by rcases hx01 with rfl | rfl <;> rfl) (sd_fsI hnf rfl) wI_off (fun H1 locs1 hP1 hS1 => hs.2 (sd_roI hro ht) hlv (sd_ok2 hso) hlen H1 locs1 ls hP1 hS1 hl)
              | false => rw [hw2] at hs; exact (jm_no_f hs).elim
          · rw [hf] at hs; exact (jm_no_f hs).elim
      · have hs : jm_sem (sd_X p l e R s m args below meth c cells slots Q nL D Y ad ρ) Rt C (match jm_fld L own idx t with
            | some (k, .inl w) => match Nat.beq w 1 with
              | true => jm_nx (wJ σ t i (vp_updL (σ.2 t i) k x), pc + 3, lv, r)
              | false => jm_no
            | _ => jm_no) := hs
        cases hf : jm_fld L own idx t with
        | none => rw [hf] at hs; exact (jm_no_f hs).elim
        | some kf =>
          obtain ⟨k, w | q⟩ := kf
          · rw [hf] at hs
            obtain ⟨ci, n', fs, hfl, hkd, hnf⟩ := jm_fld_inv hf
            obtain ⟨ht, hkd⟩ := jm_kind_obj hkd
            have hcell : (t, i) ∈ sd_cells := sd_in100 (hso _ (by simp)) ht
            have hs : jm_sem (sd_X p l e R s m args below meth c cells slots Q nL D Y ad ρ) Rt C (match Nat.beq w 1 with
              | true => jm_nx (wJ σ t i (vp_updL (σ.2 t i) k x), pc + 3, lv, r)
              | false => jm_no) := hs
            cases hw1 : Nat.beq w 1 with
            | true =>
              rw [hw1] at hs
              cases Nat.eq_of_beq_eq_true hw1
              exact sd_putf (v := jJ x) hcx hfl hkd hnf (by decide) hcell hP hS hd rfl rfl (sd_fsJ hnf rfl) wJ_off (fun H1 locs1 hP1 hS1 => hs (sd_roJ hro ht) hlv (sd_ok2 hso) hlen H1 locs1 ls hP1 hS1 hl)
            | false => rw [hw1] at hs; exact (jm_no_f hs).elim
          · rw [hf] at hs; exact (jm_no_f hs).elim
    | getstatic idx =>
      cases Nat.eq_of_beq_eq_true hn
      have hs : jm_sem (sd_X p l e R s m args below meth c cells slots Q nL D Y ad ρ) Rt C (match jm_key jm_gs own idx with | some t => jm_nx (σ, pc + 3, lv, jR t 0 :: st) | none => jm_no) := hs
      cases hk : jm_key jm_gs own idx with
      | none => rw [hk] at hs; exact (jm_no_f hs).elim
      | some t =>
        rw [hk] at hs
        rcases sd_gsF (jm_key_in hk) with ⟨rfl, hw⟩ | ⟨rfl, hw⟩
        · exact va_gets hx hb hst.2.2.2.1 hS hown (hts _ hw) (fun _ h => h) hd (hs hro hlv (sd_okc (Or.inr ⟨rfl, Or.inl rfl⟩) hso) hlen H locs ls hP hS hl)
        · exact va_gets hx hb hst.2.2.2.2.1 hS hown (hts _ hw) (fun _ h => h) hd (hs hro hlv (sd_okc (Or.inr ⟨rfl, Or.inr (Or.inl rfl)⟩) hso) hlen H locs ls hP hS hl)
    | iaload =>
      cases Nat.eq_of_beq_eq_true hn
      obtain ⟨t, i, x, n', r, rfl, hrow, hs⟩ := jm_ald_inv hs
      exact sd_iald hcx hrow (hso _ (by simp)) hro hs.1 hP hS hd (hs.2 hro hlv (sd_okc trivial (sd_ok2 hso)) hlen H locs ls hP hS hl)
    | baload =>
      cases Nat.eq_of_beq_eq_true hn
      obtain ⟨t, i, x, n', r, rfl, hrow, hs⟩ := jm_ald_inv hs
      exact sd_zald hcx hrow (hso _ (by simp)) hs.1 hP hd (hs.2 hro hlv (sd_okc trivial (sd_ok2 hso)) hlen H locs ls hP hS hl)
    | laload =>
      cases Nat.eq_of_beq_eq_true hn
      obtain ⟨t, i, x, n', r, rfl, hrow, hs⟩ := jm_ald_inv hs
      exact sd_lald hcx hrow (hso _ (by simp)) hro hs.1 hP hS hd (hs.2 hro hlv (sd_okc trivial (sd_ok2 hso)) hlen H locs ls hP hS hl)
    | aaload =>
      cases Nat.eq_of_beq_eq_true hn
      obtain ⟨t, i, x, n', r, rfl, hrow, hs⟩ := jm_ald_inv hs
      have h4 := sd_row3 hrow
      subst h4
      exact sd_aald hcx hrow (hso _ (by simp)) hs.1 hP hd (hs.2 hro hlv (sd_okc (Or.inl (sd_17 _ (Nat.not_le.mp fun q => hs.1 (Or.inr q)))) (sd_ok2 hso)) hlen H locs ls hP hS hl)
    | iastore =>
      cases Nat.eq_of_beq_eq_true hn
      have hs : jm_sem (sd_X p l e R s m args below meth c cells slots Q nL D Y ad ρ) Rt C (jm_ast L σ (pc + 1) lv st 0) := hs
      rcases st with _ | ⟨y | y | y, _ | ⟨x | x | x, _ | ⟨z | z | ⟨t, i⟩, r⟩⟩⟩
      all_goals first
        | exact (jm_no_f hs).elim
        | skip
      · have hs : jm_sem (sd_X p l e R s m args below meth c cells slots Q nL D Y ad ρ) Rt C (match Nat.blt t 100, jm_row L t 0 with | true, some n => jm_ck (vp_in x n) (wI σ t i (upd (σ.1 t i) x.toNatClampNeg y), pc + 1, lv, r) | _, _ => jm_no) := hs
        cases ht : Nat.blt t 100 <;> cases hrow : jm_row L t 0 <;> rw [ht, hrow] at hs
        · exact (jm_no_f hs).elim
        · exact (jm_no_f hs).elim
        · exact (jm_no_f hs).elim
        · have ht' : t < 100 := by simpa [Nat.blt_eq] using ht
          exact sd_iast hcx ht' hrow (hso _ (by simp)) hs.1 hP hS hd (fun H1 locs1 hP1 hS1 => hs.2 (sd_roI hro ht') hlv (sd_ok3 hso) hlen H1 locs1 ls hP1 hS1 hl)
      · have hs : jm_sem (sd_X p l e R s m args below meth c cells slots Q nL D Y ad ρ) Rt C (match Nat.blt t 100, jm_row L t 0 with | true, some n => jm_no | _, _ => jm_no) := hs
        cases ht : Nat.blt t 100 <;> cases hrow : jm_row L t 0 <;> rw [ht, hrow] at hs <;> exact (jm_no_f hs).elim
    | bastore =>
      cases Nat.eq_of_beq_eq_true hn
      have hs : jm_sem (sd_X p l e R s m args below meth c cells slots Q nL D Y ad ρ) Rt C (jm_ast L σ (pc + 1) lv st 2) := hs
      rcases st with _ | ⟨y | y | y, _ | ⟨x | x | x, _ | ⟨z | z | ⟨t, i⟩, r⟩⟩⟩
      all_goals first
        | exact (jm_no_f hs).elim
        | skip
      · have hs : jm_sem (sd_X p l e R s m args below meth c cells slots Q nL D Y ad ρ) Rt C (match Nat.blt t 100, jm_row L t 2 with | true, some n => jm_ck (vp_in x n ∧ (y = 0 ∨ y = 1)) (wI σ t i (upd (σ.1 t i) x.toNatClampNeg y), pc + 1, lv, r) | _, _ => jm_no) := hs
        cases ht : Nat.blt t 100 <;> cases hrow : jm_row L t 2 <;> rw [ht, hrow] at hs
        · exact (jm_no_f hs).elim
        · exact (jm_no_f hs).elim
        · exact (jm_no_f hs).elim
        · have ht' : t < 100 := by simpa [Nat.blt_eq] using ht
          exact sd_zast hcx ht' hrow (hso _ (by simp)) hs.1.1 hs.1.2 hP hS hd (fun H1 locs1 hP1 hS1 => hs.2 (sd_roI hro ht') hlv (sd_ok3 hso) hlen H1 locs1 ls hP1 hS1 hl)
      · have hs : jm_sem (sd_X p l e R s m args below meth c cells slots Q nL D Y ad ρ) Rt C (match Nat.blt t 100, jm_row L t 2 with | true, some n => jm_no | _, _ => jm_no) := hs
        cases ht : Nat.blt t 100 <;> cases hrow : jm_row L t 2 <;> rw [ht, hrow] at hs <;> exact (jm_no_f hs).elim
    | lastore =>
      cases Nat.eq_of_beq_eq_true hn
      have hs : jm_sem (sd_X p l e R s m args below meth c cells slots Q nL D Y ad ρ) Rt C (jm_ast L σ (pc + 1) lv st 1) := hs
      rcases st with _ | ⟨y | y | y, _ | ⟨x | x | x, _ | ⟨z | z | ⟨t, i⟩, r⟩⟩⟩
      all_goals first
        | exact (jm_no_f hs).elim
        | skip
      · have hs : jm_sem (sd_X p l e R s m args below meth c cells slots Q nL D Y ad ρ) Rt C (match Nat.blt t 100, jm_row L t 1 with | true, some n => jm_no | _, _ => jm_no) := hs
        cases ht : Nat.blt t 100 <;> cases hrow : jm_row L t 1 <;> rw [ht, hrow] at hs <;> exact (jm_no_f hs).elim
      · have hs : jm_sem (sd_X p l e R s m args below meth c cells slots Q nL D Y ad ρ) Rt C (match Nat.blt t 100, jm_row L t 1 with | true, some n => jm_ck (vp_in x n) (wJ σ t i (vp_updL (σ.2 t i) x.toNatClampNeg y), pc + 1, lv, r) | _, _ => jm_no) := hs
        cases ht : Nat.blt t 100 <;> cases hrow : jm_row L t 1 <;> rw [ht, hrow] at hs
        · exact (jm_no_f hs).elim
        · exact (jm_no_f hs).elim
        · exact (jm_no_f hs).elim
        · have ht' : t < 100 := by simpa [Nat.blt_eq] using ht
          exact sd_last hcx ht' hrow (hso _ (by simp)) hs.1 hP hS hd (fun H1 locs1 hP1 hS1 => hs.2 (sd_roJ hro ht') hlv (sd_ok3 hso) hlen H1 locs1 ls hP1 hS1 hl)
    | arraylength =>
      cases Nat.eq_of_beq_eq_true hn
      rcases st with _ | ⟨x | x | ⟨t, i⟩, r⟩
      · exact (jm_no_f hs).elim
      · exact (jm_no_f hs).elim
      · exact (jm_no_f hs).elim
      · have hs : jm_sem (sd_X p l e R s m args below meth c cells slots Q nL D Y ad ρ) Rt C (match jm_kind L t with | some (_, .inr (n, _)) => jm_nx (σ, pc + 1, lv, jI (nI n) :: r) | _ => jm_no) := hs
        cases hk : jm_kind L t with
        | none => rw [hk] at hs; exact (jm_no_f hs).elim
        | some q =>
          obtain ⟨mm, q | ⟨n', w⟩⟩ := q
          · rw [hk] at hs; exact (jm_no_f hs).elim
          · rw [hk] at hs
            exact sd_alen hcx hk (hso _ (by simp)) hP hS hd (hs hro hlv (sd_okc trivial (sd_ok1 hso)) hlen H locs ls hP hS hl)
    | invokevirtual idx =>
      cases Nat.eq_of_beq_eq_true hn
      exact sd_invoke (vt := true) hcx hR1 hcall hs hro hlv hso hlen hP hS hl hd
    | invokestatic idx =>
      cases Nat.eq_of_beq_eq_true hn
      have hs : jm_sem (sd_X p l e R s m args below meth c cells slots Q nL D Y ad ρ) Rt C (match jm_key jm_mm own idx with
        | some b => jm_ii st fun x y r => match Nat.ble (jm_cat r) 8 with
          | true => jm_nx (σ, pc + 3, lv, jI (match (generalizing := false) b with | true => if x < y then y else x | false => if y < x then y else x) :: r)
          | false => jm_no
        | none => jm_inv L own σ pc lv st idx false) := hs
      cases hk : jm_key jm_mm own idx with
      | none => rw [hk] at hs; exact sd_invoke (vt := false) hcx hR1 hcall hs hro hlv hso hlen hP hS hl hd
      | some b =>
        rw [hk] at hs
        obtain ⟨x, y, r, rfl, hs⟩ := jm_ii_inv hs
        have hs : jm_sem (sd_X p l e R s m args below meth c cells slots Q nL D Y ad ρ) Rt C (match Nat.ble (jm_cat r) 8 with
          | true => jm_nx (σ, pc + 3, lv, jI (match (generalizing := false) b with | true => if x < y then y else x | false => if y < x then y else x) :: r)
          | false => jm_no) := hs
        cases hc8 : Nat.ble (jm_cat r) 8 with
        | false => rw [hc8] at hs; exact (jm_no_f hs).elim
        | true =>
          rw [hc8] at hs
          have hcat : jm_cat r ≤ 8 := Nat.le_of_ble_eq_true hc8
          have hsz : c.maxLocals = ls.size := by rw [hml]; exact hl.1.symm
          have hcs : ((r.map (sd_c ad)).map fun v => v.category).sum + 13 ≤ R.locals := by rw [jm_cat_eq]; omega
          have hw := sd_mmF (jm_key_in hk)
          cases b with
          | true => exact va_mmax hx hb hsz hown (hts _ hw) (hts _ (sd_good sd_max.1 rfl)) (hts _ (sd_good sd_max.2.1 rfl)) (hts _ (sd_good sd_max.2.2 rfl)) hR1.1 hcs hR1.2.2.1 hR1.2.2.2 hd (hs hro hlv (sd_okc trivial (sd_ok2 hso)) hlen H locs ls hP hS hl)
          | false => exact va_mmin hx hb hsz hown (hts _ hw) (hts _ (sd_good sd_min.1 rfl)) (hts _ (sd_good sd_min.2.1 rfl)) (hts _ (sd_good sd_min.2.2 rfl)) hR1.1 hcs hR1.2.2.1 hR1.2.2.2 hd (hs hro hlv (sd_okc trivial (sd_ok2 hso)) hlen H locs ls hP hS hl)
    | ireturn =>
      cases Nat.eq_of_beq_eq_true hn
      rcases st with _ | ⟨x | x | x, _ | ⟨y, r⟩⟩
      all_goals first
        | exact (jm_no_f hs).elim
        | skip
      have hs : jm_sem (sd_X p l e R s m args below meth c cells slots Q nL D Y ad ρ) Rt C (match Nat.beq rk 1 with
        | true => jm_rt True (some (jI x)) σ
        | false => match Nat.beq rk 3 with
          | true => jm_rt (x = 0 ∨ x = 1) (some (jI x)) σ
          | false => jm_no) := hs
      cases h1 : Nat.beq rk 1 with
      | true => rw [h1] at hs; exact hret _ (some (jI x)) σ H locs ls pc hd (Or.inl ⟨rfl, x, rfl, Or.inl (Nat.eq_of_beq_eq_true h1)⟩) hs.2 hro (fun u hu => by cases hu; trivial) hP hS
      | false =>
        rw [h1] at hs
        have hs : jm_sem (sd_X p l e R s m args below meth c cells slots Q nL D Y ad ρ) Rt C (match Nat.beq rk 3 with
          | true => jm_rt (x = 0 ∨ x = 1) (some (jI x)) σ
          | false => jm_no) := hs
        cases h3 : Nat.beq rk 3 with
        | true => rw [h3] at hs; exact hret _ (some (jI x)) σ H locs ls pc hd (Or.inl ⟨rfl, x, rfl, Or.inr ⟨Nat.eq_of_beq_eq_true h3, hs.1⟩⟩) hs.2 hro (fun u hu => by cases hu; trivial) hP hS
        | false => rw [h3] at hs; exact (jm_no_f hs).elim
    | lreturn =>
      cases Nat.eq_of_beq_eq_true hn
      have hs : jm_sem (sd_X p l e R s m args below meth c cells slots Q nL D Y ad ρ) Rt C (match (generalizing := false) st, Nat.beq rk 2 with | [.inr (.inl x)], true => jm_rt True (some (jJ x)) σ | _, _ => jm_no) := hs
      cases h1 : Nat.beq rk 2 with
      | false => rw [h1] at hs; split at hs <;> first | exact (jm_no_f hs).elim | contradiction
      | true =>
        rw [h1] at hs
        rcases st with _ | ⟨x | x | x, _ | ⟨y, r⟩⟩
        all_goals first
          | exact (jm_no_f hs).elim
          | skip
        exact hret _ (some (jJ x)) σ H locs ls pc hd (Or.inr (Or.inl ⟨rfl, Nat.eq_of_beq_eq_true h1, x, rfl⟩)) hs.2 hro (fun u hu => by cases hu; trivial) hP hS
    | areturn =>
      cases Nat.eq_of_beq_eq_true hn
      have hs : jm_sem (sd_X p l e R s m args below meth c cells slots Q nL D Y ad ρ) Rt C (match (generalizing := false) st, Nat.beq rk 4 with | [.inr (.inr q)], true => jm_rt True (some (.inr (.inr q))) σ | _, _ => jm_no) := hs
      cases h1 : Nat.beq rk 4 with
      | false => rw [h1] at hs; split at hs <;> first | exact (jm_no_f hs).elim | contradiction
      | true =>
        rw [h1] at hs
        rcases st with _ | ⟨x | x | x, _ | ⟨y, r⟩⟩
        all_goals first
          | exact (jm_no_f hs).elim
          | skip
        exact hret _ (some (.inr (.inr x))) σ H locs ls pc hd (Or.inr (Or.inr (Or.inl ⟨rfl, Nat.eq_of_beq_eq_true h1, x, rfl⟩))) hs.2 hro (fun u hu => by cases hu; exact hso _ (by simp)) hP hS
    | return_ =>
      cases Nat.eq_of_beq_eq_true hn
      have hs : jm_sem (sd_X p l e R s m args below meth c cells slots Q nL D Y ad ρ) Rt C (match (generalizing := false) st, Nat.beq rk 0 with | [], true => jm_rt True none σ | _, _ => jm_no) := hs
      cases h1 : Nat.beq rk 0 with
      | false => rw [h1] at hs; split at hs <;> first | exact (jm_no_f hs).elim | contradiction
      | true =>
        rw [h1] at hs
        rcases st with _ | ⟨x, r⟩
        · exact hret _ none σ H locs ls pc hd (Or.inr (Or.inr (Or.inr ⟨rfl, Nat.eq_of_beq_eq_true h1, rfl⟩))) hs.2 hro (fun u hu => by cases hu) hP hS
        · exact (jm_no_f hs).elim
    | _ => exact (jm_no_f hs).elim
end CLOSE
