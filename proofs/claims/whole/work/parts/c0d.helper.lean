/-! the law's helper: answered, or caught -/
def iLh : List (Nat × Instr × Nat) := [(0, .aload_n 2, 1), (1, .iconst 0, 1), (2, .aload_n 0, 1), (3, .iload_n 1, 1), (4, .invokevirtual 7, 3), (7, .lastore, 1), (8, .goto 6, 3), (14, .iconst 0, 1), (15, .ireturn, 1)]
def lh_dq (q : Nat × Instr × Nat) : Bool := decide (decode cL_holds q.1 = .ok (q.2.1, q.2.2)) && jm_lenQ q
theorem iLh_all : iLh.all lh_dq = true := by decide +kernel
theorem iLh_dec (pc : Nat) (i : Instr) (n : Nat) (h : jm_look iLh pc = some (i, n)) : decode cL_holds pc = .ok (i, n) ∧ jm_lenQ (pc, i, n) = true := by
  have h2 := List.all_eq_true.mp iLh_all _ (jm_look_in h)
  unfold lh_dq at h2
  rw [Bool.and_eq_true, decide_eq_true_eq] at h2
  exact h2
theorem lh_d4 : decode cL_holds 4 = .ok (.invokevirtual 7, 3) := by decide +kernel
theorem lh_d11 : decode cL_holds 11 = .ok (.astore_n 3, 1) := by decide +kernel
theorem lh_d12 : decode cL_holds 12 = .ok (.iconst 1, 1) := by decide +kernel
theorem lh_d13 : decode cL_holds 13 = .ok (.ireturn, 1) := by decide +kernel
theorem lh_d748 : decode code 748 = .ok (.invokestatic 101, 3) := by decide +kernel
set_option maxRecDepth 20000 in
theorem lh_ans {L d : Nat} (hd : 13 ≤ d) {x : Int32} {A : ast} {σ : jm_G} (hb : bRA A σ) (hT : hoT A.1 A.2.2.1 x = false) : jm_runs L 11 1 iLh (jm_does L d) (fun r σ' => r = some (jI (nI 0)) ∧ bRA A σ' ∧ σ'.1 102 0 = σ.1 102 0 ∧ σ'.2 71 0 0 = lN (hoA A.1 A.2.2.1 A.2.2.2.1 x)) (fun _ => False) (σ, 0, [some (jR 0 0), some (jI x), some (jR 71 0), none], []) :=
  jm_run (jm_does_mon L d) fun X hK hg hw => by
    refine hg [] 60 _ ?_
    refine D_chold L d hd x A σ _ hb hT fun σ' b' o => ?_
    refine And.intro (show vp_in (nI 0) 1 from vp_in_nI (by omega) (by omega)) ?_
    refine And.intro trivial ?_
    refine ⟨rfl, bRA_out b' _, (o 102 0 (by omega)).1, ?_⟩
    show (wJ σ' 71 0 (vp_updL (σ'.2 71 0) (nI 0).toNatClampNeg (lN (hoA A.1 A.2.2.1 A.2.2.2.1 x)))).2 71 0 0 = _
    rw [wJ_at, nI_clamp (by omega)]
    simp [vp_updL]
set_option maxRecDepth 20000 in
theorem lh_thr {L d : Nat} {x : Int32} {σ : jm_G} {Rt : Option jm_V → jm_G → Prop} : jm_runs L 11 1 iLh (jm_does L d) Rt (fun z => z = (σ, 4, [some (jR 0 0), some (jI x), some (jR 71 0), none], [jI x, jR 0 0, jI (nI 0), jR 71 0])) (σ, 0, [some (jR 0 0), some (jI x), some (jR 71 0), none], []) :=
  jm_run (jm_does_mon L d) fun X hK hg hw => by
    refine hg [4] 10 _ ?_
    exact hK _ rfl
abbrev lh_rm : Room := { frames := 40, cells := 1, slots := 6, locals := 4000 }
abbrev lh_w : List Cond := Cond.codeWith yL_holds cL_holds 4 (some .int) [(0, 8, 11, 13)] :: sd_W
def lh_post (A : ast) (σ : jm_G) (x : Int32) : Option jm_V → jm_G → Prop := fun r σ' => r = some (jI (bI (hoT A.1 A.2.2.1 x))) ∧ bRA A σ' ∧ σ'.1 102 0 = σ.1 102 0 ∧ (hoT A.1 A.2.2.1 x = false → σ'.2 71 0 0 = lN (hoA A.1 A.2.2.1 A.2.2.2.1 x))
set_option maxHeartbeats 4000000 in
set_option maxRecDepth 100000 in
theorem lh_met (l : Launch) (hfl : l.stackTraces = false) (L : Nat) (D : va_G) (Y : sd_Y) (ad : Nat → Nat → Nat) (ρ : jm_G) {x : Int32} {A : ast} {σ : jm_G} (hb : bRA A σ) (hro : sd_ro σ ρ) :
    Met l yL_holds lh_w lh_rm (hx_Pc L D Y ad ρ [jR 0 0, jI x, jR 71 0] σ) (sd_Qc D Y ad ρ (lh_post A σ x)) 1 6 (sd_A ad) := by
  refine hp_ofWH (cc := cL_holds) (maxL := 4) (ret := some .int) (hh := [(0, 8, 11, 13)]) (by decide) rfl ?_
  intro p e s m args below meth c s₁ B hml hv
  obtain ⟨⟨rfl, hst, hP⟩, hxP⟩ := hv
  have hts : ∀ w ∈ sd_W, w.before (([jR 0 0, jI x, jR 71 0] : List jm_V).map (sd_c ad)).toArray s = true := fun w hw => atoms_spec (ws := lh_w) B.pre w (List.mem_cons_of_mem _ hw)
  have hown : s.vm.findClass RL = some m.cls := findClass_of_methodNamed B.named
  have hcx : sd_cx p s m (([jR 0 0, jI x, jR 71 0] : List jm_V).map (sd_c ad)).toArray c L 11 4 cL_holds D Y ad ρ := ⟨B.exec, B.bytes, hml, hown, hts, hst⟩
  have hlocks := B.notSynchronized
  have hr := B.returns
  have htab : c.exceptionTable.toList = tableOf [(0, 8, 11, 13)] := vx_table (x := yL_holds) B (hts _ hx_w6)
  have hlen : (jm_lay [jR 0 0, jI x, jR 71 0]).length ≤ 4 := Nat.le_of_ble_eq_true rfl
  have hok : ∀ v ∈ ([jR 0 0, jI x, jR 71 0] : List jm_V), sd_ok v := by
    intro v hv
    rcases List.mem_cons.mp hv with rfl | hv
    · exact Or.inl (by decide)
    · rcases List.mem_cons.mp hv with rfl | hv
      · trivial
      · rcases List.mem_cons.mp hv with rfl | hv
        · exact Or.inl (by decide)
        · cases hv
  have hR : sd_hret p l e (headSpec lh_w lh_rm).room s m (([jR 0 0, jI x, jR 71 0] : List jm_V).map (sd_c ad)).toArray below meth c 0 0 (MQ below (sd_Qc D Y ad ρ (lh_post A σ x)) (([jR 0 0, jI x, jR 71 0] : List jm_V).map (sd_c ad)).toArray s 1 6 (sd_A ad)) 1 cL_holds D Y ad ρ (lh_post A σ x) := by
    intro i v τ H locs ls pc hd hrt hpo hro' hok' hP' hS'
    rcases hrt with ⟨rfl, x9, rfl, -⟩ | ⟨-, h0, -⟩ | ⟨-, h0, -⟩ | ⟨-, h0, -⟩
    · refine W.widen (k := 1) (n := 6) (Nat.zero_le _) (Nat.zero_le _) ?_
      exact W.iret B.exec B.bytes hr (fun t ht hW => ⟨⟨some (jI x9), τ, rfl, hpo, hro', hok', by rw [ht]; exact hP'⟩, hS'.F ht⟩) hS'.2.2 hd
    · cases h0
    · cases h0
    · cases h0
  have hC : sd_hcall l (headSpec lh_w lh_rm).room L D Y ad ρ (jm_does L 13) := by
    intro k' as' σ' post' h' q' hq' hro' hok'
    obtain ⟨-, -, -, -, -, -, -, -, -, -, -, h60'⟩ := sd_mF hq'
    exact ⟨sd_rm 13, rfl, rfl, Nat.le_of_ble_eq_true rfl, (show 8 + (q'.2.2.1 + 11) + 1300 ≤ 4000 by omega), sd_sound l L D Y ad ρ 13 k' as' σ' post' h' q' hq' hro' hok'⟩
  have go : sd_X p l e (headSpec lh_w lh_rm).room s m (([jR 0 0, jI x, jR 71 0] : List jm_V).map (sd_c ad)).toArray below meth c 0 0 (MQ below (sd_Qc D Y ad ρ (lh_post A σ x)) (([jR 0 0, jI x, jR 71 0] : List jm_V).map (sd_c ad)).toArray s 1 6 (sd_A ad)) 4 D Y ad ρ (σ, 0, [some (jR 0 0), some (jI x), some (jR 71 0), none], []) := by
    by_cases hT : hoT A.1 A.2.2.1 x = true
    · refine sd_runs hcx ⟨Nat.le_of_ble_eq_true rfl, Nat.le_of_ble_eq_true rfl, Nat.zero_le _, Nat.zero_le _⟩ hR hC iLh_dec (K := fun z => z = (σ, 4, [some (jR 0 0), some (jI x), some (jR 71 0), none], [jI x, jR 0 0, jI (nI 0), jR 71 0])) (fun z hz => ?_) lh_thr
      subst hz
      intro hro1 hlv hso hlen1 H locs ls hP hS hl
      have hq9 : sd_mt[kX9_holds]? = some (yX9_holds, cX9_holds, 2, some .long) := by decide +kernel
      have hrecv : ∃ cell : Cell, H[ad 0 0]? = some cell ∧ cell.vm.isStatics = false ∧ s.vm.findClass RX9 = some cell.cls := va_recv (s := s) (q := (RX9, TX9, 9)) (ci := 9) (q0 := 0) hst.1 hP rfl rfl
      have hPv : PreV s H RX9 (ad 0 0) (hx_Pc L D Y ad ρ [jR 0 0, jI x] σ) [.int x] := ⟨hx_Pb, hrecv, fun U hU hW => ⟨⟨rfl, sd_st_at hst hS hU hW, by rw [hU]; exact hP⟩, hx_at hxP hS hU hW⟩⟩
      refine vx_calll (vx_runV (C := RX9) (n := 1) (As := [.int x]) (rest := [.int (nI 0), .ref (ad 71 0)]) ⟨B.exec, B.bytes, hml, hown, hts⟩ (ho_met l hfl L D Y ad ρ hb hT hro) ⟨callB_of 1 hts (ci_good (sd_mF hq9).1) rfl rfl rfl (hts _ hx_w10) (hts _ hx_w7) (by decide +kernel) ⟨Nat.le_of_ble_eq_true rfl, Nat.le_of_ble_eq_true rfl⟩, hts _ hx_w8, hts _ hx_w9⟩ hPv rfl rfl hl.1 rfl (lv_room (Nat.le_of_ble_eq_true rfl)) lh_d4 ⟨Nat.le_of_ble_eq_true rfl, Nat.le_of_ble_eq_true rfl⟩) hS (fun q _ h => h) (fun q h => h) (fun q _ h => h) (fun E ce q9 u t H1 locs1 ht hvm _ hB hz hk hS1 hce hcv hcl => ?_) (fun r u t H1 locs1 ht hvm hpo => hpo.elim)
      obtain ⟨rfl, hP1⟩ := hB
      rw [ht] at hP1
      refine vx_catch (own := RL) (name := hx_E) hown [] ⟨0, 8, 11, 13⟩ [] htab (fun z hz => by cases hz) (show covers ⟨0, 8, 11, 13⟩ 4 = true by decide) (by decide) (hts _ hx_w2) (va_Nw.use rfl hxP.2.2.2.1) hce hcv hcl ?_
      refine lv_astore_n B.exec B.bytes lh_d11 rfl hl (by decide) rfl (fun ls' hl' => ?_)
      refine lv_iconst (v := nI 1) B.exec B.bytes lh_d12 (by decide) ?_
      refine W.widen (k := 1) (n := 6) (Nat.le_of_ble_eq_true rfl) (Nat.le_of_ble_eq_true rfl) ?_
      refine W.iret B.exec B.bytes hr (fun t ht hW => ⟨⟨some (jI (nI 1)), σ, rfl, ⟨by rw [hT]; rfl, hb, rfl, fun h => absurd (hT.symm.trans h) (by decide)⟩, hro, fun v hv => by cases hv; trivial, by rw [ht]; exact hP1⟩, hS1.F ht⟩) hS1.2.2 lh_d13
    · have hF : hoT A.1 A.2.2.1 x = false := by simpa using hT
      refine sd_runs hcx ⟨Nat.le_of_ble_eq_true rfl, Nat.le_of_ble_eq_true rfl, Nat.zero_le _, Nat.zero_le _⟩ hR hC iLh_dec (K := fun _ => False) (fun z hz => hz.elim) (jm_runs_mono (jm_does_mon L 13) (fun v σ' h => ?_) (fun _ _ _ _ h => h) (lh_ans (L := L) (d := 13) (Nat.le_refl _) hb hF))
      exact ⟨h.1.trans (by rw [hF]; rfl), h.2.1, h.2.2.1, fun _ => h.2.2.2⟩
  have h9 := go hro (fun i v hv => hok v (jm_lay_args ad [jR 0 0, jI x, jR 71 0] 0 i (jm_pad_at 4 _ i (v := v) hv)).2) (fun v hv => by cases hv) rfl s.heap [] _ hP va_S.rf (sd_entry ad [jR 0 0, jI x, jR 71 0] hlen)
  rw [lg_entry_eq]
  exact h9
section HLP
variable {p : Program} {l : Launch} {e : Env} {R : Room} {s : State} {m : MethodId} {args : Array Value} {below : List Frame} {meth : Method} {c : Code} {cells slots mc ms : Nat} {Q : State → Prop} {L : Nat} {D : va_G} {Y : sd_Y} {ad : Nat → Nat → Nat} {ρ : jm_G} {H : Heap} {locs : List Loc}
theorem hp_call {pc : Nat} {ls : Array Slot} {st0 rest : List Value} {a : Array Value} {post : Option jm_V → jm_G → Prop} (hr : va_Run p l e R s m args below meth c H locs cells slots mc ms (F0 m pc ls st0) rest (sd_Qc D Y ad ρ post a) (sd_A ad)) (hS : va_S (sd_A ad) s.heap H locs)
    (kk : ∀ (r : Option jm_V) (σ' : jm_G) (H1 : Heap) (locs1 : List Loc), post r σ' → sd_ro σ' ρ → (∀ v, r = some v → sd_ok v) → va_P D vwCl (sd_ws ad Y σ') H1 → va_S (sd_A ad) s.heap H1 locs1 → W p l e R s m args below meth c H1 locs1 (cells + mc) (slots + ms) Q (F0 m (pc + 3) ls ((r.map (sd_c ad)).toList ++ rest))) : W p l e R s m args below meth c H locs cells slots Q (F0 m pc ls st0) := by
  intro T hT X
  obtain ⟨v, st₀, t, T', L', h0, X', hL, e1, e2, ⟨⟨r, σ', hv, hp, hro, hok, hb⟩, hz, hk⟩, st⟩ := hr T hT X
  cases hv
  rw [h0] at hz hk
  obtain ⟨t2, a1, b1⟩ := kk r σ' T'.heap (locs ++ L') hp hro hok (by rw [e1]; exact hb)
    ⟨Nat.le_trans hS.1 (by rw [e1]; exact hz), fun q h1 h2 => by rw [e1, hk q (Nat.lt_of_lt_of_le h1 hS.1) h2]; exact hS.2.1 q h1 h2, fun q hq => by
      rcases List.mem_append.mp hq with h | h
      · exact hS.2.2 q h
      · exact hL q h⟩ T' rfl X'
  exact ⟨t2, st t2 a1, b1⟩
theorem lh_good : GoodIn sd_W lh_w := fun w hw => by
  have hw' : w ∈ sd_W := by
    rcases List.mem_cons.mp hw with rfl | h'
    · exact hx_w6
    · exact h'
  exact ⟨hw', good_of_word (List.mem_filter.mp hw').2⟩
theorem lh_par : (parseMethodDescriptor yL_holds.desc).map (fun d => d.parameters.length) = some 3 := by decide +kernel
set_option maxHeartbeats 4000000 in
theorem lw_helper (hfl : l.stackTraces = false) (hcx : sd_cx p s m args c L 11 8 code D Y ad ρ) (hxP : hx_P ad s s.heap) (hR : 41 ≤ R.frames ∧ 5000 ≤ R.locals) (cs sl : Nat) (A : ast) (σ : jm_G) (i : Nat) (h1 : cs + 1 ≤ R.cells) (h2 : sl + 6 ≤ R.slots) (hb : bRA A σ)
    (next : ∀ σ', bRA A σ' → σ'.1 102 0 = σ.1 102 0 → (hoT A.1 A.2.2.1 (σ.1 102 0 (nI i + nI 1).toNatClampNeg) = false → σ'.2 71 0 0 = lN (hoA A.1 A.2.2.1 A.2.2.2.1 (σ.1 102 0 (nI i + nI 1).toNatClampNeg))) → sd_X p l e R s m args below meth c (cs + 1) (sl + 6) Q 8 D Y ad ρ (σ', 751, lvL i, [jI (bI (hoT A.1 A.2.2.1 (σ.1 102 0 (nI i + nI 1).toNatClampNeg)))])) :
    sd_X p l e R s m args below meth c cs sl Q 8 D Y ad ρ (σ, 748, lvL i, [jR 71 0, jI (σ.1 102 0 (nI i + nI 1).toNatClampNeg), jR 0 0]) := by
  intro hro hlv hso hlen H locs ls hP hS hl
  obtain ⟨hx, hb', hml, hown, hts, hst⟩ := hcx
  generalize σ.1 102 0 (nI i + nI 1).toNatClampNeg = x at next hso ⊢
  have cw : vx_CSW R s args RL 101 yL_holds cL_holds 4 (some .int) [(0, 8, 11, 13)] lh_w lh_rm 1 6 3 := by
    refine ⟨⟨rfl, rfl, hR.1, (show 8 + (4 + 11) + 4000 ≤ R.locals by omega), pay_in hts lh_good, List.mem_cons_self⟩, hts _ hx_w6, hts _ hx_w5, ⟨by decide, by decide⟩, fun sig h => ?_, hts _ hx_w3, hts _ hx_w4⟩
    have h3 := lh_par
    rw [h] at h3
    exact (Option.some.inj h3).symm
  refine hp_call (vx_runSW (As := [.ref (ad 0 0), .int x, .ref (ad 71 0)]) (rest := []) ⟨hx, hb', hml, hown, hts⟩ (lh_met l hfl L D Y ad ρ (x := x) hb hro) cw ⟨hx_Pb, fun U hU hW => ⟨⟨rfl, sd_st_at hst hS hU hW, by rw [hU]; exact hP⟩, hx_at hxP hS hU hW⟩⟩ rfl rfl hl.1 rfl (lv_room (Nat.le_of_ble_eq_true rfl)) lh_d748 ⟨h1, h2⟩) hS (fun r σ' H1 locs1 hpo hro1 hok1 hP1 hS1 => ?_)
  obtain ⟨rfl, hb1, he1, ho1⟩ := hpo
  exact next σ' hb1 he1 ho1 hro1 hlv (fun v hv => by
    rcases List.mem_cons.mp hv with rfl | hv
    · trivial
    · cases hv) hlen H1 locs1 ls hP1 hS1 hl
end HLP
