/-! THE LAW'S HELPER, and the component's holds where it throws -/
theorem hp_ofWH {l : Launch} {y : MethodName} {ws ws' : List Cond} {rm : Room} {Pc : Array Value → State → Prop} {Qc : Array Value → State → Outcome → State → Prop} {mc ms : Nat} {free : Addr → Prop} {cc : ByteArray} {maxL : Nat} {ret : Option FieldType} {hh : List (Nat × Nat × Nat × Nat)}
    (hy : plainName y.cls = true) (hw : ws = Cond.codeWith y cc maxL ret hh :: ws')
    (body : ∀ p e s m args below meth c s₁, BodyLoose p l y (headSpec ws rm) cc maxL ret e s m args below meth c s₁ → c.maxLocals = maxL → Pc args s →
      W p l e (headSpec ws rm).room s m args below meth c s.heap [] 0 0 (MQ below Qc args s mc ms free) (entryFrame m args maxL)) : Met l y ws rm Pc Qc mc ms free := by
  refine MetFree.of_bodyS (code := cc) (maxLocals := maxL) (ret := ret) hy ?_ ?_
  · intro args s m h hn
    obtain ⟨m9, meth, c, hn9, h1, h2, h3, h4, -, h5, h6, -⟩ := Cond.codeWith_spec (atoms_spec (ws := ws) h _ (by rw [hw]; exact List.mem_cons_self))
    cases hn.symm.trans hn9
    exact ⟨meth, c, h1, h2, h3, h4, h5, h6⟩
  · intro p e s m args below meth c s₁ B hml hP _
    have hh0 : s₁.heap = s.heap := by rw [B.state]; rfl
    obtain ⟨t, a1, o, b1, b2, b3⟩ := body p e s m args below meth c s₁ B hml hP s₁ hh0 (Stand.of_body B)
    exact ⟨t, o, a1, b1, b2, ⟨b3.1, b3.2⟩⟩
/-- holds runs to its throw -/
theorem ho_throws {L d : Nat} (hd : 2 ≤ d) {x : Int32} {A : ast} {σ : jm_G} {Rt : Option jm_V → jm_G → Prop} (hb : bRA A σ) (hT : hoT A.1 A.2.2.1 x = true) : jm_runs L 9 2 iX9_holds (jm_does L d) Rt (fun z => z = (σ, 18, [some (jR 0 0), some (jI x)], [])) (σ, 0, [some (jR 0 0), some (jI x)], []) :=
  jm_run (jm_does_mon L d) fun X hK hg hw => by
    have hA := hb.1
    have hR := hb.2.1
    refine hg [18] 60 _ ?_
    refine br_c (fun _ => hK _ rfl) (fun q => ?_)
    have q : ¬ σ.1 0 0 8 = 0 := q
    have a3 := hR.2.2.1
    rw [a3] at q
    have q := bI_n0.mp q
    unfold hoT at hT
    rw [q, Bool.and_true] at hT
    have hT : atN (nN A.1) x (isG A.1) = false := by simpa using hT
    refine D_isSort_isGate_isG L d hd A.1 x σ _ hA.1 hR.1 ?_
    rw [hT]
    exact br_c (fun _ => hK _ rfl) (fun z => absurd (show bI false = 0 from rfl) z)
abbrev hx_E : String := "java/util/NoSuchElementException"
abbrev hx_y (c : String) : MethodName := ⟨c, "<init>", "(Ljava/lang/String;)V"⟩
/-- what a throw asks of the heap and of the tables -/
def hx_P (ad : Nat → Nat → Nat) (U : State) (H : Heap) : Prop := vx_Zq Bundle.tN "UNASSIGNED_STACK" Bundle.steD (sd_A ad) U H ∧ vx_Zq Bundle.tN "SUPPRESSED_SENTINEL" Bundle.listD (sd_A ad) U H ∧ (∃ sa, vk_R RX9 223 "no GATE, or it is not MAPPED" sa U) ∧
  va_Nw (.castable hx_E hx_E) U ∧ va_Nw (.declares (hx_y "java/lang/RuntimeException")) U ∧ va_Nw (.declares (hx_y "java/lang/Exception")) U ∧ va_Nw (.declares (hx_y "java/lang/Throwable")) U
theorem hx_at {ad : Nat → Nat → Nat} {s U : State} {H : Heap} {locs : List Loc} (h : hx_P ad s s.heap) (hS : va_S (sd_A ad) s.heap H locs) (hU : U.heap = H) (hW : s.WarmedH U.vm) : hx_P ad U U.heap := by
  obtain ⟨h1, h2, ⟨sa, h3⟩, h4, h5, h6, h7⟩ := h
  rw [hU]
  exact ⟨(h1.kept hS.2.1).moved hW.alike, (h2.kept hS.2.1).moved hW.alike, ⟨sa, vk_R.warm hW h3⟩, va_Nw.warmC hW h4, va_Nw.warmD hW h5, va_Nw.warmD hW h6, va_Nw.warmD hW h7⟩
theorem hx_blind {ad : Nat → Nat → Nat} {U : State} {g : JFrame} {mk : MethodId} {a : Array Value} (h : hx_P ad U U.heap) : hx_P ad (U.calling g mk a) U.heap := by
  obtain ⟨h1, h2, ⟨sa, h3⟩, h4, h5, h6, h7⟩ := h
  have hvm : U.vm.Alike (U.calling g mk a).vm := Vm.Alike.refl U.vm
  exact ⟨h1.moved hvm, h2.moved hvm, ⟨sa, vk_R.same rfl h3⟩, va_Nw.same rfl rfl h4, va_Nw.same rfl rfl h5, va_Nw.same rfl rfl h6, va_Nw.same rfl rfl h7⟩
abbrev hx_L : List Cond := (hn_atoms RX9 225 hx_E "java/lang/RuntimeException" 13 prog_20_method_4_code ["java/lang/Exception"]).filter vx_no
set_option maxRecDepth 100000 in
theorem hx_in : ∀ w ∈ hx_L.filter goodWord, w ∈ lw_tbl := by decide +kernel
set_option maxRecDepth 100000 in
theorem hx_bad : ∀ w ∈ hx_L.filter (fun w => !goodWord w), w ∈ ([.castable hx_E hx_E, .declares (hx_y "java/lang/RuntimeException"), .declares (hx_y "java/lang/Exception"), .declares (hx_y "java/lang/Throwable")] : List Cond) := by decide +kernel
set_option maxRecDepth 100000 in
theorem hx_ot : ∀ w ∈ Cond.classLink RX9 221 hx_E :: Cond.initialized hx_E :: hx_L, vx_ot w = true := by decide +kernel
theorem hx_w0 : Cond.classLink RX9 221 hx_E ∈ sd_W := sd_in (i := 967) (by decide +kernel) rfl
theorem hx_w1 : Cond.initialized hx_E ∈ sd_W := sd_in (i := 102) (by decide +kernel) rfl
theorem hx_w2 : Cond.classLink RL 13 hx_E ∈ sd_W := sd_in (i := 962) (by decide +kernel) rfl
theorem hx_w3 : Cond.methodLink RL 101 yL_holds ∈ sd_W := sd_in (i := 959) (by decide +kernel) rfl
theorem hx_w4 : Cond.static yL_holds ∈ sd_W := sd_in (i := 960) (by decide +kernel) rfl
theorem hx_w5 : Cond.initialized RL ∈ sd_W := sd_in (i := 85) (by decide +kernel) rfl
theorem hx_w6 : Cond.codeWith yL_holds cL_holds 4 (some .int) [(0, 8, 11, 13)] ∈ sd_W := sd_in (i := 961) (by decide +kernel) rfl
theorem hx_w7 : Cond.methodLink RL 7 yX9_holds ∈ sd_W := sd_in (i := 963) (by decide +kernel) rfl
theorem hx_w8 : Cond.instanceMethod yX9_holds ∈ sd_W := sd_in (i := 964) (by decide +kernel) rfl
theorem hx_w9 : Cond.selects RX9 yX9_holds yX9_holds ∈ sd_W := sd_in (i := 965) (by decide +kernel) rfl
theorem hx_w10 : Cond.initialized RX9 ∈ sd_W := sd_in (i := 86) (by decide +kernel) rfl
theorem hx_d18 : decode cX9_holds 18 = .ok (.new 221, 3) := by decide +kernel
theorem hx_d21 : decode cX9_holds 21 = .ok (.dup, 1) := by decide +kernel
theorem hx_d22 : decode cX9_holds 22 = .ok (.ldc 223, 2) := by decide +kernel
theorem hx_d24 : decode cX9_holds 24 = .ok (.invokespecial 225, 3) := by decide +kernel
theorem hx_d27 : decode cX9_holds 27 = .ok (.athrow, 1) := by decide +kernel
def hx_Pc (L : Nat) (D : va_G) (Y : sd_Y) (ad : Nat → Nat → Nat) (ρ : jm_G) (as : List jm_V) (σ : jm_G) : Array Value → State → Prop := fun v U => sd_Pc L D Y ad ρ as σ v U ∧ hx_P ad U U.heap
theorem hx_Pb {L : Nat} {D : va_G} {Y : sd_Y} {ad : Nat → Nat → Nat} {ρ : jm_G} {as : List jm_V} {σ : jm_G} : FrameBlind (hx_Pc L D Y ad ρ as σ) := fun a U g mk h => ⟨sd_blind a U g mk h.1, hx_blind h.2⟩
set_option maxHeartbeats 4000000 in
set_option maxRecDepth 100000 in
theorem ho_met (l : Launch) (hfl : l.stackTraces = false) (L : Nat) (D : va_G) (Y : sd_Y) (ad : Nat → Nat → Nat) (ρ : jm_G) {x : Int32} {A : ast} {σ : jm_G} (hb : bRA A σ) (hT : hoT A.1 A.2.2.1 x = true) (hro : sd_ro σ ρ) :
    vx_Met l yX9_holds (Cond.code yX9_holds cX9_holds 2 (some .long) :: sd_W) { frames := 20, cells := 1, slots := 6, locals := 2000 } (hx_Pc L D Y ad ρ [jR 0 0, jI x] σ) (va_Ql (fun (_ : Int64) (_ : Unit) => False) (fun _ _ => True) (sd_A ad)) (vx_X (fun _ : Unit => True) (fun E _ t => E = hx_E ∧ va_P D vwCl (sd_ws ad Y σ) t.heap) (sd_A ad)) 1 6 (sd_A ad) := by
  have hq : sd_mt[kX9_holds]? = some (yX9_holds, cX9_holds, 2, some .long) := by decide +kernel
  obtain ⟨hcode, own, rk, cd, hm, hcls, hplain, -, -, hret, hdec, h60⟩ := sd_mF hq
  have hm' : jm_mt[kX9_holds]? = some (9, 2, 2, iX9_holds) := rfl
  cases hm'.symm.trans hm
  refine vx_ofW (cc := cX9_holds) (maxL := 2) (ret := some .long) (by decide) rfl ?_
  intro p e s m args below meth c s₁ B hml htab hv
  obtain ⟨⟨rfl, hst, hP⟩, hxP⟩ := hv
  have hts : ∀ w ∈ sd_W, w.before _ s = true := fun w hw => atoms_spec (ws := Cond.code yX9_holds cX9_holds 2 (some .long) :: sd_W) B.pre w (List.mem_cons_of_mem _ hw)
  have hown : s.vm.findClass RX9 = some m.cls := findClass_of_methodNamed B.named
  have hcx : sd_cx p s m _ c L 9 2 cX9_holds D Y ad ρ := ⟨B.exec, B.bytes, hml, hown, hts, hst⟩
  have hlocks := B.notSynchronized
  have hR : sd_hret p l e (headSpec (Cond.code yX9_holds cX9_holds 2 (some .long) :: sd_W) { frames := 20, cells := 1, slots := 6, locals := 2000 }).room s m (([jR 0 0, jI x] : List jm_V).map (sd_c ad)).toArray below meth c 0 0 (vx_MQ below (va_Ql (fun (_ : Int64) (_ : Unit) => False) (fun _ _ => True) (sd_A ad)) (vx_X (fun _ : Unit => True) (fun E _ t => E = hx_E ∧ va_P D vwCl (sd_ws ad Y σ) t.heap) (sd_A ad)) (([jR 0 0, jI x] : List jm_V).map (sd_c ad)).toArray s 1 6 (sd_A ad)) 2 cX9_holds D Y ad ρ (fun _ _ => False) := by
    intro i v τ H locs ls pc hd hrt hpo
    exact hpo.elim
  have hC : sd_hcall l (headSpec (Cond.code yX9_holds cX9_holds 2 (some .long) :: sd_W) { frames := 20, cells := 1, slots := 6, locals := 2000 }).room L D Y ad ρ (jm_does L 13) := by
    intro k' as' σ' post' h' q' hq' hro' hok'
    obtain ⟨-, -, -, -, -, -, -, -, -, -, -, h60'⟩ := sd_mF hq'
    exact ⟨sd_rm 13, rfl, rfl, Nat.le_of_ble_eq_true rfl, (show 8 + (q'.2.2.1 + 11) + 1300 ≤ 2000 by omega), sd_sound l L D Y ad ρ 13 k' as' σ' post' h' q' hq' hro' hok'⟩
  have X := sd_runs hcx ⟨Nat.le_of_ble_eq_true rfl, Nat.le_of_ble_eq_true rfl, Nat.zero_le _, Nat.zero_le _⟩ hR hC hdec (K := fun z => z = (σ, 18, [some (jR 0 0), some (jI x)], [])) (fun z hz => ?_) (ho_throws (L := L) (d := 13) (by omega) hb hT)
  · have hlen : (jm_lay [jR 0 0, jI x]).length ≤ 2 := Nat.le_of_ble_eq_true rfl
    have h9 := X hro (fun i v hv => ?_) (fun v hv => by cases hv) rfl s.heap [] _ hP va_S.rf (sd_entry ad [jR 0 0, jI x] hlen)
    · rw [lg_entry_eq]
      exact h9
    · have hv2 := (jm_lay_args ad [jR 0 0, jI x] 0 i (v := v) hv).2
      rcases List.mem_cons.mp hv2 with rfl | hv2
      · exact Or.inl (by decide)
      · rcases List.mem_cons.mp hv2 with rfl | hv2
        · trivial
        · cases hv2
  · subst hz
    intro hro1 hlv hso hlen H locs ls hP hS hl
    obtain ⟨hU, hN, ⟨sa, hstr⟩, h4, h5, h6, h7⟩ := hxP
    have hat : ∀ w ∈ hx_L, w.before (([jR 0 0, jI x] : List jm_V).map (sd_c ad)).toArray s = true := vx_hat (fun w hw => hts w (List.mem_filter.mpr ⟨hx_in w hw, (List.mem_filter.mp hw).2⟩)) hx_bad (vx_c (va_Nw.use rfl h4) (vx_c (va_Nw.use rfl h5) (vx_c (va_Nw.use rfl h6) (vx_c (va_Nw.use rfl h7) vx_n))))
    refine hn_make (own := RX9) (cls := hx_E) (text := "no GATE, or it is not MAPPED") (Y9 := "java/lang/RuntimeException") (names := ["java/lang/Exception"]) (ik := 221) (is := 223) (ic := 225) (sa := sa) (k9 := 13) (bytes := prog_20_method_4_code) (A := sd_A ad) (pc := 18) (rest := []) B.exec B.bytes hfl hown (by decide +kernel) (by decide +kernel) (by decide +kernel) (by decide +kernel) (by decide +kernel) (by decide +kernel) (by decide +kernel) (hts _ hx_w0) (hts _ hx_w1) hstr hat hx_ot hU hN hS (by rw [hml]; exact hl.1) hx_d18 hx_d21 hx_d22 hx_d24 (Nat.le_of_ble_eq_true rfl) (Nat.le_of_ble_eq_true rfl) (Nat.le_of_ble_eq_true rfl) (Nat.le_of_ble_eq_true rfl) (fun q ce H1 hce hcv hcl hz hk => ?_)
    refine vx_athrow B.exec B.bytes hx_d27 ?_
    refine vx_out (E := hx_E) (ce := ce) (fun x hx => (htab x hx).elim) hlocks hce hcv hcl (fun t ht hvm => ?_) hS.2.2 (Nat.le_refl _) (Nat.le_refl _)
    refine ⟨(), trivial, ⟨rfl, ?_⟩, ?_, fun q h1 h2 => ?_⟩
    · rw [ht]
      exact hP.kept (fun k y hy => hk y.1 ((hP k y hy).lt))
    · rw [ht]
      exact Nat.le_trans hS.1 hz
    · rw [ht, hk q (Nat.lt_of_lt_of_le h1 hS.1)]
      exact hS.2.1 q h1 h2
