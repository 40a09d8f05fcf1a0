/-! CONSTRUCTORS: the words, arrays that are made, fields that are set, calls -/
theorem ci_good {y : MethodName} {b : ByteArray} {n : Nat} {r : Option FieldType} (h : Cond.code y b n r ∈ sd_W) : GoodIn sd_W (Cond.code y b n r :: sd_W) := fun w hw => by
  have hw' : w ∈ sd_W := by
    rcases List.mem_cons.mp hw with rfl | h'
    · exact h
    · exact h'
  exact ⟨hw', good_of_word (List.mem_filter.mp hw').2⟩
section CTOR
variable {p : Program} {l : Launch} {e : Env} {R : Room} {s : State} {m : MethodId} {args : Array Value} {below : List Frame} {meth : Method} {c : Code} {H : Heap} {locs : List Loc} {cells slots : Nat} {Q : State → Prop} {pc : Nat} {ls : Array Slot} {rest : List Value} {D : va_G} {Y : sd_Y} {A : Nat → Prop} {cc : ByteArray} {nL : Nat} {own : String} {ws : va_W}
def ci_cx (p : Program) (s : State) (m : MethodId) (args : Array Value) (c : Code) (cc : ByteArray) (nL : Nat) (own : String) (D : va_G) (Y : sd_Y) (A : Nat → Prop) : Prop :=
  p.tables.exec = Jvm.exec ∧ c.code = cc ∧ c.maxLocals = nL ∧ s.vm.findClass own = some m.cls ∧ (∀ w ∈ sd_W, w.before args s = true) ∧ va_K D vwCl (sd_tys Y) s ∧ ∀ q : Nat, s.heap.size ≤ q → A q
abbrev ci_i (Y : sd_Y) (N : Nat) : va_E := .inl (Y.1, N, .inl fun _ => 0)
abbrev ci_l (Y : sd_Y) (N : Nat) : va_E := .inl (Y.2.1, N, .inr (.inl fun _ => 0))
abbrev ci_z (Y : sd_Y) (N : Nat) : va_E := .inl (Y.2.2.1, N, .inl fun _ => 0)
abbrev ci_q (Y : sd_Y) (N : Nat) (f : Nat → Option Nat) : va_E := .inl (Y.2.2.2, N, .inr (.inr (.inr (.inr f))))
theorem ci_newI (hc : ci_cx p s m args c cc nL own D Y A) (hP : va_P D vwCl ws H) (hD : va_D A ws) (hS : va_S A s.heap H locs) {n : Int32} {N : Nat} (hn : ¬ n < 0) (hN : n.toNatClampNeg = N) (hb : N * componentBytes .int ≤ 536870912) (h1 : cells + 1 ≤ R.cells) (h2 : slots + N ≤ R.slots) (hd : decode cc pc = .ok (.newarray .int, 2))
    (kk : ∀ (q : Nat) (H1 : Heap), va_P D vwCl (ws ++ [(q, ci_i Y N)]) H1 → va_D A (ws ++ [(q, ci_i Y N)]) → va_S A s.heap H1 locs → W p l e R s m args below meth c H1 locs (cells + 1) (slots + N) Q (F0 m (pc + 2) ls (.ref q :: rest))) : W p l e R s m args below meth c H locs cells slots Q (F0 m pc ls (.int n :: rest)) := by
  obtain ⟨hx, hb', -, -, hts, hK, hA⟩ := hc
  refine va_newa (atype := .int) (ty := .int) (a0 := (N, .inl fun _ => 0)) hx hb' (hts _ ci_wI) rfl hK hP hD hS hA (fun _ => rfl) hn hN hb h1 h2 hd fun q cA H1 hK1 hP1 hD1 hS1 => ?_
  have e1 : s.vm.findClass ("[" ++ (FieldType.int).toString) = some cA := (hK1.2 4 (cA, .int) rfl).2
  have e2 : s.vm.findClass ("[" ++ (FieldType.int).toString) = some Y.1 := (hK.2 0 (Y.1, .int) rfl).2
  have e : cA = Y.1 := Option.some.inj (e1.symm.trans e2)
  rw [e] at hP1 hD1
  exact kk q H1 hP1 hD1 hS1
theorem ci_newL (hc : ci_cx p s m args c cc nL own D Y A) (hP : va_P D vwCl ws H) (hD : va_D A ws) (hS : va_S A s.heap H locs) {n : Int32} {N : Nat} (hn : ¬ n < 0) (hN : n.toNatClampNeg = N) (hb : N * componentBytes .long ≤ 536870912) (h1 : cells + 1 ≤ R.cells) (h2 : slots + N ≤ R.slots) (hd : decode cc pc = .ok (.newarray .long, 2))
    (kk : ∀ (q : Nat) (H1 : Heap), va_P D vwCl (ws ++ [(q, ci_l Y N)]) H1 → va_D A (ws ++ [(q, ci_l Y N)]) → va_S A s.heap H1 locs → W p l e R s m args below meth c H1 locs (cells + 1) (slots + N) Q (F0 m (pc + 2) ls (.ref q :: rest))) : W p l e R s m args below meth c H locs cells slots Q (F0 m pc ls (.int n :: rest)) := by
  obtain ⟨hx, hb', -, -, hts, hK, hA⟩ := hc
  refine va_newa (atype := .long) (ty := .long) (a0 := (N, .inr (.inl fun _ => 0))) hx hb' (hts _ ci_wL) rfl hK hP hD hS hA (fun _ => rfl) hn hN hb h1 h2 hd fun q cA H1 hK1 hP1 hD1 hS1 => ?_
  have e1 : s.vm.findClass ("[" ++ (FieldType.long).toString) = some cA := (hK1.2 4 (cA, .long) rfl).2
  have e2 : s.vm.findClass ("[" ++ (FieldType.long).toString) = some Y.2.1 := (hK.2 1 (Y.2.1, .long) rfl).2
  have e : cA = Y.2.1 := Option.some.inj (e1.symm.trans e2)
  rw [e] at hP1 hD1
  exact kk q H1 hP1 hD1 hS1
theorem ci_newZ (hc : ci_cx p s m args c cc nL own D Y A) (hP : va_P D vwCl ws H) (hD : va_D A ws) (hS : va_S A s.heap H locs) {n : Int32} {N : Nat} (hn : ¬ n < 0) (hN : n.toNatClampNeg = N) (hb : N * componentBytes .boolean ≤ 536870912) (h1 : cells + 1 ≤ R.cells) (h2 : slots + N ≤ R.slots) (hd : decode cc pc = .ok (.newarray .boolean, 2))
    (kk : ∀ (q : Nat) (H1 : Heap), va_P D vwCl (ws ++ [(q, ci_z Y N)]) H1 → va_D A (ws ++ [(q, ci_z Y N)]) → va_S A s.heap H1 locs → W p l e R s m args below meth c H1 locs (cells + 1) (slots + N) Q (F0 m (pc + 2) ls (.ref q :: rest))) : W p l e R s m args below meth c H locs cells slots Q (F0 m pc ls (.int n :: rest)) := by
  obtain ⟨hx, hb', -, -, hts, hK, hA⟩ := hc
  refine va_newa (atype := .boolean) (ty := .boolean) (a0 := (N, .inl fun _ => 0)) hx hb' (hts _ ci_wZ) rfl hK hP hD hS hA (fun _ => rfl) hn hN hb h1 h2 hd fun q cA H1 hK1 hP1 hD1 hS1 => ?_
  have e1 : s.vm.findClass ("[" ++ (FieldType.boolean).toString) = some cA := (hK1.2 4 (cA, .boolean) rfl).2
  have e2 : s.vm.findClass ("[" ++ (FieldType.boolean).toString) = some Y.2.2.1 := (hK.2 2 (Y.2.2.1, .boolean) rfl).2
  have e : cA = Y.2.2.1 := Option.some.inj (e1.symm.trans e2)
  rw [e] at hP1 hD1
  exact kk q H1 hP1 hD1 hS1
theorem ci_newQ (hc : ci_cx p s m args c cc nL own D Y A) (hover : va_AO "TableMapper$Cuts" s) {idx : Nat} (hcl : Cond.classLink own idx "TableMapper$Cuts" ∈ sd_W) (hP : va_P D vwCl ws H) (hD : va_D A ws) (hS : va_S A s.heap H locs) {n : Int32} {N : Nat} (hn : ¬ n < 0) (hN : n.toNatClampNeg = N) (hb : N * 4 ≤ 536870912) (h1 : cells + 1 ≤ R.cells) (h2 : slots + N ≤ R.slots) (hd : decode cc pc = .ok (.anewarray idx, 3))
    (kk : ∀ (q : Nat) (H1 : Heap), va_P D vwCl (ws ++ [(q, ci_q Y N (fun _ => none))]) H1 → va_D A (ws ++ [(q, ci_q Y N (fun _ => none))]) → va_S A s.heap H1 locs → W p l e R s m args below meth c H1 locs (cells + 1) (slots + N) Q (F0 m (pc + 3) ls (.ref q :: rest))) : W p l e R s m args below meth c H locs cells slots Q (F0 m pc ls (.int n :: rest)) := by
  obtain ⟨hx, hb', -, hown, hts, hK, hA⟩ := hc
  refine va_newq hx hb' hown (hts _ hcl) hover hK hP hD hS hA hn hN hb h1 h2 hd fun q cA H1 hK1 hP1 hD1 hS1 => ?_
  obtain ⟨-, -, -, -, -, e1⟩ : va_RA s cA (.object "TableMapper$Cuts") := (hK1.2 4 (cA, .object "TableMapper$Cuts") rfl).2
  obtain ⟨-, -, -, -, -, e2⟩ : va_RA s Y.2.2.2 (.object "TableMapper$Cuts") := (hK.2 3 (Y.2.2.2, .object "TableMapper$Cuts") rfl).2
  have e : cA = Y.2.2.2 := Option.some.inj (e1.symm.trans e2)
  rw [e] at hP1 hD1
  exact kk q H1 hP1 hD1 hS1
theorem ci_putF (hc : ci_cx p s m args c cc nL own D Y A) (hin : meth.name = "<init>") {o idx ci k : Nat} (hm : (o, idx, (ci, k)) ∈ jm_fl) {r : vw_C} (hr : vwCl[ci]? = some r) (ho : sd_own o = own) (hro : r.1 = own) (hP : va_P D vwCl ws H) (hD : va_D A ws) (hS : va_S A s.heap H locs) (q0 : Nat) {a : Nat} {fs : List Value} (he : ws[q0]? = some (a, .inr (ci, fs))) (hfin : (r.2.1 k).2.2.2 = true) {ty : FieldType} {v : Value} (hd0 : parseFieldDescriptor (r.2.1 k).2.2.1 = some ty) (hn : narrow ty v = v) (hfit : fits ty v = true) (hl : k < fs.length) (hd : decode cc pc = .ok (.putfield idx, 3))
    (kk : ∀ (H1 : Heap) (locs1 : List Loc), va_P D vwCl (ws.set q0 (a, .inr (ci, fs.set k v))) H1 → va_D A (ws.set q0 (a, .inr (ci, fs.set k v))) → va_S A s.heap H1 locs1 → W p l e R s m args below meth c H1 locs1 cells slots Q (F0 m (pc + 3) ls rest)) : W p l e R s m args below meth c H locs cells slots Q (F0 m pc ls (v :: .ref a :: rest)) := by
  obtain ⟨hx, hb', -, hown, hts, hK, hA⟩ := hc
  obtain ⟨r', hr', hkl, e1, hw⟩ := sd_flF hm
  cases hr.symm.trans hr'
  obtain ⟨hinc, ty0, hty0, hnm⟩ := sd_cls r (List.mem_of_getElem? hr)
  obtain ⟨C', T', N'⟩ := r
  rw [ho] at hw
  exact va_putF (C := C') (T := T') (N := N') hx hb' hts hinc ty0 hty0 hnm hown hK hP hD hS q0 he hr k hkl (hts _ hw) (fun x h => by rw [← e1]; exact h) hfin hin (e1.trans hro) hd0 hn hfit hl hd kk
theorem ci_put (hc : ci_cx p s m args c cc nL own D Y A) {o idx ci k : Nat} (hm : (o, idx, (ci, k)) ∈ jm_fl) {r : vw_C} (hr : vwCl[ci]? = some r) (ho : sd_own o = own) (hP : va_P D vwCl ws H) (hD : va_D A ws) (hS : va_S A s.heap H locs) (q0 : Nat) {a : Nat} {fs : List Value} (he : ws[q0]? = some (a, .inr (ci, fs))) (hfin : (r.2.1 k).2.2.2 = false) {ty : FieldType} {v : Value} (hd0 : parseFieldDescriptor (r.2.1 k).2.2.1 = some ty) (hn : narrow ty v = v) (hfit : fits ty v = true) (hl : k < fs.length) (hd : decode cc pc = .ok (.putfield idx, 3))
    (kk : ∀ (H1 : Heap) (locs1 : List Loc), va_P D vwCl (ws.set q0 (a, .inr (ci, fs.set k v))) H1 → va_D A (ws.set q0 (a, .inr (ci, fs.set k v))) → va_S A s.heap H1 locs1 → W p l e R s m args below meth c H1 locs1 cells slots Q (F0 m (pc + 3) ls rest)) : W p l e R s m args below meth c H locs cells slots Q (F0 m pc ls (v :: .ref a :: rest)) := by
  obtain ⟨hx, hb', -, hown, hts, hK, hA⟩ := hc
  obtain ⟨r', hr', hkl, e1, hw⟩ := sd_flF hm
  cases hr.symm.trans hr'
  obtain ⟨hinc, ty0, hty0, hnm⟩ := sd_cls r (List.mem_of_getElem? hr)
  obtain ⟨C', T', N'⟩ := r
  rw [ho] at hw
  exact va_put (C := C') (T := T') (N := N') hx hb' hts hinc ty0 hty0 hnm hown hK hP hD hS q0 he hr k hkl (hts _ hw) (fun x h => by rw [← e1]; exact h) hfin hd0 hn hfit hl hd kk
theorem ci_get (hc : ci_cx p s m args c cc nL own D Y A) {o idx ci k : Nat} (hm : (o, idx, (ci, k)) ∈ jm_fl) {r : vw_C} (hr : vwCl[ci]? = some r) (ho : sd_own o = own) (hP : va_P D vwCl ws H) (q0 : Nat) {a : Nat} {fs : List Value} (he : ws[q0]? = some (a, .inr (ci, fs))) {v : Value} (hv : fs[k]? = some v) (hd : decode cc pc = .ok (.getfield idx, 3))
    (kk : W p l e R s m args below meth c H locs cells slots Q (F0 m (pc + 3) ls (v :: rest))) : W p l e R s m args below meth c H locs cells slots Q (F0 m pc ls (.ref a :: rest)) := by
  obtain ⟨hx, hb', -, hown, hts, hK, hA⟩ := hc
  obtain ⟨r', hr', hkl, e1, hw⟩ := sd_flF hm
  cases hr.symm.trans hr'
  obtain ⟨hinc, ty0, hty0, hnm⟩ := sd_cls r (List.mem_of_getElem? hr)
  obtain ⟨C', T', N'⟩ := r
  rw [ho] at hw
  exact va_get (C := C') (T := T') (N := N') hx hb' hts hinc hown hK hP q0 he hr k hkl (hts _ hw) (fun x h => by rw [← e1]; exact h) hv hd kk
theorem ci_new (hc : ci_cx p s m args c cc nL own D Y A) {ci idx : Nat} {r : vw_C} (hr : vwCl[ci]? = some r) (hcl : Cond.classLink own idx r.1 ∈ sd_W) (hinst : Cond.instantiable r.1 r.2.2 ∈ sd_W) (hini : Cond.initialized r.1 ∈ sd_W) (ty : Nat → FieldType) (hty : ∀ k, k < r.2.2 → parseFieldDescriptor (r.2.1 k).2.2.1 = some (ty k)) (hP : va_P D vwCl ws H) (hD : va_D A ws) (hS : va_S A s.heap H locs) {fs : List Value} (hfs : ∀ j, j < r.2.2 → defaultValue (ty j) = vp_V fs j) (h1 : cells + 1 ≤ R.cells) (h2 : slots + r.2.2 ≤ R.slots) (hd : decode cc pc = .ok (.new idx, 3))
    (kk : ∀ (q : Nat) (H1 : Heap), va_P D vwCl (ws ++ [(q, .inr (ci, fs))]) H1 → va_D A (ws ++ [(q, .inr (ci, fs))]) → va_S A s.heap H1 locs → W p l e R s m args below meth c H1 locs (cells + 1) (slots + r.2.2) Q (F0 m (pc + 3) ls (.ref q :: rest))) : W p l e R s m args below meth c H locs cells slots Q (F0 m pc ls rest) := by
  obtain ⟨hx, hb', -, hown, hts, hK, hA⟩ := hc
  obtain ⟨hinc, -⟩ := sd_cls r (List.mem_of_getElem? hr)
  obtain ⟨C', T', N'⟩ := r
  exact va_new (C := C') (T := T') (N := N') hx hb' hts hinc ty hty hown (hts _ hcl) (hts _ hinst) (hts _ hini) hK hP hD hS hA hr hfs h1 h2 hd kk
theorem ci_ast (hc : ci_cx p s m args c cc nL own D Y A) (hP : va_P D vwCl ws H) (hD : va_D A ws) (hS : va_S A s.heap H locs) (q0 qk : Nat) {a v : Nat} {vs : List Value} {f : Nat → Option Nat} (ha : ws[q0]? = some (a, ci_q Y 4 f)) (hv : ws[qk]? = some (v, .inr (4, vs))) {i : Int32} {k : Nat} (hin : vp_in i 4) (hk : i.toNatClampNeg = k) (hd : decode cc pc = .ok (.aastore, 1))
    (kk : ∀ (H1 : Heap) (locs1 : List Loc), va_P D vwCl (ws.set q0 (a, ci_q Y 4 (va_up f k (some v)))) H1 → va_D A (ws.set q0 (a, ci_q Y 4 (va_up f k (some v)))) → va_S A s.heap H1 locs1 → W p l e R s m args below meth c H1 locs1 cells slots Q (F0 m (pc + 1) ls rest)) : W p l e R s m args below meth c H locs cells slots Q (F0 m pc ls (.ref v :: .int i :: .ref a :: rest)) := by
  obtain ⟨hx, hb', -, hown, hts, hK, hA⟩ := hc
  subst hk
  exact va_astq (r := (RX4, TX4, 9)) hx hb' hK hP hD hS q0 3 qk 4 ha rfl hv rfl hin hd kk
/-- what a constructor asks, and what it leaves: its cell, then the cells that it made -/
abbrev ci_Pc (D : va_G) (Y : sd_Y) (As : List Value) (sz : Nat) (wc : va_W) (X : State → Prop) : Array Value → State → Prop := va_Pc As (fun U => U.heap.size = sz ∧ va_P D vwCl wc U.heap ∧ va_K D vwCl (sd_tys Y) U ∧ va_D (fun _ => True) wc ∧ X U)
abbrev ci_Qc (D : va_G) (sz : Nat) (wc : va_W) (w1 : (Nat → Nat) → va_W) : Array Value → State → Outcome → State → Prop := va_Qv (fun _ : Nat → Nat => True) (fun q t => va_P D vwCl (w1 q) t.heap ∧ va_D (va_A wc sz) (w1 q)) (va_A wc sz)
theorem ci_back (hc : ci_cx p s m args c cc nL own D Y A) {mc ms : Nat} {wc wr : va_W} {w1 : (Nat → Nat) → va_W} {a : Array Value} {st0 : List Value} (hr : va_Run p l e R s m args below meth c H locs cells slots mc ms (F0 m pc ls st0) rest (ci_Qc D H.size wc w1 a) (va_A wc H.size)) (hP : va_P D vwCl ws H) (hD : va_D A ws) (hS : va_S A s.heap H locs) (isC isR : List Nat) (hC : isC.map (fun i => ws[i]?) = wc.map some) (hRr : isR.map (fun i => ws[i]?) = wr.map some) (hnd : va_nd isR = true) (hdis : ∀ i ∈ isR, i ∉ isC)
    (kk : ∀ (q : Nat → Nat) (H1 : Heap) (locs1 : List Loc), va_P D vwCl (wr ++ w1 q) H1 → va_D A (wr ++ w1 q) → va_S A s.heap H1 locs1 → W p l e R s m args below meth c H1 locs1 (cells + mc) (slots + ms) Q (F0 m (pc + 3) ls rest)) : W p l e R s m args below meth c H locs cells slots Q (F0 m pc ls st0) := by
  obtain ⟨hx, hb', -, hown, hts, hK, hA⟩ := hc
  have hFc := va_free (wc := wc) hD hS hA isC hC
  refine va_callv hr hS (fun q _ h => hFc q h) hFc (fun u t H1 locs ht hvm _ hB hz1 hk1 hS => ?_)
  obtain ⟨hP1, hD1⟩ := hB
  rw [ht] at hP1
  obtain ⟨hP2, hD2⟩ := va_join (wr := wr) (w1 := w1 u) hP hD isC isR hC hRr hnd hdis hk1 hFc hP1 hD1
  exact kk u H1 locs hP2 hD2 hS
theorem ci_blind {As : List Value} {sz : Nat} {wc : va_W} {X : State → Prop} (hX : FrameBlind (fun _ U => X U)) : FrameBlind (ci_Pc D Y As sz wc X) := fun a U g mk q => by
  obtain ⟨q0, q1, qP, qK, qD, qX⟩ := q
  exact ⟨q0, q1, qP, va_K.moved (u := U) (U := U.calling g mk a) (Vm.Alike.refl U.vm) qK, qD, hX a U g mk qX⟩
theorem ci_pre (hK : va_K D vwCl (sd_tys Y) s) {As : List Value} {wc : va_W} {X : State → Prop} (hX : FrameBlind (fun _ U => X U)) (hXs : ∀ U : State, s.WarmedH U.vm → X U) (hP : va_P D vwCl ws H) (hD : va_D A ws) (isC : List Nat) (hC : isC.map (fun i => ws[i]?) = wc.map some) (hC' : isC.filterMap (fun i => ws[i]?) = wc) (hnC : va_nd isC = true) : PreS s H (ci_Pc D Y As H.size wc X) As :=
  ⟨ci_blind hX, fun U hU hW => ⟨rfl, by rw [hU], by rw [hU]; exact hP.sub isC hC', va_K.moved hW.alike hK, (hD.sub isC hnC hC).weaken (fun _ _ _ _ => trivial), hXs U hW⟩⟩
theorem ci_call (hc : ci_cx p s m args c cc nL own D Y A) {y : MethodName} {bytes : ByteArray} {maxL idx n : Nat} {rm : Room} {wc wr : va_W} {w1 : (Nat → Nat) → va_W} {b : Nat} {As : List Value} {X : State → Prop} (hX : FrameBlind (fun _ U => X U)) (hXs : ∀ U : State, s.WarmedH U.vm → X U)
    (hM : Met l y (Cond.code y bytes maxL none :: sd_W) rm (ci_Pc D Y (.ref b :: As) H.size wc X) (ci_Qc D H.size wc w1) rm.cells rm.slots (va_A wc H.size)) (hcode : Cond.code y bytes maxL none ∈ sd_W) (hlink : Cond.methodLink own idx y ∈ sd_W) (hini : Cond.initialized y.cls ∈ sd_W) (hinst : Cond.instanceMethod y ∈ sd_W) (hnm : y.name = "<init>") (hd0 : y.cls ≠ "java/lang/invoke/MethodHandle" ∧ y.cls ≠ "java/lang/invoke/VarHandle" ∧ (parseMethodDescriptor y.desc).map (fun d => d.parameters.length) = some n) (hR : rm.frames + 1 ≤ R.frames ∧ 8 + (maxL + 11) + rm.locals ≤ R.locals)
    (hP : va_P D vwCl ws H) (hD : va_D A ws) (hS : va_S A s.heap H locs) (isC isR : List Nat) (hC : isC.map (fun i => ws[i]?) = wc.map some) (hC' : isC.filterMap (fun i => ws[i]?) = wc) (hnC : va_nd isC = true) (hRr : isR.map (fun i => ws[i]?) = wr.map some) (hnd : va_nd isR = true) (hdis : ∀ i ∈ isR, i ∉ isC) (hn : As.length = n) (hsz : ls.size = nL) (hcat : (rest.map fun v => v.category).sum ≤ 8) (hd : decode cc pc = .ok (.invokespecial idx, 3)) (hf : cells + rm.cells ≤ R.cells ∧ slots + rm.slots ≤ R.slots) {st0 : List Value} (hst : st0 = As.reverse ++ .ref b :: rest)
    (kk : ∀ (q : Nat → Nat) (H1 : Heap) (locs1 : List Loc), va_P D vwCl (wr ++ w1 q) H1 → va_D A (wr ++ w1 q) → va_S A s.heap H1 locs1 → W p l e R s m args below meth c H1 locs1 (cells + rm.cells) (slots + rm.slots) Q (F0 m (pc + 3) ls rest)) : W p l e R s m args below meth c H locs cells slots Q (F0 m pc ls st0) := by
  have hc' := hc
  obtain ⟨hx, hb', hml, hown, hts, hK, hA⟩ := hc
  subst hst
  refine ci_back hc' (va_runI (As := As) (rest := rest) ⟨hx, hb', hml, hown, hts⟩ hM (cwI n hts (ci_good hcode) rfl rfl rfl (hts _ hini) (hts _ hlink) (hts _ hinst) hnm hd0 hR) (ci_pre hK hX hXs hP hD isC hC hC' hnC) rfl hn hsz rfl (lv_room hcat) hd hf) hP hD hS isC isR hC hRr hnd hdis kk
theorem ci_callN (hc : ci_cx p s m args c cc nL own D Y A) {y : MethodName} {host : String} {bytes : ByteArray} {maxL idx n : Nat} {rm : Room} {wc wr : va_W} {w1 : (Nat → Nat) → va_W} {b : Nat} {As : List Value} {X : State → Prop} (hX : FrameBlind (fun _ U => X U)) (hXs : ∀ U : State, s.WarmedH U.vm → X U)
    (hM : Met l y (Cond.code y bytes maxL none :: sd_W) rm (ci_Pc D Y (.ref b :: As) H.size wc X) (ci_Qc D H.size wc w1) rm.cells rm.slots (va_A wc H.size)) (hcode : Cond.code y bytes maxL none ∈ sd_W) (hlink : va_Nw (.methodLinkNest own idx y host) s) (hini : Cond.initialized y.cls ∈ sd_W) (hinst : Cond.instanceMethod y ∈ sd_W) (hnm : y.name = "<init>") (hd0 : y.cls ≠ "java/lang/invoke/MethodHandle" ∧ y.cls ≠ "java/lang/invoke/VarHandle" ∧ (parseMethodDescriptor y.desc).map (fun d => d.parameters.length) = some n) (hR : rm.frames + 1 ≤ R.frames ∧ 8 + (maxL + 11) + rm.locals ≤ R.locals)
    (hP : va_P D vwCl ws H) (hD : va_D A ws) (hS : va_S A s.heap H locs) (isC isR : List Nat) (hC : isC.map (fun i => ws[i]?) = wc.map some) (hC' : isC.filterMap (fun i => ws[i]?) = wc) (hnC : va_nd isC = true) (hRr : isR.map (fun i => ws[i]?) = wr.map some) (hnd : va_nd isR = true) (hdis : ∀ i ∈ isR, i ∉ isC) (hn : As.length = n) (hsz : ls.size = nL) (hcat : (rest.map fun v => v.category).sum ≤ 8) (hd : decode cc pc = .ok (.invokespecial idx, 3)) (hf : cells + rm.cells ≤ R.cells ∧ slots + rm.slots ≤ R.slots) {st0 : List Value} (hst : st0 = As.reverse ++ .ref b :: rest)
    (kk : ∀ (q : Nat → Nat) (H1 : Heap) (locs1 : List Loc), va_P D vwCl (wr ++ w1 q) H1 → va_D A (wr ++ w1 q) → va_S A s.heap H1 locs1 → W p l e R s m args below meth c H1 locs1 (cells + rm.cells) (slots + rm.slots) Q (F0 m (pc + 3) ls rest)) : W p l e R s m args below meth c H locs cells slots Q (F0 m pc ls st0) := by
  have hc' := hc
  obtain ⟨hx, hb', hml, hown, hts, hK, hA⟩ := hc
  subst hst
  refine ci_back hc' (va_runIN (As := As) (rest := rest) ⟨hx, hb', hml, hown, hts⟩ hM ⟨va_cnB n hts (ci_good hcode) rfl rfl rfl hlink (hts _ hini) hd0 hR, hnm, hts _ hinst⟩ (ci_pre hK hX hXs hP hD isC hC hC' hnC) rfl hn hsz rfl (lv_room hcat) hd hf) hP hD hS isC isR hC hRr hnd hdis kk
end CTOR
def ci_X9 (U : State) : Prop := va_Nw (.methodLinkNest RX9 9 yX5_init "TableMapper") U ∧ va_Nw (.methodLinkNest RX9 30 yX6_init "TableMapper") U ∧ va_AO "TableMapper$Cuts" U
theorem ci_X9b : FrameBlind (fun _ U => ci_X9 U) := fun _ _ _ _ h => ⟨va_Nw.same rfl rfl h.1, va_Nw.same rfl rfl h.2.1, va_AO.moved (Vm.Alike.refl _) h.2.2⟩
