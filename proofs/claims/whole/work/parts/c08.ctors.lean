theorem dX5_init_0 : decode cX5_init 0 = .ok (.aload_n 0, 1) := by decide +kernel
theorem dX5_init_1 : decode cX5_init 1 = .ok (.invokespecial 3, 3) := by decide +kernel
theorem dX5_init_4 : decode cX5_init 4 = .ok (.aload_n 0, 1) := by decide +kernel
theorem dX5_init_5 : decode cX5_init 5 = .ok (.bipush 40, 2) := by decide +kernel
theorem dX5_init_7 : decode cX5_init 7 = .ok (.newarray .int, 2) := by decide +kernel
theorem dX5_init_9 : decode cX5_init 9 = .ok (.putfield 9, 3) := by decide +kernel
theorem dX5_init_12 : decode cX5_init 12 = .ok (.aload_n 0, 1) := by decide +kernel
theorem dX5_init_13 : decode cX5_init 13 = .ok (.bipush 120, 2) := by decide +kernel
theorem dX5_init_15 : decode cX5_init 15 = .ok (.newarray .int, 2) := by decide +kernel
theorem dX5_init_17 : decode cX5_init 17 = .ok (.putfield 15, 3) := by decide +kernel
theorem dX5_init_20 : decode cX5_init 20 = .ok (.aload_n 0, 1) := by decide +kernel
theorem dX5_init_21 : decode cX5_init 21 = .ok (.bipush 40, 2) := by decide +kernel
theorem dX5_init_23 : decode cX5_init 23 = .ok (.newarray .int, 2) := by decide +kernel
theorem dX5_init_25 : decode cX5_init 25 = .ok (.putfield 18, 3) := by decide +kernel
theorem dX5_init_28 : decode cX5_init 28 = .ok (.aload_n 0, 1) := by decide +kernel
theorem dX5_init_29 : decode cX5_init 29 = .ok (.bipush 40, 2) := by decide +kernel
theorem dX5_init_31 : decode cX5_init 31 = .ok (.newarray .long, 2) := by decide +kernel
theorem dX5_init_33 : decode cX5_init 33 = .ok (.putfield 21, 3) := by decide +kernel
theorem dX5_init_36 : decode cX5_init 36 = .ok (.aload_n 0, 1) := by decide +kernel
theorem dX5_init_37 : decode cX5_init 37 = .ok (.bipush 40, 2) := by decide +kernel
theorem dX5_init_39 : decode cX5_init 39 = .ok (.newarray .long, 2) := by decide +kernel
theorem dX5_init_41 : decode cX5_init 41 = .ok (.putfield 25, 3) := by decide +kernel
theorem dX5_init_44 : decode cX5_init 44 = .ok (.return_, 1) := by decide +kernel
def ciw5 (h0 : Nat) : va_W := [(h0, .inr (5, [.null, .null, .null, .null, .null, .long 0, .long 0, .long 0, .long 0, .int 0]))]
def cir5 (Y : sd_Y) (h0 : Nat) (q : Nat → Nat) : va_W := [(h0, .inr (5, [.ref (q 0), .ref (q 1), .ref (q 2), .ref (q 3), .ref (q 4), .long 0, .long 0, .long 0, .long 0, .int 0])), ((q 0), ci_i Y 40), ((q 1), ci_i Y 120), ((q 2), ci_i Y 40), ((q 3), ci_l Y 40), ((q 4), ci_l Y 40)]
set_option maxHeartbeats 4000000 in
set_option maxRecDepth 100000 in
theorem c_X5_init (l : Launch) (D : va_G) (Y : sd_Y) (h0 sz : Nat) : Met l yX5_init (Cond.code yX5_init cX5_init 1 none :: sd_W) { frames := 1, cells := 5, slots := 280, locals := 12 } (ci_Pc D Y [.ref h0] sz (ciw5 h0) (fun _ => True)) (ci_Qc D sz (ciw5 h0) (cir5 Y h0)) 5 280 (va_A (ciw5 h0) sz) := by
  refine Met.ofW (cc := cX5_init) (maxL := 1) (ret := none) (by decide) rfl ?_
  intro p e s m args below meth c s₁ B hml hv
  obtain ⟨rfl, hsz, hP, hK, hD0, -⟩ := hv
  have hx := B.exec
  have hb := B.bytes
  have hr := B.returns
  have hts : ∀ w ∈ sd_W, w.before _ s = true := fun w hw => atoms_spec (ws := Cond.code yX5_init cX5_init 1 none :: sd_W) B.pre w (List.mem_cons_of_mem _ hw)
  have hown : s.vm.findClass RX5 = some m.cls := findClass_of_methodNamed B.named
  have hlocks := B.notSynchronized
  have hin : meth.name = "<init>" := (name_of_methodNamed B.named B.method).1
  subst hsz
  have hD := hD0.self (sz := s.heap.size)
  have hA : ∀ q : Nat, s.heap.size ≤ q → va_A (ciw5 h0) s.heap.size q := fun q h => Or.inr h
  have hS : va_S (va_A (ciw5 h0) s.heap.size) s.heap s.heap [] := va_S.rf
  have hc : ci_cx p s m _ c cX5_init 1 RX5 D Y (va_A (ciw5 h0) s.heap.size) := ⟨hx, hb, hml, hown, hts, hK, hA⟩
  have hl := lv_entry ([.ref h0]) (n := 1) (Nat.le_of_ble_eq_true rfl)
  rw [lg_entry_eq]
  generalize (lg_sl ([.ref h0]) ++ List.replicate (1 - (lg_sl ([.ref h0])).length) Slot.unset).toArray = ls at hl ⊢
  have hl : lv_has ls 1 [(0, .ref h0)] := hl
  have hP : va_P D vwCl [(h0, .inr (5, [.null, .null, .null, .null, .null, .long 0, .long 0, .long 0, .long 0, .int 0]))] s.heap := hP
  have hD : va_D (va_A (ciw5 h0) s.heap.size) [(h0, .inr (5, [.null, .null, .null, .null, .null, .long 0, .long 0, .long 0, .long 0, .int 0]))] := hD
  refine lv_aload_n hx hb dX5_init_0 rfl (lv_at hl 0 rfl) ?_
  refine W.objInit hx hb hown (hts _ cw_0) (hts _ cw_1) (hts _ cw_2) rfl (by rw [hml]; exact hl.1) rfl dX5_init_1 (Nat.le_of_ble_eq_true rfl) (Nat.le_of_ble_eq_true rfl) ?_
  refine W.eq (g2 := F0 m 4 ls []) rfl ?_
  refine lv_aload_n hx hb dX5_init_4 rfl (lv_at hl 0 rfl) ?_
  refine lv_bipush (v := 40) hx hb dX5_init_5 (by decide +kernel) ?_
  refine ci_newI hc hP hD hS (n := 40) (N := 40) (by decide +kernel) (by decide +kernel) (Nat.le_of_ble_eq_true rfl) (Nat.le_of_ble_eq_true rfl) (Nat.le_of_ble_eq_true rfl) dX5_init_7 (fun q1 H hP hD hS => ?_)
  have hP : va_P D vwCl [(h0, .inr (5, [.null, .null, .null, .null, .null, .long 0, .long 0, .long 0, .long 0, .int 0])), (q1, ci_i Y 40)] H := hP
  have hD : va_D (va_A (ciw5 h0) s.heap.size) [(h0, .inr (5, [.null, .null, .null, .null, .null, .long 0, .long 0, .long 0, .long 0, .int 0])), (q1, ci_i Y 40)] := hD
  refine ci_putF hc hin (o := 5) (idx := 9) (ci := 5) (k := 0) (List.mem_of_getElem? (i := 85) rfl) (r := (RX5, TX5, 10)) rfl rfl rfl hP hD hS 0 rfl rfl (ty := .array .int) (v := .ref q1) (by decide +kernel) rfl rfl (Nat.le_of_ble_eq_true rfl) dX5_init_9 (fun H locs hP hD hS => ?_)
  have hP : va_P D vwCl [(h0, .inr (5, [.ref q1, .null, .null, .null, .null, .long 0, .long 0, .long 0, .long 0, .int 0])), (q1, ci_i Y 40)] H := hP
  have hD : va_D (va_A (ciw5 h0) s.heap.size) [(h0, .inr (5, [.ref q1, .null, .null, .null, .null, .long 0, .long 0, .long 0, .long 0, .int 0])), (q1, ci_i Y 40)] := hD
  refine lv_aload_n hx hb dX5_init_12 rfl (lv_at hl 0 rfl) ?_
  refine lv_bipush (v := 120) hx hb dX5_init_13 (by decide +kernel) ?_
  refine ci_newI hc hP hD hS (n := 120) (N := 120) (by decide +kernel) (by decide +kernel) (Nat.le_of_ble_eq_true rfl) (Nat.le_of_ble_eq_true rfl) (Nat.le_of_ble_eq_true rfl) dX5_init_15 (fun q2 H hP hD hS => ?_)
  have hP : va_P D vwCl [(h0, .inr (5, [.ref q1, .null, .null, .null, .null, .long 0, .long 0, .long 0, .long 0, .int 0])), (q1, ci_i Y 40), (q2, ci_i Y 120)] H := hP
  have hD : va_D (va_A (ciw5 h0) s.heap.size) [(h0, .inr (5, [.ref q1, .null, .null, .null, .null, .long 0, .long 0, .long 0, .long 0, .int 0])), (q1, ci_i Y 40), (q2, ci_i Y 120)] := hD
  refine ci_putF hc hin (o := 5) (idx := 15) (ci := 5) (k := 1) (List.mem_of_getElem? (i := 86) rfl) (r := (RX5, TX5, 10)) rfl rfl rfl hP hD hS 0 rfl rfl (ty := .array .int) (v := .ref q2) (by decide +kernel) rfl rfl (Nat.le_of_ble_eq_true rfl) dX5_init_17 (fun H locs hP hD hS => ?_)
  have hP : va_P D vwCl [(h0, .inr (5, [.ref q1, .ref q2, .null, .null, .null, .long 0, .long 0, .long 0, .long 0, .int 0])), (q1, ci_i Y 40), (q2, ci_i Y 120)] H := hP
  have hD : va_D (va_A (ciw5 h0) s.heap.size) [(h0, .inr (5, [.ref q1, .ref q2, .null, .null, .null, .long 0, .long 0, .long 0, .long 0, .int 0])), (q1, ci_i Y 40), (q2, ci_i Y 120)] := hD
  refine lv_aload_n hx hb dX5_init_20 rfl (lv_at hl 0 rfl) ?_
  refine lv_bipush (v := 40) hx hb dX5_init_21 (by decide +kernel) ?_
  refine ci_newI hc hP hD hS (n := 40) (N := 40) (by decide +kernel) (by decide +kernel) (Nat.le_of_ble_eq_true rfl) (Nat.le_of_ble_eq_true rfl) (Nat.le_of_ble_eq_true rfl) dX5_init_23 (fun q3 H hP hD hS => ?_)
  have hP : va_P D vwCl [(h0, .inr (5, [.ref q1, .ref q2, .null, .null, .null, .long 0, .long 0, .long 0, .long 0, .int 0])), (q1, ci_i Y 40), (q2, ci_i Y 120), (q3, ci_i Y 40)] H := hP
  have hD : va_D (va_A (ciw5 h0) s.heap.size) [(h0, .inr (5, [.ref q1, .ref q2, .null, .null, .null, .long 0, .long 0, .long 0, .long 0, .int 0])), (q1, ci_i Y 40), (q2, ci_i Y 120), (q3, ci_i Y 40)] := hD
  refine ci_putF hc hin (o := 5) (idx := 18) (ci := 5) (k := 2) (List.mem_of_getElem? (i := 87) rfl) (r := (RX5, TX5, 10)) rfl rfl rfl hP hD hS 0 rfl rfl (ty := .array .int) (v := .ref q3) (by decide +kernel) rfl rfl (Nat.le_of_ble_eq_true rfl) dX5_init_25 (fun H locs hP hD hS => ?_)
  have hP : va_P D vwCl [(h0, .inr (5, [.ref q1, .ref q2, .ref q3, .null, .null, .long 0, .long 0, .long 0, .long 0, .int 0])), (q1, ci_i Y 40), (q2, ci_i Y 120), (q3, ci_i Y 40)] H := hP
  have hD : va_D (va_A (ciw5 h0) s.heap.size) [(h0, .inr (5, [.ref q1, .ref q2, .ref q3, .null, .null, .long 0, .long 0, .long 0, .long 0, .int 0])), (q1, ci_i Y 40), (q2, ci_i Y 120), (q3, ci_i Y 40)] := hD
  refine lv_aload_n hx hb dX5_init_28 rfl (lv_at hl 0 rfl) ?_
  refine lv_bipush (v := 40) hx hb dX5_init_29 (by decide +kernel) ?_
  refine ci_newL hc hP hD hS (n := 40) (N := 40) (by decide +kernel) (by decide +kernel) (Nat.le_of_ble_eq_true rfl) (Nat.le_of_ble_eq_true rfl) (Nat.le_of_ble_eq_true rfl) dX5_init_31 (fun q4 H hP hD hS => ?_)
  have hP : va_P D vwCl [(h0, .inr (5, [.ref q1, .ref q2, .ref q3, .null, .null, .long 0, .long 0, .long 0, .long 0, .int 0])), (q1, ci_i Y 40), (q2, ci_i Y 120), (q3, ci_i Y 40), (q4, ci_l Y 40)] H := hP
  have hD : va_D (va_A (ciw5 h0) s.heap.size) [(h0, .inr (5, [.ref q1, .ref q2, .ref q3, .null, .null, .long 0, .long 0, .long 0, .long 0, .int 0])), (q1, ci_i Y 40), (q2, ci_i Y 120), (q3, ci_i Y 40), (q4, ci_l Y 40)] := hD
  refine ci_putF hc hin (o := 5) (idx := 21) (ci := 5) (k := 3) (List.mem_of_getElem? (i := 88) rfl) (r := (RX5, TX5, 10)) rfl rfl rfl hP hD hS 0 rfl rfl (ty := .array .long) (v := .ref q4) (by decide +kernel) rfl rfl (Nat.le_of_ble_eq_true rfl) dX5_init_33 (fun H locs hP hD hS => ?_)
  have hP : va_P D vwCl [(h0, .inr (5, [.ref q1, .ref q2, .ref q3, .ref q4, .null, .long 0, .long 0, .long 0, .long 0, .int 0])), (q1, ci_i Y 40), (q2, ci_i Y 120), (q3, ci_i Y 40), (q4, ci_l Y 40)] H := hP
  have hD : va_D (va_A (ciw5 h0) s.heap.size) [(h0, .inr (5, [.ref q1, .ref q2, .ref q3, .ref q4, .null, .long 0, .long 0, .long 0, .long 0, .int 0])), (q1, ci_i Y 40), (q2, ci_i Y 120), (q3, ci_i Y 40), (q4, ci_l Y 40)] := hD
  refine lv_aload_n hx hb dX5_init_36 rfl (lv_at hl 0 rfl) ?_
  refine lv_bipush (v := 40) hx hb dX5_init_37 (by decide +kernel) ?_
  refine ci_newL hc hP hD hS (n := 40) (N := 40) (by decide +kernel) (by decide +kernel) (Nat.le_of_ble_eq_true rfl) (Nat.le_of_ble_eq_true rfl) (Nat.le_of_ble_eq_true rfl) dX5_init_39 (fun q5 H hP hD hS => ?_)
  have hP : va_P D vwCl [(h0, .inr (5, [.ref q1, .ref q2, .ref q3, .ref q4, .null, .long 0, .long 0, .long 0, .long 0, .int 0])), (q1, ci_i Y 40), (q2, ci_i Y 120), (q3, ci_i Y 40), (q4, ci_l Y 40), (q5, ci_l Y 40)] H := hP
  have hD : va_D (va_A (ciw5 h0) s.heap.size) [(h0, .inr (5, [.ref q1, .ref q2, .ref q3, .ref q4, .null, .long 0, .long 0, .long 0, .long 0, .int 0])), (q1, ci_i Y 40), (q2, ci_i Y 120), (q3, ci_i Y 40), (q4, ci_l Y 40), (q5, ci_l Y 40)] := hD
  refine ci_putF hc hin (o := 5) (idx := 25) (ci := 5) (k := 4) (List.mem_of_getElem? (i := 89) rfl) (r := (RX5, TX5, 10)) rfl rfl rfl hP hD hS 0 rfl rfl (ty := .array .long) (v := .ref q5) (by decide +kernel) rfl rfl (Nat.le_of_ble_eq_true rfl) dX5_init_41 (fun H locs hP hD hS => ?_)
  have hP : va_P D vwCl [(h0, .inr (5, [.ref q1, .ref q2, .ref q3, .ref q4, .ref q5, .long 0, .long 0, .long 0, .long 0, .int 0])), (q1, ci_i Y 40), (q2, ci_i Y 120), (q3, ci_i Y 40), (q4, ci_l Y 40), (q5, ci_l Y 40)] H := hP
  have hD : va_D (va_A (ciw5 h0) s.heap.size) [(h0, .inr (5, [.ref q1, .ref q2, .ref q3, .ref q4, .ref q5, .long 0, .long 0, .long 0, .long 0, .int 0])), (q1, ci_i Y 40), (q2, ci_i Y 120), (q3, ci_i Y 40), (q4, ci_l Y 40), (q5, ci_l Y 40)] := hD
  refine W.widen (k := 5) (n := 280) (Nat.le_of_ble_eq_true rfl) (Nat.le_of_ble_eq_true rfl) ?_
  exact W.vret hx hb hr (fun t ht hW => ⟨⟨fun i => [q1, q2, q3, q4, q5].getD i 0, rfl, trivial, by rw [ht]; exact hP, hD⟩, hS.F ht⟩) hS.2.2 dX5_init_44
theorem dX7_init_0 : decode cX7_init 0 = .ok (.aload_n 0, 1) := by decide +kernel
theorem dX7_init_1 : decode cX7_init 1 = .ok (.invokespecial 3, 3) := by decide +kernel
theorem dX7_init_4 : decode cX7_init 4 = .ok (.aload_n 0, 1) := by decide +kernel
theorem dX7_init_5 : decode cX7_init 5 = .ok (.bipush 40, 2) := by decide +kernel
theorem dX7_init_7 : decode cX7_init 7 = .ok (.newarray .long, 2) := by decide +kernel
theorem dX7_init_9 : decode cX7_init 9 = .ok (.putfield 9, 3) := by decide +kernel
theorem dX7_init_12 : decode cX7_init 12 = .ok (.aload_n 0, 1) := by decide +kernel
theorem dX7_init_13 : decode cX7_init 13 = .ok (.aload_n 1, 1) := by decide +kernel
theorem dX7_init_14 : decode cX7_init 14 = .ok (.putfield 15, 3) := by decide +kernel
theorem dX7_init_17 : decode cX7_init 17 = .ok (.return_, 1) := by decide +kernel
def ciw7 (h0 : Nat) : va_W := [(h0, .inr (7, [.null, .null, .long 0]))]
def cir7 (Y : sd_Y) (h0 : Nat) (a1 : Nat) (q : Nat → Nat) : va_W := [(h0, .inr (7, [.ref a1, .ref (q 0), .long 0])), ((q 0), ci_l Y 40)]
set_option maxHeartbeats 4000000 in
set_option maxRecDepth 100000 in
theorem c_X7_init (l : Launch) (D : va_G) (Y : sd_Y) (h0 sz : Nat) (a1 : Nat) : Met l yX7_init (Cond.code yX7_init cX7_init 2 none :: sd_W) { frames := 1, cells := 1, slots := 40, locals := 12 } (ci_Pc D Y [.ref h0, .ref a1] sz (ciw7 h0) (fun _ => True)) (ci_Qc D sz (ciw7 h0) (cir7 Y h0 a1)) 1 40 (va_A (ciw7 h0) sz) := by
  refine Met.ofW (cc := cX7_init) (maxL := 2) (ret := none) (by decide) rfl ?_
  intro p e s m args below meth c s₁ B hml hv
  obtain ⟨rfl, hsz, hP, hK, hD0, -⟩ := hv
  have hx := B.exec
  have hb := B.bytes
  have hr := B.returns
  have hts : ∀ w ∈ sd_W, w.before _ s = true := fun w hw => atoms_spec (ws := Cond.code yX7_init cX7_init 2 none :: sd_W) B.pre w (List.mem_cons_of_mem _ hw)
  have hown : s.vm.findClass RX7 = some m.cls := findClass_of_methodNamed B.named
  have hlocks := B.notSynchronized
  have hin : meth.name = "<init>" := (name_of_methodNamed B.named B.method).1
  subst hsz
  have hD := hD0.self (sz := s.heap.size)
  have hA : ∀ q : Nat, s.heap.size ≤ q → va_A (ciw7 h0) s.heap.size q := fun q h => Or.inr h
  have hS : va_S (va_A (ciw7 h0) s.heap.size) s.heap s.heap [] := va_S.rf
  have hc : ci_cx p s m _ c cX7_init 2 RX7 D Y (va_A (ciw7 h0) s.heap.size) := ⟨hx, hb, hml, hown, hts, hK, hA⟩
  have hl := lv_entry ([.ref h0, .ref a1]) (n := 2) (Nat.le_of_ble_eq_true rfl)
  rw [lg_entry_eq]
  generalize (lg_sl ([.ref h0, .ref a1]) ++ List.replicate (2 - (lg_sl ([.ref h0, .ref a1])).length) Slot.unset).toArray = ls at hl ⊢
  have hl : lv_has ls 2 [(0, .ref h0), (1, .ref a1)] := hl
  have hP : va_P D vwCl [(h0, .inr (7, [.null, .null, .long 0]))] s.heap := hP
  have hD : va_D (va_A (ciw7 h0) s.heap.size) [(h0, .inr (7, [.null, .null, .long 0]))] := hD
  refine lv_aload_n hx hb dX7_init_0 rfl (lv_at hl 0 rfl) ?_
  refine W.objInit hx hb hown (hts _ cw_3) (hts _ cw_1) (hts _ cw_2) rfl (by rw [hml]; exact hl.1) rfl dX7_init_1 (Nat.le_of_ble_eq_true rfl) (Nat.le_of_ble_eq_true rfl) ?_
  refine W.eq (g2 := F0 m 4 ls []) rfl ?_
  refine lv_aload_n hx hb dX7_init_4 rfl (lv_at hl 0 rfl) ?_
  refine lv_bipush (v := 40) hx hb dX7_init_5 (by decide +kernel) ?_
  refine ci_newL hc hP hD hS (n := 40) (N := 40) (by decide +kernel) (by decide +kernel) (Nat.le_of_ble_eq_true rfl) (Nat.le_of_ble_eq_true rfl) (Nat.le_of_ble_eq_true rfl) dX7_init_7 (fun q1 H hP hD hS => ?_)
  have hP : va_P D vwCl [(h0, .inr (7, [.null, .null, .long 0])), (q1, ci_l Y 40)] H := hP
  have hD : va_D (va_A (ciw7 h0) s.heap.size) [(h0, .inr (7, [.null, .null, .long 0])), (q1, ci_l Y 40)] := hD
  refine ci_putF hc hin (o := 7) (idx := 9) (ci := 7) (k := 1) (List.mem_of_getElem? (i := 98) rfl) (r := (RX7, TX7, 3)) rfl rfl rfl hP hD hS 0 rfl rfl (ty := .array .long) (v := .ref q1) (by decide +kernel) rfl rfl (Nat.le_of_ble_eq_true rfl) dX7_init_9 (fun H locs hP hD hS => ?_)
  have hP : va_P D vwCl [(h0, .inr (7, [.null, .ref q1, .long 0])), (q1, ci_l Y 40)] H := hP
  have hD : va_D (va_A (ciw7 h0) s.heap.size) [(h0, .inr (7, [.null, .ref q1, .long 0])), (q1, ci_l Y 40)] := hD
  refine lv_aload_n hx hb dX7_init_12 rfl (lv_at hl 0 rfl) ?_
  refine lv_aload_n hx hb dX7_init_13 rfl (lv_at hl 1 rfl) ?_
  refine ci_putF hc hin (o := 7) (idx := 15) (ci := 7) (k := 0) (List.mem_of_getElem? (i := 99) rfl) (r := (RX7, TX7, 3)) rfl rfl rfl hP hD hS 0 rfl rfl (ty := .object "TableMapper$Network") (v := .ref a1) (by decide +kernel) rfl rfl (Nat.le_of_ble_eq_true rfl) dX7_init_14 (fun H locs hP hD hS => ?_)
  have hP : va_P D vwCl [(h0, .inr (7, [.ref a1, .ref q1, .long 0])), (q1, ci_l Y 40)] H := hP
  have hD : va_D (va_A (ciw7 h0) s.heap.size) [(h0, .inr (7, [.ref a1, .ref q1, .long 0])), (q1, ci_l Y 40)] := hD
  refine W.widen (k := 1) (n := 40) (Nat.le_of_ble_eq_true rfl) (Nat.le_of_ble_eq_true rfl) ?_
  exact W.vret hx hb hr (fun t ht hW => ⟨⟨fun i => [q1].getD i 0, rfl, trivial, by rw [ht]; exact hP, hD⟩, hS.F ht⟩) hS.2.2 dX7_init_17
theorem dX8_init_0 : decode cX8_init 0 = .ok (.aload_n 0, 1) := by decide +kernel
theorem dX8_init_1 : decode cX8_init 1 = .ok (.invokespecial 3, 3) := by decide +kernel
theorem dX8_init_4 : decode cX8_init 4 = .ok (.aload_n 0, 1) := by decide +kernel
theorem dX8_init_5 : decode cX8_init 5 = .ok (.bipush 80, 2) := by decide +kernel
theorem dX8_init_7 : decode cX8_init 7 = .ok (.newarray .int, 2) := by decide +kernel
theorem dX8_init_9 : decode cX8_init 9 = .ok (.putfield 9, 3) := by decide +kernel
theorem dX8_init_12 : decode cX8_init 12 = .ok (.aload_n 0, 1) := by decide +kernel
theorem dX8_init_13 : decode cX8_init 13 = .ok (.bipush 80, 2) := by decide +kernel
theorem dX8_init_15 : decode cX8_init 15 = .ok (.newarray .int, 2) := by decide +kernel
theorem dX8_init_17 : decode cX8_init 17 = .ok (.putfield 15, 3) := by decide +kernel
theorem dX8_init_20 : decode cX8_init 20 = .ok (.aload_n 0, 1) := by decide +kernel
theorem dX8_init_21 : decode cX8_init 21 = .ok (.bipush 40, 2) := by decide +kernel
theorem dX8_init_23 : decode cX8_init 23 = .ok (.newarray .int, 2) := by decide +kernel
theorem dX8_init_25 : decode cX8_init 25 = .ok (.putfield 18, 3) := by decide +kernel
theorem dX8_init_28 : decode cX8_init 28 = .ok (.aload_n 0, 1) := by decide +kernel
theorem dX8_init_29 : decode cX8_init 29 = .ok (.aload_n 1, 1) := by decide +kernel
theorem dX8_init_30 : decode cX8_init 30 = .ok (.putfield 21, 3) := by decide +kernel
theorem dX8_init_33 : decode cX8_init 33 = .ok (.return_, 1) := by decide +kernel
def ciw8 (h0 : Nat) : va_W := [(h0, .inr (8, [.null, .null, .null, .null, .long 0, .long 0, .long 0, .int 0]))]
def cir8 (Y : sd_Y) (h0 : Nat) (a1 : Nat) (q : Nat → Nat) : va_W := [(h0, .inr (8, [.ref (q 0), .ref (q 1), .ref (q 2), .ref a1, .long 0, .long 0, .long 0, .int 0])), ((q 0), ci_i Y 80), ((q 1), ci_i Y 80), ((q 2), ci_i Y 40)]
set_option maxHeartbeats 4000000 in
set_option maxRecDepth 100000 in
theorem c_X8_init (l : Launch) (D : va_G) (Y : sd_Y) (h0 sz : Nat) (a1 : Nat) : Met l yX8_init (Cond.code yX8_init cX8_init 2 none :: sd_W) { frames := 1, cells := 3, slots := 200, locals := 12 } (ci_Pc D Y [.ref h0, .ref a1] sz (ciw8 h0) (fun _ => True)) (ci_Qc D sz (ciw8 h0) (cir8 Y h0 a1)) 3 200 (va_A (ciw8 h0) sz) := by
  refine Met.ofW (cc := cX8_init) (maxL := 2) (ret := none) (by decide) rfl ?_
  intro p e s m args below meth c s₁ B hml hv
  obtain ⟨rfl, hsz, hP, hK, hD0, -⟩ := hv
  have hx := B.exec
  have hb := B.bytes
  have hr := B.returns
  have hts : ∀ w ∈ sd_W, w.before _ s = true := fun w hw => atoms_spec (ws := Cond.code yX8_init cX8_init 2 none :: sd_W) B.pre w (List.mem_cons_of_mem _ hw)
  have hown : s.vm.findClass RX8 = some m.cls := findClass_of_methodNamed B.named
  have hlocks := B.notSynchronized
  have hin : meth.name = "<init>" := (name_of_methodNamed B.named B.method).1
  subst hsz
  have hD := hD0.self (sz := s.heap.size)
  have hA : ∀ q : Nat, s.heap.size ≤ q → va_A (ciw8 h0) s.heap.size q := fun q h => Or.inr h
  have hS : va_S (va_A (ciw8 h0) s.heap.size) s.heap s.heap [] := va_S.rf
  have hc : ci_cx p s m _ c cX8_init 2 RX8 D Y (va_A (ciw8 h0) s.heap.size) := ⟨hx, hb, hml, hown, hts, hK, hA⟩
  have hl := lv_entry ([.ref h0, .ref a1]) (n := 2) (Nat.le_of_ble_eq_true rfl)
  rw [lg_entry_eq]
  generalize (lg_sl ([.ref h0, .ref a1]) ++ List.replicate (2 - (lg_sl ([.ref h0, .ref a1])).length) Slot.unset).toArray = ls at hl ⊢
  have hl : lv_has ls 2 [(0, .ref h0), (1, .ref a1)] := hl
  have hP : va_P D vwCl [(h0, .inr (8, [.null, .null, .null, .null, .long 0, .long 0, .long 0, .int 0]))] s.heap := hP
  have hD : va_D (va_A (ciw8 h0) s.heap.size) [(h0, .inr (8, [.null, .null, .null, .null, .long 0, .long 0, .long 0, .int 0]))] := hD
  refine lv_aload_n hx hb dX8_init_0 rfl (lv_at hl 0 rfl) ?_
  refine W.objInit hx hb hown (hts _ cw_4) (hts _ cw_1) (hts _ cw_2) rfl (by rw [hml]; exact hl.1) rfl dX8_init_1 (Nat.le_of_ble_eq_true rfl) (Nat.le_of_ble_eq_true rfl) ?_
  refine W.eq (g2 := F0 m 4 ls []) rfl ?_
  refine lv_aload_n hx hb dX8_init_4 rfl (lv_at hl 0 rfl) ?_
  refine lv_bipush (v := 80) hx hb dX8_init_5 (by decide +kernel) ?_
  refine ci_newI hc hP hD hS (n := 80) (N := 80) (by decide +kernel) (by decide +kernel) (Nat.le_of_ble_eq_true rfl) (Nat.le_of_ble_eq_true rfl) (Nat.le_of_ble_eq_true rfl) dX8_init_7 (fun q1 H hP hD hS => ?_)
  have hP : va_P D vwCl [(h0, .inr (8, [.null, .null, .null, .null, .long 0, .long 0, .long 0, .int 0])), (q1, ci_i Y 80)] H := hP
  have hD : va_D (va_A (ciw8 h0) s.heap.size) [(h0, .inr (8, [.null, .null, .null, .null, .long 0, .long 0, .long 0, .int 0])), (q1, ci_i Y 80)] := hD
  refine ci_putF hc hin (o := 8) (idx := 9) (ci := 8) (k := 0) (List.mem_of_getElem? (i := 105) rfl) (r := (RX8, TX8, 8)) rfl rfl rfl hP hD hS 0 rfl rfl (ty := .array .int) (v := .ref q1) (by decide +kernel) rfl rfl (Nat.le_of_ble_eq_true rfl) dX8_init_9 (fun H locs hP hD hS => ?_)
  have hP : va_P D vwCl [(h0, .inr (8, [.ref q1, .null, .null, .null, .long 0, .long 0, .long 0, .int 0])), (q1, ci_i Y 80)] H := hP
  have hD : va_D (va_A (ciw8 h0) s.heap.size) [(h0, .inr (8, [.ref q1, .null, .null, .null, .long 0, .long 0, .long 0, .int 0])), (q1, ci_i Y 80)] := hD
  refine lv_aload_n hx hb dX8_init_12 rfl (lv_at hl 0 rfl) ?_
  refine lv_bipush (v := 80) hx hb dX8_init_13 (by decide +kernel) ?_
  refine ci_newI hc hP hD hS (n := 80) (N := 80) (by decide +kernel) (by decide +kernel) (Nat.le_of_ble_eq_true rfl) (Nat.le_of_ble_eq_true rfl) (Nat.le_of_ble_eq_true rfl) dX8_init_15 (fun q2 H hP hD hS => ?_)
  have hP : va_P D vwCl [(h0, .inr (8, [.ref q1, .null, .null, .null, .long 0, .long 0, .long 0, .int 0])), (q1, ci_i Y 80), (q2, ci_i Y 80)] H := hP
  have hD : va_D (va_A (ciw8 h0) s.heap.size) [(h0, .inr (8, [.ref q1, .null, .null, .null, .long 0, .long 0, .long 0, .int 0])), (q1, ci_i Y 80), (q2, ci_i Y 80)] := hD
  refine ci_putF hc hin (o := 8) (idx := 15) (ci := 8) (k := 1) (List.mem_of_getElem? (i := 106) rfl) (r := (RX8, TX8, 8)) rfl rfl rfl hP hD hS 0 rfl rfl (ty := .array .int) (v := .ref q2) (by decide +kernel) rfl rfl (Nat.le_of_ble_eq_true rfl) dX8_init_17 (fun H locs hP hD hS => ?_)
  have hP : va_P D vwCl [(h0, .inr (8, [.ref q1, .ref q2, .null, .null, .long 0, .long 0, .long 0, .int 0])), (q1, ci_i Y 80), (q2, ci_i Y 80)] H := hP
  have hD : va_D (va_A (ciw8 h0) s.heap.size) [(h0, .inr (8, [.ref q1, .ref q2, .null, .null, .long 0, .long 0, .long 0, .int 0])), (q1, ci_i Y 80), (q2, ci_i Y 80)] := hD
  refine lv_aload_n hx hb dX8_init_20 rfl (lv_at hl 0 rfl) ?_
  refine lv_bipush (v := 40) hx hb dX8_init_21 (by decide +kernel) ?_
  refine ci_newI hc hP hD hS (n := 40) (N := 40) (by decide +kernel) (by decide +kernel) (Nat.le_of_ble_eq_true rfl) (Nat.le_of_ble_eq_true rfl) (Nat.le_of_ble_eq_true rfl) dX8_init_23 (fun q3 H hP hD hS => ?_)
  have hP : va_P D vwCl [(h0, .inr (8, [.ref q1, .ref q2, .null, .null, .long 0, .long 0, .long 0, .int 0])), (q1, ci_i Y 80), (q2, ci_i Y 80), (q3, ci_i Y 40)] H := hP
  have hD : va_D (va_A (ciw8 h0) s.heap.size) [(h0, .inr (8, [.ref q1, .ref q2, .null, .null, .long 0, .long 0, .long 0, .int 0])), (q1, ci_i Y 80), (q2, ci_i Y 80), (q3, ci_i Y 40)] := hD
  refine ci_putF hc hin (o := 8) (idx := 18) (ci := 8) (k := 2) (List.mem_of_getElem? (i := 107) rfl) (r := (RX8, TX8, 8)) rfl rfl rfl hP hD hS 0 rfl rfl (ty := .array .int) (v := .ref q3) (by decide +kernel) rfl rfl (Nat.le_of_ble_eq_true rfl) dX8_init_25 (fun H locs hP hD hS => ?_)
  have hP : va_P D vwCl [(h0, .inr (8, [.ref q1, .ref q2, .ref q3, .null, .long 0, .long 0, .long 0, .int 0])), (q1, ci_i Y 80), (q2, ci_i Y 80), (q3, ci_i Y 40)] H := hP
  have hD : va_D (va_A (ciw8 h0) s.heap.size) [(h0, .inr (8, [.ref q1, .ref q2, .ref q3, .null, .long 0, .long 0, .long 0, .int 0])), (q1, ci_i Y 80), (q2, ci_i Y 80), (q3, ci_i Y 40)] := hD
  refine lv_aload_n hx hb dX8_init_28 rfl (lv_at hl 0 rfl) ?_
  refine lv_aload_n hx hb dX8_init_29 rfl (lv_at hl 1 rfl) ?_
  refine ci_putF hc hin (o := 8) (idx := 21) (ci := 8) (k := 3) (List.mem_of_getElem? (i := 108) rfl) (r := (RX8, TX8, 8)) rfl rfl rfl hP hD hS 0 rfl rfl (ty := .object "TableMapper$Network") (v := .ref a1) (by decide +kernel) rfl rfl (Nat.le_of_ble_eq_true rfl) dX8_init_30 (fun H locs hP hD hS => ?_)
  have hP : va_P D vwCl [(h0, .inr (8, [.ref q1, .ref q2, .ref q3, .ref a1, .long 0, .long 0, .long 0, .int 0])), (q1, ci_i Y 80), (q2, ci_i Y 80), (q3, ci_i Y 40)] H := hP
  have hD : va_D (va_A (ciw8 h0) s.heap.size) [(h0, .inr (8, [.ref q1, .ref q2, .ref q3, .ref a1, .long 0, .long 0, .long 0, .int 0])), (q1, ci_i Y 80), (q2, ci_i Y 80), (q3, ci_i Y 40)] := hD
  refine W.widen (k := 3) (n := 200) (Nat.le_of_ble_eq_true rfl) (Nat.le_of_ble_eq_true rfl) ?_
  exact W.vret hx hb hr (fun t ht hW => ⟨⟨fun i => [q1, q2, q3].getD i 0, rfl, trivial, by rw [ht]; exact hP, hD⟩, hS.F ht⟩) hS.2.2 dX8_init_33
theorem dX6_init_0 : decode cX6_init 0 = .ok (.aload_n 0, 1) := by decide +kernel
theorem dX6_init_1 : decode cX6_init 1 = .ok (.invokespecial 3, 3) := by decide +kernel
theorem dX6_init_4 : decode cX6_init 4 = .ok (.aload_n 0, 1) := by decide +kernel
theorem dX6_init_5 : decode cX6_init 5 = .ok (.sipush 730, 3) := by decide +kernel
theorem dX6_init_8 : decode cX6_init 8 = .ok (.newarray .long, 2) := by decide +kernel
theorem dX6_init_10 : decode cX6_init 10 = .ok (.putfield 11, 3) := by decide +kernel
theorem dX6_init_13 : decode cX6_init 13 = .ok (.aload_n 0, 1) := by decide +kernel
theorem dX6_init_14 : decode cX6_init 14 = .ok (.sipush 730, 3) := by decide +kernel
theorem dX6_init_17 : decode cX6_init 17 = .ok (.newarray .long, 2) := by decide +kernel
theorem dX6_init_19 : decode cX6_init 19 = .ok (.putfield 15, 3) := by decide +kernel
theorem dX6_init_22 : decode cX6_init 22 = .ok (.return_, 1) := by decide +kernel
def ciw6 (h0 : Nat) : va_W := [(h0, .inr (6, [.null, .null, .int 0]))]
def cir6 (Y : sd_Y) (h0 : Nat) (q : Nat → Nat) : va_W := [(h0, .inr (6, [.ref (q 0), .ref (q 1), .int 0])), ((q 0), ci_l Y 730), ((q 1), ci_l Y 730)]
set_option maxHeartbeats 4000000 in
set_option maxRecDepth 100000 in
theorem c_X6_init (l : Launch) (D : va_G) (Y : sd_Y) (h0 sz : Nat) : Met l yX6_init (Cond.code yX6_init cX6_init 1 none :: sd_W) { frames := 1, cells := 2, slots := 1460, locals := 12 } (ci_Pc D Y [.ref h0] sz (ciw6 h0) (fun _ => True)) (ci_Qc D sz (ciw6 h0) (cir6 Y h0)) 2 1460 (va_A (ciw6 h0) sz) := by
  refine Met.ofW (cc := cX6_init) (maxL := 1) (ret := none) (by decide) rfl ?_
  intro p e s m args below meth c s₁ B hml hv
  obtain ⟨rfl, hsz, hP, hK, hD0, -⟩ := hv
  have hx := B.exec
  have hb := B.bytes
  have hr := B.returns
  have hts : ∀ w ∈ sd_W, w.before _ s = true := fun w hw => atoms_spec (ws := Cond.code yX6_init cX6_init 1 none :: sd_W) B.pre w (List.mem_cons_of_mem _ hw)
  have hown : s.vm.findClass RX6 = some m.cls := findClass_of_methodNamed B.named
  have hlocks := B.notSynchronized
  have hin : meth.name = "<init>" := (name_of_methodNamed B.named B.method).1
  subst hsz
  have hD := hD0.self (sz := s.heap.size)
  have hA : ∀ q : Nat, s.heap.size ≤ q → va_A (ciw6 h0) s.heap.size q := fun q h => Or.inr h
  have hS : va_S (va_A (ciw6 h0) s.heap.size) s.heap s.heap [] := va_S.rf
  have hc : ci_cx p s m _ c cX6_init 1 RX6 D Y (va_A (ciw6 h0) s.heap.size) := ⟨hx, hb, hml, hown, hts, hK, hA⟩
  have hl := lv_entry ([.ref h0]) (n := 1) (Nat.le_of_ble_eq_true rfl)
  rw [lg_entry_eq]
  generalize (lg_sl ([.ref h0]) ++ List.replicate (1 - (lg_sl ([.ref h0])).length) Slot.unset).toArray = ls at hl ⊢
  have hl : lv_has ls 1 [(0, .ref h0)] := hl
  have hP : va_P D vwCl [(h0, .inr (6, [.null, .null, .int 0]))] s.heap := hP
  have hD : va_D (va_A (ciw6 h0) s.heap.size) [(h0, .inr (6, [.null, .null, .int 0]))] := hD
  refine lv_aload_n hx hb dX6_init_0 rfl (lv_at hl 0 rfl) ?_
  refine W.objInit hx hb hown (hts _ cw_5) (hts _ cw_1) (hts _ cw_2) rfl (by rw [hml]; exact hl.1) rfl dX6_init_1 (Nat.le_of_ble_eq_true rfl) (Nat.le_of_ble_eq_true rfl) ?_
  refine W.eq (g2 := F0 m 4 ls []) rfl ?_
  refine lv_aload_n hx hb dX6_init_4 rfl (lv_at hl 0 rfl) ?_
  refine lv_sipush (v := 730) hx hb dX6_init_5 (by decide +kernel) ?_
  refine ci_newL hc hP hD hS (n := 730) (N := 730) (by decide +kernel) (by decide +kernel) (Nat.le_of_ble_eq_true rfl) (Nat.le_of_ble_eq_true rfl) (Nat.le_of_ble_eq_true rfl) dX6_init_8 (fun q1 H hP hD hS => ?_)
  have hP : va_P D vwCl [(h0, .inr (6, [.null, .null, .int 0])), (q1, ci_l Y 730)] H := hP
  have hD : va_D (va_A (ciw6 h0) s.heap.size) [(h0, .inr (6, [.null, .null, .int 0])), (q1, ci_l Y 730)] := hD
  refine ci_putF hc hin (o := 6) (idx := 11) (ci := 6) (k := 0) (List.mem_of_getElem? (i := 95) rfl) (r := (RX6, TX6, 3)) rfl rfl rfl hP hD hS 0 rfl rfl (ty := .array .long) (v := .ref q1) (by decide +kernel) rfl rfl (Nat.le_of_ble_eq_true rfl) dX6_init_10 (fun H locs hP hD hS => ?_)
  have hP : va_P D vwCl [(h0, .inr (6, [.ref q1, .null, .int 0])), (q1, ci_l Y 730)] H := hP
  have hD : va_D (va_A (ciw6 h0) s.heap.size) [(h0, .inr (6, [.ref q1, .null, .int 0])), (q1, ci_l Y 730)] := hD
  refine lv_aload_n hx hb dX6_init_13 rfl (lv_at hl 0 rfl) ?_
  refine lv_sipush (v := 730) hx hb dX6_init_14 (by decide +kernel) ?_
  refine ci_newL hc hP hD hS (n := 730) (N := 730) (by decide +kernel) (by decide +kernel) (Nat.le_of_ble_eq_true rfl) (Nat.le_of_ble_eq_true rfl) (Nat.le_of_ble_eq_true rfl) dX6_init_17 (fun q2 H hP hD hS => ?_)
  have hP : va_P D vwCl [(h0, .inr (6, [.ref q1, .null, .int 0])), (q1, ci_l Y 730), (q2, ci_l Y 730)] H := hP
  have hD : va_D (va_A (ciw6 h0) s.heap.size) [(h0, .inr (6, [.ref q1, .null, .int 0])), (q1, ci_l Y 730), (q2, ci_l Y 730)] := hD
  refine ci_putF hc hin (o := 6) (idx := 15) (ci := 6) (k := 1) (List.mem_of_getElem? (i := 96) rfl) (r := (RX6, TX6, 3)) rfl rfl rfl hP hD hS 0 rfl rfl (ty := .array .long) (v := .ref q2) (by decide +kernel) rfl rfl (Nat.le_of_ble_eq_true rfl) dX6_init_19 (fun H locs hP hD hS => ?_)
  have hP : va_P D vwCl [(h0, .inr (6, [.ref q1, .ref q2, .int 0])), (q1, ci_l Y 730), (q2, ci_l Y 730)] H := hP
  have hD : va_D (va_A (ciw6 h0) s.heap.size) [(h0, .inr (6, [.ref q1, .ref q2, .int 0])), (q1, ci_l Y 730), (q2, ci_l Y 730)] := hD
  refine W.widen (k := 2) (n := 1460) (Nat.le_of_ble_eq_true rfl) (Nat.le_of_ble_eq_true rfl) ?_
  exact W.vret hx hb hr (fun t ht hW => ⟨⟨fun i => [q1, q2].getD i 0, rfl, trivial, by rw [ht]; exact hP, hD⟩, hS.F ht⟩) hS.2.2 dX6_init_22
theorem dX4_init_0 : decode cX4_init 0 = .ok (.aload_n 0, 1) := by decide +kernel
theorem dX4_init_1 : decode cX4_init 1 = .ok (.invokespecial 3, 3) := by decide +kernel
theorem dX4_init_4 : decode cX4_init 4 = .ok (.aload_n 0, 1) := by decide +kernel
theorem dX4_init_5 : decode cX4_init 5 = .ok (.bipush 40, 2) := by decide +kernel
theorem dX4_init_7 : decode cX4_init 7 = .ok (.newarray .int, 2) := by decide +kernel
theorem dX4_init_9 : decode cX4_init 9 = .ok (.putfield 9, 3) := by decide +kernel
theorem dX4_init_12 : decode cX4_init 12 = .ok (.aload_n 0, 1) := by decide +kernel
theorem dX4_init_13 : decode cX4_init 13 = .ok (.bipush 40, 2) := by decide +kernel
theorem dX4_init_15 : decode cX4_init 15 = .ok (.newarray .long, 2) := by decide +kernel
theorem dX4_init_17 : decode cX4_init 17 = .ok (.putfield 15, 3) := by decide +kernel
theorem dX4_init_20 : decode cX4_init 20 = .ok (.aload_n 0, 1) := by decide +kernel
theorem dX4_init_21 : decode cX4_init 21 = .ok (.sipush 320, 3) := by decide +kernel
theorem dX4_init_24 : decode cX4_init 24 = .ok (.newarray .long, 2) := by decide +kernel
theorem dX4_init_26 : decode cX4_init 26 = .ok (.putfield 19, 3) := by decide +kernel
theorem dX4_init_29 : decode cX4_init 29 = .ok (.aload_n 0, 1) := by decide +kernel
theorem dX4_init_30 : decode cX4_init 30 = .ok (.bipush 40, 2) := by decide +kernel
theorem dX4_init_32 : decode cX4_init 32 = .ok (.newarray .int, 2) := by decide +kernel
theorem dX4_init_34 : decode cX4_init 34 = .ok (.putfield 22, 3) := by decide +kernel
theorem dX4_init_37 : decode cX4_init 37 = .ok (.aload_n 0, 1) := by decide +kernel
theorem dX4_init_38 : decode cX4_init 38 = .ok (.aload_n 1, 1) := by decide +kernel
theorem dX4_init_39 : decode cX4_init 39 = .ok (.putfield 25, 3) := by decide +kernel
theorem dX4_init_42 : decode cX4_init 42 = .ok (.aload_n 0, 1) := by decide +kernel
theorem dX4_init_43 : decode cX4_init 43 = .ok (.aload_n 2, 1) := by decide +kernel
theorem dX4_init_44 : decode cX4_init 44 = .ok (.putfield 29, 3) := by decide +kernel
theorem dX4_init_47 : decode cX4_init 47 = .ok (.aload_n 0, 1) := by decide +kernel
theorem dX4_init_48 : decode cX4_init 48 = .ok (.aload_n 3, 1) := by decide +kernel
theorem dX4_init_49 : decode cX4_init 49 = .ok (.putfield 33, 3) := by decide +kernel
theorem dX4_init_52 : decode cX4_init 52 = .ok (.aload_n 0, 1) := by decide +kernel
theorem dX4_init_53 : decode cX4_init 53 = .ok (.iload 4, 2) := by decide +kernel
theorem dX4_init_55 : decode cX4_init 55 = .ok (.putfield 37, 3) := by decide +kernel
theorem dX4_init_58 : decode cX4_init 58 = .ok (.return_, 1) := by decide +kernel
def ciw4 (h0 : Nat) : va_W := [(h0, .inr (4, [.null, .null, .null, .int 0, .null, .null, .null, .null, .int 0]))]
def cir4 (Y : sd_Y) (h0 : Nat) (a1 : Nat) (a2 : Nat) (a3 : Nat) (x4 : Int32) (q : Nat → Nat) : va_W := [(h0, .inr (4, [.ref a1, .ref a2, .ref a3, .int x4, .ref (q 0), .ref (q 1), .ref (q 2), .ref (q 3), .int 0])), ((q 0), ci_i Y 40), ((q 1), ci_l Y 40), ((q 2), ci_l Y 320), ((q 3), ci_i Y 40)]
set_option maxHeartbeats 4000000 in
set_option maxRecDepth 100000 in
theorem c_X4_init (l : Launch) (D : va_G) (Y : sd_Y) (h0 sz : Nat) (a1 : Nat) (a2 : Nat) (a3 : Nat) (x4 : Int32) : Met l yX4_init (Cond.code yX4_init cX4_init 5 none :: sd_W) { frames := 1, cells := 4, slots := 440, locals := 12 } (ci_Pc D Y [.ref h0, .ref a1, .ref a2, .ref a3, .int x4] sz (ciw4 h0) (fun _ => True)) (ci_Qc D sz (ciw4 h0) (cir4 Y h0 a1 a2 a3 x4)) 4 440 (va_A (ciw4 h0) sz) := by
  refine Met.ofW (cc := cX4_init) (maxL := 5) (ret := none) (by decide) rfl ?_
  intro p e s m args below meth c s₁ B hml hv
  obtain ⟨rfl, hsz, hP, hK, hD0, -⟩ := hv
  have hx := B.exec
  have hb := B.bytes
  have hr := B.returns
  have hts : ∀ w ∈ sd_W, w.before _ s = true := fun w hw => atoms_spec (ws := Cond.code yX4_init cX4_init 5 none :: sd_W) B.pre w (List.mem_cons_of_mem _ hw)
  have hown : s.vm.findClass RX4 = some m.cls := findClass_of_methodNamed B.named
  have hlocks := B.notSynchronized
  have hin : meth.name = "<init>" := (name_of_methodNamed B.named B.method).1
  subst hsz
  have hD := hD0.self (sz := s.heap.size)
  have hA : ∀ q : Nat, s.heap.size ≤ q → va_A (ciw4 h0) s.heap.size q := fun q h => Or.inr h
  have hS : va_S (va_A (ciw4 h0) s.heap.size) s.heap s.heap [] := va_S.rf
  have hc : ci_cx p s m _ c cX4_init 5 RX4 D Y (va_A (ciw4 h0) s.heap.size) := ⟨hx, hb, hml, hown, hts, hK, hA⟩
  have hl := lv_entry ([.ref h0, .ref a1, .ref a2, .ref a3, .int x4]) (n := 5) (Nat.le_of_ble_eq_true rfl)
  rw [lg_entry_eq]
  generalize (lg_sl ([.ref h0, .ref a1, .ref a2, .ref a3, .int x4]) ++ List.replicate (5 - (lg_sl ([.ref h0, .ref a1, .ref a2, .ref a3, .int x4])).length) Slot.unset).toArray = ls at hl ⊢
  have hl : lv_has ls 5 [(0, .ref h0), (1, .ref a1), (2, .ref a2), (3, .ref a3), (4, .int x4)] := hl
  have hP : va_P D vwCl [(h0, .inr (4, [.null, .null, .null, .int 0, .null, .null, .null, .null, .int 0]))] s.heap := hP
  have hD : va_D (va_A (ciw4 h0) s.heap.size) [(h0, .inr (4, [.null, .null, .null, .int 0, .null, .null, .null, .null, .int 0]))] := hD
  refine lv_aload_n hx hb dX4_init_0 rfl (lv_at hl 0 rfl) ?_
  refine W.objInit hx hb hown (hts _ cw_6) (hts _ cw_1) (hts _ cw_2) rfl (by rw [hml]; exact hl.1) rfl dX4_init_1 (Nat.le_of_ble_eq_true rfl) (Nat.le_of_ble_eq_true rfl) ?_
  refine W.eq (g2 := F0 m 4 ls []) rfl ?_
  refine lv_aload_n hx hb dX4_init_4 rfl (lv_at hl 0 rfl) ?_
  refine lv_bipush (v := 40) hx hb dX4_init_5 (by decide +kernel) ?_
  refine ci_newI hc hP hD hS (n := 40) (N := 40) (by decide +kernel) (by decide +kernel) (Nat.le_of_ble_eq_true rfl) (Nat.le_of_ble_eq_true rfl) (Nat.le_of_ble_eq_true rfl) dX4_init_7 (fun q1 H hP hD hS => ?_)
  have hP : va_P D vwCl [(h0, .inr (4, [.null, .null, .null, .int 0, .null, .null, .null, .null, .int 0])), (q1, ci_i Y 40)] H := hP
  have hD : va_D (va_A (ciw4 h0) s.heap.size) [(h0, .inr (4, [.null, .null, .null, .int 0, .null, .null, .null, .null, .int 0])), (q1, ci_i Y 40)] := hD
  refine ci_putF hc hin (o := 4) (idx := 9) (ci := 4) (k := 4) (List.mem_of_getElem? (i := 73) rfl) (r := (RX4, TX4, 9)) rfl rfl rfl hP hD hS 0 rfl rfl (ty := .array .int) (v := .ref q1) (by decide +kernel) rfl rfl (Nat.le_of_ble_eq_true rfl) dX4_init_9 (fun H locs hP hD hS => ?_)
  have hP : va_P D vwCl [(h0, .inr (4, [.null, .null, .null, .int 0, .ref q1, .null, .null, .null, .int 0])), (q1, ci_i Y 40)] H := hP
  have hD : va_D (va_A (ciw4 h0) s.heap.size) [(h0, .inr (4, [.null, .null, .null, .int 0, .ref q1, .null, .null, .null, .int 0])), (q1, ci_i Y 40)] := hD
  refine lv_aload_n hx hb dX4_init_12 rfl (lv_at hl 0 rfl) ?_
  refine lv_bipush (v := 40) hx hb dX4_init_13 (by decide +kernel) ?_
  refine ci_newL hc hP hD hS (n := 40) (N := 40) (by decide +kernel) (by decide +kernel) (Nat.le_of_ble_eq_true rfl) (Nat.le_of_ble_eq_true rfl) (Nat.le_of_ble_eq_true rfl) dX4_init_15 (fun q2 H hP hD hS => ?_)
  have hP : va_P D vwCl [(h0, .inr (4, [.null, .null, .null, .int 0, .ref q1, .null, .null, .null, .int 0])), (q1, ci_i Y 40), (q2, ci_l Y 40)] H := hP
  have hD : va_D (va_A (ciw4 h0) s.heap.size) [(h0, .inr (4, [.null, .null, .null, .int 0, .ref q1, .null, .null, .null, .int 0])), (q1, ci_i Y 40), (q2, ci_l Y 40)] := hD
  refine ci_putF hc hin (o := 4) (idx := 15) (ci := 4) (k := 5) (List.mem_of_getElem? (i := 74) rfl) (r := (RX4, TX4, 9)) rfl rfl rfl hP hD hS 0 rfl rfl (ty := .array .long) (v := .ref q2) (by decide +kernel) rfl rfl (Nat.le_of_ble_eq_true rfl) dX4_init_17 (fun H locs hP hD hS => ?_)
  have hP : va_P D vwCl [(h0, .inr (4, [.null, .null, .null, .int 0, .ref q1, .ref q2, .null, .null, .int 0])), (q1, ci_i Y 40), (q2, ci_l Y 40)] H := hP
  have hD : va_D (va_A (ciw4 h0) s.heap.size) [(h0, .inr (4, [.null, .null, .null, .int 0, .ref q1, .ref q2, .null, .null, .int 0])), (q1, ci_i Y 40), (q2, ci_l Y 40)] := hD
  refine lv_aload_n hx hb dX4_init_20 rfl (lv_at hl 0 rfl) ?_
  refine lv_sipush (v := 320) hx hb dX4_init_21 (by decide +kernel) ?_
  refine ci_newL hc hP hD hS (n := 320) (N := 320) (by decide +kernel) (by decide +kernel) (Nat.le_of_ble_eq_true rfl) (Nat.le_of_ble_eq_true rfl) (Nat.le_of_ble_eq_true rfl) dX4_init_24 (fun q3 H hP hD hS => ?_)
  have hP : va_P D vwCl [(h0, .inr (4, [.null, .null, .null, .int 0, .ref q1, .ref q2, .null, .null, .int 0])), (q1, ci_i Y 40), (q2, ci_l Y 40), (q3, ci_l Y 320)] H := hP
  have hD : va_D (va_A (ciw4 h0) s.heap.size) [(h0, .inr (4, [.null, .null, .null, .int 0, .ref q1, .ref q2, .null, .null, .int 0])), (q1, ci_i Y 40), (q2, ci_l Y 40), (q3, ci_l Y 320)] := hD
  refine ci_putF hc hin (o := 4) (idx := 19) (ci := 4) (k := 6) (List.mem_of_getElem? (i := 75) rfl) (r := (RX4, TX4, 9)) rfl rfl rfl hP hD hS 0 rfl rfl (ty := .array .long) (v := .ref q3) (by decide +kernel) rfl rfl (Nat.le_of_ble_eq_true rfl) dX4_init_26 (fun H locs hP hD hS => ?_)
  have hP : va_P D vwCl [(h0, .inr (4, [.null, .null, .null, .int 0, .ref q1, .ref q2, .ref q3, .null, .int 0])), (q1, ci_i Y 40), (q2, ci_l Y 40), (q3, ci_l Y 320)] H := hP
  have hD : va_D (va_A (ciw4 h0) s.heap.size) [(h0, .inr (4, [.null, .null, .null, .int 0, .ref q1, .ref q2, .ref q3, .null, .int 0])), (q1, ci_i Y 40), (q2, ci_l Y 40), (q3, ci_l Y 320)] := hD
  refine lv_aload_n hx hb dX4_init_29 rfl (lv_at hl 0 rfl) ?_
  refine lv_bipush (v := 40) hx hb dX4_init_30 (by decide +kernel) ?_
  refine ci_newI hc hP hD hS (n := 40) (N := 40) (by decide +kernel) (by decide +kernel) (Nat.le_of_ble_eq_true rfl) (Nat.le_of_ble_eq_true rfl) (Nat.le_of_ble_eq_true rfl) dX4_init_32 (fun q4 H hP hD hS => ?_)
  have hP : va_P D vwCl [(h0, .inr (4, [.null, .null, .null, .int 0, .ref q1, .ref q2, .ref q3, .null, .int 0])), (q1, ci_i Y 40), (q2, ci_l Y 40), (q3, ci_l Y 320), (q4, ci_i Y 40)] H := hP
  have hD : va_D (va_A (ciw4 h0) s.heap.size) [(h0, .inr (4, [.null, .null, .null, .int 0, .ref q1, .ref q2, .ref q3, .null, .int 0])), (q1, ci_i Y 40), (q2, ci_l Y 40), (q3, ci_l Y 320), (q4, ci_i Y 40)] := hD
  refine ci_putF hc hin (o := 4) (idx := 22) (ci := 4) (k := 7) (List.mem_of_getElem? (i := 76) rfl) (r := (RX4, TX4, 9)) rfl rfl rfl hP hD hS 0 rfl rfl (ty := .array .int) (v := .ref q4) (by decide +kernel) rfl rfl (Nat.le_of_ble_eq_true rfl) dX4_init_34 (fun H locs hP hD hS => ?_)
  have hP : va_P D vwCl [(h0, .inr (4, [.null, .null, .null, .int 0, .ref q1, .ref q2, .ref q3, .ref q4, .int 0])), (q1, ci_i Y 40), (q2, ci_l Y 40), (q3, ci_l Y 320), (q4, ci_i Y 40)] H := hP
  have hD : va_D (va_A (ciw4 h0) s.heap.size) [(h0, .inr (4, [.null, .null, .null, .int 0, .ref q1, .ref q2, .ref q3, .ref q4, .int 0])), (q1, ci_i Y 40), (q2, ci_l Y 40), (q3, ci_l Y 320), (q4, ci_i Y 40)] := hD
  refine lv_aload_n hx hb dX4_init_37 rfl (lv_at hl 0 rfl) ?_
  refine lv_aload_n hx hb dX4_init_38 rfl (lv_at hl 1 rfl) ?_
  refine ci_putF hc hin (o := 4) (idx := 25) (ci := 4) (k := 0) (List.mem_of_getElem? (i := 77) rfl) (r := (RX4, TX4, 9)) rfl rfl rfl hP hD hS 0 rfl rfl (ty := .object "TableMapper$Network") (v := .ref a1) (by decide +kernel) rfl rfl (Nat.le_of_ble_eq_true rfl) dX4_init_39 (fun H locs hP hD hS => ?_)
  have hP : va_P D vwCl [(h0, .inr (4, [.ref a1, .null, .null, .int 0, .ref q1, .ref q2, .ref q3, .ref q4, .int 0])), (q1, ci_i Y 40), (q2, ci_l Y 40), (q3, ci_l Y 320), (q4, ci_i Y 40)] H := hP
  have hD : va_D (va_A (ciw4 h0) s.heap.size) [(h0, .inr (4, [.ref a1, .null, .null, .int 0, .ref q1, .ref q2, .ref q3, .ref q4, .int 0])), (q1, ci_i Y 40), (q2, ci_l Y 40), (q3, ci_l Y 320), (q4, ci_i Y 40)] := hD
  refine lv_aload_n hx hb dX4_init_42 rfl (lv_at hl 0 rfl) ?_
  refine lv_aload_n hx hb dX4_init_43 rfl (lv_at hl 2 rfl) ?_
  refine ci_putF hc hin (o := 4) (idx := 29) (ci := 4) (k := 1) (List.mem_of_getElem? (i := 78) rfl) (r := (RX4, TX4, 9)) rfl rfl rfl hP hD hS 0 rfl rfl (ty := .object "TableMapper$Ways") (v := .ref a2) (by decide +kernel) rfl rfl (Nat.le_of_ble_eq_true rfl) dX4_init_44 (fun H locs hP hD hS => ?_)
  have hP : va_P D vwCl [(h0, .inr (4, [.ref a1, .ref a2, .null, .int 0, .ref q1, .ref q2, .ref q3, .ref q4, .int 0])), (q1, ci_i Y 40), (q2, ci_l Y 40), (q3, ci_l Y 320), (q4, ci_i Y 40)] H := hP
  have hD : va_D (va_A (ciw4 h0) s.heap.size) [(h0, .inr (4, [.ref a1, .ref a2, .null, .int 0, .ref q1, .ref q2, .ref q3, .ref q4, .int 0])), (q1, ci_i Y 40), (q2, ci_l Y 40), (q3, ci_l Y 320), (q4, ci_i Y 40)] := hD
  refine lv_aload_n hx hb dX4_init_47 rfl (lv_at hl 0 rfl) ?_
  refine lv_aload_n hx hb dX4_init_48 rfl (lv_at hl 3 rfl) ?_
  refine ci_putF hc hin (o := 4) (idx := 33) (ci := 4) (k := 2) (List.mem_of_getElem? (i := 79) rfl) (r := (RX4, TX4, 9)) rfl rfl rfl hP hD hS 0 rfl rfl (ty := .object "TableMapper$Row") (v := .ref a3) (by decide +kernel) rfl rfl (Nat.le_of_ble_eq_true rfl) dX4_init_49 (fun H locs hP hD hS => ?_)
  have hP : va_P D vwCl [(h0, .inr (4, [.ref a1, .ref a2, .ref a3, .int 0, .ref q1, .ref q2, .ref q3, .ref q4, .int 0])), (q1, ci_i Y 40), (q2, ci_l Y 40), (q3, ci_l Y 320), (q4, ci_i Y 40)] H := hP
  have hD : va_D (va_A (ciw4 h0) s.heap.size) [(h0, .inr (4, [.ref a1, .ref a2, .ref a3, .int 0, .ref q1, .ref q2, .ref q3, .ref q4, .int 0])), (q1, ci_i Y 40), (q2, ci_l Y 40), (q3, ci_l Y 320), (q4, ci_i Y 40)] := hD
  refine lv_aload_n hx hb dX4_init_52 rfl (lv_at hl 0 rfl) ?_
  refine lv_iload hx hb dX4_init_53 (lv_at hl 4 rfl) ?_
  refine ci_putF hc hin (o := 4) (idx := 37) (ci := 4) (k := 3) (List.mem_of_getElem? (i := 80) rfl) (r := (RX4, TX4, 9)) rfl rfl rfl hP hD hS 0 rfl rfl (ty := .int) (v := .int x4) (by decide +kernel) rfl rfl (Nat.le_of_ble_eq_true rfl) dX4_init_55 (fun H locs hP hD hS => ?_)
  have hP : va_P D vwCl [(h0, .inr (4, [.ref a1, .ref a2, .ref a3, .int x4, .ref q1, .ref q2, .ref q3, .ref q4, .int 0])), (q1, ci_i Y 40), (q2, ci_l Y 40), (q3, ci_l Y 320), (q4, ci_i Y 40)] H := hP
  have hD : va_D (va_A (ciw4 h0) s.heap.size) [(h0, .inr (4, [.ref a1, .ref a2, .ref a3, .int x4, .ref q1, .ref q2, .ref q3, .ref q4, .int 0])), (q1, ci_i Y 40), (q2, ci_l Y 40), (q3, ci_l Y 320), (q4, ci_i Y 40)] := hD
  refine W.widen (k := 4) (n := 440) (Nat.le_of_ble_eq_true rfl) (Nat.le_of_ble_eq_true rfl) ?_
  exact W.vret hx hb hr (fun t ht hW => ⟨⟨fun i => [q1, q2, q3, q4].getD i 0, rfl, trivial, by rw [ht]; exact hP, hD⟩, hS.F ht⟩) hS.2.2 dX4_init_58
theorem dX3_init_0 : decode cX3_init 0 = .ok (.aload_n 0, 1) := by decide +kernel
theorem dX3_init_1 : decode cX3_init 1 = .ok (.invokespecial 3, 3) := by decide +kernel
theorem dX3_init_4 : decode cX3_init 4 = .ok (.aload_n 0, 1) := by decide +kernel
theorem dX3_init_5 : decode cX3_init 5 = .ok (.bipush 40, 2) := by decide +kernel
theorem dX3_init_7 : decode cX3_init 7 = .ok (.newarray .int, 2) := by decide +kernel
theorem dX3_init_9 : decode cX3_init 9 = .ok (.putfield 9, 3) := by decide +kernel
theorem dX3_init_12 : decode cX3_init 12 = .ok (.aload_n 0, 1) := by decide +kernel
theorem dX3_init_13 : decode cX3_init 13 = .ok (.bipush 40, 2) := by decide +kernel
theorem dX3_init_15 : decode cX3_init 15 = .ok (.newarray .long, 2) := by decide +kernel
theorem dX3_init_17 : decode cX3_init 17 = .ok (.putfield 15, 3) := by decide +kernel
theorem dX3_init_20 : decode cX3_init 20 = .ok (.aload_n 0, 1) := by decide +kernel
theorem dX3_init_21 : decode cX3_init 21 = .ok (.bipush 40, 2) := by decide +kernel
theorem dX3_init_23 : decode cX3_init 23 = .ok (.newarray .int, 2) := by decide +kernel
theorem dX3_init_25 : decode cX3_init 25 = .ok (.putfield 19, 3) := by decide +kernel
theorem dX3_init_28 : decode cX3_init 28 = .ok (.aload_n 0, 1) := by decide +kernel
theorem dX3_init_29 : decode cX3_init 29 = .ok (.aload_n 1, 1) := by decide +kernel
theorem dX3_init_30 : decode cX3_init 30 = .ok (.putfield 22, 3) := by decide +kernel
theorem dX3_init_33 : decode cX3_init 33 = .ok (.return_, 1) := by decide +kernel
def ciw3 (h0 : Nat) : va_W := [(h0, .inr (3, [.null, .null, .null, .null, .long 0]))]
def cir3 (Y : sd_Y) (h0 : Nat) (a1 : Nat) (q : Nat → Nat) : va_W := [(h0, .inr (3, [.ref a1, .ref (q 0), .ref (q 1), .ref (q 2), .long 0])), ((q 0), ci_i Y 40), ((q 1), ci_l Y 40), ((q 2), ci_i Y 40)]
set_option maxHeartbeats 4000000 in
set_option maxRecDepth 100000 in
theorem c_X3_init (l : Launch) (D : va_G) (Y : sd_Y) (h0 sz : Nat) (a1 : Nat) : Met l yX3_init (Cond.code yX3_init cX3_init 2 none :: sd_W) { frames := 1, cells := 3, slots := 120, locals := 12 } (ci_Pc D Y [.ref h0, .ref a1] sz (ciw3 h0) (fun _ => True)) (ci_Qc D sz (ciw3 h0) (cir3 Y h0 a1)) 3 120 (va_A (ciw3 h0) sz) := by
  refine Met.ofW (cc := cX3_init) (maxL := 2) (ret := none) (by decide) rfl ?_
  intro p e s m args below meth c s₁ B hml hv
  obtain ⟨rfl, hsz, hP, hK, hD0, -⟩ := hv
  have hx := B.exec
  have hb := B.bytes
  have hr := B.returns
  have hts : ∀ w ∈ sd_W, w.before _ s = true := fun w hw => atoms_spec (ws := Cond.code yX3_init cX3_init 2 none :: sd_W) B.pre w (List.mem_cons_of_mem _ hw)
  have hown : s.vm.findClass RX3 = some m.cls := findClass_of_methodNamed B.named
  have hlocks := B.notSynchronized
  have hin : meth.name = "<init>" := (name_of_methodNamed B.named B.method).1
  subst hsz
  have hD := hD0.self (sz := s.heap.size)
  have hA : ∀ q : Nat, s.heap.size ≤ q → va_A (ciw3 h0) s.heap.size q := fun q h => Or.inr h
  have hS : va_S (va_A (ciw3 h0) s.heap.size) s.heap s.heap [] := va_S.rf
  have hc : ci_cx p s m _ c cX3_init 2 RX3 D Y (va_A (ciw3 h0) s.heap.size) := ⟨hx, hb, hml, hown, hts, hK, hA⟩
  have hl := lv_entry ([.ref h0, .ref a1]) (n := 2) (Nat.le_of_ble_eq_true rfl)
  rw [lg_entry_eq]
  generalize (lg_sl ([.ref h0, .ref a1]) ++ List.replicate (2 - (lg_sl ([.ref h0, .ref a1])).length) Slot.unset).toArray = ls at hl ⊢
  have hl : lv_has ls 2 [(0, .ref h0), (1, .ref a1)] := hl
  have hP : va_P D vwCl [(h0, .inr (3, [.null, .null, .null, .null, .long 0]))] s.heap := hP
  have hD : va_D (va_A (ciw3 h0) s.heap.size) [(h0, .inr (3, [.null, .null, .null, .null, .long 0]))] := hD
  refine lv_aload_n hx hb dX3_init_0 rfl (lv_at hl 0 rfl) ?_
  refine W.objInit hx hb hown (hts _ cw_7) (hts _ cw_1) (hts _ cw_2) rfl (by rw [hml]; exact hl.1) rfl dX3_init_1 (Nat.le_of_ble_eq_true rfl) (Nat.le_of_ble_eq_true rfl) ?_
  refine W.eq (g2 := F0 m 4 ls []) rfl ?_
  refine lv_aload_n hx hb dX3_init_4 rfl (lv_at hl 0 rfl) ?_
  refine lv_bipush (v := 40) hx hb dX3_init_5 (by decide +kernel) ?_
  refine ci_newI hc hP hD hS (n := 40) (N := 40) (by decide +kernel) (by decide +kernel) (Nat.le_of_ble_eq_true rfl) (Nat.le_of_ble_eq_true rfl) (Nat.le_of_ble_eq_true rfl) dX3_init_7 (fun q1 H hP hD hS => ?_)
  have hP : va_P D vwCl [(h0, .inr (3, [.null, .null, .null, .null, .long 0])), (q1, ci_i Y 40)] H := hP
  have hD : va_D (va_A (ciw3 h0) s.heap.size) [(h0, .inr (3, [.null, .null, .null, .null, .long 0])), (q1, ci_i Y 40)] := hD
  refine ci_putF hc hin (o := 3) (idx := 9) (ci := 3) (k := 1) (List.mem_of_getElem? (i := 65) rfl) (r := (RX3, TX3, 5)) rfl rfl rfl hP hD hS 0 rfl rfl (ty := .array .int) (v := .ref q1) (by decide +kernel) rfl rfl (Nat.le_of_ble_eq_true rfl) dX3_init_9 (fun H locs hP hD hS => ?_)
  have hP : va_P D vwCl [(h0, .inr (3, [.null, .ref q1, .null, .null, .long 0])), (q1, ci_i Y 40)] H := hP
  have hD : va_D (va_A (ciw3 h0) s.heap.size) [(h0, .inr (3, [.null, .ref q1, .null, .null, .long 0])), (q1, ci_i Y 40)] := hD
  refine lv_aload_n hx hb dX3_init_12 rfl (lv_at hl 0 rfl) ?_
  refine lv_bipush (v := 40) hx hb dX3_init_13 (by decide +kernel) ?_
  refine ci_newL hc hP hD hS (n := 40) (N := 40) (by decide +kernel) (by decide +kernel) (Nat.le_of_ble_eq_true rfl) (Nat.le_of_ble_eq_true rfl) (Nat.le_of_ble_eq_true rfl) dX3_init_15 (fun q2 H hP hD hS => ?_)
  have hP : va_P D vwCl [(h0, .inr (3, [.null, .ref q1, .null, .null, .long 0])), (q1, ci_i Y 40), (q2, ci_l Y 40)] H := hP
  have hD : va_D (va_A (ciw3 h0) s.heap.size) [(h0, .inr (3, [.null, .ref q1, .null, .null, .long 0])), (q1, ci_i Y 40), (q2, ci_l Y 40)] := hD
  refine ci_putF hc hin (o := 3) (idx := 15) (ci := 3) (k := 2) (List.mem_of_getElem? (i := 66) rfl) (r := (RX3, TX3, 5)) rfl rfl rfl hP hD hS 0 rfl rfl (ty := .array .long) (v := .ref q2) (by decide +kernel) rfl rfl (Nat.le_of_ble_eq_true rfl) dX3_init_17 (fun H locs hP hD hS => ?_)
  have hP : va_P D vwCl [(h0, .inr (3, [.null, .ref q1, .ref q2, .null, .long 0])), (q1, ci_i Y 40), (q2, ci_l Y 40)] H := hP
  have hD : va_D (va_A (ciw3 h0) s.heap.size) [(h0, .inr (3, [.null, .ref q1, .ref q2, .null, .long 0])), (q1, ci_i Y 40), (q2, ci_l Y 40)] := hD
  refine lv_aload_n hx hb dX3_init_20 rfl (lv_at hl 0 rfl) ?_
  refine lv_bipush (v := 40) hx hb dX3_init_21 (by decide +kernel) ?_
  refine ci_newI hc hP hD hS (n := 40) (N := 40) (by decide +kernel) (by decide +kernel) (Nat.le_of_ble_eq_true rfl) (Nat.le_of_ble_eq_true rfl) (Nat.le_of_ble_eq_true rfl) dX3_init_23 (fun q3 H hP hD hS => ?_)
  have hP : va_P D vwCl [(h0, .inr (3, [.null, .ref q1, .ref q2, .null, .long 0])), (q1, ci_i Y 40), (q2, ci_l Y 40), (q3, ci_i Y 40)] H := hP
  have hD : va_D (va_A (ciw3 h0) s.heap.size) [(h0, .inr (3, [.null, .ref q1, .ref q2, .null, .long 0])), (q1, ci_i Y 40), (q2, ci_l Y 40), (q3, ci_i Y 40)] := hD
  refine ci_putF hc hin (o := 3) (idx := 19) (ci := 3) (k := 3) (List.mem_of_getElem? (i := 67) rfl) (r := (RX3, TX3, 5)) rfl rfl rfl hP hD hS 0 rfl rfl (ty := .array .int) (v := .ref q3) (by decide +kernel) rfl rfl (Nat.le_of_ble_eq_true rfl) dX3_init_25 (fun H locs hP hD hS => ?_)
  have hP : va_P D vwCl [(h0, .inr (3, [.null, .ref q1, .ref q2, .ref q3, .long 0])), (q1, ci_i Y 40), (q2, ci_l Y 40), (q3, ci_i Y 40)] H := hP
  have hD : va_D (va_A (ciw3 h0) s.heap.size) [(h0, .inr (3, [.null, .ref q1, .ref q2, .ref q3, .long 0])), (q1, ci_i Y 40), (q2, ci_l Y 40), (q3, ci_i Y 40)] := hD
  refine lv_aload_n hx hb dX3_init_28 rfl (lv_at hl 0 rfl) ?_
  refine lv_aload_n hx hb dX3_init_29 rfl (lv_at hl 1 rfl) ?_
  refine ci_putF hc hin (o := 3) (idx := 22) (ci := 3) (k := 0) (List.mem_of_getElem? (i := 68) rfl) (r := (RX3, TX3, 5)) rfl rfl rfl hP hD hS 0 rfl rfl (ty := .object "TableMapper$Network") (v := .ref a1) (by decide +kernel) rfl rfl (Nat.le_of_ble_eq_true rfl) dX3_init_30 (fun H locs hP hD hS => ?_)
  have hP : va_P D vwCl [(h0, .inr (3, [.ref a1, .ref q1, .ref q2, .ref q3, .long 0])), (q1, ci_i Y 40), (q2, ci_l Y 40), (q3, ci_i Y 40)] H := hP
  have hD : va_D (va_A (ciw3 h0) s.heap.size) [(h0, .inr (3, [.ref a1, .ref q1, .ref q2, .ref q3, .long 0])), (q1, ci_i Y 40), (q2, ci_l Y 40), (q3, ci_i Y 40)] := hD
  refine W.widen (k := 3) (n := 120) (Nat.le_of_ble_eq_true rfl) (Nat.le_of_ble_eq_true rfl) ?_
  exact W.vret hx hb hr (fun t ht hW => ⟨⟨fun i => [q1, q2, q3].getD i 0, rfl, trivial, by rw [ht]; exact hP, hD⟩, hS.F ht⟩) hS.2.2 dX3_init_33
theorem dX2_init_0 : decode cX2_init 0 = .ok (.aload_n 0, 1) := by decide +kernel
theorem dX2_init_1 : decode cX2_init 1 = .ok (.invokespecial 3, 3) := by decide +kernel
theorem dX2_init_4 : decode cX2_init 4 = .ok (.aload_n 0, 1) := by decide +kernel
theorem dX2_init_5 : decode cX2_init 5 = .ok (.bipush 40, 2) := by decide +kernel
theorem dX2_init_7 : decode cX2_init 7 = .ok (.newarray .long, 2) := by decide +kernel
theorem dX2_init_9 : decode cX2_init 9 = .ok (.putfield 9, 3) := by decide +kernel
theorem dX2_init_12 : decode cX2_init 12 = .ok (.aload_n 0, 1) := by decide +kernel
theorem dX2_init_13 : decode cX2_init 13 = .ok (.bipush 40, 2) := by decide +kernel
theorem dX2_init_15 : decode cX2_init 15 = .ok (.newarray .long, 2) := by decide +kernel
theorem dX2_init_17 : decode cX2_init 17 = .ok (.putfield 15, 3) := by decide +kernel
theorem dX2_init_20 : decode cX2_init 20 = .ok (.aload_n 0, 1) := by decide +kernel
theorem dX2_init_21 : decode cX2_init 21 = .ok (.aload_n 1, 1) := by decide +kernel
theorem dX2_init_22 : decode cX2_init 22 = .ok (.putfield 18, 3) := by decide +kernel
theorem dX2_init_25 : decode cX2_init 25 = .ok (.aload_n 0, 1) := by decide +kernel
theorem dX2_init_26 : decode cX2_init 26 = .ok (.aload_n 2, 1) := by decide +kernel
theorem dX2_init_27 : decode cX2_init 27 = .ok (.putfield 22, 3) := by decide +kernel
theorem dX2_init_30 : decode cX2_init 30 = .ok (.return_, 1) := by decide +kernel
def ciw2 (h0 : Nat) : va_W := [(h0, .inr (2, [.null, .null, .null, .null, .long 0]))]
def cir2 (Y : sd_Y) (h0 : Nat) (a1 : Nat) (a2 : Nat) (q : Nat → Nat) : va_W := [(h0, .inr (2, [.ref a1, .ref a2, .ref (q 0), .ref (q 1), .long 0])), ((q 0), ci_l Y 40), ((q 1), ci_l Y 40)]
set_option maxHeartbeats 4000000 in
set_option maxRecDepth 100000 in
theorem c_X2_init (l : Launch) (D : va_G) (Y : sd_Y) (h0 sz : Nat) (a1 : Nat) (a2 : Nat) : Met l yX2_init (Cond.code yX2_init cX2_init 3 none :: sd_W) { frames := 1, cells := 2, slots := 80, locals := 12 } (ci_Pc D Y [.ref h0, .ref a1, .ref a2] sz (ciw2 h0) (fun _ => True)) (ci_Qc D sz (ciw2 h0) (cir2 Y h0 a1 a2)) 2 80 (va_A (ciw2 h0) sz) := by
  refine Met.ofW (cc := cX2_init) (maxL := 3) (ret := none) (by decide) rfl ?_
  intro p e s m args below meth c s₁ B hml hv
  obtain ⟨rfl, hsz, hP, hK, hD0, -⟩ := hv
  have hx := B.exec
  have hb := B.bytes
  have hr := B.returns
  have hts : ∀ w ∈ sd_W, w.before _ s = true := fun w hw => atoms_spec (ws := Cond.code yX2_init cX2_init 3 none :: sd_W) B.pre w (List.mem_cons_of_mem _ hw)
  have hown : s.vm.findClass RX2 = some m.cls := findClass_of_methodNamed B.named
  have hlocks := B.notSynchronized
  have hin : meth.name = "<init>" := (name_of_methodNamed B.named B.method).1
  subst hsz
  have hD := hD0.self (sz := s.heap.size)
  have hA : ∀ q : Nat, s.heap.size ≤ q → va_A (ciw2 h0) s.heap.size q := fun q h => Or.inr h
  have hS : va_S (va_A (ciw2 h0) s.heap.size) s.heap s.heap [] := va_S.rf
  have hc : ci_cx p s m _ c cX2_init 3 RX2 D Y (va_A (ciw2 h0) s.heap.size) := ⟨hx, hb, hml, hown, hts, hK, hA⟩
  have hl := lv_entry ([.ref h0, .ref a1, .ref a2]) (n := 3) (Nat.le_of_ble_eq_true rfl)
  rw [lg_entry_eq]
  generalize (lg_sl ([.ref h0, .ref a1, .ref a2]) ++ List.replicate (3 - (lg_sl ([.ref h0, .ref a1, .ref a2])).length) Slot.unset).toArray = ls at hl ⊢
  have hl : lv_has ls 3 [(0, .ref h0), (1, .ref a1), (2, .ref a2)] := hl
  have hP : va_P D vwCl [(h0, .inr (2, [.null, .null, .null, .null, .long 0]))] s.heap := hP
  have hD : va_D (va_A (ciw2 h0) s.heap.size) [(h0, .inr (2, [.null, .null, .null, .null, .long 0]))] := hD
  refine lv_aload_n hx hb dX2_init_0 rfl (lv_at hl 0 rfl) ?_
  refine W.objInit hx hb hown (hts _ cw_8) (hts _ cw_1) (hts _ cw_2) rfl (by rw [hml]; exact hl.1) rfl dX2_init_1 (Nat.le_of_ble_eq_true rfl) (Nat.le_of_ble_eq_true rfl) ?_
  refine W.eq (g2 := F0 m 4 ls []) rfl ?_
  refine lv_aload_n hx hb dX2_init_4 rfl (lv_at hl 0 rfl) ?_
  refine lv_bipush (v := 40) hx hb dX2_init_5 (by decide +kernel) ?_
  refine ci_newL hc hP hD hS (n := 40) (N := 40) (by decide +kernel) (by decide +kernel) (Nat.le_of_ble_eq_true rfl) (Nat.le_of_ble_eq_true rfl) (Nat.le_of_ble_eq_true rfl) dX2_init_7 (fun q1 H hP hD hS => ?_)
  have hP : va_P D vwCl [(h0, .inr (2, [.null, .null, .null, .null, .long 0])), (q1, ci_l Y 40)] H := hP
  have hD : va_D (va_A (ciw2 h0) s.heap.size) [(h0, .inr (2, [.null, .null, .null, .null, .long 0])), (q1, ci_l Y 40)] := hD
  refine ci_putF hc hin (o := 2) (idx := 9) (ci := 2) (k := 2) (List.mem_of_getElem? (i := 58) rfl) (r := (RX2, TX2, 5)) rfl rfl rfl hP hD hS 0 rfl rfl (ty := .array .long) (v := .ref q1) (by decide +kernel) rfl rfl (Nat.le_of_ble_eq_true rfl) dX2_init_9 (fun H locs hP hD hS => ?_)
  have hP : va_P D vwCl [(h0, .inr (2, [.null, .null, .ref q1, .null, .long 0])), (q1, ci_l Y 40)] H := hP
  have hD : va_D (va_A (ciw2 h0) s.heap.size) [(h0, .inr (2, [.null, .null, .ref q1, .null, .long 0])), (q1, ci_l Y 40)] := hD
  refine lv_aload_n hx hb dX2_init_12 rfl (lv_at hl 0 rfl) ?_
  refine lv_bipush (v := 40) hx hb dX2_init_13 (by decide +kernel) ?_
  refine ci_newL hc hP hD hS (n := 40) (N := 40) (by decide +kernel) (by decide +kernel) (Nat.le_of_ble_eq_true rfl) (Nat.le_of_ble_eq_true rfl) (Nat.le_of_ble_eq_true rfl) dX2_init_15 (fun q2 H hP hD hS => ?_)
  have hP : va_P D vwCl [(h0, .inr (2, [.null, .null, .ref q1, .null, .long 0])), (q1, ci_l Y 40), (q2, ci_l Y 40)] H := hP
  have hD : va_D (va_A (ciw2 h0) s.heap.size) [(h0, .inr (2, [.null, .null, .ref q1, .null, .long 0])), (q1, ci_l Y 40), (q2, ci_l Y 40)] := hD
  refine ci_putF hc hin (o := 2) (idx := 15) (ci := 2) (k := 3) (List.mem_of_getElem? (i := 59) rfl) (r := (RX2, TX2, 5)) rfl rfl rfl hP hD hS 0 rfl rfl (ty := .array .long) (v := .ref q2) (by decide +kernel) rfl rfl (Nat.le_of_ble_eq_true rfl) dX2_init_17 (fun H locs hP hD hS => ?_)
  have hP : va_P D vwCl [(h0, .inr (2, [.null, .null, .ref q1, .ref q2, .long 0])), (q1, ci_l Y 40), (q2, ci_l Y 40)] H := hP
  have hD : va_D (va_A (ciw2 h0) s.heap.size) [(h0, .inr (2, [.null, .null, .ref q1, .ref q2, .long 0])), (q1, ci_l Y 40), (q2, ci_l Y 40)] := hD
  refine lv_aload_n hx hb dX2_init_20 rfl (lv_at hl 0 rfl) ?_
  refine lv_aload_n hx hb dX2_init_21 rfl (lv_at hl 1 rfl) ?_
  refine ci_putF hc hin (o := 2) (idx := 18) (ci := 2) (k := 0) (List.mem_of_getElem? (i := 60) rfl) (r := (RX2, TX2, 5)) rfl rfl rfl hP hD hS 0 rfl rfl (ty := .object "TableMapper$Network") (v := .ref a1) (by decide +kernel) rfl rfl (Nat.le_of_ble_eq_true rfl) dX2_init_22 (fun H locs hP hD hS => ?_)
  have hP : va_P D vwCl [(h0, .inr (2, [.ref a1, .null, .ref q1, .ref q2, .long 0])), (q1, ci_l Y 40), (q2, ci_l Y 40)] H := hP
  have hD : va_D (va_A (ciw2 h0) s.heap.size) [(h0, .inr (2, [.ref a1, .null, .ref q1, .ref q2, .long 0])), (q1, ci_l Y 40), (q2, ci_l Y 40)] := hD
  refine lv_aload_n hx hb dX2_init_25 rfl (lv_at hl 0 rfl) ?_
  refine lv_aload_n hx hb dX2_init_26 rfl (lv_at hl 2 rfl) ?_
  refine ci_putF hc hin (o := 2) (idx := 22) (ci := 2) (k := 1) (List.mem_of_getElem? (i := 61) rfl) (r := (RX2, TX2, 5)) rfl rfl rfl hP hD hS 0 rfl rfl (ty := .object "TableMapper$Cover") (v := .ref a2) (by decide +kernel) rfl rfl (Nat.le_of_ble_eq_true rfl) dX2_init_27 (fun H locs hP hD hS => ?_)
  have hP : va_P D vwCl [(h0, .inr (2, [.ref a1, .ref a2, .ref q1, .ref q2, .long 0])), (q1, ci_l Y 40), (q2, ci_l Y 40)] H := hP
  have hD : va_D (va_A (ciw2 h0) s.heap.size) [(h0, .inr (2, [.ref a1, .ref a2, .ref q1, .ref q2, .long 0])), (q1, ci_l Y 40), (q2, ci_l Y 40)] := hD
  refine W.widen (k := 2) (n := 80) (Nat.le_of_ble_eq_true rfl) (Nat.le_of_ble_eq_true rfl) ?_
  exact W.vret hx hb hr (fun t ht hW => ⟨⟨fun i => [q1, q2].getD i 0, rfl, trivial, by rw [ht]; exact hP, hD⟩, hS.F ht⟩) hS.2.2 dX2_init_30
theorem dX0_init_0 : decode cX0_init 0 = .ok (.aload_n 0, 1) := by decide +kernel
theorem dX0_init_1 : decode cX0_init 1 = .ok (.invokespecial 3, 3) := by decide +kernel
theorem dX0_init_4 : decode cX0_init 4 = .ok (.aload_n 0, 1) := by decide +kernel
theorem dX0_init_5 : decode cX0_init 5 = .ok (.bipush 40, 2) := by decide +kernel
theorem dX0_init_7 : decode cX0_init 7 = .ok (.newarray .long, 2) := by decide +kernel
theorem dX0_init_9 : decode cX0_init 9 = .ok (.putfield 9, 3) := by decide +kernel
theorem dX0_init_12 : decode cX0_init 12 = .ok (.aload_n 0, 1) := by decide +kernel
theorem dX0_init_13 : decode cX0_init 13 = .ok (.bipush 40, 2) := by decide +kernel
theorem dX0_init_15 : decode cX0_init 15 = .ok (.newarray .int, 2) := by decide +kernel
theorem dX0_init_17 : decode cX0_init 17 = .ok (.putfield 15, 3) := by decide +kernel
theorem dX0_init_20 : decode cX0_init 20 = .ok (.aload_n 0, 1) := by decide +kernel
theorem dX0_init_21 : decode cX0_init 21 = .ok (.bipush 40, 2) := by decide +kernel
theorem dX0_init_23 : decode cX0_init 23 = .ok (.newarray .int, 2) := by decide +kernel
theorem dX0_init_25 : decode cX0_init 25 = .ok (.putfield 19, 3) := by decide +kernel
theorem dX0_init_28 : decode cX0_init 28 = .ok (.aload_n 0, 1) := by decide +kernel
theorem dX0_init_29 : decode cX0_init 29 = .ok (.bipush 40, 2) := by decide +kernel
theorem dX0_init_31 : decode cX0_init 31 = .ok (.newarray .long, 2) := by decide +kernel
theorem dX0_init_33 : decode cX0_init 33 = .ok (.putfield 22, 3) := by decide +kernel
theorem dX0_init_36 : decode cX0_init 36 = .ok (.aload_n 0, 1) := by decide +kernel
theorem dX0_init_37 : decode cX0_init 37 = .ok (.bipush 40, 2) := by decide +kernel
theorem dX0_init_39 : decode cX0_init 39 = .ok (.newarray .long, 2) := by decide +kernel
theorem dX0_init_41 : decode cX0_init 41 = .ok (.putfield 25, 3) := by decide +kernel
theorem dX0_init_44 : decode cX0_init 44 = .ok (.aload_n 0, 1) := by decide +kernel
theorem dX0_init_45 : decode cX0_init 45 = .ok (.bipush 40, 2) := by decide +kernel
theorem dX0_init_47 : decode cX0_init 47 = .ok (.newarray .long, 2) := by decide +kernel
theorem dX0_init_49 : decode cX0_init 49 = .ok (.putfield 28, 3) := by decide +kernel
theorem dX0_init_52 : decode cX0_init 52 = .ok (.aload_n 0, 1) := by decide +kernel
theorem dX0_init_53 : decode cX0_init 53 = .ok (.aload_n 1, 1) := by decide +kernel
theorem dX0_init_54 : decode cX0_init 54 = .ok (.putfield 31, 3) := by decide +kernel
theorem dX0_init_57 : decode cX0_init 57 = .ok (.aload_n 0, 1) := by decide +kernel
theorem dX0_init_58 : decode cX0_init 58 = .ok (.aload_n 2, 1) := by decide +kernel
theorem dX0_init_59 : decode cX0_init 59 = .ok (.putfield 35, 3) := by decide +kernel
theorem dX0_init_62 : decode cX0_init 62 = .ok (.return_, 1) := by decide +kernel
def ciw0 (h0 : Nat) : va_W := [(h0, .inr (0, [.null, .null, .null, .null, .null, .null, .null, .null, .long 0, .int 0, .int 0]))]
def cir0 (Y : sd_Y) (h0 : Nat) (a1 : Nat) (a2 : Nat) (q : Nat → Nat) : va_W := [(h0, .inr (0, [.ref a1, .ref a2, .ref (q 0), .ref (q 1), .ref (q 2), .ref (q 3), .ref (q 4), .ref (q 5), .long 0, .int 0, .int 0])), ((q 0), ci_l Y 40), ((q 1), ci_i Y 40), ((q 2), ci_i Y 40), ((q 3), ci_l Y 40), ((q 4), ci_l Y 40), ((q 5), ci_l Y 40)]
set_option maxHeartbeats 4000000 in
set_option maxRecDepth 100000 in
theorem c_X0_init (l : Launch) (D : va_G) (Y : sd_Y) (h0 sz : Nat) (a1 : Nat) (a2 : Nat) : Met l yX0_init (Cond.code yX0_init cX0_init 3 none :: sd_W) { frames := 1, cells := 6, slots := 240, locals := 12 } (ci_Pc D Y [.ref h0, .ref a1, .ref a2] sz (ciw0 h0) (fun _ => True)) (ci_Qc D sz (ciw0 h0) (cir0 Y h0 a1 a2)) 6 240 (va_A (ciw0 h0) sz) := by
  refine Met.ofW (cc := cX0_init) (maxL := 3) (ret := none) (by decide) rfl ?_
  intro p e s m args below meth c s₁ B hml hv
  obtain ⟨rfl, hsz, hP, hK, hD0, -⟩ := hv
  have hx := B.exec
  have hb := B.bytes
  have hr := B.returns
  have hts : ∀ w ∈ sd_W, w.before _ s = true := fun w hw => atoms_spec (ws := Cond.code yX0_init cX0_init 3 none :: sd_W) B.pre w (List.mem_cons_of_mem _ hw)
  have hown : s.vm.findClass RX0 = some m.cls := findClass_of_methodNamed B.named
  have hlocks := B.notSynchronized
  have hin : meth.name = "<init>" := (name_of_methodNamed B.named B.method).1
  subst hsz
  have hD := hD0.self (sz := s.heap.size)
  have hA : ∀ q : Nat, s.heap.size ≤ q → va_A (ciw0 h0) s.heap.size q := fun q h => Or.inr h
  have hS : va_S (va_A (ciw0 h0) s.heap.size) s.heap s.heap [] := va_S.rf
  have hc : ci_cx p s m _ c cX0_init 3 RX0 D Y (va_A (ciw0 h0) s.heap.size) := ⟨hx, hb, hml, hown, hts, hK, hA⟩
  have hl := lv_entry ([.ref h0, .ref a1, .ref a2]) (n := 3) (Nat.le_of_ble_eq_true rfl)
  rw [lg_entry_eq]
  generalize (lg_sl ([.ref h0, .ref a1, .ref a2]) ++ List.replicate (3 - (lg_sl ([.ref h0, .ref a1, .ref a2])).length) Slot.unset).toArray = ls at hl ⊢
  have hl : lv_has ls 3 [(0, .ref h0), (1, .ref a1), (2, .ref a2)] := hl
  have hP : va_P D vwCl [(h0, .inr (0, [.null, .null, .null, .null, .null, .null, .null, .null, .long 0, .int 0, .int 0]))] s.heap := hP
  have hD : va_D (va_A (ciw0 h0) s.heap.size) [(h0, .inr (0, [.null, .null, .null, .null, .null, .null, .null, .null, .long 0, .int 0, .int 0]))] := hD
  refine lv_aload_n hx hb dX0_init_0 rfl (lv_at hl 0 rfl) ?_
  refine W.objInit hx hb hown (hts _ cw_9) (hts _ cw_1) (hts _ cw_2) rfl (by rw [hml]; exact hl.1) rfl dX0_init_1 (Nat.le_of_ble_eq_true rfl) (Nat.le_of_ble_eq_true rfl) ?_
  refine W.eq (g2 := F0 m 4 ls []) rfl ?_
  refine lv_aload_n hx hb dX0_init_4 rfl (lv_at hl 0 rfl) ?_
  refine lv_bipush (v := 40) hx hb dX0_init_5 (by decide +kernel) ?_
  refine ci_newL hc hP hD hS (n := 40) (N := 40) (by decide +kernel) (by decide +kernel) (Nat.le_of_ble_eq_true rfl) (Nat.le_of_ble_eq_true rfl) (Nat.le_of_ble_eq_true rfl) dX0_init_7 (fun q1 H hP hD hS => ?_)
  have hP : va_P D vwCl [(h0, .inr (0, [.null, .null, .null, .null, .null, .null, .null, .null, .long 0, .int 0, .int 0])), (q1, ci_l Y 40)] H := hP
  have hD : va_D (va_A (ciw0 h0) s.heap.size) [(h0, .inr (0, [.null, .null, .null, .null, .null, .null, .null, .null, .long 0, .int 0, .int 0])), (q1, ci_l Y 40)] := hD
  refine ci_putF hc hin (o := 0) (idx := 9) (ci := 0) (k := 2) (List.mem_of_getElem? (i := 32) rfl) (r := (RX0, TX0, 11)) rfl rfl rfl hP hD hS 0 rfl rfl (ty := .array .long) (v := .ref q1) (by decide +kernel) rfl rfl (Nat.le_of_ble_eq_true rfl) dX0_init_9 (fun H locs hP hD hS => ?_)
  have hP : va_P D vwCl [(h0, .inr (0, [.null, .null, .ref q1, .null, .null, .null, .null, .null, .long 0, .int 0, .int 0])), (q1, ci_l Y 40)] H := hP
  have hD : va_D (va_A (ciw0 h0) s.heap.size) [(h0, .inr (0, [.null, .null, .ref q1, .null, .null, .null, .null, .null, .long 0, .int 0, .int 0])), (q1, ci_l Y 40)] := hD
  refine lv_aload_n hx hb dX0_init_12 rfl (lv_at hl 0 rfl) ?_
  refine lv_bipush (v := 40) hx hb dX0_init_13 (by decide +kernel) ?_
  refine ci_newI hc hP hD hS (n := 40) (N := 40) (by decide +kernel) (by decide +kernel) (Nat.le_of_ble_eq_true rfl) (Nat.le_of_ble_eq_true rfl) (Nat.le_of_ble_eq_true rfl) dX0_init_15 (fun q2 H hP hD hS => ?_)
  have hP : va_P D vwCl [(h0, .inr (0, [.null, .null, .ref q1, .null, .null, .null, .null, .null, .long 0, .int 0, .int 0])), (q1, ci_l Y 40), (q2, ci_i Y 40)] H := hP
  have hD : va_D (va_A (ciw0 h0) s.heap.size) [(h0, .inr (0, [.null, .null, .ref q1, .null, .null, .null, .null, .null, .long 0, .int 0, .int 0])), (q1, ci_l Y 40), (q2, ci_i Y 40)] := hD
  refine ci_putF hc hin (o := 0) (idx := 15) (ci := 0) (k := 3) (List.mem_of_getElem? (i := 33) rfl) (r := (RX0, TX0, 11)) rfl rfl rfl hP hD hS 0 rfl rfl (ty := .array .int) (v := .ref q2) (by decide +kernel) rfl rfl (Nat.le_of_ble_eq_true rfl) dX0_init_17 (fun H locs hP hD hS => ?_)
  have hP : va_P D vwCl [(h0, .inr (0, [.null, .null, .ref q1, .ref q2, .null, .null, .null, .null, .long 0, .int 0, .int 0])), (q1, ci_l Y 40), (q2, ci_i Y 40)] H := hP
  have hD : va_D (va_A (ciw0 h0) s.heap.size) [(h0, .inr (0, [.null, .null, .ref q1, .ref q2, .null, .null, .null, .null, .long 0, .int 0, .int 0])), (q1, ci_l Y 40), (q2, ci_i Y 40)] := hD
  refine lv_aload_n hx hb dX0_init_20 rfl (lv_at hl 0 rfl) ?_
  refine lv_bipush (v := 40) hx hb dX0_init_21 (by decide +kernel) ?_
  refine ci_newI hc hP hD hS (n := 40) (N := 40) (by decide +kernel) (by decide +kernel) (Nat.le_of_ble_eq_true rfl) (Nat.le_of_ble_eq_true rfl) (Nat.le_of_ble_eq_true rfl) dX0_init_23 (fun q3 H hP hD hS => ?_)
  have hP : va_P D vwCl [(h0, .inr (0, [.null, .null, .ref q1, .ref q2, .null, .null, .null, .null, .long 0, .int 0, .int 0])), (q1, ci_l Y 40), (q2, ci_i Y 40), (q3, ci_i Y 40)] H := hP
  have hD : va_D (va_A (ciw0 h0) s.heap.size) [(h0, .inr (0, [.null, .null, .ref q1, .ref q2, .null, .null, .null, .null, .long 0, .int 0, .int 0])), (q1, ci_l Y 40), (q2, ci_i Y 40), (q3, ci_i Y 40)] := hD
  refine ci_putF hc hin (o := 0) (idx := 19) (ci := 0) (k := 4) (List.mem_of_getElem? (i := 34) rfl) (r := (RX0, TX0, 11)) rfl rfl rfl hP hD hS 0 rfl rfl (ty := .array .int) (v := .ref q3) (by decide +kernel) rfl rfl (Nat.le_of_ble_eq_true rfl) dX0_init_25 (fun H locs hP hD hS => ?_)
  have hP : va_P D vwCl [(h0, .inr (0, [.null, .null, .ref q1, .ref q2, .ref q3, .null, .null, .null, .long 0, .int 0, .int 0])), (q1, ci_l Y 40), (q2, ci_i Y 40), (q3, ci_i Y 40)] H := hP
  have hD : va_D (va_A (ciw0 h0) s.heap.size) [(h0, .inr (0, [.null, .null, .ref q1, .ref q2, .ref q3, .null, .null, .null, .long 0, .int 0, .int 0])), (q1, ci_l Y 40), (q2, ci_i Y 40), (q3, ci_i Y 40)] := hD
  refine lv_aload_n hx hb dX0_init_28 rfl (lv_at hl 0 rfl) ?_
  refine lv_bipush (v := 40) hx hb dX0_init_29 (by decide +kernel) ?_
  refine ci_newL hc hP hD hS (n := 40) (N := 40) (by decide +kernel) (by decide +kernel) (Nat.le_of_ble_eq_true rfl) (Nat.le_of_ble_eq_true rfl) (Nat.le_of_ble_eq_true rfl) dX0_init_31 (fun q4 H hP hD hS => ?_)
  have hP : va_P D vwCl [(h0, .inr (0, [.null, .null, .ref q1, .ref q2, .ref q3, .null, .null, .null, .long 0, .int 0, .int 0])), (q1, ci_l Y 40), (q2, ci_i Y 40), (q3, ci_i Y 40), (q4, ci_l Y 40)] H := hP
  have hD : va_D (va_A (ciw0 h0) s.heap.size) [(h0, .inr (0, [.null, .null, .ref q1, .ref q2, .ref q3, .null, .null, .null, .long 0, .int 0, .int 0])), (q1, ci_l Y 40), (q2, ci_i Y 40), (q3, ci_i Y 40), (q4, ci_l Y 40)] := hD
  refine ci_putF hc hin (o := 0) (idx := 22) (ci := 0) (k := 5) (List.mem_of_getElem? (i := 35) rfl) (r := (RX0, TX0, 11)) rfl rfl rfl hP hD hS 0 rfl rfl (ty := .array .long) (v := .ref q4) (by decide +kernel) rfl rfl (Nat.le_of_ble_eq_true rfl) dX0_init_33 (fun H locs hP hD hS => ?_)
  have hP : va_P D vwCl [(h0, .inr (0, [.null, .null, .ref q1, .ref q2, .ref q3, .ref q4, .null, .null, .long 0, .int 0, .int 0])), (q1, ci_l Y 40), (q2, ci_i Y 40), (q3, ci_i Y 40), (q4, ci_l Y 40)] H := hP
  have hD : va_D (va_A (ciw0 h0) s.heap.size) [(h0, .inr (0, [.null, .null, .ref q1, .ref q2, .ref q3, .ref q4, .null, .null, .long 0, .int 0, .int 0])), (q1, ci_l Y 40), (q2, ci_i Y 40), (q3, ci_i Y 40), (q4, ci_l Y 40)] := hD
  refine lv_aload_n hx hb dX0_init_36 rfl (lv_at hl 0 rfl) ?_
  refine lv_bipush (v := 40) hx hb dX0_init_37 (by decide +kernel) ?_
  refine ci_newL hc hP hD hS (n := 40) (N := 40) (by decide +kernel) (by decide +kernel) (Nat.le_of_ble_eq_true rfl) (Nat.le_of_ble_eq_true rfl) (Nat.le_of_ble_eq_true rfl) dX0_init_39 (fun q5 H hP hD hS => ?_)
  have hP : va_P D vwCl [(h0, .inr (0, [.null, .null, .ref q1, .ref q2, .ref q3, .ref q4, .null, .null, .long 0, .int 0, .int 0])), (q1, ci_l Y 40), (q2, ci_i Y 40), (q3, ci_i Y 40), (q4, ci_l Y 40), (q5, ci_l Y 40)] H := hP
  have hD : va_D (va_A (ciw0 h0) s.heap.size) [(h0, .inr (0, [.null, .null, .ref q1, .ref q2, .ref q3, .ref q4, .null, .null, .long 0, .int 0, .int 0])), (q1, ci_l Y 40), (q2, ci_i Y 40), (q3, ci_i Y 40), (q4, ci_l Y 40), (q5, ci_l Y 40)] := hD
  refine ci_putF hc hin (o := 0) (idx := 25) (ci := 0) (k := 6) (List.mem_of_getElem? (i := 36) rfl) (r := (RX0, TX0, 11)) rfl rfl rfl hP hD hS 0 rfl rfl (ty := .array .long) (v := .ref q5) (by decide +kernel) rfl rfl (Nat.le_of_ble_eq_true rfl) dX0_init_41 (fun H locs hP hD hS => ?_)
  have hP : va_P D vwCl [(h0, .inr (0, [.null, .null, .ref q1, .ref q2, .ref q3, .ref q4, .ref q5, .null, .long 0, .int 0, .int 0])), (q1, ci_l Y 40), (q2, ci_i Y 40), (q3, ci_i Y 40), (q4, ci_l Y 40), (q5, ci_l Y 40)] H := hP
  have hD : va_D (va_A (ciw0 h0) s.heap.size) [(h0, .inr (0, [.null, .null, .ref q1, .ref q2, .ref q3, .ref q4, .ref q5, .null, .long 0, .int 0, .int 0])), (q1, ci_l Y 40), (q2, ci_i Y 40), (q3, ci_i Y 40), (q4, ci_l Y 40), (q5, ci_l Y 40)] := hD
  refine lv_aload_n hx hb dX0_init_44 rfl (lv_at hl 0 rfl) ?_
  refine lv_bipush (v := 40) hx hb dX0_init_45 (by decide +kernel) ?_
  refine ci_newL hc hP hD hS (n := 40) (N := 40) (by decide +kernel) (by decide +kernel) (Nat.le_of_ble_eq_true rfl) (Nat.le_of_ble_eq_true rfl) (Nat.le_of_ble_eq_true rfl) dX0_init_47 (fun q6 H hP hD hS => ?_)
  have hP : va_P D vwCl [(h0, .inr (0, [.null, .null, .ref q1, .ref q2, .ref q3, .ref q4, .ref q5, .null, .long 0, .int 0, .int 0])), (q1, ci_l Y 40), (q2, ci_i Y 40), (q3, ci_i Y 40), (q4, ci_l Y 40), (q5, ci_l Y 40), (q6, ci_l Y 40)] H := hP
  have hD : va_D (va_A (ciw0 h0) s.heap.size) [(h0, .inr (0, [.null, .null, .ref q1, .ref q2, .ref q3, .ref q4, .ref q5, .null, .long 0, .int 0, .int 0])), (q1, ci_l Y 40), (q2, ci_i Y 40), (q3, ci_i Y 40), (q4, ci_l Y 40), (q5, ci_l Y 40), (q6, ci_l Y 40)] := hD
  refine ci_putF hc hin (o := 0) (idx := 28) (ci := 0) (k := 7) (List.mem_of_getElem? (i := 37) rfl) (r := (RX0, TX0, 11)) rfl rfl rfl hP hD hS 0 rfl rfl (ty := .array .long) (v := .ref q6) (by decide +kernel) rfl rfl (Nat.le_of_ble_eq_true rfl) dX0_init_49 (fun H locs hP hD hS => ?_)
  have hP : va_P D vwCl [(h0, .inr (0, [.null, .null, .ref q1, .ref q2, .ref q3, .ref q4, .ref q5, .ref q6, .long 0, .int 0, .int 0])), (q1, ci_l Y 40), (q2, ci_i Y 40), (q3, ci_i Y 40), (q4, ci_l Y 40), (q5, ci_l Y 40), (q6, ci_l Y 40)] H := hP
  have hD : va_D (va_A (ciw0 h0) s.heap.size) [(h0, .inr (0, [.null, .null, .ref q1, .ref q2, .ref q3, .ref q4, .ref q5, .ref q6, .long 0, .int 0, .int 0])), (q1, ci_l Y 40), (q2, ci_i Y 40), (q3, ci_i Y 40), (q4, ci_l Y 40), (q5, ci_l Y 40), (q6, ci_l Y 40)] := hD
  refine lv_aload_n hx hb dX0_init_52 rfl (lv_at hl 0 rfl) ?_
  refine lv_aload_n hx hb dX0_init_53 rfl (lv_at hl 1 rfl) ?_
  refine ci_putF hc hin (o := 0) (idx := 31) (ci := 0) (k := 0) (List.mem_of_getElem? (i := 38) rfl) (r := (RX0, TX0, 11)) rfl rfl rfl hP hD hS 0 rfl rfl (ty := .object "TableMapper$Network") (v := .ref a1) (by decide +kernel) rfl rfl (Nat.le_of_ble_eq_true rfl) dX0_init_54 (fun H locs hP hD hS => ?_)
  have hP : va_P D vwCl [(h0, .inr (0, [.ref a1, .null, .ref q1, .ref q2, .ref q3, .ref q4, .ref q5, .ref q6, .long 0, .int 0, .int 0])), (q1, ci_l Y 40), (q2, ci_i Y 40), (q3, ci_i Y 40), (q4, ci_l Y 40), (q5, ci_l Y 40), (q6, ci_l Y 40)] H := hP
  have hD : va_D (va_A (ciw0 h0) s.heap.size) [(h0, .inr (0, [.ref a1, .null, .ref q1, .ref q2, .ref q3, .ref q4, .ref q5, .ref q6, .long 0, .int 0, .int 0])), (q1, ci_l Y 40), (q2, ci_i Y 40), (q3, ci_i Y 40), (q4, ci_l Y 40), (q5, ci_l Y 40), (q6, ci_l Y 40)] := hD
  refine lv_aload_n hx hb dX0_init_57 rfl (lv_at hl 0 rfl) ?_
  refine lv_aload_n hx hb dX0_init_58 rfl (lv_at hl 2 rfl) ?_
  refine ci_putF hc hin (o := 0) (idx := 35) (ci := 0) (k := 1) (List.mem_of_getElem? (i := 39) rfl) (r := (RX0, TX0, 11)) rfl rfl rfl hP hD hS 0 rfl rfl (ty := .object "TableMapper$Cover") (v := .ref a2) (by decide +kernel) rfl rfl (Nat.le_of_ble_eq_true rfl) dX0_init_59 (fun H locs hP hD hS => ?_)
  have hP : va_P D vwCl [(h0, .inr (0, [.ref a1, .ref a2, .ref q1, .ref q2, .ref q3, .ref q4, .ref q5, .ref q6, .long 0, .int 0, .int 0])), (q1, ci_l Y 40), (q2, ci_i Y 40), (q3, ci_i Y 40), (q4, ci_l Y 40), (q5, ci_l Y 40), (q6, ci_l Y 40)] H := hP
  have hD : va_D (va_A (ciw0 h0) s.heap.size) [(h0, .inr (0, [.ref a1, .ref a2, .ref q1, .ref q2, .ref q3, .ref q4, .ref q5, .ref q6, .long 0, .int 0, .int 0])), (q1, ci_l Y 40), (q2, ci_i Y 40), (q3, ci_i Y 40), (q4, ci_l Y 40), (q5, ci_l Y 40), (q6, ci_l Y 40)] := hD
  refine W.widen (k := 6) (n := 240) (Nat.le_of_ble_eq_true rfl) (Nat.le_of_ble_eq_true rfl) ?_
  exact W.vret hx hb hr (fun t ht hW => ⟨⟨fun i => [q1, q2, q3, q4, q5, q6].getD i 0, rfl, trivial, by rw [ht]; exact hP, hD⟩, hS.F ht⟩) hS.2.2 dX0_init_62
theorem dX1_init_0 : decode cX1_init 0 = .ok (.aload_n 0, 1) := by decide +kernel
theorem dX1_init_1 : decode cX1_init 1 = .ok (.invokespecial 3, 3) := by decide +kernel
theorem dX1_init_4 : decode cX1_init 4 = .ok (.aload_n 0, 1) := by decide +kernel
theorem dX1_init_5 : decode cX1_init 5 = .ok (.bipush 40, 2) := by decide +kernel
theorem dX1_init_7 : decode cX1_init 7 = .ok (.newarray .int, 2) := by decide +kernel
theorem dX1_init_9 : decode cX1_init 9 = .ok (.putfield 9, 3) := by decide +kernel
theorem dX1_init_12 : decode cX1_init 12 = .ok (.aload_n 0, 1) := by decide +kernel
theorem dX1_init_13 : decode cX1_init 13 = .ok (.aload_n 1, 1) := by decide +kernel
theorem dX1_init_14 : decode cX1_init 14 = .ok (.putfield 15, 3) := by decide +kernel
theorem dX1_init_17 : decode cX1_init 17 = .ok (.return_, 1) := by decide +kernel
def ciw1 (h0 : Nat) : va_W := [(h0, .inr (1, [.null, .null, .int 0, .int 0, .int 0, .long 0, .long 0, .long 0]))]
def cir1 (Y : sd_Y) (h0 : Nat) (a1 : Nat) (q : Nat → Nat) : va_W := [(h0, .inr (1, [.ref a1, .ref (q 0), .int 0, .int 0, .int 0, .long 0, .long 0, .long 0])), ((q 0), ci_i Y 40)]
set_option maxHeartbeats 4000000 in
set_option maxRecDepth 100000 in
theorem c_X1_init (l : Launch) (D : va_G) (Y : sd_Y) (h0 sz : Nat) (a1 : Nat) : Met l yX1_init (Cond.code yX1_init cX1_init 2 none :: sd_W) { frames := 1, cells := 1, slots := 40, locals := 12 } (ci_Pc D Y [.ref h0, .ref a1] sz (ciw1 h0) (fun _ => True)) (ci_Qc D sz (ciw1 h0) (cir1 Y h0 a1)) 1 40 (va_A (ciw1 h0) sz) := by
  refine Met.ofW (cc := cX1_init) (maxL := 2) (ret := none) (by decide) rfl ?_
  intro p e s m args below meth c s₁ B hml hv
  obtain ⟨rfl, hsz, hP, hK, hD0, -⟩ := hv
  have hx := B.exec
  have hb := B.bytes
  have hr := B.returns
  have hts : ∀ w ∈ sd_W, w.before _ s = true := fun w hw => atoms_spec (ws := Cond.code yX1_init cX1_init 2 none :: sd_W) B.pre w (List.mem_cons_of_mem _ hw)
  have hown : s.vm.findClass RX1 = some m.cls := findClass_of_methodNamed B.named
  have hlocks := B.notSynchronized
  have hin : meth.name = "<init>" := (name_of_methodNamed B.named B.method).1
  subst hsz
  have hD := hD0.self (sz := s.heap.size)
  have hA : ∀ q : Nat, s.heap.size ≤ q → va_A (ciw1 h0) s.heap.size q := fun q h => Or.inr h
  have hS : va_S (va_A (ciw1 h0) s.heap.size) s.heap s.heap [] := va_S.rf
  have hc : ci_cx p s m _ c cX1_init 2 RX1 D Y (va_A (ciw1 h0) s.heap.size) := ⟨hx, hb, hml, hown, hts, hK, hA⟩
  have hl := lv_entry ([.ref h0, .ref a1]) (n := 2) (Nat.le_of_ble_eq_true rfl)
  rw [lg_entry_eq]
  generalize (lg_sl ([.ref h0, .ref a1]) ++ List.replicate (2 - (lg_sl ([.ref h0, .ref a1])).length) Slot.unset).toArray = ls at hl ⊢
  have hl : lv_has ls 2 [(0, .ref h0), (1, .ref a1)] := hl
  have hP : va_P D vwCl [(h0, .inr (1, [.null, .null, .int 0, .int 0, .int 0, .long 0, .long 0, .long 0]))] s.heap := hP
  have hD : va_D (va_A (ciw1 h0) s.heap.size) [(h0, .inr (1, [.null, .null, .int 0, .int 0, .int 0, .long 0, .long 0, .long 0]))] := hD
  refine lv_aload_n hx hb dX1_init_0 rfl (lv_at hl 0 rfl) ?_
  refine W.objInit hx hb hown (hts _ cw_10) (hts _ cw_1) (hts _ cw_2) rfl (by rw [hml]; exact hl.1) rfl dX1_init_1 (Nat.le_of_ble_eq_true rfl) (Nat.le_of_ble_eq_true rfl) ?_
  refine W.eq (g2 := F0 m 4 ls []) rfl ?_
  refine lv_aload_n hx hb dX1_init_4 rfl (lv_at hl 0 rfl) ?_
  refine lv_bipush (v := 40) hx hb dX1_init_5 (by decide +kernel) ?_
  refine ci_newI hc hP hD hS (n := 40) (N := 40) (by decide +kernel) (by decide +kernel) (Nat.le_of_ble_eq_true rfl) (Nat.le_of_ble_eq_true rfl) (Nat.le_of_ble_eq_true rfl) dX1_init_7 (fun q1 H hP hD hS => ?_)
  have hP : va_P D vwCl [(h0, .inr (1, [.null, .null, .int 0, .int 0, .int 0, .long 0, .long 0, .long 0])), (q1, ci_i Y 40)] H := hP
  have hD : va_D (va_A (ciw1 h0) s.heap.size) [(h0, .inr (1, [.null, .null, .int 0, .int 0, .int 0, .long 0, .long 0, .long 0])), (q1, ci_i Y 40)] := hD
  refine ci_putF hc hin (o := 1) (idx := 9) (ci := 1) (k := 1) (List.mem_of_getElem? (i := 48) rfl) (r := (RX1, TX1, 8)) rfl rfl rfl hP hD hS 0 rfl rfl (ty := .array .int) (v := .ref q1) (by decide +kernel) rfl rfl (Nat.le_of_ble_eq_true rfl) dX1_init_9 (fun H locs hP hD hS => ?_)
  have hP : va_P D vwCl [(h0, .inr (1, [.null, .ref q1, .int 0, .int 0, .int 0, .long 0, .long 0, .long 0])), (q1, ci_i Y 40)] H := hP
  have hD : va_D (va_A (ciw1 h0) s.heap.size) [(h0, .inr (1, [.null, .ref q1, .int 0, .int 0, .int 0, .long 0, .long 0, .long 0])), (q1, ci_i Y 40)] := hD
  refine lv_aload_n hx hb dX1_init_12 rfl (lv_at hl 0 rfl) ?_
  refine lv_aload_n hx hb dX1_init_13 rfl (lv_at hl 1 rfl) ?_
  refine ci_putF hc hin (o := 1) (idx := 15) (ci := 1) (k := 0) (List.mem_of_getElem? (i := 49) rfl) (r := (RX1, TX1, 8)) rfl rfl rfl hP hD hS 0 rfl rfl (ty := .object "TableMapper$Cells") (v := .ref a1) (by decide +kernel) rfl rfl (Nat.le_of_ble_eq_true rfl) dX1_init_14 (fun H locs hP hD hS => ?_)
  have hP : va_P D vwCl [(h0, .inr (1, [.ref a1, .ref q1, .int 0, .int 0, .int 0, .long 0, .long 0, .long 0])), (q1, ci_i Y 40)] H := hP
  have hD : va_D (va_A (ciw1 h0) s.heap.size) [(h0, .inr (1, [.ref a1, .ref q1, .int 0, .int 0, .int 0, .long 0, .long 0, .long 0])), (q1, ci_i Y 40)] := hD
  refine W.widen (k := 1) (n := 40) (Nat.le_of_ble_eq_true rfl) (Nat.le_of_ble_eq_true rfl) ?_
  exact W.vret hx hb hr (fun t ht hW => ⟨⟨fun i => [q1].getD i 0, rfl, trivial, by rw [ht]; exact hP, hD⟩, hS.F ht⟩) hS.2.2 dX1_init_17
theorem dX10_init_0 : decode cX10_init 0 = .ok (.aload_n 0, 1) := by decide +kernel
theorem dX10_init_1 : decode cX10_init 1 = .ok (.invokespecial 1, 3) := by decide +kernel
theorem dX10_init_4 : decode cX10_init 4 = .ok (.aload_n 0, 1) := by decide +kernel
theorem dX10_init_5 : decode cX10_init 5 = .ok (.bipush 40, 2) := by decide +kernel
theorem dX10_init_7 : decode cX10_init 7 = .ok (.newarray .int, 2) := by decide +kernel
theorem dX10_init_9 : decode cX10_init 9 = .ok (.putfield 7, 3) := by decide +kernel
theorem dX10_init_12 : decode cX10_init 12 = .ok (.aload_n 0, 1) := by decide +kernel
theorem dX10_init_13 : decode cX10_init 13 = .ok (.bipush 40, 2) := by decide +kernel
theorem dX10_init_15 : decode cX10_init 15 = .ok (.newarray .int, 2) := by decide +kernel
theorem dX10_init_17 : decode cX10_init 17 = .ok (.putfield 13, 3) := by decide +kernel
theorem dX10_init_20 : decode cX10_init 20 = .ok (.aload_n 0, 1) := by decide +kernel
theorem dX10_init_21 : decode cX10_init 21 = .ok (.bipush 120, 2) := by decide +kernel
theorem dX10_init_23 : decode cX10_init 23 = .ok (.newarray .int, 2) := by decide +kernel
theorem dX10_init_25 : decode cX10_init 25 = .ok (.putfield 16, 3) := by decide +kernel
theorem dX10_init_28 : decode cX10_init 28 = .ok (.aload_n 0, 1) := by decide +kernel
theorem dX10_init_29 : decode cX10_init 29 = .ok (.bipush 40, 2) := by decide +kernel
theorem dX10_init_31 : decode cX10_init 31 = .ok (.newarray .long, 2) := by decide +kernel
theorem dX10_init_33 : decode cX10_init 33 = .ok (.putfield 19, 3) := by decide +kernel
theorem dX10_init_36 : decode cX10_init 36 = .ok (.aload_n 0, 1) := by decide +kernel
theorem dX10_init_37 : decode cX10_init 37 = .ok (.iconst 4, 1) := by decide +kernel
theorem dX10_init_38 : decode cX10_init 38 = .ok (.putfield 23, 3) := by decide +kernel
theorem dX10_init_41 : decode cX10_init 41 = .ok (.aload_n 0, 1) := by decide +kernel
theorem dX10_init_42 : decode cX10_init 42 = .ok (.bipush 40, 2) := by decide +kernel
theorem dX10_init_44 : decode cX10_init 44 = .ok (.newarray .boolean, 2) := by decide +kernel
theorem dX10_init_46 : decode cX10_init 46 = .ok (.putfield 27, 3) := by decide +kernel
theorem dX10_init_49 : decode cX10_init 49 = .ok (.aload_n 0, 1) := by decide +kernel
theorem dX10_init_50 : decode cX10_init 50 = .ok (.bipush 40, 2) := by decide +kernel
theorem dX10_init_52 : decode cX10_init 52 = .ok (.newarray .int, 2) := by decide +kernel
theorem dX10_init_54 : decode cX10_init 54 = .ok (.putfield 31, 3) := by decide +kernel
theorem dX10_init_57 : decode cX10_init 57 = .ok (.aload_n 0, 1) := by decide +kernel
theorem dX10_init_58 : decode cX10_init 58 = .ok (.bipush 40, 2) := by decide +kernel
theorem dX10_init_60 : decode cX10_init 60 = .ok (.newarray .long, 2) := by decide +kernel
theorem dX10_init_62 : decode cX10_init 62 = .ok (.putfield 34, 3) := by decide +kernel
theorem dX10_init_65 : decode cX10_init 65 = .ok (.aload_n 0, 1) := by decide +kernel
theorem dX10_init_66 : decode cX10_init 66 = .ok (.bipush 40, 2) := by decide +kernel
theorem dX10_init_68 : decode cX10_init 68 = .ok (.newarray .int, 2) := by decide +kernel
theorem dX10_init_70 : decode cX10_init 70 = .ok (.putfield 37, 3) := by decide +kernel
theorem dX10_init_73 : decode cX10_init 73 = .ok (.aload_n 0, 1) := by decide +kernel
theorem dX10_init_74 : decode cX10_init 74 = .ok (.bipush 120, 2) := by decide +kernel
theorem dX10_init_76 : decode cX10_init 76 = .ok (.newarray .int, 2) := by decide +kernel
theorem dX10_init_78 : decode cX10_init 78 = .ok (.putfield 40, 3) := by decide +kernel
theorem dX10_init_81 : decode cX10_init 81 = .ok (.aload_n 0, 1) := by decide +kernel
theorem dX10_init_82 : decode cX10_init 82 = .ok (.bipush 80, 2) := by decide +kernel
theorem dX10_init_84 : decode cX10_init 84 = .ok (.newarray .int, 2) := by decide +kernel
theorem dX10_init_86 : decode cX10_init 86 = .ok (.putfield 43, 3) := by decide +kernel
theorem dX10_init_89 : decode cX10_init 89 = .ok (.aload_n 0, 1) := by decide +kernel
theorem dX10_init_90 : decode cX10_init 90 = .ok (.bipush 80, 2) := by decide +kernel
theorem dX10_init_92 : decode cX10_init 92 = .ok (.newarray .int, 2) := by decide +kernel
theorem dX10_init_94 : decode cX10_init 94 = .ok (.putfield 46, 3) := by decide +kernel
theorem dX10_init_97 : decode cX10_init 97 = .ok (.aload_n 0, 1) := by decide +kernel
theorem dX10_init_98 : decode cX10_init 98 = .ok (.sipush 320, 3) := by decide +kernel
theorem dX10_init_101 : decode cX10_init 101 = .ok (.newarray .long, 2) := by decide +kernel
theorem dX10_init_103 : decode cX10_init 103 = .ok (.putfield 49, 3) := by decide +kernel
theorem dX10_init_106 : decode cX10_init 106 = .ok (.aload_n 0, 1) := by decide +kernel
theorem dX10_init_107 : decode cX10_init 107 = .ok (.bipush 40, 2) := by decide +kernel
theorem dX10_init_109 : decode cX10_init 109 = .ok (.newarray .int, 2) := by decide +kernel
theorem dX10_init_111 : decode cX10_init 111 = .ok (.putfield 52, 3) := by decide +kernel
theorem dX10_init_114 : decode cX10_init 114 = .ok (.aload_n 0, 1) := by decide +kernel
theorem dX10_init_115 : decode cX10_init 115 = .ok (.sipush 800, 3) := by decide +kernel
theorem dX10_init_118 : decode cX10_init 118 = .ok (.newarray .long, 2) := by decide +kernel
theorem dX10_init_120 : decode cX10_init 120 = .ok (.putfield 55, 3) := by decide +kernel
theorem dX10_init_123 : decode cX10_init 123 = .ok (.aload_n 0, 1) := by decide +kernel
theorem dX10_init_124 : decode cX10_init 124 = .ok (.bipush 40, 2) := by decide +kernel
theorem dX10_init_126 : decode cX10_init 126 = .ok (.newarray .long, 2) := by decide +kernel
theorem dX10_init_128 : decode cX10_init 128 = .ok (.putfield 58, 3) := by decide +kernel
theorem dX10_init_131 : decode cX10_init 131 = .ok (.aload_n 0, 1) := by decide +kernel
theorem dX10_init_132 : decode cX10_init 132 = .ok (.bipush 40, 2) := by decide +kernel
theorem dX10_init_134 : decode cX10_init 134 = .ok (.newarray .int, 2) := by decide +kernel
theorem dX10_init_136 : decode cX10_init 136 = .ok (.putfield 61, 3) := by decide +kernel
theorem dX10_init_139 : decode cX10_init 139 = .ok (.aload_n 0, 1) := by decide +kernel
theorem dX10_init_140 : decode cX10_init 140 = .ok (.bipush 40, 2) := by decide +kernel
theorem dX10_init_142 : decode cX10_init 142 = .ok (.newarray .int, 2) := by decide +kernel
theorem dX10_init_144 : decode cX10_init 144 = .ok (.putfield 64, 3) := by decide +kernel
theorem dX10_init_147 : decode cX10_init 147 = .ok (.aload_n 0, 1) := by decide +kernel
theorem dX10_init_148 : decode cX10_init 148 = .ok (.bipush 40, 2) := by decide +kernel
theorem dX10_init_150 : decode cX10_init 150 = .ok (.newarray .boolean, 2) := by decide +kernel
theorem dX10_init_152 : decode cX10_init 152 = .ok (.putfield 67, 3) := by decide +kernel
theorem dX10_init_155 : decode cX10_init 155 = .ok (.aload_n 0, 1) := by decide +kernel
theorem dX10_init_156 : decode cX10_init 156 = .ok (.bipush 40, 2) := by decide +kernel
theorem dX10_init_158 : decode cX10_init 158 = .ok (.newarray .boolean, 2) := by decide +kernel
theorem dX10_init_160 : decode cX10_init 160 = .ok (.putfield 70, 3) := by decide +kernel
theorem dX10_init_163 : decode cX10_init 163 = .ok (.aload_n 0, 1) := by decide +kernel
theorem dX10_init_164 : decode cX10_init 164 = .ok (.bipush 40, 2) := by decide +kernel
theorem dX10_init_166 : decode cX10_init 166 = .ok (.newarray .int, 2) := by decide +kernel
theorem dX10_init_168 : decode cX10_init 168 = .ok (.putfield 73, 3) := by decide +kernel
theorem dX10_init_171 : decode cX10_init 171 = .ok (.aload_n 0, 1) := by decide +kernel
theorem dX10_init_172 : decode cX10_init 172 = .ok (.bipush 40, 2) := by decide +kernel
theorem dX10_init_174 : decode cX10_init 174 = .ok (.newarray .int, 2) := by decide +kernel
theorem dX10_init_176 : decode cX10_init 176 = .ok (.putfield 76, 3) := by decide +kernel
theorem dX10_init_179 : decode cX10_init 179 = .ok (.aload_n 0, 1) := by decide +kernel
theorem dX10_init_180 : decode cX10_init 180 = .ok (.bipush 40, 2) := by decide +kernel
theorem dX10_init_182 : decode cX10_init 182 = .ok (.newarray .int, 2) := by decide +kernel
theorem dX10_init_184 : decode cX10_init 184 = .ok (.putfield 79, 3) := by decide +kernel
theorem dX10_init_187 : decode cX10_init 187 = .ok (.aload_n 0, 1) := by decide +kernel
theorem dX10_init_188 : decode cX10_init 188 = .ok (.bipush 40, 2) := by decide +kernel
theorem dX10_init_190 : decode cX10_init 190 = .ok (.newarray .int, 2) := by decide +kernel
theorem dX10_init_192 : decode cX10_init 192 = .ok (.putfield 82, 3) := by decide +kernel
theorem dX10_init_195 : decode cX10_init 195 = .ok (.aload_n 0, 1) := by decide +kernel
theorem dX10_init_196 : decode cX10_init 196 = .ok (.bipush 40, 2) := by decide +kernel
theorem dX10_init_198 : decode cX10_init 198 = .ok (.newarray .int, 2) := by decide +kernel
theorem dX10_init_200 : decode cX10_init 200 = .ok (.putfield 85, 3) := by decide +kernel
theorem dX10_init_203 : decode cX10_init 203 = .ok (.aload_n 0, 1) := by decide +kernel
theorem dX10_init_204 : decode cX10_init 204 = .ok (.bipush 40, 2) := by decide +kernel
theorem dX10_init_206 : decode cX10_init 206 = .ok (.newarray .int, 2) := by decide +kernel
theorem dX10_init_208 : decode cX10_init 208 = .ok (.putfield 88, 3) := by decide +kernel
theorem dX10_init_211 : decode cX10_init 211 = .ok (.aload_n 0, 1) := by decide +kernel
theorem dX10_init_212 : decode cX10_init 212 = .ok (.bipush 40, 2) := by decide +kernel
theorem dX10_init_214 : decode cX10_init 214 = .ok (.newarray .long, 2) := by decide +kernel
theorem dX10_init_216 : decode cX10_init 216 = .ok (.putfield 91, 3) := by decide +kernel
theorem dX10_init_219 : decode cX10_init 219 = .ok (.aload_n 0, 1) := by decide +kernel
theorem dX10_init_220 : decode cX10_init 220 = .ok (.bipush 40, 2) := by decide +kernel
theorem dX10_init_222 : decode cX10_init 222 = .ok (.newarray .long, 2) := by decide +kernel
theorem dX10_init_224 : decode cX10_init 224 = .ok (.putfield 94, 3) := by decide +kernel
theorem dX10_init_227 : decode cX10_init 227 = .ok (.aload_n 0, 1) := by decide +kernel
theorem dX10_init_228 : decode cX10_init 228 = .ok (.sipush 16384, 3) := by decide +kernel
theorem dX10_init_231 : decode cX10_init 231 = .ok (.newarray .int, 2) := by decide +kernel
theorem dX10_init_233 : decode cX10_init 233 = .ok (.putfield 97, 3) := by decide +kernel
theorem dX10_init_236 : decode cX10_init 236 = .ok (.aload_n 0, 1) := by decide +kernel
theorem dX10_init_237 : decode cX10_init 237 = .ok (.bipush 14, 2) := by decide +kernel
theorem dX10_init_239 : decode cX10_init 239 = .ok (.newarray .int, 2) := by decide +kernel
theorem dX10_init_241 : decode cX10_init 241 = .ok (.putfield 100, 3) := by decide +kernel
theorem dX10_init_244 : decode cX10_init 244 = .ok (.aload_n 0, 1) := by decide +kernel
theorem dX10_init_245 : decode cX10_init 245 = .ok (.bipush 40, 2) := by decide +kernel
theorem dX10_init_247 : decode cX10_init 247 = .ok (.newarray .int, 2) := by decide +kernel
theorem dX10_init_249 : decode cX10_init 249 = .ok (.putfield 103, 3) := by decide +kernel
theorem dX10_init_252 : decode cX10_init 252 = .ok (.aload_n 0, 1) := by decide +kernel
theorem dX10_init_253 : decode cX10_init 253 = .ok (.bipush 40, 2) := by decide +kernel
theorem dX10_init_255 : decode cX10_init 255 = .ok (.newarray .long, 2) := by decide +kernel
theorem dX10_init_257 : decode cX10_init 257 = .ok (.putfield 106, 3) := by decide +kernel
theorem dX10_init_260 : decode cX10_init 260 = .ok (.aload_n 0, 1) := by decide +kernel
theorem dX10_init_261 : decode cX10_init 261 = .ok (.bipush 40, 2) := by decide +kernel
theorem dX10_init_263 : decode cX10_init 263 = .ok (.newarray .long, 2) := by decide +kernel
theorem dX10_init_265 : decode cX10_init 265 = .ok (.putfield 109, 3) := by decide +kernel
theorem dX10_init_268 : decode cX10_init 268 = .ok (.return_, 1) := by decide +kernel
def ciw10 (h0 : Nat) : va_W := [(h0, .inr (10, [.int 0, .int 0, .null, .null, .null, .null, .long 0, .int 0, .int 0, .int 0, .null, .null, .null, .null, .null, .null, .null, .int 0, .null, .null, .null, .int 0, .null, .null, .null, .long 0, .null, .null, .null, .null, .null, .null, .null, .null, .null, .null, .int 0, .int 0, .int 0, .null, .null, .null, .null, .null, .int 0]))]
def cir10 (Y : sd_Y) (h0 : Nat) (q : Nat → Nat) : va_W := [(h0, .inr (10, [.int 0, .int 0, .ref (q 0), .ref (q 1), .ref (q 2), .ref (q 3), .long 0, .int 4, .int 0, .int 0, .ref (q 4), .ref (q 5), .ref (q 6), .ref (q 7), .ref (q 8), .ref (q 9), .ref (q 10), .int 0, .ref (q 11), .ref (q 12), .ref (q 13), .int 0, .ref (q 14), .ref (q 15), .ref (q 16), .long 0, .ref (q 17), .ref (q 18), .ref (q 19), .ref (q 20), .ref (q 21), .ref (q 22), .ref (q 23), .ref (q 24), .ref (q 25), .ref (q 26), .int 0, .int 0, .int 0, .ref (q 27), .ref (q 28), .ref (q 29), .ref (q 30), .ref (q 31), .int 0])), ((q 0), ci_i Y 40), ((q 1), ci_i Y 40), ((q 2), ci_i Y 120), ((q 3), ci_l Y 40), ((q 4), ci_z Y 40), ((q 5), ci_i Y 40), ((q 6), ci_l Y 40), ((q 7), ci_i Y 40), ((q 8), ci_i Y 120), ((q 9), ci_i Y 80), ((q 10), ci_i Y 80), ((q 11), ci_l Y 320), ((q 12), ci_i Y 40), ((q 13), ci_l Y 800), ((q 14), ci_l Y 40), ((q 15), ci_i Y 40), ((q 16), ci_i Y 40), ((q 17), ci_z Y 40), ((q 18), ci_z Y 40), ((q 19), ci_i Y 40), ((q 20), ci_i Y 40), ((q 21), ci_i Y 40), ((q 22), ci_i Y 40), ((q 23), ci_i Y 40), ((q 24), ci_i Y 40), ((q 25), ci_l Y 40), ((q 26), ci_l Y 40), ((q 27), ci_i Y 16384), ((q 28), ci_i Y 14), ((q 29), ci_i Y 40), ((q 30), ci_l Y 40), ((q 31), ci_l Y 40)]
set_option maxHeartbeats 4000000 in
set_option maxRecDepth 100000 in
theorem c_X10_init (l : Launch) (D : va_G) (Y : sd_Y) (h0 sz : Nat) : Met l yX10_init (Cond.code yX10_init cX10_init 1 none :: sd_W) { frames := 1, cells := 32, slots := 18878, locals := 12 } (ci_Pc D Y [.ref h0] sz (ciw10 h0) (fun _ => True)) (ci_Qc D sz (ciw10 h0) (cir10 Y h0)) 32 18878 (va_A (ciw10 h0) sz) := by
  refine Met.ofW (cc := cX10_init) (maxL := 1) (ret := none) (by decide) rfl ?_
  intro p e s m args below meth c s₁ B hml hv
  obtain ⟨rfl, hsz, hP, hK, hD0, -⟩ := hv
  have hx := B.exec
  have hb := B.bytes
  have hr := B.returns
  have hts : ∀ w ∈ sd_W, w.before _ s = true := fun w hw => atoms_spec (ws := Cond.code yX10_init cX10_init 1 none :: sd_W) B.pre w (List.mem_cons_of_mem _ hw)
  have hown : s.vm.findClass RX10 = some m.cls := findClass_of_methodNamed B.named
  have hlocks := B.notSynchronized
  have hin : meth.name = "<init>" := (name_of_methodNamed B.named B.method).1
  subst hsz
  have hD := hD0.self (sz := s.heap.size)
  have hA : ∀ q : Nat, s.heap.size ≤ q → va_A (ciw10 h0) s.heap.size q := fun q h => Or.inr h
  have hS : va_S (va_A (ciw10 h0) s.heap.size) s.heap s.heap [] := va_S.rf
  have hc : ci_cx p s m _ c cX10_init 1 RX10 D Y (va_A (ciw10 h0) s.heap.size) := ⟨hx, hb, hml, hown, hts, hK, hA⟩
  have hl := lv_entry ([.ref h0]) (n := 1) (Nat.le_of_ble_eq_true rfl)
  rw [lg_entry_eq]
  generalize (lg_sl ([.ref h0]) ++ List.replicate (1 - (lg_sl ([.ref h0])).length) Slot.unset).toArray = ls at hl ⊢
  have hl : lv_has ls 1 [(0, .ref h0)] := hl
  have hP : va_P D vwCl [(h0, .inr (10, [.int 0, .int 0, .null, .null, .null, .null, .long 0, .int 0, .int 0, .int 0, .null, .null, .null, .null, .null, .null, .null, .int 0, .null, .null, .null, .int 0, .null, .null, .null, .long 0, .null, .null, .null, .null, .null, .null, .null, .null, .null, .null, .int 0, .int 0, .int 0, .null, .null, .null, .null, .null, .int 0]))] s.heap := hP
  have hD : va_D (va_A (ciw10 h0) s.heap.size) [(h0, .inr (10, [.int 0, .int 0, .null, .null, .null, .null, .long 0, .int 0, .int 0, .int 0, .null, .null, .null, .null, .null, .null, .null, .int 0, .null, .null, .null, .int 0, .null, .null, .null, .long 0, .null, .null, .null, .null, .null, .null, .null, .null, .null, .null, .int 0, .int 0, .int 0, .null, .null, .null, .null, .null, .int 0]))] := hD
  refine lv_aload_n hx hb dX10_init_0 rfl (lv_at hl 0 rfl) ?_
  refine W.objInit hx hb hown (hts _ cw_11) (hts _ cw_1) (hts _ cw_2) rfl (by rw [hml]; exact hl.1) rfl dX10_init_1 (Nat.le_of_ble_eq_true rfl) (Nat.le_of_ble_eq_true rfl) ?_
  refine W.eq (g2 := F0 m 4 ls []) rfl ?_
  refine lv_aload_n hx hb dX10_init_4 rfl (lv_at hl 0 rfl) ?_
  refine lv_bipush (v := 40) hx hb dX10_init_5 (by decide +kernel) ?_
  refine ci_newI hc hP hD hS (n := 40) (N := 40) (by decide +kernel) (by decide +kernel) (Nat.le_of_ble_eq_true rfl) (Nat.le_of_ble_eq_true rfl) (Nat.le_of_ble_eq_true rfl) dX10_init_7 (fun q1 H hP hD hS => ?_)
  have hP : va_P D vwCl [(h0, .inr (10, [.int 0, .int 0, .null, .null, .null, .null, .long 0, .int 0, .int 0, .int 0, .null, .null, .null, .null, .null, .null, .null, .int 0, .null, .null, .null, .int 0, .null, .null, .null, .long 0, .null, .null, .null, .null, .null, .null, .null, .null, .null, .null, .int 0, .int 0, .int 0, .null, .null, .null, .null, .null, .int 0])), (q1, ci_i Y 40)] H := hP
  have hD : va_D (va_A (ciw10 h0) s.heap.size) [(h0, .inr (10, [.int 0, .int 0, .null, .null, .null, .null, .long 0, .int 0, .int 0, .int 0, .null, .null, .null, .null, .null, .null, .null, .int 0, .null, .null, .null, .int 0, .null, .null, .null, .long 0, .null, .null, .null, .null, .null, .null, .null, .null, .null, .null, .int 0, .int 0, .int 0, .null, .null, .null, .null, .null, .int 0])), (q1, ci_i Y 40)] := hD
  refine ci_putF hc hin (o := 10) (idx := 7) (ci := 10) (k := 2) (List.mem_of_getElem? (i := 115) rfl) (r := (RX10, TX10, 45)) rfl rfl rfl hP hD hS 0 rfl rfl (ty := .array .int) (v := .ref q1) (by decide +kernel) rfl rfl (Nat.le_of_ble_eq_true rfl) dX10_init_9 (fun H locs hP hD hS => ?_)
  have hP : va_P D vwCl [(h0, .inr (10, [.int 0, .int 0, .ref q1, .null, .null, .null, .long 0, .int 0, .int 0, .int 0, .null, .null, .null, .null, .null, .null, .null, .int 0, .null, .null, .null, .int 0, .null, .null, .null, .long 0, .null, .null, .null, .null, .null, .null, .null, .null, .null, .null, .int 0, .int 0, .int 0, .null, .null, .null, .null, .null, .int 0])), (q1, ci_i Y 40)] H := hP
  have hD : va_D (va_A (ciw10 h0) s.heap.size) [(h0, .inr (10, [.int 0, .int 0, .ref q1, .null, .null, .null, .long 0, .int 0, .int 0, .int 0, .null, .null, .null, .null, .null, .null, .null, .int 0, .null, .null, .null, .int 0, .null, .null, .null, .long 0, .null, .null, .null, .null, .null, .null, .null, .null, .null, .null, .int 0, .int 0, .int 0, .null, .null, .null, .null, .null, .int 0])), (q1, ci_i Y 40)] := hD
  refine lv_aload_n hx hb dX10_init_12 rfl (lv_at hl 0 rfl) ?_
  refine lv_bipush (v := 40) hx hb dX10_init_13 (by decide +kernel) ?_
  refine ci_newI hc hP hD hS (n := 40) (N := 40) (by decide +kernel) (by decide +kernel) (Nat.le_of_ble_eq_true rfl) (Nat.le_of_ble_eq_true rfl) (Nat.le_of_ble_eq_true rfl) dX10_init_15 (fun q2 H hP hD hS => ?_)
  have hP : va_P D vwCl [(h0, .inr (10, [.int 0, .int 0, .ref q1, .null, .null, .null, .long 0, .int 0, .int 0, .int 0, .null, .null, .null, .null, .null, .null, .null, .int 0, .null, .null, .null, .int 0, .null, .null, .null, .long 0, .null, .null, .null, .null, .null, .null, .null, .null, .null, .null, .int 0, .int 0, .int 0, .null, .null, .null, .null, .null, .int 0])), (q1, ci_i Y 40), (q2, ci_i Y 40)] H := hP
  have hD : va_D (va_A (ciw10 h0) s.heap.size) [(h0, .inr (10, [.int 0, .int 0, .ref q1, .null, .null, .null, .long 0, .int 0, .int 0, .int 0, .null, .null, .null, .null, .null, .null, .null, .int 0, .null, .null, .null, .int 0, .null, .null, .null, .long 0, .null, .null, .null, .null, .null, .null, .null, .null, .null, .null, .int 0, .int 0, .int 0, .null, .null, .null, .null, .null, .int 0])), (q1, ci_i Y 40), (q2, ci_i Y 40)] := hD
  refine ci_putF hc hin (o := 10) (idx := 13) (ci := 10) (k := 3) (List.mem_of_getElem? (i := 116) rfl) (r := (RX10, TX10, 45)) rfl rfl rfl hP hD hS 0 rfl rfl (ty := .array .int) (v := .ref q2) (by decide +kernel) rfl rfl (Nat.le_of_ble_eq_true rfl) dX10_init_17 (fun H locs hP hD hS => ?_)
  have hP : va_P D vwCl [(h0, .inr (10, [.int 0, .int 0, .ref q1, .ref q2, .null, .null, .long 0, .int 0, .int 0, .int 0, .null, .null, .null, .null, .null, .null, .null, .int 0, .null, .null, .null, .int 0, .null, .null, .null, .long 0, .null, .null, .null, .null, .null, .null, .null, .null, .null, .null, .int 0, .int 0, .int 0, .null, .null, .null, .null, .null, .int 0])), (q1, ci_i Y 40), (q2, ci_i Y 40)] H := hP
  have hD : va_D (va_A (ciw10 h0) s.heap.size) [(h0, .inr (10, [.int 0, .int 0, .ref q1, .ref q2, .null, .null, .long 0, .int 0, .int 0, .int 0, .null, .null, .null, .null, .null, .null, .null, .int 0, .null, .null, .null, .int 0, .null, .null, .null, .long 0, .null, .null, .null, .null, .null, .null, .null, .null, .null, .null, .int 0, .int 0, .int 0, .null, .null, .null, .null, .null, .int 0])), (q1, ci_i Y 40), (q2, ci_i Y 40)] := hD
  refine lv_aload_n hx hb dX10_init_20 rfl (lv_at hl 0 rfl) ?_
  refine lv_bipush (v := 120) hx hb dX10_init_21 (by decide +kernel) ?_
  refine ci_newI hc hP hD hS (n := 120) (N := 120) (by decide +kernel) (by decide +kernel) (Nat.le_of_ble_eq_true rfl) (Nat.le_of_ble_eq_true rfl) (Nat.le_of_ble_eq_true rfl) dX10_init_23 (fun q3 H hP hD hS => ?_)
  have hP : va_P D vwCl [(h0, .inr (10, [.int 0, .int 0, .ref q1, .ref q2, .null, .null, .long 0, .int 0, .int 0, .int 0, .null, .null, .null, .null, .null, .null, .null, .int 0, .null, .null, .null, .int 0, .null, .null, .null, .long 0, .null, .null, .null, .null, .null, .null, .null, .null, .null, .null, .int 0, .int 0, .int 0, .null, .null, .null, .null, .null, .int 0])), (q1, ci_i Y 40), (q2, ci_i Y 40), (q3, ci_i Y 120)] H := hP
  have hD : va_D (va_A (ciw10 h0) s.heap.size) [(h0, .inr (10, [.int 0, .int 0, .ref q1, .ref q2, .null, .null, .long 0, .int 0, .int 0, .int 0, .null, .null, .null, .null, .null, .null, .null, .int 0, .null, .null, .null, .int 0, .null, .null, .null, .long 0, .null, .null, .null, .null, .null, .null, .null, .null, .null, .null, .int 0, .int 0, .int 0, .null, .null, .null, .null, .null, .int 0])), (q1, ci_i Y 40), (q2, ci_i Y 40), (q3, ci_i Y 120)] := hD
  refine ci_putF hc hin (o := 10) (idx := 16) (ci := 10) (k := 4) (List.mem_of_getElem? (i := 117) rfl) (r := (RX10, TX10, 45)) rfl rfl rfl hP hD hS 0 rfl rfl (ty := .array .int) (v := .ref q3) (by decide +kernel) rfl rfl (Nat.le_of_ble_eq_true rfl) dX10_init_25 (fun H locs hP hD hS => ?_)
  have hP : va_P D vwCl [(h0, .inr (10, [.int 0, .int 0, .ref q1, .ref q2, .ref q3, .null, .long 0, .int 0, .int 0, .int 0, .null, .null, .null, .null, .null, .null, .null, .int 0, .null, .null, .null, .int 0, .null, .null, .null, .long 0, .null, .null, .null, .null, .null, .null, .null, .null, .null, .null, .int 0, .int 0, .int 0, .null, .null, .null, .null, .null, .int 0])), (q1, ci_i Y 40), (q2, ci_i Y 40), (q3, ci_i Y 120)] H := hP
  have hD : va_D (va_A (ciw10 h0) s.heap.size) [(h0, .inr (10, [.int 0, .int 0, .ref q1, .ref q2, .ref q3, .null, .long 0, .int 0, .int 0, .int 0, .null, .null, .null, .null, .null, .null, .null, .int 0, .null, .null, .null, .int 0, .null, .null, .null, .long 0, .null, .null, .null, .null, .null, .null, .null, .null, .null, .null, .int 0, .int 0, .int 0, .null, .null, .null, .null, .null, .int 0])), (q1, ci_i Y 40), (q2, ci_i Y 40), (q3, ci_i Y 120)] := hD
  refine lv_aload_n hx hb dX10_init_28 rfl (lv_at hl 0 rfl) ?_
  refine lv_bipush (v := 40) hx hb dX10_init_29 (by decide +kernel) ?_
  refine ci_newL hc hP hD hS (n := 40) (N := 40) (by decide +kernel) (by decide +kernel) (Nat.le_of_ble_eq_true rfl) (Nat.le_of_ble_eq_true rfl) (Nat.le_of_ble_eq_true rfl) dX10_init_31 (fun q4 H hP hD hS => ?_)
  have hP : va_P D vwCl [(h0, .inr (10, [.int 0, .int 0, .ref q1, .ref q2, .ref q3, .null, .long 0, .int 0, .int 0, .int 0, .null, .null, .null, .null, .null, .null, .null, .int 0, .null, .null, .null, .int 0, .null, .null, .null, .long 0, .null, .null, .null, .null, .null, .null, .null, .null, .null, .null, .int 0, .int 0, .int 0, .null, .null, .null, .null, .null, .int 0])), (q1, ci_i Y 40), (q2, ci_i Y 40), (q3, ci_i Y 120), (q4, ci_l Y 40)] H := hP
  have hD : va_D (va_A (ciw10 h0) s.heap.size) [(h0, .inr (10, [.int 0, .int 0, .ref q1, .ref q2, .ref q3, .null, .long 0, .int 0, .int 0, .int 0, .null, .null, .null, .null, .null, .null, .null, .int 0, .null, .null, .null, .int 0, .null, .null, .null, .long 0, .null, .null, .null, .null, .null, .null, .null, .null, .null, .null, .int 0, .int 0, .int 0, .null, .null, .null, .null, .null, .int 0])), (q1, ci_i Y 40), (q2, ci_i Y 40), (q3, ci_i Y 120), (q4, ci_l Y 40)] := hD
  refine ci_putF hc hin (o := 10) (idx := 19) (ci := 10) (k := 5) (List.mem_of_getElem? (i := 118) rfl) (r := (RX10, TX10, 45)) rfl rfl rfl hP hD hS 0 rfl rfl (ty := .array .long) (v := .ref q4) (by decide +kernel) rfl rfl (Nat.le_of_ble_eq_true rfl) dX10_init_33 (fun H locs hP hD hS => ?_)
  have hP : va_P D vwCl [(h0, .inr (10, [.int 0, .int 0, .ref q1, .ref q2, .ref q3, .ref q4, .long 0, .int 0, .int 0, .int 0, .null, .null, .null, .null, .null, .null, .null, .int 0, .null, .null, .null, .int 0, .null, .null, .null, .long 0, .null, .null, .null, .null, .null, .null, .null, .null, .null, .null, .int 0, .int 0, .int 0, .null, .null, .null, .null, .null, .int 0])), (q1, ci_i Y 40), (q2, ci_i Y 40), (q3, ci_i Y 120), (q4, ci_l Y 40)] H := hP
  have hD : va_D (va_A (ciw10 h0) s.heap.size) [(h0, .inr (10, [.int 0, .int 0, .ref q1, .ref q2, .ref q3, .ref q4, .long 0, .int 0, .int 0, .int 0, .null, .null, .null, .null, .null, .null, .null, .int 0, .null, .null, .null, .int 0, .null, .null, .null, .long 0, .null, .null, .null, .null, .null, .null, .null, .null, .null, .null, .int 0, .int 0, .int 0, .null, .null, .null, .null, .null, .int 0])), (q1, ci_i Y 40), (q2, ci_i Y 40), (q3, ci_i Y 120), (q4, ci_l Y 40)] := hD
  refine lv_aload_n hx hb dX10_init_36 rfl (lv_at hl 0 rfl) ?_
  refine lv_iconst (v := 4) hx hb dX10_init_37 (by decide +kernel) ?_
  refine ci_put hc (o := 10) (idx := 23) (ci := 10) (k := 7) (List.mem_of_getElem? (i := 119) rfl) (r := (RX10, TX10, 45)) rfl rfl hP hD hS 0 rfl rfl (ty := .int) (v := .int 4) (by decide +kernel) rfl rfl (Nat.le_of_ble_eq_true rfl) dX10_init_38 (fun H locs hP hD hS => ?_)
  have hP : va_P D vwCl [(h0, .inr (10, [.int 0, .int 0, .ref q1, .ref q2, .ref q3, .ref q4, .long 0, .int 4, .int 0, .int 0, .null, .null, .null, .null, .null, .null, .null, .int 0, .null, .null, .null, .int 0, .null, .null, .null, .long 0, .null, .null, .null, .null, .null, .null, .null, .null, .null, .null, .int 0, .int 0, .int 0, .null, .null, .null, .null, .null, .int 0])), (q1, ci_i Y 40), (q2, ci_i Y 40), (q3, ci_i Y 120), (q4, ci_l Y 40)] H := hP
  have hD : va_D (va_A (ciw10 h0) s.heap.size) [(h0, .inr (10, [.int 0, .int 0, .ref q1, .ref q2, .ref q3, .ref q4, .long 0, .int 4, .int 0, .int 0, .null, .null, .null, .null, .null, .null, .null, .int 0, .null, .null, .null, .int 0, .null, .null, .null, .long 0, .null, .null, .null, .null, .null, .null, .null, .null, .null, .null, .int 0, .int 0, .int 0, .null, .null, .null, .null, .null, .int 0])), (q1, ci_i Y 40), (q2, ci_i Y 40), (q3, ci_i Y 120), (q4, ci_l Y 40)] := hD
  refine lv_aload_n hx hb dX10_init_41 rfl (lv_at hl 0 rfl) ?_
  refine lv_bipush (v := 40) hx hb dX10_init_42 (by decide +kernel) ?_
  refine ci_newZ hc hP hD hS (n := 40) (N := 40) (by decide +kernel) (by decide +kernel) (Nat.le_of_ble_eq_true rfl) (Nat.le_of_ble_eq_true rfl) (Nat.le_of_ble_eq_true rfl) dX10_init_44 (fun q5 H hP hD hS => ?_)
  have hP : va_P D vwCl [(h0, .inr (10, [.int 0, .int 0, .ref q1, .ref q2, .ref q3, .ref q4, .long 0, .int 4, .int 0, .int 0, .null, .null, .null, .null, .null, .null, .null, .int 0, .null, .null, .null, .int 0, .null, .null, .null, .long 0, .null, .null, .null, .null, .null, .null, .null, .null, .null, .null, .int 0, .int 0, .int 0, .null, .null, .null, .null, .null, .int 0])), (q1, ci_i Y 40), (q2, ci_i Y 40), (q3, ci_i Y 120), (q4, ci_l Y 40), (q5, ci_z Y 40)] H := hP
  have hD : va_D (va_A (ciw10 h0) s.heap.size) [(h0, .inr (10, [.int 0, .int 0, .ref q1, .ref q2, .ref q3, .ref q4, .long 0, .int 4, .int 0, .int 0, .null, .null, .null, .null, .null, .null, .null, .int 0, .null, .null, .null, .int 0, .null, .null, .null, .long 0, .null, .null, .null, .null, .null, .null, .null, .null, .null, .null, .int 0, .int 0, .int 0, .null, .null, .null, .null, .null, .int 0])), (q1, ci_i Y 40), (q2, ci_i Y 40), (q3, ci_i Y 120), (q4, ci_l Y 40), (q5, ci_z Y 40)] := hD
  refine ci_putF hc hin (o := 10) (idx := 27) (ci := 10) (k := 10) (List.mem_of_getElem? (i := 120) rfl) (r := (RX10, TX10, 45)) rfl rfl rfl hP hD hS 0 rfl rfl (ty := .array .boolean) (v := .ref q5) (by decide +kernel) rfl rfl (Nat.le_of_ble_eq_true rfl) dX10_init_46 (fun H locs hP hD hS => ?_)
  have hP : va_P D vwCl [(h0, .inr (10, [.int 0, .int 0, .ref q1, .ref q2, .ref q3, .ref q4, .long 0, .int 4, .int 0, .int 0, .ref q5, .null, .null, .null, .null, .null, .null, .int 0, .null, .null, .null, .int 0, .null, .null, .null, .long 0, .null, .null, .null, .null, .null, .null, .null, .null, .null, .null, .int 0, .int 0, .int 0, .null, .null, .null, .null, .null, .int 0])), (q1, ci_i Y 40), (q2, ci_i Y 40), (q3, ci_i Y 120), (q4, ci_l Y 40), (q5, ci_z Y 40)] H := hP
  have hD : va_D (va_A (ciw10 h0) s.heap.size) [(h0, .inr (10, [.int 0, .int 0, .ref q1, .ref q2, .ref q3, .ref q4, .long 0, .int 4, .int 0, .int 0, .ref q5, .null, .null, .null, .null, .null, .null, .int 0, .null, .null, .null, .int 0, .null, .null, .null, .long 0, .null, .null, .null, .null, .null, .null, .null, .null, .null, .null, .int 0, .int 0, .int 0, .null, .null, .null, .null, .null, .int 0])), (q1, ci_i Y 40), (q2, ci_i Y 40), (q3, ci_i Y 120), (q4, ci_l Y 40), (q5, ci_z Y 40)] := hD
  refine lv_aload_n hx hb dX10_init_49 rfl (lv_at hl 0 rfl) ?_
  refine lv_bipush (v := 40) hx hb dX10_init_50 (by decide +kernel) ?_
  refine ci_newI hc hP hD hS (n := 40) (N := 40) (by decide +kernel) (by decide +kernel) (Nat.le_of_ble_eq_true rfl) (Nat.le_of_ble_eq_true rfl) (Nat.le_of_ble_eq_true rfl) dX10_init_52 (fun q6 H hP hD hS => ?_)
  have hP : va_P D vwCl [(h0, .inr (10, [.int 0, .int 0, .ref q1, .ref q2, .ref q3, .ref q4, .long 0, .int 4, .int 0, .int 0, .ref q5, .null, .null, .null, .null, .null, .null, .int 0, .null, .null, .null, .int 0, .null, .null, .null, .long 0, .null, .null, .null, .null, .null, .null, .null, .null, .null, .null, .int 0, .int 0, .int 0, .null, .null, .null, .null, .null, .int 0])), (q1, ci_i Y 40), (q2, ci_i Y 40), (q3, ci_i Y 120), (q4, ci_l Y 40), (q5, ci_z Y 40), (q6, ci_i Y 40)] H := hP
  have hD : va_D (va_A (ciw10 h0) s.heap.size) [(h0, .inr (10, [.int 0, .int 0, .ref q1, .ref q2, .ref q3, .ref q4, .long 0, .int 4, .int 0, .int 0, .ref q5, .null, .null, .null, .null, .null, .null, .int 0, .null, .null, .null, .int 0, .null, .null, .null, .long 0, .null, .null, .null, .null, .null, .null, .null, .null, .null, .null, .int 0, .int 0, .int 0, .null, .null, .null, .null, .null, .int 0])), (q1, ci_i Y 40), (q2, ci_i Y 40), (q3, ci_i Y 120), (q4, ci_l Y 40), (q5, ci_z Y 40), (q6, ci_i Y 40)] := hD
  refine ci_putF hc hin (o := 10) (idx := 31) (ci := 10) (k := 11) (List.mem_of_getElem? (i := 121) rfl) (r := (RX10, TX10, 45)) rfl rfl rfl hP hD hS 0 rfl rfl (ty := .array .int) (v := .ref q6) (by decide +kernel) rfl rfl (Nat.le_of_ble_eq_true rfl) dX10_init_54 (fun H locs hP hD hS => ?_)
  have hP : va_P D vwCl [(h0, .inr (10, [.int 0, .int 0, .ref q1, .ref q2, .ref q3, .ref q4, .long 0, .int 4, .int 0, .int 0, .ref q5, .ref q6, .null, .null, .null, .null, .null, .int 0, .null, .null, .null, .int 0, .null, .null, .null, .long 0, .null, .null, .null, .null, .null, .null, .null, .null, .null, .null, .int 0, .int 0, .int 0, .null, .null, .null, .null, .null, .int 0])), (q1, ci_i Y 40), (q2, ci_i Y 40), (q3, ci_i Y 120), (q4, ci_l Y 40), (q5, ci_z Y 40), (q6, ci_i Y 40)] H := hP
  have hD : va_D (va_A (ciw10 h0) s.heap.size) [(h0, .inr (10, [.int 0, .int 0, .ref q1, .ref q2, .ref q3, .ref q4, .long 0, .int 4, .int 0, .int 0, .ref q5, .ref q6, .null, .null, .null, .null, .null, .int 0, .null, .null, .null, .int 0, .null, .null, .null, .long 0, .null, .null, .null, .null, .null, .null, .null, .null, .null, .null, .int 0, .int 0, .int 0, .null, .null, .null, .null, .null, .int 0])), (q1, ci_i Y 40), (q2, ci_i Y 40), (q3, ci_i Y 120), (q4, ci_l Y 40), (q5, ci_z Y 40), (q6, ci_i Y 40)] := hD
  refine lv_aload_n hx hb dX10_init_57 rfl (lv_at hl 0 rfl) ?_
  refine lv_bipush (v := 40) hx hb dX10_init_58 (by decide +kernel) ?_
  refine ci_newL hc hP hD hS (n := 40) (N := 40) (by decide +kernel) (by decide +kernel) (Nat.le_of_ble_eq_true rfl) (Nat.le_of_ble_eq_true rfl) (Nat.le_of_ble_eq_true rfl) dX10_init_60 (fun q7 H hP hD hS => ?_)
  have hP : va_P D vwCl [(h0, .inr (10, [.int 0, .int 0, .ref q1, .ref q2, .ref q3, .ref q4, .long 0, .int 4, .int 0, .int 0, .ref q5, .ref q6, .null, .null, .null, .null, .null, .int 0, .null, .null, .null, .int 0, .null, .null, .null, .long 0, .null, .null, .null, .null, .null, .null, .null, .null, .null, .null, .int 0, .int 0, .int 0, .null, .null, .null, .null, .null, .int 0])), (q1, ci_i Y 40), (q2, ci_i Y 40), (q3, ci_i Y 120), (q4, ci_l Y 40), (q5, ci_z Y 40), (q6, ci_i Y 40), (q7, ci_l Y 40)] H := hP
  have hD : va_D (va_A (ciw10 h0) s.heap.size) [(h0, .inr (10, [.int 0, .int 0, .ref q1, .ref q2, .ref q3, .ref q4, .long 0, .int 4, .int 0, .int 0, .ref q5, .ref q6, .null, .null, .null, .null, .null, .int 0, .null, .null, .null, .int 0, .null, .null, .null, .long 0, .null, .null, .null, .null, .null, .null, .null, .null, .null, .null, .int 0, .int 0, .int 0, .null, .null, .null, .null, .null, .int 0])), (q1, ci_i Y 40), (q2, ci_i Y 40), (q3, ci_i Y 120), (q4, ci_l Y 40), (q5, ci_z Y 40), (q6, ci_i Y 40), (q7, ci_l Y 40)] := hD
  refine ci_putF hc hin (o := 10) (idx := 34) (ci := 10) (k := 12) (List.mem_of_getElem? (i := 122) rfl) (r := (RX10, TX10, 45)) rfl rfl rfl hP hD hS 0 rfl rfl (ty := .array .long) (v := .ref q7) (by decide +kernel) rfl rfl (Nat.le_of_ble_eq_true rfl) dX10_init_62 (fun H locs hP hD hS => ?_)
  have hP : va_P D vwCl [(h0, .inr (10, [.int 0, .int 0, .ref q1, .ref q2, .ref q3, .ref q4, .long 0, .int 4, .int 0, .int 0, .ref q5, .ref q6, .ref q7, .null, .null, .null, .null, .int 0, .null, .null, .null, .int 0, .null, .null, .null, .long 0, .null, .null, .null, .null, .null, .null, .null, .null, .null, .null, .int 0, .int 0, .int 0, .null, .null, .null, .null, .null, .int 0])), (q1, ci_i Y 40), (q2, ci_i Y 40), (q3, ci_i Y 120), (q4, ci_l Y 40), (q5, ci_z Y 40), (q6, ci_i Y 40), (q7, ci_l Y 40)] H := hP
  have hD : va_D (va_A (ciw10 h0) s.heap.size) [(h0, .inr (10, [.int 0, .int 0, .ref q1, .ref q2, .ref q3, .ref q4, .long 0, .int 4, .int 0, .int 0, .ref q5, .ref q6, .ref q7, .null, .null, .null, .null, .int 0, .null, .null, .null, .int 0, .null, .null, .null, .long 0, .null, .null, .null, .null, .null, .null, .null, .null, .null, .null, .int 0, .int 0, .int 0, .null, .null, .null, .null, .null, .int 0])), (q1, ci_i Y 40), (q2, ci_i Y 40), (q3, ci_i Y 120), (q4, ci_l Y 40), (q5, ci_z Y 40), (q6, ci_i Y 40), (q7, ci_l Y 40)] := hD
  refine lv_aload_n hx hb dX10_init_65 rfl (lv_at hl 0 rfl) ?_
  refine lv_bipush (v := 40) hx hb dX10_init_66 (by decide +kernel) ?_
  refine ci_newI hc hP hD hS (n := 40) (N := 40) (by decide +kernel) (by decide +kernel) (Nat.le_of_ble_eq_true rfl) (Nat.le_of_ble_eq_true rfl) (Nat.le_of_ble_eq_true rfl) dX10_init_68 (fun q8 H hP hD hS => ?_)
  have hP : va_P D vwCl [(h0, .inr (10, [.int 0, .int 0, .ref q1, .ref q2, .ref q3, .ref q4, .long 0, .int 4, .int 0, .int 0, .ref q5, .ref q6, .ref q7, .null, .null, .null, .null, .int 0, .null, .null, .null, .int 0, .null, .null, .null, .long 0, .null, .null, .null, .null, .null, .null, .null, .null, .null, .null, .int 0, .int 0, .int 0, .null, .null, .null, .null, .null, .int 0])), (q1, ci_i Y 40), (q2, ci_i Y 40), (q3, ci_i Y 120), (q4, ci_l Y 40), (q5, ci_z Y 40), (q6, ci_i Y 40), (q7, ci_l Y 40), (q8, ci_i Y 40)] H := hP
  have hD : va_D (va_A (ciw10 h0) s.heap.size) [(h0, .inr (10, [.int 0, .int 0, .ref q1, .ref q2, .ref q3, .ref q4, .long 0, .int 4, .int 0, .int 0, .ref q5, .ref q6, .ref q7, .null, .null, .null, .null, .int 0, .null, .null, .null, .int 0, .null, .null, .null, .long 0, .null, .null, .null, .null, .null, .null, .null, .null, .null, .null, .int 0, .int 0, .int 0, .null, .null, .null, .null, .null, .int 0])), (q1, ci_i Y 40), (q2, ci_i Y 40), (q3, ci_i Y 120), (q4, ci_l Y 40), (q5, ci_z Y 40), (q6, ci_i Y 40), (q7, ci_l Y 40), (q8, ci_i Y 40)] := hD
  refine ci_putF hc hin (o := 10) (idx := 37) (ci := 10) (k := 13) (List.mem_of_getElem? (i := 123) rfl) (r := (RX10, TX10, 45)) rfl rfl rfl hP hD hS 0 rfl rfl (ty := .array .int) (v := .ref q8) (by decide +kernel) rfl rfl (Nat.le_of_ble_eq_true rfl) dX10_init_70 (fun H locs hP hD hS => ?_)
  have hP : va_P D vwCl [(h0, .inr (10, [.int 0, .int 0, .ref q1, .ref q2, .ref q3, .ref q4, .long 0, .int 4, .int 0, .int 0, .ref q5, .ref q6, .ref q7, .ref q8, .null, .null, .null, .int 0, .null, .null, .null, .int 0, .null, .null, .null, .long 0, .null, .null, .null, .null, .null, .null, .null, .null, .null, .null, .int 0, .int 0, .int 0, .null, .null, .null, .null, .null, .int 0])), (q1, ci_i Y 40), (q2, ci_i Y 40), (q3, ci_i Y 120), (q4, ci_l Y 40), (q5, ci_z Y 40), (q6, ci_i Y 40), (q7, ci_l Y 40), (q8, ci_i Y 40)] H := hP
  have hD : va_D (va_A (ciw10 h0) s.heap.size) [(h0, .inr (10, [.int 0, .int 0, .ref q1, .ref q2, .ref q3, .ref q4, .long 0, .int 4, .int 0, .int 0, .ref q5, .ref q6, .ref q7, .ref q8, .null, .null, .null, .int 0, .null, .null, .null, .int 0, .null, .null, .null, .long 0, .null, .null, .null, .null, .null, .null, .null, .null, .null, .null, .int 0, .int 0, .int 0, .null, .null, .null, .null, .null, .int 0])), (q1, ci_i Y 40), (q2, ci_i Y 40), (q3, ci_i Y 120), (q4, ci_l Y 40), (q5, ci_z Y 40), (q6, ci_i Y 40), (q7, ci_l Y 40), (q8, ci_i Y 40)] := hD
  refine lv_aload_n hx hb dX10_init_73 rfl (lv_at hl 0 rfl) ?_
  refine lv_bipush (v := 120) hx hb dX10_init_74 (by decide +kernel) ?_
  refine ci_newI hc hP hD hS (n := 120) (N := 120) (by decide +kernel) (by decide +kernel) (Nat.le_of_ble_eq_true rfl) (Nat.le_of_ble_eq_true rfl) (Nat.le_of_ble_eq_true rfl) dX10_init_76 (fun q9 H hP hD hS => ?_)
  have hP : va_P D vwCl [(h0, .inr (10, [.int 0, .int 0, .ref q1, .ref q2, .ref q3, .ref q4, .long 0, .int 4, .int 0, .int 0, .ref q5, .ref q6, .ref q7, .ref q8, .null, .null, .null, .int 0, .null, .null, .null, .int 0, .null, .null, .null, .long 0, .null, .null, .null, .null, .null, .null, .null, .null, .null, .null, .int 0, .int 0, .int 0, .null, .null, .null, .null, .null, .int 0])), (q1, ci_i Y 40), (q2, ci_i Y 40), (q3, ci_i Y 120), (q4, ci_l Y 40), (q5, ci_z Y 40), (q6, ci_i Y 40), (q7, ci_l Y 40), (q8, ci_i Y 40), (q9, ci_i Y 120)] H := hP
  have hD : va_D (va_A (ciw10 h0) s.heap.size) [(h0, .inr (10, [.int 0, .int 0, .ref q1, .ref q2, .ref q3, .ref q4, .long 0, .int 4, .int 0, .int 0, .ref q5, .ref q6, .ref q7, .ref q8, .null, .null, .null, .int 0, .null, .null, .null, .int 0, .null, .null, .null, .long 0, .null, .null, .null, .null, .null, .null, .null, .null, .null, .null, .int 0, .int 0, .int 0, .null, .null, .null, .null, .null, .int 0])), (q1, ci_i Y 40), (q2, ci_i Y 40), (q3, ci_i Y 120), (q4, ci_l Y 40), (q5, ci_z Y 40), (q6, ci_i Y 40), (q7, ci_l Y 40), (q8, ci_i Y 40), (q9, ci_i Y 120)] := hD
  refine ci_putF hc hin (o := 10) (idx := 40) (ci := 10) (k := 14) (List.mem_of_getElem? (i := 124) rfl) (r := (RX10, TX10, 45)) rfl rfl rfl hP hD hS 0 rfl rfl (ty := .array .int) (v := .ref q9) (by decide +kernel) rfl rfl (Nat.le_of_ble_eq_true rfl) dX10_init_78 (fun H locs hP hD hS => ?_)
  have hP : va_P D vwCl [(h0, .inr (10, [.int 0, .int 0, .ref q1, .ref q2, .ref q3, .ref q4, .long 0, .int 4, .int 0, .int 0, .ref q5, .ref q6, .ref q7, .ref q8, .ref q9, .null, .null, .int 0, .null, .null, .null, .int 0, .null, .null, .null, .long 0, .null, .null, .null, .null, .null, .null, .null, .null, .null, .null, .int 0, .int 0, .int 0, .null, .null, .null, .null, .null, .int 0])), (q1, ci_i Y 40), (q2, ci_i Y 40), (q3, ci_i Y 120), (q4, ci_l Y 40), (q5, ci_z Y 40), (q6, ci_i Y 40), (q7, ci_l Y 40), (q8, ci_i Y 40), (q9, ci_i Y 120)] H := hP
  have hD : va_D (va_A (ciw10 h0) s.heap.size) [(h0, .inr (10, [.int 0, .int 0, .ref q1, .ref q2, .ref q3, .ref q4, .long 0, .int 4, .int 0, .int 0, .ref q5, .ref q6, .ref q7, .ref q8, .ref q9, .null, .null, .int 0, .null, .null, .null, .int 0, .null, .null, .null, .long 0, .null, .null, .null, .null, .null, .null, .null, .null, .null, .null, .int 0, .int 0, .int 0, .null, .null, .null, .null, .null, .int 0])), (q1, ci_i Y 40), (q2, ci_i Y 40), (q3, ci_i Y 120), (q4, ci_l Y 40), (q5, ci_z Y 40), (q6, ci_i Y 40), (q7, ci_l Y 40), (q8, ci_i Y 40), (q9, ci_i Y 120)] := hD
  refine lv_aload_n hx hb dX10_init_81 rfl (lv_at hl 0 rfl) ?_
  refine lv_bipush (v := 80) hx hb dX10_init_82 (by decide +kernel) ?_
  refine ci_newI hc hP hD hS (n := 80) (N := 80) (by decide +kernel) (by decide +kernel) (Nat.le_of_ble_eq_true rfl) (Nat.le_of_ble_eq_true rfl) (Nat.le_of_ble_eq_true rfl) dX10_init_84 (fun q10 H hP hD hS => ?_)
  have hP : va_P D vwCl [(h0, .inr (10, [.int 0, .int 0, .ref q1, .ref q2, .ref q3, .ref q4, .long 0, .int 4, .int 0, .int 0, .ref q5, .ref q6, .ref q7, .ref q8, .ref q9, .null, .null, .int 0, .null, .null, .null, .int 0, .null, .null, .null, .long 0, .null, .null, .null, .null, .null, .null, .null, .null, .null, .null, .int 0, .int 0, .int 0, .null, .null, .null, .null, .null, .int 0])), (q1, ci_i Y 40), (q2, ci_i Y 40), (q3, ci_i Y 120), (q4, ci_l Y 40), (q5, ci_z Y 40), (q6, ci_i Y 40), (q7, ci_l Y 40), (q8, ci_i Y 40), (q9, ci_i Y 120), (q10, ci_i Y 80)] H := hP
  have hD : va_D (va_A (ciw10 h0) s.heap.size) [(h0, .inr (10, [.int 0, .int 0, .ref q1, .ref q2, .ref q3, .ref q4, .long 0, .int 4, .int 0, .int 0, .ref q5, .ref q6, .ref q7, .ref q8, .ref q9, .null, .null, .int 0, .null, .null, .null, .int 0, .null, .null, .null, .long 0, .null, .null, .null, .null, .null, .null, .null, .null, .null, .null, .int 0, .int 0, .int 0, .null, .null, .null, .null, .null, .int 0])), (q1, ci_i Y 40), (q2, ci_i Y 40), (q3, ci_i Y 120), (q4, ci_l Y 40), (q5, ci_z Y 40), (q6, ci_i Y 40), (q7, ci_l Y 40), (q8, ci_i Y 40), (q9, ci_i Y 120), (q10, ci_i Y 80)] := hD
  refine ci_putF hc hin (o := 10) (idx := 43) (ci := 10) (k := 15) (List.mem_of_getElem? (i := 125) rfl) (r := (RX10, TX10, 45)) rfl rfl rfl hP hD hS 0 rfl rfl (ty := .array .int) (v := .ref q10) (by decide +kernel) rfl rfl (Nat.le_of_ble_eq_true rfl) dX10_init_86 (fun H locs hP hD hS => ?_)
  have hP : va_P D vwCl [(h0, .inr (10, [.int 0, .int 0, .ref q1, .ref q2, .ref q3, .ref q4, .long 0, .int 4, .int 0, .int 0, .ref q5, .ref q6, .ref q7, .ref q8, .ref q9, .ref q10, .null, .int 0, .null, .null, .null, .int 0, .null, .null, .null, .long 0, .null, .null, .null, .null, .null, .null, .null, .null, .null, .null, .int 0, .int 0, .int 0, .null, .null, .null, .null, .null, .int 0])), (q1, ci_i Y 40), (q2, ci_i Y 40), (q3, ci_i Y 120), (q4, ci_l Y 40), (q5, ci_z Y 40), (q6, ci_i Y 40), (q7, ci_l Y 40), (q8, ci_i Y 40), (q9, ci_i Y 120), (q10, ci_i Y 80)] H := hP
  have hD : va_D (va_A (ciw10 h0) s.heap.size) [(h0, .inr (10, [.int 0, .int 0, .ref q1, .ref q2, .ref q3, .ref q4, .long 0, .int 4, .int 0, .int 0, .ref q5, .ref q6, .ref q7, .ref q8, .ref q9, .ref q10, .null, .int 0, .null, .null, .null, .int 0, .null, .null, .null, .long 0, .null, .null, .null, .null, .null, .null, .null, .null, .null, .null, .int 0, .int 0, .int 0, .null, .null, .null, .null, .null, .int 0])), (q1, ci_i Y 40), (q2, ci_i Y 40), (q3, ci_i Y 120), (q4, ci_l Y 40), (q5, ci_z Y 40), (q6, ci_i Y 40), (q7, ci_l Y 40), (q8, ci_i Y 40), (q9, ci_i Y 120), (q10, ci_i Y 80)] := hD
  refine lv_aload_n hx hb dX10_init_89 rfl (lv_at hl 0 rfl) ?_
  refine lv_bipush (v := 80) hx hb dX10_init_90 (by decide +kernel) ?_
  refine ci_newI hc hP hD hS (n := 80) (N := 80) (by decide +kernel) (by decide +kernel) (Nat.le_of_ble_eq_true rfl) (Nat.le_of_ble_eq_true rfl) (Nat.le_of_ble_eq_true rfl) dX10_init_92 (fun q11 H hP hD hS => ?_)
  have hP : va_P D vwCl [(h0, .inr (10, [.int 0, .int 0, .ref q1, .ref q2, .ref q3, .ref q4, .long 0, .int 4, .int 0, .int 0, .ref q5, .ref q6, .ref q7, .ref q8, .ref q9, .ref q10, .null, .int 0, .null, .null, .null, .int 0, .null, .null, .null, .long 0, .null, .null, .null, .null, .null, .null, .null, .null, .null, .null, .int 0, .int 0, .int 0, .null, .null, .null, .null, .null, .int 0])), (q1, ci_i Y 40), (q2, ci_i Y 40), (q3, ci_i Y 120), (q4, ci_l Y 40), (q5, ci_z Y 40), (q6, ci_i Y 40), (q7, ci_l Y 40), (q8, ci_i Y 40), (q9, ci_i Y 120), (q10, ci_i Y 80), (q11, ci_i Y 80)] H := hP
  have hD : va_D (va_A (ciw10 h0) s.heap.size) [(h0, .inr (10, [.int 0, .int 0, .ref q1, .ref q2, .ref q3, .ref q4, .long 0, .int 4, .int 0, .int 0, .ref q5, .ref q6, .ref q7, .ref q8, .ref q9, .ref q10, .null, .int 0, .null, .null, .null, .int 0, .null, .null, .null, .long 0, .null, .null, .null, .null, .null, .null, .null, .null, .null, .null, .int 0, .int 0, .int 0, .null, .null, .null, .null, .null, .int 0])), (q1, ci_i Y 40), (q2, ci_i Y 40), (q3, ci_i Y 120), (q4, ci_l Y 40), (q5, ci_z Y 40), (q6, ci_i Y 40), (q7, ci_l Y 40), (q8, ci_i Y 40), (q9, ci_i Y 120), (q10, ci_i Y 80), (q11, ci_i Y 80)] := hD
  refine ci_putF hc hin (o := 10) (idx := 46) (ci := 10) (k := 16) (List.mem_of_getElem? (i := 126) rfl) (r := (RX10, TX10, 45)) rfl rfl rfl hP hD hS 0 rfl rfl (ty := .array .int) (v := .ref q11) (by decide +kernel) rfl rfl (Nat.le_of_ble_eq_true rfl) dX10_init_94 (fun H locs hP hD hS => ?_)
  have hP : va_P D vwCl [(h0, .inr (10, [.int 0, .int 0, .ref q1, .ref q2, .ref q3, .ref q4, .long 0, .int 4, .int 0, .int 0, .ref q5, .ref q6, .ref q7, .ref q8, .ref q9, .ref q10, .ref q11, .int 0, .null, .null, .null, .int 0, .null, .null, .null, .long 0, .null, .null, .null, .null, .null, .null, .null, .null, .null, .null, .int 0, .int 0, .int 0, .null, .null, .null, .null, .null, .int 0])), (q1, ci_i Y 40), (q2, ci_i Y 40), (q3, ci_i Y 120), (q4, ci_l Y 40), (q5, ci_z Y 40), (q6, ci_i Y 40), (q7, ci_l Y 40), (q8, ci_i Y 40), (q9, ci_i Y 120), (q10, ci_i Y 80), (q11, ci_i Y 80)] H := hP
  have hD : va_D (va_A (ciw10 h0) s.heap.size) [(h0, .inr (10, [.int 0, .int 0, .ref q1, .ref q2, .ref q3, .ref q4, .long 0, .int 4, .int 0, .int 0, .ref q5, .ref q6, .ref q7, .ref q8, .ref q9, .ref q10, .ref q11, .int 0, .null, .null, .null, .int 0, .null, .null, .null, .long 0, .null, .null, .null, .null, .null, .null, .null, .null, .null, .null, .int 0, .int 0, .int 0, .null, .null, .null, .null, .null, .int 0])), (q1, ci_i Y 40), (q2, ci_i Y 40), (q3, ci_i Y 120), (q4, ci_l Y 40), (q5, ci_z Y 40), (q6, ci_i Y 40), (q7, ci_l Y 40), (q8, ci_i Y 40), (q9, ci_i Y 120), (q10, ci_i Y 80), (q11, ci_i Y 80)] := hD
  refine lv_aload_n hx hb dX10_init_97 rfl (lv_at hl 0 rfl) ?_
  refine lv_sipush (v := 320) hx hb dX10_init_98 (by decide +kernel) ?_
  refine ci_newL hc hP hD hS (n := 320) (N := 320) (by decide +kernel) (by decide +kernel) (Nat.le_of_ble_eq_true rfl) (Nat.le_of_ble_eq_true rfl) (Nat.le_of_ble_eq_true rfl) dX10_init_101 (fun q12 H hP hD hS => ?_)
  have hP : va_P D vwCl [(h0, .inr (10, [.int 0, .int 0, .ref q1, .ref q2, .ref q3, .ref q4, .long 0, .int 4, .int 0, .int 0, .ref q5, .ref q6, .ref q7, .ref q8, .ref q9, .ref q10, .ref q11, .int 0, .null, .null, .null, .int 0, .null, .null, .null, .long 0, .null, .null, .null, .null, .null, .null, .null, .null, .null, .null, .int 0, .int 0, .int 0, .null, .null, .null, .null, .null, .int 0])), (q1, ci_i Y 40), (q2, ci_i Y 40), (q3, ci_i Y 120), (q4, ci_l Y 40), (q5, ci_z Y 40), (q6, ci_i Y 40), (q7, ci_l Y 40), (q8, ci_i Y 40), (q9, ci_i Y 120), (q10, ci_i Y 80), (q11, ci_i Y 80), (q12, ci_l Y 320)] H := hP
  have hD : va_D (va_A (ciw10 h0) s.heap.size) [(h0, .inr (10, [.int 0, .int 0, .ref q1, .ref q2, .ref q3, .ref q4, .long 0, .int 4, .int 0, .int 0, .ref q5, .ref q6, .ref q7, .ref q8, .ref q9, .ref q10, .ref q11, .int 0, .null, .null, .null, .int 0, .null, .null, .null, .long 0, .null, .null, .null, .null, .null, .null, .null, .null, .null, .null, .int 0, .int 0, .int 0, .null, .null, .null, .null, .null, .int 0])), (q1, ci_i Y 40), (q2, ci_i Y 40), (q3, ci_i Y 120), (q4, ci_l Y 40), (q5, ci_z Y 40), (q6, ci_i Y 40), (q7, ci_l Y 40), (q8, ci_i Y 40), (q9, ci_i Y 120), (q10, ci_i Y 80), (q11, ci_i Y 80), (q12, ci_l Y 320)] := hD
  refine ci_putF hc hin (o := 10) (idx := 49) (ci := 10) (k := 18) (List.mem_of_getElem? (i := 127) rfl) (r := (RX10, TX10, 45)) rfl rfl rfl hP hD hS 0 rfl rfl (ty := .array .long) (v := .ref q12) (by decide +kernel) rfl rfl (Nat.le_of_ble_eq_true rfl) dX10_init_103 (fun H locs hP hD hS => ?_)
  have hP : va_P D vwCl [(h0, .inr (10, [.int 0, .int 0, .ref q1, .ref q2, .ref q3, .ref q4, .long 0, .int 4, .int 0, .int 0, .ref q5, .ref q6, .ref q7, .ref q8, .ref q9, .ref q10, .ref q11, .int 0, .ref q12, .null, .null, .int 0, .null, .null, .null, .long 0, .null, .null, .null, .null, .null, .null, .null, .null, .null, .null, .int 0, .int 0, .int 0, .null, .null, .null, .null, .null, .int 0])), (q1, ci_i Y 40), (q2, ci_i Y 40), (q3, ci_i Y 120), (q4, ci_l Y 40), (q5, ci_z Y 40), (q6, ci_i Y 40), (q7, ci_l Y 40), (q8, ci_i Y 40), (q9, ci_i Y 120), (q10, ci_i Y 80), (q11, ci_i Y 80), (q12, ci_l Y 320)] H := hP
  have hD : va_D (va_A (ciw10 h0) s.heap.size) [(h0, .inr (10, [.int 0, .int 0, .ref q1, .ref q2, .ref q3, .ref q4, .long 0, .int 4, .int 0, .int 0, .ref q5, .ref q6, .ref q7, .ref q8, .ref q9, .ref q10, .ref q11, .int 0, .ref q12, .null, .null, .int 0, .null, .null, .null, .long 0, .null, .null, .null, .null, .null, .null, .null, .null, .null, .null, .int 0, .int 0, .int 0, .null, .null, .null, .null, .null, .int 0])), (q1, ci_i Y 40), (q2, ci_i Y 40), (q3, ci_i Y 120), (q4, ci_l Y 40), (q5, ci_z Y 40), (q6, ci_i Y 40), (q7, ci_l Y 40), (q8, ci_i Y 40), (q9, ci_i Y 120), (q10, ci_i Y 80), (q11, ci_i Y 80), (q12, ci_l Y 320)] := hD
  refine lv_aload_n hx hb dX10_init_106 rfl (lv_at hl 0 rfl) ?_
  refine lv_bipush (v := 40) hx hb dX10_init_107 (by decide +kernel) ?_
  refine ci_newI hc hP hD hS (n := 40) (N := 40) (by decide +kernel) (by decide +kernel) (Nat.le_of_ble_eq_true rfl) (Nat.le_of_ble_eq_true rfl) (Nat.le_of_ble_eq_true rfl) dX10_init_109 (fun q13 H hP hD hS => ?_)
  have hP : va_P D vwCl [(h0, .inr (10, [.int 0, .int 0, .ref q1, .ref q2, .ref q3, .ref q4, .long 0, .int 4, .int 0, .int 0, .ref q5, .ref q6, .ref q7, .ref q8, .ref q9, .ref q10, .ref q11, .int 0, .ref q12, .null, .null, .int 0, .null, .null, .null, .long 0, .null, .null, .null, .null, .null, .null, .null, .null, .null, .null, .int 0, .int 0, .int 0, .null, .null, .null, .null, .null, .int 0])), (q1, ci_i Y 40), (q2, ci_i Y 40), (q3, ci_i Y 120), (q4, ci_l Y 40), (q5, ci_z Y 40), (q6, ci_i Y 40), (q7, ci_l Y 40), (q8, ci_i Y 40), (q9, ci_i Y 120), (q10, ci_i Y 80), (q11, ci_i Y 80), (q12, ci_l Y 320), (q13, ci_i Y 40)] H := hP
  have hD : va_D (va_A (ciw10 h0) s.heap.size) [(h0, .inr (10, [.int 0, .int 0, .ref q1, .ref q2, .ref q3, .ref q4, .long 0, .int 4, .int 0, .int 0, .ref q5, .ref q6, .ref q7, .ref q8, .ref q9, .ref q10, .ref q11, .int 0, .ref q12, .null, .null, .int 0, .null, .null, .null, .long 0, .null, .null, .null, .null, .null, .null, .null, .null, .null, .null, .int 0, .int 0, .int 0, .null, .null, .null, .null, .null, .int 0])), (q1, ci_i Y 40), (q2, ci_i Y 40), (q3, ci_i Y 120), (q4, ci_l Y 40), (q5, ci_z Y 40), (q6, ci_i Y 40), (q7, ci_l Y 40), (q8, ci_i Y 40), (q9, ci_i Y 120), (q10, ci_i Y 80), (q11, ci_i Y 80), (q12, ci_l Y 320), (q13, ci_i Y 40)] := hD
  refine ci_putF hc hin (o := 10) (idx := 52) (ci := 10) (k := 19) (List.mem_of_getElem? (i := 128) rfl) (r := (RX10, TX10, 45)) rfl rfl rfl hP hD hS 0 rfl rfl (ty := .array .int) (v := .ref q13) (by decide +kernel) rfl rfl (Nat.le_of_ble_eq_true rfl) dX10_init_111 (fun H locs hP hD hS => ?_)
  have hP : va_P D vwCl [(h0, .inr (10, [.int 0, .int 0, .ref q1, .ref q2, .ref q3, .ref q4, .long 0, .int 4, .int 0, .int 0, .ref q5, .ref q6, .ref q7, .ref q8, .ref q9, .ref q10, .ref q11, .int 0, .ref q12, .ref q13, .null, .int 0, .null, .null, .null, .long 0, .null, .null, .null, .null, .null, .null, .null, .null, .null, .null, .int 0, .int 0, .int 0, .null, .null, .null, .null, .null, .int 0])), (q1, ci_i Y 40), (q2, ci_i Y 40), (q3, ci_i Y 120), (q4, ci_l Y 40), (q5, ci_z Y 40), (q6, ci_i Y 40), (q7, ci_l Y 40), (q8, ci_i Y 40), (q9, ci_i Y 120), (q10, ci_i Y 80), (q11, ci_i Y 80), (q12, ci_l Y 320), (q13, ci_i Y 40)] H := hP
  have hD : va_D (va_A (ciw10 h0) s.heap.size) [(h0, .inr (10, [.int 0, .int 0, .ref q1, .ref q2, .ref q3, .ref q4, .long 0, .int 4, .int 0, .int 0, .ref q5, .ref q6, .ref q7, .ref q8, .ref q9, .ref q10, .ref q11, .int 0, .ref q12, .ref q13, .null, .int 0, .null, .null, .null, .long 0, .null, .null, .null, .null, .null, .null, .null, .null, .null, .null, .int 0, .int 0, .int 0, .null, .null, .null, .null, .null, .int 0])), (q1, ci_i Y 40), (q2, ci_i Y 40), (q3, ci_i Y 120), (q4, ci_l Y 40), (q5, ci_z Y 40), (q6, ci_i Y 40), (q7, ci_l Y 40), (q8, ci_i Y 40), (q9, ci_i Y 120), (q10, ci_i Y 80), (q11, ci_i Y 80), (q12, ci_l Y 320), (q13, ci_i Y 40)] := hD
  refine lv_aload_n hx hb dX10_init_114 rfl (lv_at hl 0 rfl) ?_
  refine lv_sipush (v := 800) hx hb dX10_init_115 (by decide +kernel) ?_
  refine ci_newL hc hP hD hS (n := 800) (N := 800) (by decide +kernel) (by decide +kernel) (Nat.le_of_ble_eq_true rfl) (Nat.le_of_ble_eq_true rfl) (Nat.le_of_ble_eq_true rfl) dX10_init_118 (fun q14 H hP hD hS => ?_)
  have hP : va_P D vwCl [(h0, .inr (10, [.int 0, .int 0, .ref q1, .ref q2, .ref q3, .ref q4, .long 0, .int 4, .int 0, .int 0, .ref q5, .ref q6, .ref q7, .ref q8, .ref q9, .ref q10, .ref q11, .int 0, .ref q12, .ref q13, .null, .int 0, .null, .null, .null, .long 0, .null, .null, .null, .null, .null, .null, .null, .null, .null, .null, .int 0, .int 0, .int 0, .null, .null, .null, .null, .null, .int 0])), (q1, ci_i Y 40), (q2, ci_i Y 40), (q3, ci_i Y 120), (q4, ci_l Y 40), (q5, ci_z Y 40), (q6, ci_i Y 40), (q7, ci_l Y 40), (q8, ci_i Y 40), (q9, ci_i Y 120), (q10, ci_i Y 80), (q11, ci_i Y 80), (q12, ci_l Y 320), (q13, ci_i Y 40), (q14, ci_l Y 800)] H := hP
  have hD : va_D (va_A (ciw10 h0) s.heap.size) [(h0, .inr (10, [.int 0, .int 0, .ref q1, .ref q2, .ref q3, .ref q4, .long 0, .int 4, .int 0, .int 0, .ref q5, .ref q6, .ref q7, .ref q8, .ref q9, .ref q10, .ref q11, .int 0, .ref q12, .ref q13, .null, .int 0, .null, .null, .null, .long 0, .null, .null, .null, .null, .null, .null, .null, .null, .null, .null, .int 0, .int 0, .int 0, .null, .null, .null, .null, .null, .int 0])), (q1, ci_i Y 40), (q2, ci_i Y 40), (q3, ci_i Y 120), (q4, ci_l Y 40), (q5, ci_z Y 40), (q6, ci_i Y 40), (q7, ci_l Y 40), (q8, ci_i Y 40), (q9, ci_i Y 120), (q10, ci_i Y 80), (q11, ci_i Y 80), (q12, ci_l Y 320), (q13, ci_i Y 40), (q14, ci_l Y 800)] := hD
  refine ci_putF hc hin (o := 10) (idx := 55) (ci := 10) (k := 20) (List.mem_of_getElem? (i := 129) rfl) (r := (RX10, TX10, 45)) rfl rfl rfl hP hD hS 0 rfl rfl (ty := .array .long) (v := .ref q14) (by decide +kernel) rfl rfl (Nat.le_of_ble_eq_true rfl) dX10_init_120 (fun H locs hP hD hS => ?_)
  have hP : va_P D vwCl [(h0, .inr (10, [.int 0, .int 0, .ref q1, .ref q2, .ref q3, .ref q4, .long 0, .int 4, .int 0, .int 0, .ref q5, .ref q6, .ref q7, .ref q8, .ref q9, .ref q10, .ref q11, .int 0, .ref q12, .ref q13, .ref q14, .int 0, .null, .null, .null, .long 0, .null, .null, .null, .null, .null, .null, .null, .null, .null, .null, .int 0, .int 0, .int 0, .null, .null, .null, .null, .null, .int 0])), (q1, ci_i Y 40), (q2, ci_i Y 40), (q3, ci_i Y 120), (q4, ci_l Y 40), (q5, ci_z Y 40), (q6, ci_i Y 40), (q7, ci_l Y 40), (q8, ci_i Y 40), (q9, ci_i Y 120), (q10, ci_i Y 80), (q11, ci_i Y 80), (q12, ci_l Y 320), (q13, ci_i Y 40), (q14, ci_l Y 800)] H := hP
  have hD : va_D (va_A (ciw10 h0) s.heap.size) [(h0, .inr (10, [.int 0, .int 0, .ref q1, .ref q2, .ref q3, .ref q4, .long 0, .int 4, .int 0, .int 0, .ref q5, .ref q6, .ref q7, .ref q8, .ref q9, .ref q10, .ref q11, .int 0, .ref q12, .ref q13, .ref q14, .int 0, .null, .null, .null, .long 0, .null, .null, .null, .null, .null, .null, .null, .null, .null, .null, .int 0, .int 0, .int 0, .null, .null, .null, .null, .null, .int 0])), (q1, ci_i Y 40), (q2, ci_i Y 40), (q3, ci_i Y 120), (q4, ci_l Y 40), (q5, ci_z Y 40), (q6, ci_i Y 40), (q7, ci_l Y 40), (q8, ci_i Y 40), (q9, ci_i Y 120), (q10, ci_i Y 80), (q11, ci_i Y 80), (q12, ci_l Y 320), (q13, ci_i Y 40), (q14, ci_l Y 800)] := hD
  refine lv_aload_n hx hb dX10_init_123 rfl (lv_at hl 0 rfl) ?_
  refine lv_bipush (v := 40) hx hb dX10_init_124 (by decide +kernel) ?_
  refine ci_newL hc hP hD hS (n := 40) (N := 40) (by decide +kernel) (by decide +kernel) (Nat.le_of_ble_eq_true rfl) (Nat.le_of_ble_eq_true rfl) (Nat.le_of_ble_eq_true rfl) dX10_init_126 (fun q15 H hP hD hS => ?_)
  have hP : va_P D vwCl [(h0, .inr (10, [.int 0, .int 0, .ref q1, .ref q2, .ref q3, .ref q4, .long 0, .int 4, .int 0, .int 0, .ref q5, .ref q6, .ref q7, .ref q8, .ref q9, .ref q10, .ref q11, .int 0, .ref q12, .ref q13, .ref q14, .int 0, .null, .null, .null, .long 0, .null, .null, .null, .null, .null, .null, .null, .null, .null, .null, .int 0, .int 0, .int 0, .null, .null, .null, .null, .null, .int 0])), (q1, ci_i Y 40), (q2, ci_i Y 40), (q3, ci_i Y 120), (q4, ci_l Y 40), (q5, ci_z Y 40), (q6, ci_i Y 40), (q7, ci_l Y 40), (q8, ci_i Y 40), (q9, ci_i Y 120), (q10, ci_i Y 80), (q11, ci_i Y 80), (q12, ci_l Y 320), (q13, ci_i Y 40), (q14, ci_l Y 800), (q15, ci_l Y 40)] H := hP
  have hD : va_D (va_A (ciw10 h0) s.heap.size) [(h0, .inr (10, [.int 0, .int 0, .ref q1, .ref q2, .ref q3, .ref q4, .long 0, .int 4, .int 0, .int 0, .ref q5, .ref q6, .ref q7, .ref q8, .ref q9, .ref q10, .ref q11, .int 0, .ref q12, .ref q13, .ref q14, .int 0, .null, .null, .null, .long 0, .null, .null, .null, .null, .null, .null, .null, .null, .null, .null, .int 0, .int 0, .int 0, .null, .null, .null, .null, .null, .int 0])), (q1, ci_i Y 40), (q2, ci_i Y 40), (q3, ci_i Y 120), (q4, ci_l Y 40), (q5, ci_z Y 40), (q6, ci_i Y 40), (q7, ci_l Y 40), (q8, ci_i Y 40), (q9, ci_i Y 120), (q10, ci_i Y 80), (q11, ci_i Y 80), (q12, ci_l Y 320), (q13, ci_i Y 40), (q14, ci_l Y 800), (q15, ci_l Y 40)] := hD
  refine ci_putF hc hin (o := 10) (idx := 58) (ci := 10) (k := 22) (List.mem_of_getElem? (i := 130) rfl) (r := (RX10, TX10, 45)) rfl rfl rfl hP hD hS 0 rfl rfl (ty := .array .long) (v := .ref q15) (by decide +kernel) rfl rfl (Nat.le_of_ble_eq_true rfl) dX10_init_128 (fun H locs hP hD hS => ?_)
  have hP : va_P D vwCl [(h0, .inr (10, [.int 0, .int 0, .ref q1, .ref q2, .ref q3, .ref q4, .long 0, .int 4, .int 0, .int 0, .ref q5, .ref q6, .ref q7, .ref q8, .ref q9, .ref q10, .ref q11, .int 0, .ref q12, .ref q13, .ref q14, .int 0, .ref q15, .null, .null, .long 0, .null, .null, .null, .null, .null, .null, .null, .null, .null, .null, .int 0, .int 0, .int 0, .null, .null, .null, .null, .null, .int 0])), (q1, ci_i Y 40), (q2, ci_i Y 40), (q3, ci_i Y 120), (q4, ci_l Y 40), (q5, ci_z Y 40), (q6, ci_i Y 40), (q7, ci_l Y 40), (q8, ci_i Y 40), (q9, ci_i Y 120), (q10, ci_i Y 80), (q11, ci_i Y 80), (q12, ci_l Y 320), (q13, ci_i Y 40), (q14, ci_l Y 800), (q15, ci_l Y 40)] H := hP
  have hD : va_D (va_A (ciw10 h0) s.heap.size) [(h0, .inr (10, [.int 0, .int 0, .ref q1, .ref q2, .ref q3, .ref q4, .long 0, .int 4, .int 0, .int 0, .ref q5, .ref q6, .ref q7, .ref q8, .ref q9, .ref q10, .ref q11, .int 0, .ref q12, .ref q13, .ref q14, .int 0, .ref q15, .null, .null, .long 0, .null, .null, .null, .null, .null, .null, .null, .null, .null, .null, .int 0, .int 0, .int 0, .null, .null, .null, .null, .null, .int 0])), (q1, ci_i Y 40), (q2, ci_i Y 40), (q3, ci_i Y 120), (q4, ci_l Y 40), (q5, ci_z Y 40), (q6, ci_i Y 40), (q7, ci_l Y 40), (q8, ci_i Y 40), (q9, ci_i Y 120), (q10, ci_i Y 80), (q11, ci_i Y 80), (q12, ci_l Y 320), (q13, ci_i Y 40), (q14, ci_l Y 800), (q15, ci_l Y 40)] := hD
  refine lv_aload_n hx hb dX10_init_131 rfl (lv_at hl 0 rfl) ?_
  refine lv_bipush (v := 40) hx hb dX10_init_132 (by decide +kernel) ?_
  refine ci_newI hc hP hD hS (n := 40) (N := 40) (by decide +kernel) (by decide +kernel) (Nat.le_of_ble_eq_true rfl) (Nat.le_of_ble_eq_true rfl) (Nat.le_of_ble_eq_true rfl) dX10_init_134 (fun q16 H hP hD hS => ?_)
  have hP : va_P D vwCl [(h0, .inr (10, [.int 0, .int 0, .ref q1, .ref q2, .ref q3, .ref q4, .long 0, .int 4, .int 0, .int 0, .ref q5, .ref q6, .ref q7, .ref q8, .ref q9, .ref q10, .ref q11, .int 0, .ref q12, .ref q13, .ref q14, .int 0, .ref q15, .null, .null, .long 0, .null, .null, .null, .null, .null, .null, .null, .null, .null, .null, .int 0, .int 0, .int 0, .null, .null, .null, .null, .null, .int 0])), (q1, ci_i Y 40), (q2, ci_i Y 40), (q3, ci_i Y 120), (q4, ci_l Y 40), (q5, ci_z Y 40), (q6, ci_i Y 40), (q7, ci_l Y 40), (q8, ci_i Y 40), (q9, ci_i Y 120), (q10, ci_i Y 80), (q11, ci_i Y 80), (q12, ci_l Y 320), (q13, ci_i Y 40), (q14, ci_l Y 800), (q15, ci_l Y 40), (q16, ci_i Y 40)] H := hP
  have hD : va_D (va_A (ciw10 h0) s.heap.size) [(h0, .inr (10, [.int 0, .int 0, .ref q1, .ref q2, .ref q3, .ref q4, .long 0, .int 4, .int 0, .int 0, .ref q5, .ref q6, .ref q7, .ref q8, .ref q9, .ref q10, .ref q11, .int 0, .ref q12, .ref q13, .ref q14, .int 0, .ref q15, .null, .null, .long 0, .null, .null, .null, .null, .null, .null, .null, .null, .null, .null, .int 0, .int 0, .int 0, .null, .null, .null, .null, .null, .int 0])), (q1, ci_i Y 40), (q2, ci_i Y 40), (q3, ci_i Y 120), (q4, ci_l Y 40), (q5, ci_z Y 40), (q6, ci_i Y 40), (q7, ci_l Y 40), (q8, ci_i Y 40), (q9, ci_i Y 120), (q10, ci_i Y 80), (q11, ci_i Y 80), (q12, ci_l Y 320), (q13, ci_i Y 40), (q14, ci_l Y 800), (q15, ci_l Y 40), (q16, ci_i Y 40)] := hD
  refine ci_putF hc hin (o := 10) (idx := 61) (ci := 10) (k := 23) (List.mem_of_getElem? (i := 131) rfl) (r := (RX10, TX10, 45)) rfl rfl rfl hP hD hS 0 rfl rfl (ty := .array .int) (v := .ref q16) (by decide +kernel) rfl rfl (Nat.le_of_ble_eq_true rfl) dX10_init_136 (fun H locs hP hD hS => ?_)
  have hP : va_P D vwCl [(h0, .inr (10, [.int 0, .int 0, .ref q1, .ref q2, .ref q3, .ref q4, .long 0, .int 4, .int 0, .int 0, .ref q5, .ref q6, .ref q7, .ref q8, .ref q9, .ref q10, .ref q11, .int 0, .ref q12, .ref q13, .ref q14, .int 0, .ref q15, .ref q16, .null, .long 0, .null, .null, .null, .null, .null, .null, .null, .null, .null, .null, .int 0, .int 0, .int 0, .null, .null, .null, .null, .null, .int 0])), (q1, ci_i Y 40), (q2, ci_i Y 40), (q3, ci_i Y 120), (q4, ci_l Y 40), (q5, ci_z Y 40), (q6, ci_i Y 40), (q7, ci_l Y 40), (q8, ci_i Y 40), (q9, ci_i Y 120), (q10, ci_i Y 80), (q11, ci_i Y 80), (q12, ci_l Y 320), (q13, ci_i Y 40), (q14, ci_l Y 800), (q15, ci_l Y 40), (q16, ci_i Y 40)] H := hP
  have hD : va_D (va_A (ciw10 h0) s.heap.size) [(h0, .inr (10, [.int 0, .int 0, .ref q1, .ref q2, .ref q3, .ref q4, .long 0, .int 4, .int 0, .int 0, .ref q5, .ref q6, .ref q7, .ref q8, .ref q9, .ref q10, .ref q11, .int 0, .ref q12, .ref q13, .ref q14, .int 0, .ref q15, .ref q16, .null, .long 0, .null, .null, .null, .null, .null, .null, .null, .null, .null, .null, .int 0, .int 0, .int 0, .null, .null, .null, .null, .null, .int 0])), (q1, ci_i Y 40), (q2, ci_i Y 40), (q3, ci_i Y 120), (q4, ci_l Y 40), (q5, ci_z Y 40), (q6, ci_i Y 40), (q7, ci_l Y 40), (q8, ci_i Y 40), (q9, ci_i Y 120), (q10, ci_i Y 80), (q11, ci_i Y 80), (q12, ci_l Y 320), (q13, ci_i Y 40), (q14, ci_l Y 800), (q15, ci_l Y 40), (q16, ci_i Y 40)] := hD
  refine lv_aload_n hx hb dX10_init_139 rfl (lv_at hl 0 rfl) ?_
  refine lv_bipush (v := 40) hx hb dX10_init_140 (by decide +kernel) ?_
  refine ci_newI hc hP hD hS (n := 40) (N := 40) (by decide +kernel) (by decide +kernel) (Nat.le_of_ble_eq_true rfl) (Nat.le_of_ble_eq_true rfl) (Nat.le_of_ble_eq_true rfl) dX10_init_142 (fun q17 H hP hD hS => ?_)
  have hP : va_P D vwCl [(h0, .inr (10, [.int 0, .int 0, .ref q1, .ref q2, .ref q3, .ref q4, .long 0, .int 4, .int 0, .int 0, .ref q5, .ref q6, .ref q7, .ref q8, .ref q9, .ref q10, .ref q11, .int 0, .ref q12, .ref q13, .ref q14, .int 0, .ref q15, .ref q16, .null, .long 0, .null, .null, .null, .null, .null, .null, .null, .null, .null, .null, .int 0, .int 0, .int 0, .null, .null, .null, .null, .null, .int 0])), (q1, ci_i Y 40), (q2, ci_i Y 40), (q3, ci_i Y 120), (q4, ci_l Y 40), (q5, ci_z Y 40), (q6, ci_i Y 40), (q7, ci_l Y 40), (q8, ci_i Y 40), (q9, ci_i Y 120), (q10, ci_i Y 80), (q11, ci_i Y 80), (q12, ci_l Y 320), (q13, ci_i Y 40), (q14, ci_l Y 800), (q15, ci_l Y 40), (q16, ci_i Y 40), (q17, ci_i Y 40)] H := hP
  have hD : va_D (va_A (ciw10 h0) s.heap.size) [(h0, .inr (10, [.int 0, .int 0, .ref q1, .ref q2, .ref q3, .ref q4, .long 0, .int 4, .int 0, .int 0, .ref q5, .ref q6, .ref q7, .ref q8, .ref q9, .ref q10, .ref q11, .int 0, .ref q12, .ref q13, .ref q14, .int 0, .ref q15, .ref q16, .null, .long 0, .null, .null, .null, .null, .null, .null, .null, .null, .null, .null, .int 0, .int 0, .int 0, .null, .null, .null, .null, .null, .int 0])), (q1, ci_i Y 40), (q2, ci_i Y 40), (q3, ci_i Y 120), (q4, ci_l Y 40), (q5, ci_z Y 40), (q6, ci_i Y 40), (q7, ci_l Y 40), (q8, ci_i Y 40), (q9, ci_i Y 120), (q10, ci_i Y 80), (q11, ci_i Y 80), (q12, ci_l Y 320), (q13, ci_i Y 40), (q14, ci_l Y 800), (q15, ci_l Y 40), (q16, ci_i Y 40), (q17, ci_i Y 40)] := hD
  refine ci_putF hc hin (o := 10) (idx := 64) (ci := 10) (k := 24) (List.mem_of_getElem? (i := 132) rfl) (r := (RX10, TX10, 45)) rfl rfl rfl hP hD hS 0 rfl rfl (ty := .array .int) (v := .ref q17) (by decide +kernel) rfl rfl (Nat.le_of_ble_eq_true rfl) dX10_init_144 (fun H locs hP hD hS => ?_)
  have hP : va_P D vwCl [(h0, .inr (10, [.int 0, .int 0, .ref q1, .ref q2, .ref q3, .ref q4, .long 0, .int 4, .int 0, .int 0, .ref q5, .ref q6, .ref q7, .ref q8, .ref q9, .ref q10, .ref q11, .int 0, .ref q12, .ref q13, .ref q14, .int 0, .ref q15, .ref q16, .ref q17, .long 0, .null, .null, .null, .null, .null, .null, .null, .null, .null, .null, .int 0, .int 0, .int 0, .null, .null, .null, .null, .null, .int 0])), (q1, ci_i Y 40), (q2, ci_i Y 40), (q3, ci_i Y 120), (q4, ci_l Y 40), (q5, ci_z Y 40), (q6, ci_i Y 40), (q7, ci_l Y 40), (q8, ci_i Y 40), (q9, ci_i Y 120), (q10, ci_i Y 80), (q11, ci_i Y 80), (q12, ci_l Y 320), (q13, ci_i Y 40), (q14, ci_l Y 800), (q15, ci_l Y 40), (q16, ci_i Y 40), (q17, ci_i Y 40)] H := hP
  have hD : va_D (va_A (ciw10 h0) s.heap.size) [(h0, .inr (10, [.int 0, .int 0, .ref q1, .ref q2, .ref q3, .ref q4, .long 0, .int 4, .int 0, .int 0, .ref q5, .ref q6, .ref q7, .ref q8, .ref q9, .ref q10, .ref q11, .int 0, .ref q12, .ref q13, .ref q14, .int 0, .ref q15, .ref q16, .ref q17, .long 0, .null, .null, .null, .null, .null, .null, .null, .null, .null, .null, .int 0, .int 0, .int 0, .null, .null, .null, .null, .null, .int 0])), (q1, ci_i Y 40), (q2, ci_i Y 40), (q3, ci_i Y 120), (q4, ci_l Y 40), (q5, ci_z Y 40), (q6, ci_i Y 40), (q7, ci_l Y 40), (q8, ci_i Y 40), (q9, ci_i Y 120), (q10, ci_i Y 80), (q11, ci_i Y 80), (q12, ci_l Y 320), (q13, ci_i Y 40), (q14, ci_l Y 800), (q15, ci_l Y 40), (q16, ci_i Y 40), (q17, ci_i Y 40)] := hD
  refine lv_aload_n hx hb dX10_init_147 rfl (lv_at hl 0 rfl) ?_
  refine lv_bipush (v := 40) hx hb dX10_init_148 (by decide +kernel) ?_
  refine ci_newZ hc hP hD hS (n := 40) (N := 40) (by decide +kernel) (by decide +kernel) (Nat.le_of_ble_eq_true rfl) (Nat.le_of_ble_eq_true rfl) (Nat.le_of_ble_eq_true rfl) dX10_init_150 (fun q18 H hP hD hS => ?_)
  have hP : va_P D vwCl [(h0, .inr (10, [.int 0, .int 0, .ref q1, .ref q2, .ref q3, .ref q4, .long 0, .int 4, .int 0, .int 0, .ref q5, .ref q6, .ref q7, .ref q8, .ref q9, .ref q10, .ref q11, .int 0, .ref q12, .ref q13, .ref q14, .int 0, .ref q15, .ref q16, .ref q17, .long 0, .null, .null, .null, .null, .null, .null, .null, .null, .null, .null, .int 0, .int 0, .int 0, .null, .null, .null, .null, .null, .int 0])), (q1, ci_i Y 40), (q2, ci_i Y 40), (q3, ci_i Y 120), (q4, ci_l Y 40), (q5, ci_z Y 40), (q6, ci_i Y 40), (q7, ci_l Y 40), (q8, ci_i Y 40), (q9, ci_i Y 120), (q10, ci_i Y 80), (q11, ci_i Y 80), (q12, ci_l Y 320), (q13, ci_i Y 40), (q14, ci_l Y 800), (q15, ci_l Y 40), (q16, ci_i Y 40), (q17, ci_i Y 40), (q18, ci_z Y 40)] H := hP
  have hD : va_D (va_A (ciw10 h0) s.heap.size) [(h0, .inr (10, [.int 0, .int 0, .ref q1, .ref q2, .ref q3, .ref q4, .long 0, .int 4, .int 0, .int 0, .ref q5, .ref q6, .ref q7, .ref q8, .ref q9, .ref q10, .ref q11, .int 0, .ref q12, .ref q13, .ref q14, .int 0, .ref q15, .ref q16, .ref q17, .long 0, .null, .null, .null, .null, .null, .null, .null, .null, .null, .null, .int 0, .int 0, .int 0, .null, .null, .null, .null, .null, .int 0])), (q1, ci_i Y 40), (q2, ci_i Y 40), (q3, ci_i Y 120), (q4, ci_l Y 40), (q5, ci_z Y 40), (q6, ci_i Y 40), (q7, ci_l Y 40), (q8, ci_i Y 40), (q9, ci_i Y 120), (q10, ci_i Y 80), (q11, ci_i Y 80), (q12, ci_l Y 320), (q13, ci_i Y 40), (q14, ci_l Y 800), (q15, ci_l Y 40), (q16, ci_i Y 40), (q17, ci_i Y 40), (q18, ci_z Y 40)] := hD
  refine ci_putF hc hin (o := 10) (idx := 67) (ci := 10) (k := 26) (List.mem_of_getElem? (i := 133) rfl) (r := (RX10, TX10, 45)) rfl rfl rfl hP hD hS 0 rfl rfl (ty := .array .boolean) (v := .ref q18) (by decide +kernel) rfl rfl (Nat.le_of_ble_eq_true rfl) dX10_init_152 (fun H locs hP hD hS => ?_)
  have hP : va_P D vwCl [(h0, .inr (10, [.int 0, .int 0, .ref q1, .ref q2, .ref q3, .ref q4, .long 0, .int 4, .int 0, .int 0, .ref q5, .ref q6, .ref q7, .ref q8, .ref q9, .ref q10, .ref q11, .int 0, .ref q12, .ref q13, .ref q14, .int 0, .ref q15, .ref q16, .ref q17, .long 0, .ref q18, .null, .null, .null, .null, .null, .null, .null, .null, .null, .int 0, .int 0, .int 0, .null, .null, .null, .null, .null, .int 0])), (q1, ci_i Y 40), (q2, ci_i Y 40), (q3, ci_i Y 120), (q4, ci_l Y 40), (q5, ci_z Y 40), (q6, ci_i Y 40), (q7, ci_l Y 40), (q8, ci_i Y 40), (q9, ci_i Y 120), (q10, ci_i Y 80), (q11, ci_i Y 80), (q12, ci_l Y 320), (q13, ci_i Y 40), (q14, ci_l Y 800), (q15, ci_l Y 40), (q16, ci_i Y 40), (q17, ci_i Y 40), (q18, ci_z Y 40)] H := hP
  have hD : va_D (va_A (ciw10 h0) s.heap.size) [(h0, .inr (10, [.int 0, .int 0, .ref q1, .ref q2, .ref q3, .ref q4, .long 0, .int 4, .int 0, .int 0, .ref q5, .ref q6, .ref q7, .ref q8, .ref q9, .ref q10, .ref q11, .int 0, .ref q12, .ref q13, .ref q14, .int 0, .ref q15, .ref q16, .ref q17, .long 0, .ref q18, .null, .null, .null, .null, .null, .null, .null, .null, .null, .int 0, .int 0, .int 0, .null, .null, .null, .null, .null, .int 0])), (q1, ci_i Y 40), (q2, ci_i Y 40), (q3, ci_i Y 120), (q4, ci_l Y 40), (q5, ci_z Y 40), (q6, ci_i Y 40), (q7, ci_l Y 40), (q8, ci_i Y 40), (q9, ci_i Y 120), (q10, ci_i Y 80), (q11, ci_i Y 80), (q12, ci_l Y 320), (q13, ci_i Y 40), (q14, ci_l Y 800), (q15, ci_l Y 40), (q16, ci_i Y 40), (q17, ci_i Y 40), (q18, ci_z Y 40)] := hD
  refine lv_aload_n hx hb dX10_init_155 rfl (lv_at hl 0 rfl) ?_
  refine lv_bipush (v := 40) hx hb dX10_init_156 (by decide +kernel) ?_
  refine ci_newZ hc hP hD hS (n := 40) (N := 40) (by decide +kernel) (by decide +kernel) (Nat.le_of_ble_eq_true rfl) (Nat.le_of_ble_eq_true rfl) (Nat.le_of_ble_eq_true rfl) dX10_init_158 (fun q19 H hP hD hS => ?_)
  have hP : va_P D vwCl [(h0, .inr (10, [.int 0, .int 0, .ref q1, .ref q2, .ref q3, .ref q4, .long 0, .int 4, .int 0, .int 0, .ref q5, .ref q6, .ref q7, .ref q8, .ref q9, .ref q10, .ref q11, .int 0, .ref q12, .ref q13, .ref q14, .int 0, .ref q15, .ref q16, .ref q17, .long 0, .ref q18, .null, .null, .null, .null, .null, .null, .null, .null, .null, .int 0, .int 0, .int 0, .null, .null, .null, .null, .null, .int 0])), (q1, ci_i Y 40), (q2, ci_i Y 40), (q3, ci_i Y 120), (q4, ci_l Y 40), (q5, ci_z Y 40), (q6, ci_i Y 40), (q7, ci_l Y 40), (q8, ci_i Y 40), (q9, ci_i Y 120), (q10, ci_i Y 80), (q11, ci_i Y 80), (q12, ci_l Y 320), (q13, ci_i Y 40), (q14, ci_l Y 800), (q15, ci_l Y 40), (q16, ci_i Y 40), (q17, ci_i Y 40), (q18, ci_z Y 40), (q19, ci_z Y 40)] H := hP
  have hD : va_D (va_A (ciw10 h0) s.heap.size) [(h0, .inr (10, [.int 0, .int 0, .ref q1, .ref q2, .ref q3, .ref q4, .long 0, .int 4, .int 0, .int 0, .ref q5, .ref q6, .ref q7, .ref q8, .ref q9, .ref q10, .ref q11, .int 0, .ref q12, .ref q13, .ref q14, .int 0, .ref q15, .ref q16, .ref q17, .long 0, .ref q18, .null, .null, .null, .null, .null, .null, .null, .null, .null, .int 0, .int 0, .int 0, .null, .null, .null, .null, .null, .int 0])), (q1, ci_i Y 40), (q2, ci_i Y 40), (q3, ci_i Y 120), (q4, ci_l Y 40), (q5, ci_z Y 40), (q6, ci_i Y 40), (q7, ci_l Y 40), (q8, ci_i Y 40), (q9, ci_i Y 120), (q10, ci_i Y 80), (q11, ci_i Y 80), (q12, ci_l Y 320), (q13, ci_i Y 40), (q14, ci_l Y 800), (q15, ci_l Y 40), (q16, ci_i Y 40), (q17, ci_i Y 40), (q18, ci_z Y 40), (q19, ci_z Y 40)] := hD
  refine ci_putF hc hin (o := 10) (idx := 70) (ci := 10) (k := 27) (List.mem_of_getElem? (i := 134) rfl) (r := (RX10, TX10, 45)) rfl rfl rfl hP hD hS 0 rfl rfl (ty := .array .boolean) (v := .ref q19) (by decide +kernel) rfl rfl (Nat.le_of_ble_eq_true rfl) dX10_init_160 (fun H locs hP hD hS => ?_)
  have hP : va_P D vwCl [(h0, .inr (10, [.int 0, .int 0, .ref q1, .ref q2, .ref q3, .ref q4, .long 0, .int 4, .int 0, .int 0, .ref q5, .ref q6, .ref q7, .ref q8, .ref q9, .ref q10, .ref q11, .int 0, .ref q12, .ref q13, .ref q14, .int 0, .ref q15, .ref q16, .ref q17, .long 0, .ref q18, .ref q19, .null, .null, .null, .null, .null, .null, .null, .null, .int 0, .int 0, .int 0, .null, .null, .null, .null, .null, .int 0])), (q1, ci_i Y 40), (q2, ci_i Y 40), (q3, ci_i Y 120), (q4, ci_l Y 40), (q5, ci_z Y 40), (q6, ci_i Y 40), (q7, ci_l Y 40), (q8, ci_i Y 40), (q9, ci_i Y 120), (q10, ci_i Y 80), (q11, ci_i Y 80), (q12, ci_l Y 320), (q13, ci_i Y 40), (q14, ci_l Y 800), (q15, ci_l Y 40), (q16, ci_i Y 40), (q17, ci_i Y 40), (q18, ci_z Y 40), (q19, ci_z Y 40)] H := hP
  have hD : va_D (va_A (ciw10 h0) s.heap.size) [(h0, .inr (10, [.int 0, .int 0, .ref q1, .ref q2, .ref q3, .ref q4, .long 0, .int 4, .int 0, .int 0, .ref q5, .ref q6, .ref q7, .ref q8, .ref q9, .ref q10, .ref q11, .int 0, .ref q12, .ref q13, .ref q14, .int 0, .ref q15, .ref q16, .ref q17, .long 0, .ref q18, .ref q19, .null, .null, .null, .null, .null, .null, .null, .null, .int 0, .int 0, .int 0, .null, .null, .null, .null, .null, .int 0])), (q1, ci_i Y 40), (q2, ci_i Y 40), (q3, ci_i Y 120), (q4, ci_l Y 40), (q5, ci_z Y 40), (q6, ci_i Y 40), (q7, ci_l Y 40), (q8, ci_i Y 40), (q9, ci_i Y 120), (q10, ci_i Y 80), (q11, ci_i Y 80), (q12, ci_l Y 320), (q13, ci_i Y 40), (q14, ci_l Y 800), (q15, ci_l Y 40), (q16, ci_i Y 40), (q17, ci_i Y 40), (q18, ci_z Y 40), (q19, ci_z Y 40)] := hD
  refine lv_aload_n hx hb dX10_init_163 rfl (lv_at hl 0 rfl) ?_
  refine lv_bipush (v := 40) hx hb dX10_init_164 (by decide +kernel) ?_
  refine ci_newI hc hP hD hS (n := 40) (N := 40) (by decide +kernel) (by decide +kernel) (Nat.le_of_ble_eq_true rfl) (Nat.le_of_ble_eq_true rfl) (Nat.le_of_ble_eq_true rfl) dX10_init_166 (fun q20 H hP hD hS => ?_)
  have hP : va_P D vwCl [(h0, .inr (10, [.int 0, .int 0, .ref q1, .ref q2, .ref q3, .ref q4, .long 0, .int 4, .int 0, .int 0, .ref q5, .ref q6, .ref q7, .ref q8, .ref q9, .ref q10, .ref q11, .int 0, .ref q12, .ref q13, .ref q14, .int 0, .ref q15, .ref q16, .ref q17, .long 0, .ref q18, .ref q19, .null, .null, .null, .null, .null, .null, .null, .null, .int 0, .int 0, .int 0, .null, .null, .null, .null, .null, .int 0])), (q1, ci_i Y 40), (q2, ci_i Y 40), (q3, ci_i Y 120), (q4, ci_l Y 40), (q5, ci_z Y 40), (q6, ci_i Y 40), (q7, ci_l Y 40), (q8, ci_i Y 40), (q9, ci_i Y 120), (q10, ci_i Y 80), (q11, ci_i Y 80), (q12, ci_l Y 320), (q13, ci_i Y 40), (q14, ci_l Y 800), (q15, ci_l Y 40), (q16, ci_i Y 40), (q17, ci_i Y 40), (q18, ci_z Y 40), (q19, ci_z Y 40), (q20, ci_i Y 40)] H := hP
  have hD : va_D (va_A (ciw10 h0) s.heap.size) [(h0, .inr (10, [.int 0, .int 0, .ref q1, .ref q2, .ref q3, .ref q4, .long 0, .int 4, .int 0, .int 0, .ref q5, .ref q6, .ref q7, .ref q8, .ref q9, .ref q10, .ref q11, .int 0, .ref q12, .ref q13, .ref q14, .int 0, .ref q15, .ref q16, .ref q17, .long 0, .ref q18, .ref q19, .null, .null, .null, .null, .null, .null, .null, .null, .int 0, .int 0, .int 0, .null, .null, .null, .null, .null, .int 0])), (q1, ci_i Y 40), (q2, ci_i Y 40), (q3, ci_i Y 120), (q4, ci_l Y 40), (q5, ci_z Y 40), (q6, ci_i Y 40), (q7, ci_l Y 40), (q8, ci_i Y 40), (q9, ci_i Y 120), (q10, ci_i Y 80), (q11, ci_i Y 80), (q12, ci_l Y 320), (q13, ci_i Y 40), (q14, ci_l Y 800), (q15, ci_l Y 40), (q16, ci_i Y 40), (q17, ci_i Y 40), (q18, ci_z Y 40), (q19, ci_z Y 40), (q20, ci_i Y 40)] := hD
  refine ci_putF hc hin (o := 10) (idx := 73) (ci := 10) (k := 28) (List.mem_of_getElem? (i := 135) rfl) (r := (RX10, TX10, 45)) rfl rfl rfl hP hD hS 0 rfl rfl (ty := .array .int) (v := .ref q20) (by decide +kernel) rfl rfl (Nat.le_of_ble_eq_true rfl) dX10_init_168 (fun H locs hP hD hS => ?_)
  have hP : va_P D vwCl [(h0, .inr (10, [.int 0, .int 0, .ref q1, .ref q2, .ref q3, .ref q4, .long 0, .int 4, .int 0, .int 0, .ref q5, .ref q6, .ref q7, .ref q8, .ref q9, .ref q10, .ref q11, .int 0, .ref q12, .ref q13, .ref q14, .int 0, .ref q15, .ref q16, .ref q17, .long 0, .ref q18, .ref q19, .ref q20, .null, .null, .null, .null, .null, .null, .null, .int 0, .int 0, .int 0, .null, .null, .null, .null, .null, .int 0])), (q1, ci_i Y 40), (q2, ci_i Y 40), (q3, ci_i Y 120), (q4, ci_l Y 40), (q5, ci_z Y 40), (q6, ci_i Y 40), (q7, ci_l Y 40), (q8, ci_i Y 40), (q9, ci_i Y 120), (q10, ci_i Y 80), (q11, ci_i Y 80), (q12, ci_l Y 320), (q13, ci_i Y 40), (q14, ci_l Y 800), (q15, ci_l Y 40), (q16, ci_i Y 40), (q17, ci_i Y 40), (q18, ci_z Y 40), (q19, ci_z Y 40), (q20, ci_i Y 40)] H := hP
  have hD : va_D (va_A (ciw10 h0) s.heap.size) [(h0, .inr (10, [.int 0, .int 0, .ref q1, .ref q2, .ref q3, .ref q4, .long 0, .int 4, .int 0, .int 0, .ref q5, .ref q6, .ref q7, .ref q8, .ref q9, .ref q10, .ref q11, .int 0, .ref q12, .ref q13, .ref q14, .int 0, .ref q15, .ref q16, .ref q17, .long 0, .ref q18, .ref q19, .ref q20, .null, .null, .null, .null, .null, .null, .null, .int 0, .int 0, .int 0, .null, .null, .null, .null, .null, .int 0])), (q1, ci_i Y 40), (q2, ci_i Y 40), (q3, ci_i Y 120), (q4, ci_l Y 40), (q5, ci_z Y 40), (q6, ci_i Y 40), (q7, ci_l Y 40), (q8, ci_i Y 40), (q9, ci_i Y 120), (q10, ci_i Y 80), (q11, ci_i Y 80), (q12, ci_l Y 320), (q13, ci_i Y 40), (q14, ci_l Y 800), (q15, ci_l Y 40), (q16, ci_i Y 40), (q17, ci_i Y 40), (q18, ci_z Y 40), (q19, ci_z Y 40), (q20, ci_i Y 40)] := hD
  refine lv_aload_n hx hb dX10_init_171 rfl (lv_at hl 0 rfl) ?_
  refine lv_bipush (v := 40) hx hb dX10_init_172 (by decide +kernel) ?_
  refine ci_newI hc hP hD hS (n := 40) (N := 40) (by decide +kernel) (by decide +kernel) (Nat.le_of_ble_eq_true rfl) (Nat.le_of_ble_eq_true rfl) (Nat.le_of_ble_eq_true rfl) dX10_init_174 (fun q21 H hP hD hS => ?_)
  have hP : va_P D vwCl [(h0, .inr (10, [.int 0, .int 0, .ref q1, .ref q2, .ref q3, .ref q4, .long 0, .int 4, .int 0, .int 0, .ref q5, .ref q6, .ref q7, .ref q8, .ref q9, .ref q10, .ref q11, .int 0, .ref q12, .ref q13, .ref q14, .int 0, .ref q15, .ref q16, .ref q17, .long 0, .ref q18, .ref q19, .ref q20, .null, .null, .null, .null, .null, .null, .null, .int 0, .int 0, .int 0, .null, .null, .null, .null, .null, .int 0])), (q1, ci_i Y 40), (q2, ci_i Y 40), (q3, ci_i Y 120), (q4, ci_l Y 40), (q5, ci_z Y 40), (q6, ci_i Y 40), (q7, ci_l Y 40), (q8, ci_i Y 40), (q9, ci_i Y 120), (q10, ci_i Y 80), (q11, ci_i Y 80), (q12, ci_l Y 320), (q13, ci_i Y 40), (q14, ci_l Y 800), (q15, ci_l Y 40), (q16, ci_i Y 40), (q17, ci_i Y 40), (q18, ci_z Y 40), (q19, ci_z Y 40), (q20, ci_i Y 40), (q21, ci_i Y 40)] H := hP
  have hD : va_D (va_A (ciw10 h0) s.heap.size) [(h0, .inr (10, [.int 0, .int 0, .ref q1, .ref q2, .ref q3, .ref q4, .long 0, .int 4, .int 0, .int 0, .ref q5, .ref q6, .ref q7, .ref q8, .ref q9, .ref q10, .ref q11, .int 0, .ref q12, .ref q13, .ref q14, .int 0, .ref q15, .ref q16, .ref q17, .long 0, .ref q18, .ref q19, .ref q20, .null, .null, .null, .null, .null, .null, .null, .int 0, .int 0, .int 0, .null, .null, .null, .null, .null, .int 0])), (q1, ci_i Y 40), (q2, ci_i Y 40), (q3, ci_i Y 120), (q4, ci_l Y 40), (q5, ci_z Y 40), (q6, ci_i Y 40), (q7, ci_l Y 40), (q8, ci_i Y 40), (q9, ci_i Y 120), (q10, ci_i Y 80), (q11, ci_i Y 80), (q12, ci_l Y 320), (q13, ci_i Y 40), (q14, ci_l Y 800), (q15, ci_l Y 40), (q16, ci_i Y 40), (q17, ci_i Y 40), (q18, ci_z Y 40), (q19, ci_z Y 40), (q20, ci_i Y 40), (q21, ci_i Y 40)] := hD
  refine ci_putF hc hin (o := 10) (idx := 76) (ci := 10) (k := 29) (List.mem_of_getElem? (i := 136) rfl) (r := (RX10, TX10, 45)) rfl rfl rfl hP hD hS 0 rfl rfl (ty := .array .int) (v := .ref q21) (by decide +kernel) rfl rfl (Nat.le_of_ble_eq_true rfl) dX10_init_176 (fun H locs hP hD hS => ?_)
  have hP : va_P D vwCl [(h0, .inr (10, [.int 0, .int 0, .ref q1, .ref q2, .ref q3, .ref q4, .long 0, .int 4, .int 0, .int 0, .ref q5, .ref q6, .ref q7, .ref q8, .ref q9, .ref q10, .ref q11, .int 0, .ref q12, .ref q13, .ref q14, .int 0, .ref q15, .ref q16, .ref q17, .long 0, .ref q18, .ref q19, .ref q20, .ref q21, .null, .null, .null, .null, .null, .null, .int 0, .int 0, .int 0, .null, .null, .null, .null, .null, .int 0])), (q1, ci_i Y 40), (q2, ci_i Y 40), (q3, ci_i Y 120), (q4, ci_l Y 40), (q5, ci_z Y 40), (q6, ci_i Y 40), (q7, ci_l Y 40), (q8, ci_i Y 40), (q9, ci_i Y 120), (q10, ci_i Y 80), (q11, ci_i Y 80), (q12, ci_l Y 320), (q13, ci_i Y 40), (q14, ci_l Y 800), (q15, ci_l Y 40), (q16, ci_i Y 40), (q17, ci_i Y 40), (q18, ci_z Y 40), (q19, ci_z Y 40), (q20, ci_i Y 40), (q21, ci_i Y 40)] H := hP
  have hD : va_D (va_A (ciw10 h0) s.heap.size) [(h0, .inr (10, [.int 0, .int 0, .ref q1, .ref q2, .ref q3, .ref q4, .long 0, .int 4, .int 0, .int 0, .ref q5, .ref q6, .ref q7, .ref q8, .ref q9, .ref q10, .ref q11, .int 0, .ref q12, .ref q13, .ref q14, .int 0, .ref q15, .ref q16, .ref q17, .long 0, .ref q18, .ref q19, .ref q20, .ref q21, .null, .null, .null, .null, .null, .null, .int 0, .int 0, .int 0, .null, .null, .null, .null, .null, .int 0])), (q1, ci_i Y 40), (q2, ci_i Y 40), (q3, ci_i Y 120), (q4, ci_l Y 40), (q5, ci_z Y 40), (q6, ci_i Y 40), (q7, ci_l Y 40), (q8, ci_i Y 40), (q9, ci_i Y 120), (q10, ci_i Y 80), (q11, ci_i Y 80), (q12, ci_l Y 320), (q13, ci_i Y 40), (q14, ci_l Y 800), (q15, ci_l Y 40), (q16, ci_i Y 40), (q17, ci_i Y 40), (q18, ci_z Y 40), (q19, ci_z Y 40), (q20, ci_i Y 40), (q21, ci_i Y 40)] := hD
  refine lv_aload_n hx hb dX10_init_179 rfl (lv_at hl 0 rfl) ?_
  refine lv_bipush (v := 40) hx hb dX10_init_180 (by decide +kernel) ?_
  refine ci_newI hc hP hD hS (n := 40) (N := 40) (by decide +kernel) (by decide +kernel) (Nat.le_of_ble_eq_true rfl) (Nat.le_of_ble_eq_true rfl) (Nat.le_of_ble_eq_true rfl) dX10_init_182 (fun q22 H hP hD hS => ?_)
  have hP : va_P D vwCl [(h0, .inr (10, [.int 0, .int 0, .ref q1, .ref q2, .ref q3, .ref q4, .long 0, .int 4, .int 0, .int 0, .ref q5, .ref q6, .ref q7, .ref q8, .ref q9, .ref q10, .ref q11, .int 0, .ref q12, .ref q13, .ref q14, .int 0, .ref q15, .ref q16, .ref q17, .long 0, .ref q18, .ref q19, .ref q20, .ref q21, .null, .null, .null, .null, .null, .null, .int 0, .int 0, .int 0, .null, .null, .null, .null, .null, .int 0])), (q1, ci_i Y 40), (q2, ci_i Y 40), (q3, ci_i Y 120), (q4, ci_l Y 40), (q5, ci_z Y 40), (q6, ci_i Y 40), (q7, ci_l Y 40), (q8, ci_i Y 40), (q9, ci_i Y 120), (q10, ci_i Y 80), (q11, ci_i Y 80), (q12, ci_l Y 320), (q13, ci_i Y 40), (q14, ci_l Y 800), (q15, ci_l Y 40), (q16, ci_i Y 40), (q17, ci_i Y 40), (q18, ci_z Y 40), (q19, ci_z Y 40), (q20, ci_i Y 40), (q21, ci_i Y 40), (q22, ci_i Y 40)] H := hP
  have hD : va_D (va_A (ciw10 h0) s.heap.size) [(h0, .inr (10, [.int 0, .int 0, .ref q1, .ref q2, .ref q3, .ref q4, .long 0, .int 4, .int 0, .int 0, .ref q5, .ref q6, .ref q7, .ref q8, .ref q9, .ref q10, .ref q11, .int 0, .ref q12, .ref q13, .ref q14, .int 0, .ref q15, .ref q16, .ref q17, .long 0, .ref q18, .ref q19, .ref q20, .ref q21, .null, .null, .null, .null, .null, .null, .int 0, .int 0, .int 0, .null, .null, .null, .null, .null, .int 0])), (q1, ci_i Y 40), (q2, ci_i Y 40), (q3, ci_i Y 120), (q4, ci_l Y 40), (q5, ci_z Y 40), (q6, ci_i Y 40), (q7, ci_l Y 40), (q8, ci_i Y 40), (q9, ci_i Y 120), (q10, ci_i Y 80), (q11, ci_i Y 80), (q12, ci_l Y 320), (q13, ci_i Y 40), (q14, ci_l Y 800), (q15, ci_l Y 40), (q16, ci_i Y 40), (q17, ci_i Y 40), (q18, ci_z Y 40), (q19, ci_z Y 40), (q20, ci_i Y 40), (q21, ci_i Y 40), (q22, ci_i Y 40)] := hD
  refine ci_putF hc hin (o := 10) (idx := 79) (ci := 10) (k := 30) (List.mem_of_getElem? (i := 137) rfl) (r := (RX10, TX10, 45)) rfl rfl rfl hP hD hS 0 rfl rfl (ty := .array .int) (v := .ref q22) (by decide +kernel) rfl rfl (Nat.le_of_ble_eq_true rfl) dX10_init_184 (fun H locs hP hD hS => ?_)
  have hP : va_P D vwCl [(h0, .inr (10, [.int 0, .int 0, .ref q1, .ref q2, .ref q3, .ref q4, .long 0, .int 4, .int 0, .int 0, .ref q5, .ref q6, .ref q7, .ref q8, .ref q9, .ref q10, .ref q11, .int 0, .ref q12, .ref q13, .ref q14, .int 0, .ref q15, .ref q16, .ref q17, .long 0, .ref q18, .ref q19, .ref q20, .ref q21, .ref q22, .null, .null, .null, .null, .null, .int 0, .int 0, .int 0, .null, .null, .null, .null, .null, .int 0])), (q1, ci_i Y 40), (q2, ci_i Y 40), (q3, ci_i Y 120), (q4, ci_l Y 40), (q5, ci_z Y 40), (q6, ci_i Y 40), (q7, ci_l Y 40), (q8, ci_i Y 40), (q9, ci_i Y 120), (q10, ci_i Y 80), (q11, ci_i Y 80), (q12, ci_l Y 320), (q13, ci_i Y 40), (q14, ci_l Y 800), (q15, ci_l Y 40), (q16, ci_i Y 40), (q17, ci_i Y 40), (q18, ci_z Y 40), (q19, ci_z Y 40), (q20, ci_i Y 40), (q21, ci_i Y 40), (q22, ci_i Y 40)] H := hP
  have hD : va_D (va_A (ciw10 h0) s.heap.size) [(h0, .inr (10, [.int 0, .int 0, .ref q1, .ref q2, .ref q3, .ref q4, .long 0, .int 4, .int 0, .int 0, .ref q5, .ref q6, .ref q7, .ref q8, .ref q9, .ref q10, .ref q11, .int 0, .ref q12, .ref q13, .ref q14, .int 0, .ref q15, .ref q16, .ref q17, .long 0, .ref q18, .ref q19, .ref q20, .ref q21, .ref q22, .null, .null, .null, .null, .null, .int 0, .int 0, .int 0, .null, .null, .null, .null, .null, .int 0])), (q1, ci_i Y 40), (q2, ci_i Y 40), (q3, ci_i Y 120), (q4, ci_l Y 40), (q5, ci_z Y 40), (q6, ci_i Y 40), (q7, ci_l Y 40), (q8, ci_i Y 40), (q9, ci_i Y 120), (q10, ci_i Y 80), (q11, ci_i Y 80), (q12, ci_l Y 320), (q13, ci_i Y 40), (q14, ci_l Y 800), (q15, ci_l Y 40), (q16, ci_i Y 40), (q17, ci_i Y 40), (q18, ci_z Y 40), (q19, ci_z Y 40), (q20, ci_i Y 40), (q21, ci_i Y 40), (q22, ci_i Y 40)] := hD
  refine lv_aload_n hx hb dX10_init_187 rfl (lv_at hl 0 rfl) ?_
  refine lv_bipush (v := 40) hx hb dX10_init_188 (by decide +kernel) ?_
  refine ci_newI hc hP hD hS (n := 40) (N := 40) (by decide +kernel) (by decide +kernel) (Nat.le_of_ble_eq_true rfl) (Nat.le_of_ble_eq_true rfl) (Nat.le_of_ble_eq_true rfl) dX10_init_190 (fun q23 H hP hD hS => ?_)
  have hP : va_P D vwCl [(h0, .inr (10, [.int 0, .int 0, .ref q1, .ref q2, .ref q3, .ref q4, .long 0, .int 4, .int 0, .int 0, .ref q5, .ref q6, .ref q7, .ref q8, .ref q9, .ref q10, .ref q11, .int 0, .ref q12, .ref q13, .ref q14, .int 0, .ref q15, .ref q16, .ref q17, .long 0, .ref q18, .ref q19, .ref q20, .ref q21, .ref q22, .null, .null, .null, .null, .null, .int 0, .int 0, .int 0, .null, .null, .null, .null, .null, .int 0])), (q1, ci_i Y 40), (q2, ci_i Y 40), (q3, ci_i Y 120), (q4, ci_l Y 40), (q5, ci_z Y 40), (q6, ci_i Y 40), (q7, ci_l Y 40), (q8, ci_i Y 40), (q9, ci_i Y 120), (q10, ci_i Y 80), (q11, ci_i Y 80), (q12, ci_l Y 320), (q13, ci_i Y 40), (q14, ci_l Y 800), (q15, ci_l Y 40), (q16, ci_i Y 40), (q17, ci_i Y 40), (q18, ci_z Y 40), (q19, ci_z Y 40), (q20, ci_i Y 40), (q21, ci_i Y 40), (q22, ci_i Y 40), (q23, ci_i Y 40)] H := hP
  have hD : va_D (va_A (ciw10 h0) s.heap.size) [(h0, .inr (10, [.int 0, .int 0, .ref q1, .ref q2, .ref q3, .ref q4, .long 0, .int 4, .int 0, .int 0, .ref q5, .ref q6, .ref q7, .ref q8, .ref q9, .ref q10, .ref q11, .int 0, .ref q12, .ref q13, .ref q14, .int 0, .ref q15, .ref q16, .ref q17, .long 0, .ref q18, .ref q19, .ref q20, .ref q21, .ref q22, .null, .null, .null, .null, .null, .int 0, .int 0, .int 0, .null, .null, .null, .null, .null, .int 0])), (q1, ci_i Y 40), (q2, ci_i Y 40), (q3, ci_i Y 120), (q4, ci_l Y 40), (q5, ci_z Y 40), (q6, ci_i Y 40), (q7, ci_l Y 40), (q8, ci_i Y 40), (q9, ci_i Y 120), (q10, ci_i Y 80), (q11, ci_i Y 80), (q12, ci_l Y 320), (q13, ci_i Y 40), (q14, ci_l Y 800), (q15, ci_l Y 40), (q16, ci_i Y 40), (q17, ci_i Y 40), (q18, ci_z Y 40), (q19, ci_z Y 40), (q20, ci_i Y 40), (q21, ci_i Y 40), (q22, ci_i Y 40), (q23, ci_i Y 40)] := hD
  refine ci_putF hc hin (o := 10) (idx := 82) (ci := 10) (k := 31) (List.mem_of_getElem? (i := 138) rfl) (r := (RX10, TX10, 45)) rfl rfl rfl hP hD hS 0 rfl rfl (ty := .array .int) (v := .ref q23) (by decide +kernel) rfl rfl (Nat.le_of_ble_eq_true rfl) dX10_init_192 (fun H locs hP hD hS => ?_)
  have hP : va_P D vwCl [(h0, .inr (10, [.int 0, .int 0, .ref q1, .ref q2, .ref q3, .ref q4, .long 0, .int 4, .int 0, .int 0, .ref q5, .ref q6, .ref q7, .ref q8, .ref q9, .ref q10, .ref q11, .int 0, .ref q12, .ref q13, .ref q14, .int 0, .ref q15, .ref q16, .ref q17, .long 0, .ref q18, .ref q19, .ref q20, .ref q21, .ref q22, .ref q23, .null, .null, .null, .null, .int 0, .int 0, .int 0, .null, .null, .null, .null, .null, .int 0])), (q1, ci_i Y 40), (q2, ci_i Y 40), (q3, ci_i Y 120), (q4, ci_l Y 40), (q5, ci_z Y 40), (q6, ci_i Y 40), (q7, ci_l Y 40), (q8, ci_i Y 40), (q9, ci_i Y 120), (q10, ci_i Y 80), (q11, ci_i Y 80), (q12, ci_l Y 320), (q13, ci_i Y 40), (q14, ci_l Y 800), (q15, ci_l Y 40), (q16, ci_i Y 40), (q17, ci_i Y 40), (q18, ci_z Y 40), (q19, ci_z Y 40), (q20, ci_i Y 40), (q21, ci_i Y 40), (q22, ci_i Y 40), (q23, ci_i Y 40)] H := hP
  have hD : va_D (va_A (ciw10 h0) s.heap.size) [(h0, .inr (10, [.int 0, .int 0, .ref q1, .ref q2, .ref q3, .ref q4, .long 0, .int 4, .int 0, .int 0, .ref q5, .ref q6, .ref q7, .ref q8, .ref q9, .ref q10, .ref q11, .int 0, .ref q12, .ref q13, .ref q14, .int 0, .ref q15, .ref q16, .ref q17, .long 0, .ref q18, .ref q19, .ref q20, .ref q21, .ref q22, .ref q23, .null, .null, .null, .null, .int 0, .int 0, .int 0, .null, .null, .null, .null, .null, .int 0])), (q1, ci_i Y 40), (q2, ci_i Y 40), (q3, ci_i Y 120), (q4, ci_l Y 40), (q5, ci_z Y 40), (q6, ci_i Y 40), (q7, ci_l Y 40), (q8, ci_i Y 40), (q9, ci_i Y 120), (q10, ci_i Y 80), (q11, ci_i Y 80), (q12, ci_l Y 320), (q13, ci_i Y 40), (q14, ci_l Y 800), (q15, ci_l Y 40), (q16, ci_i Y 40), (q17, ci_i Y 40), (q18, ci_z Y 40), (q19, ci_z Y 40), (q20, ci_i Y 40), (q21, ci_i Y 40), (q22, ci_i Y 40), (q23, ci_i Y 40)] := hD
  refine lv_aload_n hx hb dX10_init_195 rfl (lv_at hl 0 rfl) ?_
  refine lv_bipush (v := 40) hx hb dX10_init_196 (by decide +kernel) ?_
  refine ci_newI hc hP hD hS (n := 40) (N := 40) (by decide +kernel) (by decide +kernel) (Nat.le_of_ble_eq_true rfl) (Nat.le_of_ble_eq_true rfl) (Nat.le_of_ble_eq_true rfl) dX10_init_198 (fun q24 H hP hD hS => ?_)
  have hP : va_P D vwCl [(h0, .inr (10, [.int 0, .int 0, .ref q1, .ref q2, .ref q3, .ref q4, .long 0, .int 4, .int 0, .int 0, .ref q5, .ref q6, .ref q7, .ref q8, .ref q9, .ref q10, .ref q11, .int 0, .ref q12, .ref q13, .ref q14, .int 0, .ref q15, .ref q16, .ref q17, .long 0, .ref q18, .ref q19, .ref q20, .ref q21, .ref q22, .ref q23, .null, .null, .null, .null, .int 0, .int 0, .int 0, .null, .null, .null, .null, .null, .int 0])), (q1, ci_i Y 40), (q2, ci_i Y 40), (q3, ci_i Y 120), (q4, ci_l Y 40), (q5, ci_z Y 40), (q6, ci_i Y 40), (q7, ci_l Y 40), (q8, ci_i Y 40), (q9, ci_i Y 120), (q10, ci_i Y 80), (q11, ci_i Y 80), (q12, ci_l Y 320), (q13, ci_i Y 40), (q14, ci_l Y 800), (q15, ci_l Y 40), (q16, ci_i Y 40), (q17, ci_i Y 40), (q18, ci_z Y 40), (q19, ci_z Y 40), (q20, ci_i Y 40), (q21, ci_i Y 40), (q22, ci_i Y 40), (q23, ci_i Y 40), (q24, ci_i Y 40)] H := hP
  have hD : va_D (va_A (ciw10 h0) s.heap.size) [(h0, .inr (10, [.int 0, .int 0, .ref q1, .ref q2, .ref q3, .ref q4, .long 0, .int 4, .int 0, .int 0, .ref q5, .ref q6, .ref q7, .ref q8, .ref q9, .ref q10, .ref q11, .int 0, .ref q12, .ref q13, .ref q14, .int 0, .ref q15, .ref q16, .ref q17, .long 0, .ref q18, .ref q19, .ref q20, .ref q21, .ref q22, .ref q23, .null, .null, .null, .null, .int 0, .int 0, .int 0, .null, .null, .null, .null, .null, .int 0])), (q1, ci_i Y 40), (q2, ci_i Y 40), (q3, ci_i Y 120), (q4, ci_l Y 40), (q5, ci_z Y 40), (q6, ci_i Y 40), (q7, ci_l Y 40), (q8, ci_i Y 40), (q9, ci_i Y 120), (q10, ci_i Y 80), (q11, ci_i Y 80), (q12, ci_l Y 320), (q13, ci_i Y 40), (q14, ci_l Y 800), (q15, ci_l Y 40), (q16, ci_i Y 40), (q17, ci_i Y 40), (q18, ci_z Y 40), (q19, ci_z Y 40), (q20, ci_i Y 40), (q21, ci_i Y 40), (q22, ci_i Y 40), (q23, ci_i Y 40), (q24, ci_i Y 40)] := hD
  refine ci_putF hc hin (o := 10) (idx := 85) (ci := 10) (k := 32) (List.mem_of_getElem? (i := 139) rfl) (r := (RX10, TX10, 45)) rfl rfl rfl hP hD hS 0 rfl rfl (ty := .array .int) (v := .ref q24) (by decide +kernel) rfl rfl (Nat.le_of_ble_eq_true rfl) dX10_init_200 (fun H locs hP hD hS => ?_)
  have hP : va_P D vwCl [(h0, .inr (10, [.int 0, .int 0, .ref q1, .ref q2, .ref q3, .ref q4, .long 0, .int 4, .int 0, .int 0, .ref q5, .ref q6, .ref q7, .ref q8, .ref q9, .ref q10, .ref q11, .int 0, .ref q12, .ref q13, .ref q14, .int 0, .ref q15, .ref q16, .ref q17, .long 0, .ref q18, .ref q19, .ref q20, .ref q21, .ref q22, .ref q23, .ref q24, .null, .null, .null, .int 0, .int 0, .int 0, .null, .null, .null, .null, .null, .int 0])), (q1, ci_i Y 40), (q2, ci_i Y 40), (q3, ci_i Y 120), (q4, ci_l Y 40), (q5, ci_z Y 40), (q6, ci_i Y 40), (q7, ci_l Y 40), (q8, ci_i Y 40), (q9, ci_i Y 120), (q10, ci_i Y 80), (q11, ci_i Y 80), (q12, ci_l Y 320), (q13, ci_i Y 40), (q14, ci_l Y 800), (q15, ci_l Y 40), (q16, ci_i Y 40), (q17, ci_i Y 40), (q18, ci_z Y 40), (q19, ci_z Y 40), (q20, ci_i Y 40), (q21, ci_i Y 40), (q22, ci_i Y 40), (q23, ci_i Y 40), (q24, ci_i Y 40)] H := hP
  have hD : va_D (va_A (ciw10 h0) s.heap.size) [(h0, .inr (10, [.int 0, .int 0, .ref q1, .ref q2, .ref q3, .ref q4, .long 0, .int 4, .int 0, .int 0, .ref q5, .ref q6, .ref q7, .ref q8, .ref q9, .ref q10, .ref q11, .int 0, .ref q12, .ref q13, .ref q14, .int 0, .ref q15, .ref q16, .ref q17, .long 0, .ref q18, .ref q19, .ref q20, .ref q21, .ref q22, .ref q23, .ref q24, .null, .null, .null, .int 0, .int 0, .int 0, .null, .null, .null, .null, .null, .int 0])), (q1, ci_i Y 40), (q2, ci_i Y 40), (q3, ci_i Y 120), (q4, ci_l Y 40), (q5, ci_z Y 40), (q6, ci_i Y 40), (q7, ci_l Y 40), (q8, ci_i Y 40), (q9, ci_i Y 120), (q10, ci_i Y 80), (q11, ci_i Y 80), (q12, ci_l Y 320), (q13, ci_i Y 40), (q14, ci_l Y 800), (q15, ci_l Y 40), (q16, ci_i Y 40), (q17, ci_i Y 40), (q18, ci_z Y 40), (q19, ci_z Y 40), (q20, ci_i Y 40), (q21, ci_i Y 40), (q22, ci_i Y 40), (q23, ci_i Y 40), (q24, ci_i Y 40)] := hD
  refine lv_aload_n hx hb dX10_init_203 rfl (lv_at hl 0 rfl) ?_
  refine lv_bipush (v := 40) hx hb dX10_init_204 (by decide +kernel) ?_
  refine ci_newI hc hP hD hS (n := 40) (N := 40) (by decide +kernel) (by decide +kernel) (Nat.le_of_ble_eq_true rfl) (Nat.le_of_ble_eq_true rfl) (Nat.le_of_ble_eq_true rfl) dX10_init_206 (fun q25 H hP hD hS => ?_)
  have hP : va_P D vwCl [(h0, .inr (10, [.int 0, .int 0, .ref q1, .ref q2, .ref q3, .ref q4, .long 0, .int 4, .int 0, .int 0, .ref q5, .ref q6, .ref q7, .ref q8, .ref q9, .ref q10, .ref q11, .int 0, .ref q12, .ref q13, .ref q14, .int 0, .ref q15, .ref q16, .ref q17, .long 0, .ref q18, .ref q19, .ref q20, .ref q21, .ref q22, .ref q23, .ref q24, .null, .null, .null, .int 0, .int 0, .int 0, .null, .null, .null, .null, .null, .int 0])), (q1, ci_i Y 40), (q2, ci_i Y 40), (q3, ci_i Y 120), (q4, ci_l Y 40), (q5, ci_z Y 40), (q6, ci_i Y 40), (q7, ci_l Y 40), (q8, ci_i Y 40), (q9, ci_i Y 120), (q10, ci_i Y 80), (q11, ci_i Y 80), (q12, ci_l Y 320), (q13, ci_i Y 40), (q14, ci_l Y 800), (q15, ci_l Y 40), (q16, ci_i Y 40), (q17, ci_i Y 40), (q18, ci_z Y 40), (q19, ci_z Y 40), (q20, ci_i Y 40), (q21, ci_i Y 40), (q22, ci_i Y 40), (q23, ci_i Y 40), (q24, ci_i Y 40), (q25, ci_i Y 40)] H := hP
  have hD : va_D (va_A (ciw10 h0) s.heap.size) [(h0, .inr (10, [.int 0, .int 0, .ref q1, .ref q2, .ref q3, .ref q4, .long 0, .int 4, .int 0, .int 0, .ref q5, .ref q6, .ref q7, .ref q8, .ref q9, .ref q10, .ref q11, .int 0, .ref q12, .ref q13, .ref q14, .int 0, .ref q15, .ref q16, .ref q17, .long 0, .ref q18, .ref q19, .ref q20, .ref q21, .ref q22, .ref q23, .ref q24, .null, .null, .null, .int 0, .int 0, .int 0, .null, .null, .null, .null, .null, .int 0])), (q1, ci_i Y 40), (q2, ci_i Y 40), (q3, ci_i Y 120), (q4, ci_l Y 40), (q5, ci_z Y 40), (q6, ci_i Y 40), (q7, ci_l Y 40), (q8, ci_i Y 40), (q9, ci_i Y 120), (q10, ci_i Y 80), (q11, ci_i Y 80), (q12, ci_l Y 320), (q13, ci_i Y 40), (q14, ci_l Y 800), (q15, ci_l Y 40), (q16, ci_i Y 40), (q17, ci_i Y 40), (q18, ci_z Y 40), (q19, ci_z Y 40), (q20, ci_i Y 40), (q21, ci_i Y 40), (q22, ci_i Y 40), (q23, ci_i Y 40), (q24, ci_i Y 40), (q25, ci_i Y 40)] := hD
  refine ci_putF hc hin (o := 10) (idx := 88) (ci := 10) (k := 33) (List.mem_of_getElem? (i := 140) rfl) (r := (RX10, TX10, 45)) rfl rfl rfl hP hD hS 0 rfl rfl (ty := .array .int) (v := .ref q25) (by decide +kernel) rfl rfl (Nat.le_of_ble_eq_true rfl) dX10_init_208 (fun H locs hP hD hS => ?_)
  have hP : va_P D vwCl [(h0, .inr (10, [.int 0, .int 0, .ref q1, .ref q2, .ref q3, .ref q4, .long 0, .int 4, .int 0, .int 0, .ref q5, .ref q6, .ref q7, .ref q8, .ref q9, .ref q10, .ref q11, .int 0, .ref q12, .ref q13, .ref q14, .int 0, .ref q15, .ref q16, .ref q17, .long 0, .ref q18, .ref q19, .ref q20, .ref q21, .ref q22, .ref q23, .ref q24, .ref q25, .null, .null, .int 0, .int 0, .int 0, .null, .null, .null, .null, .null, .int 0])), (q1, ci_i Y 40), (q2, ci_i Y 40), (q3, ci_i Y 120), (q4, ci_l Y 40), (q5, ci_z Y 40), (q6, ci_i Y 40), (q7, ci_l Y 40), (q8, ci_i Y 40), (q9, ci_i Y 120), (q10, ci_i Y 80), (q11, ci_i Y 80), (q12, ci_l Y 320), (q13, ci_i Y 40), (q14, ci_l Y 800), (q15, ci_l Y 40), (q16, ci_i Y 40), (q17, ci_i Y 40), (q18, ci_z Y 40), (q19, ci_z Y 40), (q20, ci_i Y 40), (q21, ci_i Y 40), (q22, ci_i Y 40), (q23, ci_i Y 40), (q24, ci_i Y 40), (q25, ci_i Y 40)] H := hP
  have hD : va_D (va_A (ciw10 h0) s.heap.size) [(h0, .inr (10, [.int 0, .int 0, .ref q1, .ref q2, .ref q3, .ref q4, .long 0, .int 4, .int 0, .int 0, .ref q5, .ref q6, .ref q7, .ref q8, .ref q9, .ref q10, .ref q11, .int 0, .ref q12, .ref q13, .ref q14, .int 0, .ref q15, .ref q16, .ref q17, .long 0, .ref q18, .ref q19, .ref q20, .ref q21, .ref q22, .ref q23, .ref q24, .ref q25, .null, .null, .int 0, .int 0, .int 0, .null, .null, .null, .null, .null, .int 0])), (q1, ci_i Y 40), (q2, ci_i Y 40), (q3, ci_i Y 120), (q4, ci_l Y 40), (q5, ci_z Y 40), (q6, ci_i Y 40), (q7, ci_l Y 40), (q8, ci_i Y 40), (q9, ci_i Y 120), (q10, ci_i Y 80), (q11, ci_i Y 80), (q12, ci_l Y 320), (q13, ci_i Y 40), (q14, ci_l Y 800), (q15, ci_l Y 40), (q16, ci_i Y 40), (q17, ci_i Y 40), (q18, ci_z Y 40), (q19, ci_z Y 40), (q20, ci_i Y 40), (q21, ci_i Y 40), (q22, ci_i Y 40), (q23, ci_i Y 40), (q24, ci_i Y 40), (q25, ci_i Y 40)] := hD
  refine lv_aload_n hx hb dX10_init_211 rfl (lv_at hl 0 rfl) ?_
  refine lv_bipush (v := 40) hx hb dX10_init_212 (by decide +kernel) ?_
  refine ci_newL hc hP hD hS (n := 40) (N := 40) (by decide +kernel) (by decide +kernel) (Nat.le_of_ble_eq_true rfl) (Nat.le_of_ble_eq_true rfl) (Nat.le_of_ble_eq_true rfl) dX10_init_214 (fun q26 H hP hD hS => ?_)
  have hP : va_P D vwCl [(h0, .inr (10, [.int 0, .int 0, .ref q1, .ref q2, .ref q3, .ref q4, .long 0, .int 4, .int 0, .int 0, .ref q5, .ref q6, .ref q7, .ref q8, .ref q9, .ref q10, .ref q11, .int 0, .ref q12, .ref q13, .ref q14, .int 0, .ref q15, .ref q16, .ref q17, .long 0, .ref q18, .ref q19, .ref q20, .ref q21, .ref q22, .ref q23, .ref q24, .ref q25, .null, .null, .int 0, .int 0, .int 0, .null, .null, .null, .null, .null, .int 0])), (q1, ci_i Y 40), (q2, ci_i Y 40), (q3, ci_i Y 120), (q4, ci_l Y 40), (q5, ci_z Y 40), (q6, ci_i Y 40), (q7, ci_l Y 40), (q8, ci_i Y 40), (q9, ci_i Y 120), (q10, ci_i Y 80), (q11, ci_i Y 80), (q12, ci_l Y 320), (q13, ci_i Y 40), (q14, ci_l Y 800), (q15, ci_l Y 40), (q16, ci_i Y 40), (q17, ci_i Y 40), (q18, ci_z Y 40), (q19, ci_z Y 40), (q20, ci_i Y 40), (q21, ci_i Y 40), (q22, ci_i Y 40), (q23, ci_i Y 40), (q24, ci_i Y 40), (q25, ci_i Y 40), (q26, ci_l Y 40)] H := hP
  have hD : va_D (va_A (ciw10 h0) s.heap.size) [(h0, .inr (10, [.int 0, .int 0, .ref q1, .ref q2, .ref q3, .ref q4, .long 0, .int 4, .int 0, .int 0, .ref q5, .ref q6, .ref q7, .ref q8, .ref q9, .ref q10, .ref q11, .int 0, .ref q12, .ref q13, .ref q14, .int 0, .ref q15, .ref q16, .ref q17, .long 0, .ref q18, .ref q19, .ref q20, .ref q21, .ref q22, .ref q23, .ref q24, .ref q25, .null, .null, .int 0, .int 0, .int 0, .null, .null, .null, .null, .null, .int 0])), (q1, ci_i Y 40), (q2, ci_i Y 40), (q3, ci_i Y 120), (q4, ci_l Y 40), (q5, ci_z Y 40), (q6, ci_i Y 40), (q7, ci_l Y 40), (q8, ci_i Y 40), (q9, ci_i Y 120), (q10, ci_i Y 80), (q11, ci_i Y 80), (q12, ci_l Y 320), (q13, ci_i Y 40), (q14, ci_l Y 800), (q15, ci_l Y 40), (q16, ci_i Y 40), (q17, ci_i Y 40), (q18, ci_z Y 40), (q19, ci_z Y 40), (q20, ci_i Y 40), (q21, ci_i Y 40), (q22, ci_i Y 40), (q23, ci_i Y 40), (q24, ci_i Y 40), (q25, ci_i Y 40), (q26, ci_l Y 40)] := hD
  refine ci_putF hc hin (o := 10) (idx := 91) (ci := 10) (k := 34) (List.mem_of_getElem? (i := 141) rfl) (r := (RX10, TX10, 45)) rfl rfl rfl hP hD hS 0 rfl rfl (ty := .array .long) (v := .ref q26) (by decide +kernel) rfl rfl (Nat.le_of_ble_eq_true rfl) dX10_init_216 (fun H locs hP hD hS => ?_)
  have hP : va_P D vwCl [(h0, .inr (10, [.int 0, .int 0, .ref q1, .ref q2, .ref q3, .ref q4, .long 0, .int 4, .int 0, .int 0, .ref q5, .ref q6, .ref q7, .ref q8, .ref q9, .ref q10, .ref q11, .int 0, .ref q12, .ref q13, .ref q14, .int 0, .ref q15, .ref q16, .ref q17, .long 0, .ref q18, .ref q19, .ref q20, .ref q21, .ref q22, .ref q23, .ref q24, .ref q25, .ref q26, .null, .int 0, .int 0, .int 0, .null, .null, .null, .null, .null, .int 0])), (q1, ci_i Y 40), (q2, ci_i Y 40), (q3, ci_i Y 120), (q4, ci_l Y 40), (q5, ci_z Y 40), (q6, ci_i Y 40), (q7, ci_l Y 40), (q8, ci_i Y 40), (q9, ci_i Y 120), (q10, ci_i Y 80), (q11, ci_i Y 80), (q12, ci_l Y 320), (q13, ci_i Y 40), (q14, ci_l Y 800), (q15, ci_l Y 40), (q16, ci_i Y 40), (q17, ci_i Y 40), (q18, ci_z Y 40), (q19, ci_z Y 40), (q20, ci_i Y 40), (q21, ci_i Y 40), (q22, ci_i Y 40), (q23, ci_i Y 40), (q24, ci_i Y 40), (q25, ci_i Y 40), (q26, ci_l Y 40)] H := hP
  have hD : va_D (va_A (ciw10 h0) s.heap.size) [(h0, .inr (10, [.int 0, .int 0, .ref q1, .ref q2, .ref q3, .ref q4, .long 0, .int 4, .int 0, .int 0, .ref q5, .ref q6, .ref q7, .ref q8, .ref q9, .ref q10, .ref q11, .int 0, .ref q12, .ref q13, .ref q14, .int 0, .ref q15, .ref q16, .ref q17, .long 0, .ref q18, .ref q19, .ref q20, .ref q21, .ref q22, .ref q23, .ref q24, .ref q25, .ref q26, .null, .int 0, .int 0, .int 0, .null, .null, .null, .null, .null, .int 0])), (q1, ci_i Y 40), (q2, ci_i Y 40), (q3, ci_i Y 120), (q4, ci_l Y 40), (q5, ci_z Y 40), (q6, ci_i Y 40), (q7, ci_l Y 40), (q8, ci_i Y 40), (q9, ci_i Y 120), (q10, ci_i Y 80), (q11, ci_i Y 80), (q12, ci_l Y 320), (q13, ci_i Y 40), (q14, ci_l Y 800), (q15, ci_l Y 40), (q16, ci_i Y 40), (q17, ci_i Y 40), (q18, ci_z Y 40), (q19, ci_z Y 40), (q20, ci_i Y 40), (q21, ci_i Y 40), (q22, ci_i Y 40), (q23, ci_i Y 40), (q24, ci_i Y 40), (q25, ci_i Y 40), (q26, ci_l Y 40)] := hD
  refine lv_aload_n hx hb dX10_init_219 rfl (lv_at hl 0 rfl) ?_
  refine lv_bipush (v := 40) hx hb dX10_init_220 (by decide +kernel) ?_
  refine ci_newL hc hP hD hS (n := 40) (N := 40) (by decide +kernel) (by decide +kernel) (Nat.le_of_ble_eq_true rfl) (Nat.le_of_ble_eq_true rfl) (Nat.le_of_ble_eq_true rfl) dX10_init_222 (fun q27 H hP hD hS => ?_)
  have hP : va_P D vwCl [(h0, .inr (10, [.int 0, .int 0, .ref q1, .ref q2, .ref q3, .ref q4, .long 0, .int 4, .int 0, .int 0, .ref q5, .ref q6, .ref q7, .ref q8, .ref q9, .ref q10, .ref q11, .int 0, .ref q12, .ref q13, .ref q14, .int 0, .ref q15, .ref q16, .ref q17, .long 0, .ref q18, .ref q19, .ref q20, .ref q21, .ref q22, .ref q23, .ref q24, .ref q25, .ref q26, .null, .int 0, .int 0, .int 0, .null, .null, .null, .null, .null, .int 0])), (q1, ci_i Y 40), (q2, ci_i Y 40), (q3, ci_i Y 120), (q4, ci_l Y 40), (q5, ci_z Y 40), (q6, ci_i Y 40), (q7, ci_l Y 40), (q8, ci_i Y 40), (q9, ci_i Y 120), (q10, ci_i Y 80), (q11, ci_i Y 80), (q12, ci_l Y 320), (q13, ci_i Y 40), (q14, ci_l Y 800), (q15, ci_l Y 40), (q16, ci_i Y 40), (q17, ci_i Y 40), (q18, ci_z Y 40), (q19, ci_z Y 40), (q20, ci_i Y 40), (q21, ci_i Y 40), (q22, ci_i Y 40), (q23, ci_i Y 40), (q24, ci_i Y 40), (q25, ci_i Y 40), (q26, ci_l Y 40), (q27, ci_l Y 40)] H := hP
  have hD : va_D (va_A (ciw10 h0) s.heap.size) [(h0, .inr (10, [.int 0, .int 0, .ref q1, .ref q2, .ref q3, .ref q4, .long 0, .int 4, .int 0, .int 0, .ref q5, .ref q6, .ref q7, .ref q8, .ref q9, .ref q10, .ref q11, .int 0, .ref q12, .ref q13, .ref q14, .int 0, .ref q15, .ref q16, .ref q17, .long 0, .ref q18, .ref q19, .ref q20, .ref q21, .ref q22, .ref q23, .ref q24, .ref q25, .ref q26, .null, .int 0, .int 0, .int 0, .null, .null, .null, .null, .null, .int 0])), (q1, ci_i Y 40), (q2, ci_i Y 40), (q3, ci_i Y 120), (q4, ci_l Y 40), (q5, ci_z Y 40), (q6, ci_i Y 40), (q7, ci_l Y 40), (q8, ci_i Y 40), (q9, ci_i Y 120), (q10, ci_i Y 80), (q11, ci_i Y 80), (q12, ci_l Y 320), (q13, ci_i Y 40), (q14, ci_l Y 800), (q15, ci_l Y 40), (q16, ci_i Y 40), (q17, ci_i Y 40), (q18, ci_z Y 40), (q19, ci_z Y 40), (q20, ci_i Y 40), (q21, ci_i Y 40), (q22, ci_i Y 40), (q23, ci_i Y 40), (q24, ci_i Y 40), (q25, ci_i Y 40), (q26, ci_l Y 40), (q27, ci_l Y 40)] := hD
  refine ci_putF hc hin (o := 10) (idx := 94) (ci := 10) (k := 35) (List.mem_of_getElem? (i := 142) rfl) (r := (RX10, TX10, 45)) rfl rfl rfl hP hD hS 0 rfl rfl (ty := .array .long) (v := .ref q27) (by decide +kernel) rfl rfl (Nat.le_of_ble_eq_true rfl) dX10_init_224 (fun H locs hP hD hS => ?_)
  have hP : va_P D vwCl [(h0, .inr (10, [.int 0, .int 0, .ref q1, .ref q2, .ref q3, .ref q4, .long 0, .int 4, .int 0, .int 0, .ref q5, .ref q6, .ref q7, .ref q8, .ref q9, .ref q10, .ref q11, .int 0, .ref q12, .ref q13, .ref q14, .int 0, .ref q15, .ref q16, .ref q17, .long 0, .ref q18, .ref q19, .ref q20, .ref q21, .ref q22, .ref q23, .ref q24, .ref q25, .ref q26, .ref q27, .int 0, .int 0, .int 0, .null, .null, .null, .null, .null, .int 0])), (q1, ci_i Y 40), (q2, ci_i Y 40), (q3, ci_i Y 120), (q4, ci_l Y 40), (q5, ci_z Y 40), (q6, ci_i Y 40), (q7, ci_l Y 40), (q8, ci_i Y 40), (q9, ci_i Y 120), (q10, ci_i Y 80), (q11, ci_i Y 80), (q12, ci_l Y 320), (q13, ci_i Y 40), (q14, ci_l Y 800), (q15, ci_l Y 40), (q16, ci_i Y 40), (q17, ci_i Y 40), (q18, ci_z Y 40), (q19, ci_z Y 40), (q20, ci_i Y 40), (q21, ci_i Y 40), (q22, ci_i Y 40), (q23, ci_i Y 40), (q24, ci_i Y 40), (q25, ci_i Y 40), (q26, ci_l Y 40), (q27, ci_l Y 40)] H := hP
  have hD : va_D (va_A (ciw10 h0) s.heap.size) [(h0, .inr (10, [.int 0, .int 0, .ref q1, .ref q2, .ref q3, .ref q4, .long 0, .int 4, .int 0, .int 0, .ref q5, .ref q6, .ref q7, .ref q8, .ref q9, .ref q10, .ref q11, .int 0, .ref q12, .ref q13, .ref q14, .int 0, .ref q15, .ref q16, .ref q17, .long 0, .ref q18, .ref q19, .ref q20, .ref q21, .ref q22, .ref q23, .ref q24, .ref q25, .ref q26, .ref q27, .int 0, .int 0, .int 0, .null, .null, .null, .null, .null, .int 0])), (q1, ci_i Y 40), (q2, ci_i Y 40), (q3, ci_i Y 120), (q4, ci_l Y 40), (q5, ci_z Y 40), (q6, ci_i Y 40), (q7, ci_l Y 40), (q8, ci_i Y 40), (q9, ci_i Y 120), (q10, ci_i Y 80), (q11, ci_i Y 80), (q12, ci_l Y 320), (q13, ci_i Y 40), (q14, ci_l Y 800), (q15, ci_l Y 40), (q16, ci_i Y 40), (q17, ci_i Y 40), (q18, ci_z Y 40), (q19, ci_z Y 40), (q20, ci_i Y 40), (q21, ci_i Y 40), (q22, ci_i Y 40), (q23, ci_i Y 40), (q24, ci_i Y 40), (q25, ci_i Y 40), (q26, ci_l Y 40), (q27, ci_l Y 40)] := hD
  refine lv_aload_n hx hb dX10_init_227 rfl (lv_at hl 0 rfl) ?_
  refine lv_sipush (v := 16384) hx hb dX10_init_228 (by decide +kernel) ?_
  refine ci_newI hc hP hD hS (n := 16384) (N := 16384) (by decide +kernel) (by decide +kernel) (Nat.le_of_ble_eq_true rfl) (Nat.le_of_ble_eq_true rfl) (Nat.le_of_ble_eq_true rfl) dX10_init_231 (fun q28 H hP hD hS => ?_)
  have hP : va_P D vwCl [(h0, .inr (10, [.int 0, .int 0, .ref q1, .ref q2, .ref q3, .ref q4, .long 0, .int 4, .int 0, .int 0, .ref q5, .ref q6, .ref q7, .ref q8, .ref q9, .ref q10, .ref q11, .int 0, .ref q12, .ref q13, .ref q14, .int 0, .ref q15, .ref q16, .ref q17, .long 0, .ref q18, .ref q19, .ref q20, .ref q21, .ref q22, .ref q23, .ref q24, .ref q25, .ref q26, .ref q27, .int 0, .int 0, .int 0, .null, .null, .null, .null, .null, .int 0])), (q1, ci_i Y 40), (q2, ci_i Y 40), (q3, ci_i Y 120), (q4, ci_l Y 40), (q5, ci_z Y 40), (q6, ci_i Y 40), (q7, ci_l Y 40), (q8, ci_i Y 40), (q9, ci_i Y 120), (q10, ci_i Y 80), (q11, ci_i Y 80), (q12, ci_l Y 320), (q13, ci_i Y 40), (q14, ci_l Y 800), (q15, ci_l Y 40), (q16, ci_i Y 40), (q17, ci_i Y 40), (q18, ci_z Y 40), (q19, ci_z Y 40), (q20, ci_i Y 40), (q21, ci_i Y 40), (q22, ci_i Y 40), (q23, ci_i Y 40), (q24, ci_i Y 40), (q25, ci_i Y 40), (q26, ci_l Y 40), (q27, ci_l Y 40), (q28, ci_i Y 16384)] H := hP
  have hD : va_D (va_A (ciw10 h0) s.heap.size) [(h0, .inr (10, [.int 0, .int 0, .ref q1, .ref q2, .ref q3, .ref q4, .long 0, .int 4, .int 0, .int 0, .ref q5, .ref q6, .ref q7, .ref q8, .ref q9, .ref q10, .ref q11, .int 0, .ref q12, .ref q13, .ref q14, .int 0, .ref q15, .ref q16, .ref q17, .long 0, .ref q18, .ref q19, .ref q20, .ref q21, .ref q22, .ref q23, .ref q24, .ref q25, .ref q26, .ref q27, .int 0, .int 0, .int 0, .null, .null, .null, .null, .null, .int 0])), (q1, ci_i Y 40), (q2, ci_i Y 40), (q3, ci_i Y 120), (q4, ci_l Y 40), (q5, ci_z Y 40), (q6, ci_i Y 40), (q7, ci_l Y 40), (q8, ci_i Y 40), (q9, ci_i Y 120), (q10, ci_i Y 80), (q11, ci_i Y 80), (q12, ci_l Y 320), (q13, ci_i Y 40), (q14, ci_l Y 800), (q15, ci_l Y 40), (q16, ci_i Y 40), (q17, ci_i Y 40), (q18, ci_z Y 40), (q19, ci_z Y 40), (q20, ci_i Y 40), (q21, ci_i Y 40), (q22, ci_i Y 40), (q23, ci_i Y 40), (q24, ci_i Y 40), (q25, ci_i Y 40), (q26, ci_l Y 40), (q27, ci_l Y 40), (q28, ci_i Y 16384)] := hD
  refine ci_putF hc hin (o := 10) (idx := 97) (ci := 10) (k := 39) (List.mem_of_getElem? (i := 143) rfl) (r := (RX10, TX10, 45)) rfl rfl rfl hP hD hS 0 rfl rfl (ty := .array .int) (v := .ref q28) (by decide +kernel) rfl rfl (Nat.le_of_ble_eq_true rfl) dX10_init_233 (fun H locs hP hD hS => ?_)
  have hP : va_P D vwCl [(h0, .inr (10, [.int 0, .int 0, .ref q1, .ref q2, .ref q3, .ref q4, .long 0, .int 4, .int 0, .int 0, .ref q5, .ref q6, .ref q7, .ref q8, .ref q9, .ref q10, .ref q11, .int 0, .ref q12, .ref q13, .ref q14, .int 0, .ref q15, .ref q16, .ref q17, .long 0, .ref q18, .ref q19, .ref q20, .ref q21, .ref q22, .ref q23, .ref q24, .ref q25, .ref q26, .ref q27, .int 0, .int 0, .int 0, .ref q28, .null, .null, .null, .null, .int 0])), (q1, ci_i Y 40), (q2, ci_i Y 40), (q3, ci_i Y 120), (q4, ci_l Y 40), (q5, ci_z Y 40), (q6, ci_i Y 40), (q7, ci_l Y 40), (q8, ci_i Y 40), (q9, ci_i Y 120), (q10, ci_i Y 80), (q11, ci_i Y 80), (q12, ci_l Y 320), (q13, ci_i Y 40), (q14, ci_l Y 800), (q15, ci_l Y 40), (q16, ci_i Y 40), (q17, ci_i Y 40), (q18, ci_z Y 40), (q19, ci_z Y 40), (q20, ci_i Y 40), (q21, ci_i Y 40), (q22, ci_i Y 40), (q23, ci_i Y 40), (q24, ci_i Y 40), (q25, ci_i Y 40), (q26, ci_l Y 40), (q27, ci_l Y 40), (q28, ci_i Y 16384)] H := hP
  have hD : va_D (va_A (ciw10 h0) s.heap.size) [(h0, .inr (10, [.int 0, .int 0, .ref q1, .ref q2, .ref q3, .ref q4, .long 0, .int 4, .int 0, .int 0, .ref q5, .ref q6, .ref q7, .ref q8, .ref q9, .ref q10, .ref q11, .int 0, .ref q12, .ref q13, .ref q14, .int 0, .ref q15, .ref q16, .ref q17, .long 0, .ref q18, .ref q19, .ref q20, .ref q21, .ref q22, .ref q23, .ref q24, .ref q25, .ref q26, .ref q27, .int 0, .int 0, .int 0, .ref q28, .null, .null, .null, .null, .int 0])), (q1, ci_i Y 40), (q2, ci_i Y 40), (q3, ci_i Y 120), (q4, ci_l Y 40), (q5, ci_z Y 40), (q6, ci_i Y 40), (q7, ci_l Y 40), (q8, ci_i Y 40), (q9, ci_i Y 120), (q10, ci_i Y 80), (q11, ci_i Y 80), (q12, ci_l Y 320), (q13, ci_i Y 40), (q14, ci_l Y 800), (q15, ci_l Y 40), (q16, ci_i Y 40), (q17, ci_i Y 40), (q18, ci_z Y 40), (q19, ci_z Y 40), (q20, ci_i Y 40), (q21, ci_i Y 40), (q22, ci_i Y 40), (q23, ci_i Y 40), (q24, ci_i Y 40), (q25, ci_i Y 40), (q26, ci_l Y 40), (q27, ci_l Y 40), (q28, ci_i Y 16384)] := hD
  refine lv_aload_n hx hb dX10_init_236 rfl (lv_at hl 0 rfl) ?_
  refine lv_bipush (v := 14) hx hb dX10_init_237 (by decide +kernel) ?_
  refine ci_newI hc hP hD hS (n := 14) (N := 14) (by decide +kernel) (by decide +kernel) (Nat.le_of_ble_eq_true rfl) (Nat.le_of_ble_eq_true rfl) (Nat.le_of_ble_eq_true rfl) dX10_init_239 (fun q29 H hP hD hS => ?_)
  have hP : va_P D vwCl [(h0, .inr (10, [.int 0, .int 0, .ref q1, .ref q2, .ref q3, .ref q4, .long 0, .int 4, .int 0, .int 0, .ref q5, .ref q6, .ref q7, .ref q8, .ref q9, .ref q10, .ref q11, .int 0, .ref q12, .ref q13, .ref q14, .int 0, .ref q15, .ref q16, .ref q17, .long 0, .ref q18, .ref q19, .ref q20, .ref q21, .ref q22, .ref q23, .ref q24, .ref q25, .ref q26, .ref q27, .int 0, .int 0, .int 0, .ref q28, .null, .null, .null, .null, .int 0])), (q1, ci_i Y 40), (q2, ci_i Y 40), (q3, ci_i Y 120), (q4, ci_l Y 40), (q5, ci_z Y 40), (q6, ci_i Y 40), (q7, ci_l Y 40), (q8, ci_i Y 40), (q9, ci_i Y 120), (q10, ci_i Y 80), (q11, ci_i Y 80), (q12, ci_l Y 320), (q13, ci_i Y 40), (q14, ci_l Y 800), (q15, ci_l Y 40), (q16, ci_i Y 40), (q17, ci_i Y 40), (q18, ci_z Y 40), (q19, ci_z Y 40), (q20, ci_i Y 40), (q21, ci_i Y 40), (q22, ci_i Y 40), (q23, ci_i Y 40), (q24, ci_i Y 40), (q25, ci_i Y 40), (q26, ci_l Y 40), (q27, ci_l Y 40), (q28, ci_i Y 16384), (q29, ci_i Y 14)] H := hP
  have hD : va_D (va_A (ciw10 h0) s.heap.size) [(h0, .inr (10, [.int 0, .int 0, .ref q1, .ref q2, .ref q3, .ref q4, .long 0, .int 4, .int 0, .int 0, .ref q5, .ref q6, .ref q7, .ref q8, .ref q9, .ref q10, .ref q11, .int 0, .ref q12, .ref q13, .ref q14, .int 0, .ref q15, .ref q16, .ref q17, .long 0, .ref q18, .ref q19, .ref q20, .ref q21, .ref q22, .ref q23, .ref q24, .ref q25, .ref q26, .ref q27, .int 0, .int 0, .int 0, .ref q28, .null, .null, .null, .null, .int 0])), (q1, ci_i Y 40), (q2, ci_i Y 40), (q3, ci_i Y 120), (q4, ci_l Y 40), (q5, ci_z Y 40), (q6, ci_i Y 40), (q7, ci_l Y 40), (q8, ci_i Y 40), (q9, ci_i Y 120), (q10, ci_i Y 80), (q11, ci_i Y 80), (q12, ci_l Y 320), (q13, ci_i Y 40), (q14, ci_l Y 800), (q15, ci_l Y 40), (q16, ci_i Y 40), (q17, ci_i Y 40), (q18, ci_z Y 40), (q19, ci_z Y 40), (q20, ci_i Y 40), (q21, ci_i Y 40), (q22, ci_i Y 40), (q23, ci_i Y 40), (q24, ci_i Y 40), (q25, ci_i Y 40), (q26, ci_l Y 40), (q27, ci_l Y 40), (q28, ci_i Y 16384), (q29, ci_i Y 14)] := hD
  refine ci_putF hc hin (o := 10) (idx := 100) (ci := 10) (k := 40) (List.mem_of_getElem? (i := 144) rfl) (r := (RX10, TX10, 45)) rfl rfl rfl hP hD hS 0 rfl rfl (ty := .array .int) (v := .ref q29) (by decide +kernel) rfl rfl (Nat.le_of_ble_eq_true rfl) dX10_init_241 (fun H locs hP hD hS => ?_)
  have hP : va_P D vwCl [(h0, .inr (10, [.int 0, .int 0, .ref q1, .ref q2, .ref q3, .ref q4, .long 0, .int 4, .int 0, .int 0, .ref q5, .ref q6, .ref q7, .ref q8, .ref q9, .ref q10, .ref q11, .int 0, .ref q12, .ref q13, .ref q14, .int 0, .ref q15, .ref q16, .ref q17, .long 0, .ref q18, .ref q19, .ref q20, .ref q21, .ref q22, .ref q23, .ref q24, .ref q25, .ref q26, .ref q27, .int 0, .int 0, .int 0, .ref q28, .ref q29, .null, .null, .null, .int 0])), (q1, ci_i Y 40), (q2, ci_i Y 40), (q3, ci_i Y 120), (q4, ci_l Y 40), (q5, ci_z Y 40), (q6, ci_i Y 40), (q7, ci_l Y 40), (q8, ci_i Y 40), (q9, ci_i Y 120), (q10, ci_i Y 80), (q11, ci_i Y 80), (q12, ci_l Y 320), (q13, ci_i Y 40), (q14, ci_l Y 800), (q15, ci_l Y 40), (q16, ci_i Y 40), (q17, ci_i Y 40), (q18, ci_z Y 40), (q19, ci_z Y 40), (q20, ci_i Y 40), (q21, ci_i Y 40), (q22, ci_i Y 40), (q23, ci_i Y 40), (q24, ci_i Y 40), (q25, ci_i Y 40), (q26, ci_l Y 40), (q27, ci_l Y 40), (q28, ci_i Y 16384), (q29, ci_i Y 14)] H := hP
  have hD : va_D (va_A (ciw10 h0) s.heap.size) [(h0, .inr (10, [.int 0, .int 0, .ref q1, .ref q2, .ref q3, .ref q4, .long 0, .int 4, .int 0, .int 0, .ref q5, .ref q6, .ref q7, .ref q8, .ref q9, .ref q10, .ref q11, .int 0, .ref q12, .ref q13, .ref q14, .int 0, .ref q15, .ref q16, .ref q17, .long 0, .ref q18, .ref q19, .ref q20, .ref q21, .ref q22, .ref q23, .ref q24, .ref q25, .ref q26, .ref q27, .int 0, .int 0, .int 0, .ref q28, .ref q29, .null, .null, .null, .int 0])), (q1, ci_i Y 40), (q2, ci_i Y 40), (q3, ci_i Y 120), (q4, ci_l Y 40), (q5, ci_z Y 40), (q6, ci_i Y 40), (q7, ci_l Y 40), (q8, ci_i Y 40), (q9, ci_i Y 120), (q10, ci_i Y 80), (q11, ci_i Y 80), (q12, ci_l Y 320), (q13, ci_i Y 40), (q14, ci_l Y 800), (q15, ci_l Y 40), (q16, ci_i Y 40), (q17, ci_i Y 40), (q18, ci_z Y 40), (q19, ci_z Y 40), (q20, ci_i Y 40), (q21, ci_i Y 40), (q22, ci_i Y 40), (q23, ci_i Y 40), (q24, ci_i Y 40), (q25, ci_i Y 40), (q26, ci_l Y 40), (q27, ci_l Y 40), (q28, ci_i Y 16384), (q29, ci_i Y 14)] := hD
  refine lv_aload_n hx hb dX10_init_244 rfl (lv_at hl 0 rfl) ?_
  refine lv_bipush (v := 40) hx hb dX10_init_245 (by decide +kernel) ?_
  refine ci_newI hc hP hD hS (n := 40) (N := 40) (by decide +kernel) (by decide +kernel) (Nat.le_of_ble_eq_true rfl) (Nat.le_of_ble_eq_true rfl) (Nat.le_of_ble_eq_true rfl) dX10_init_247 (fun q30 H hP hD hS => ?_)
  have hP : va_P D vwCl [(h0, .inr (10, [.int 0, .int 0, .ref q1, .ref q2, .ref q3, .ref q4, .long 0, .int 4, .int 0, .int 0, .ref q5, .ref q6, .ref q7, .ref q8, .ref q9, .ref q10, .ref q11, .int 0, .ref q12, .ref q13, .ref q14, .int 0, .ref q15, .ref q16, .ref q17, .long 0, .ref q18, .ref q19, .ref q20, .ref q21, .ref q22, .ref q23, .ref q24, .ref q25, .ref q26, .ref q27, .int 0, .int 0, .int 0, .ref q28, .ref q29, .null, .null, .null, .int 0])), (q1, ci_i Y 40), (q2, ci_i Y 40), (q3, ci_i Y 120), (q4, ci_l Y 40), (q5, ci_z Y 40), (q6, ci_i Y 40), (q7, ci_l Y 40), (q8, ci_i Y 40), (q9, ci_i Y 120), (q10, ci_i Y 80), (q11, ci_i Y 80), (q12, ci_l Y 320), (q13, ci_i Y 40), (q14, ci_l Y 800), (q15, ci_l Y 40), (q16, ci_i Y 40), (q17, ci_i Y 40), (q18, ci_z Y 40), (q19, ci_z Y 40), (q20, ci_i Y 40), (q21, ci_i Y 40), (q22, ci_i Y 40), (q23, ci_i Y 40), (q24, ci_i Y 40), (q25, ci_i Y 40), (q26, ci_l Y 40), (q27, ci_l Y 40), (q28, ci_i Y 16384), (q29, ci_i Y 14), (q30, ci_i Y 40)] H := hP
  have hD : va_D (va_A (ciw10 h0) s.heap.size) [(h0, .inr (10, [.int 0, .int 0, .ref q1, .ref q2, .ref q3, .ref q4, .long 0, .int 4, .int 0, .int 0, .ref q5, .ref q6, .ref q7, .ref q8, .ref q9, .ref q10, .ref q11, .int 0, .ref q12, .ref q13, .ref q14, .int 0, .ref q15, .ref q16, .ref q17, .long 0, .ref q18, .ref q19, .ref q20, .ref q21, .ref q22, .ref q23, .ref q24, .ref q25, .ref q26, .ref q27, .int 0, .int 0, .int 0, .ref q28, .ref q29, .null, .null, .null, .int 0])), (q1, ci_i Y 40), (q2, ci_i Y 40), (q3, ci_i Y 120), (q4, ci_l Y 40), (q5, ci_z Y 40), (q6, ci_i Y 40), (q7, ci_l Y 40), (q8, ci_i Y 40), (q9, ci_i Y 120), (q10, ci_i Y 80), (q11, ci_i Y 80), (q12, ci_l Y 320), (q13, ci_i Y 40), (q14, ci_l Y 800), (q15, ci_l Y 40), (q16, ci_i Y 40), (q17, ci_i Y 40), (q18, ci_z Y 40), (q19, ci_z Y 40), (q20, ci_i Y 40), (q21, ci_i Y 40), (q22, ci_i Y 40), (q23, ci_i Y 40), (q24, ci_i Y 40), (q25, ci_i Y 40), (q26, ci_l Y 40), (q27, ci_l Y 40), (q28, ci_i Y 16384), (q29, ci_i Y 14), (q30, ci_i Y 40)] := hD
  refine ci_putF hc hin (o := 10) (idx := 103) (ci := 10) (k := 41) (List.mem_of_getElem? (i := 145) rfl) (r := (RX10, TX10, 45)) rfl rfl rfl hP hD hS 0 rfl rfl (ty := .array .int) (v := .ref q30) (by decide +kernel) rfl rfl (Nat.le_of_ble_eq_true rfl) dX10_init_249 (fun H locs hP hD hS => ?_)
  have hP : va_P D vwCl [(h0, .inr (10, [.int 0, .int 0, .ref q1, .ref q2, .ref q3, .ref q4, .long 0, .int 4, .int 0, .int 0, .ref q5, .ref q6, .ref q7, .ref q8, .ref q9, .ref q10, .ref q11, .int 0, .ref q12, .ref q13, .ref q14, .int 0, .ref q15, .ref q16, .ref q17, .long 0, .ref q18, .ref q19, .ref q20, .ref q21, .ref q22, .ref q23, .ref q24, .ref q25, .ref q26, .ref q27, .int 0, .int 0, .int 0, .ref q28, .ref q29, .ref q30, .null, .null, .int 0])), (q1, ci_i Y 40), (q2, ci_i Y 40), (q3, ci_i Y 120), (q4, ci_l Y 40), (q5, ci_z Y 40), (q6, ci_i Y 40), (q7, ci_l Y 40), (q8, ci_i Y 40), (q9, ci_i Y 120), (q10, ci_i Y 80), (q11, ci_i Y 80), (q12, ci_l Y 320), (q13, ci_i Y 40), (q14, ci_l Y 800), (q15, ci_l Y 40), (q16, ci_i Y 40), (q17, ci_i Y 40), (q18, ci_z Y 40), (q19, ci_z Y 40), (q20, ci_i Y 40), (q21, ci_i Y 40), (q22, ci_i Y 40), (q23, ci_i Y 40), (q24, ci_i Y 40), (q25, ci_i Y 40), (q26, ci_l Y 40), (q27, ci_l Y 40), (q28, ci_i Y 16384), (q29, ci_i Y 14), (q30, ci_i Y 40)] H := hP
  have hD : va_D (va_A (ciw10 h0) s.heap.size) [(h0, .inr (10, [.int 0, .int 0, .ref q1, .ref q2, .ref q3, .ref q4, .long 0, .int 4, .int 0, .int 0, .ref q5, .ref q6, .ref q7, .ref q8, .ref q9, .ref q10, .ref q11, .int 0, .ref q12, .ref q13, .ref q14, .int 0, .ref q15, .ref q16, .ref q17, .long 0, .ref q18, .ref q19, .ref q20, .ref q21, .ref q22, .ref q23, .ref q24, .ref q25, .ref q26, .ref q27, .int 0, .int 0, .int 0, .ref q28, .ref q29, .ref q30, .null, .null, .int 0])), (q1, ci_i Y 40), (q2, ci_i Y 40), (q3, ci_i Y 120), (q4, ci_l Y 40), (q5, ci_z Y 40), (q6, ci_i Y 40), (q7, ci_l Y 40), (q8, ci_i Y 40), (q9, ci_i Y 120), (q10, ci_i Y 80), (q11, ci_i Y 80), (q12, ci_l Y 320), (q13, ci_i Y 40), (q14, ci_l Y 800), (q15, ci_l Y 40), (q16, ci_i Y 40), (q17, ci_i Y 40), (q18, ci_z Y 40), (q19, ci_z Y 40), (q20, ci_i Y 40), (q21, ci_i Y 40), (q22, ci_i Y 40), (q23, ci_i Y 40), (q24, ci_i Y 40), (q25, ci_i Y 40), (q26, ci_l Y 40), (q27, ci_l Y 40), (q28, ci_i Y 16384), (q29, ci_i Y 14), (q30, ci_i Y 40)] := hD
  refine lv_aload_n hx hb dX10_init_252 rfl (lv_at hl 0 rfl) ?_
  refine lv_bipush (v := 40) hx hb dX10_init_253 (by decide +kernel) ?_
  refine ci_newL hc hP hD hS (n := 40) (N := 40) (by decide +kernel) (by decide +kernel) (Nat.le_of_ble_eq_true rfl) (Nat.le_of_ble_eq_true rfl) (Nat.le_of_ble_eq_true rfl) dX10_init_255 (fun q31 H hP hD hS => ?_)
  have hP : va_P D vwCl [(h0, .inr (10, [.int 0, .int 0, .ref q1, .ref q2, .ref q3, .ref q4, .long 0, .int 4, .int 0, .int 0, .ref q5, .ref q6, .ref q7, .ref q8, .ref q9, .ref q10, .ref q11, .int 0, .ref q12, .ref q13, .ref q14, .int 0, .ref q15, .ref q16, .ref q17, .long 0, .ref q18, .ref q19, .ref q20, .ref q21, .ref q22, .ref q23, .ref q24, .ref q25, .ref q26, .ref q27, .int 0, .int 0, .int 0, .ref q28, .ref q29, .ref q30, .null, .null, .int 0])), (q1, ci_i Y 40), (q2, ci_i Y 40), (q3, ci_i Y 120), (q4, ci_l Y 40), (q5, ci_z Y 40), (q6, ci_i Y 40), (q7, ci_l Y 40), (q8, ci_i Y 40), (q9, ci_i Y 120), (q10, ci_i Y 80), (q11, ci_i Y 80), (q12, ci_l Y 320), (q13, ci_i Y 40), (q14, ci_l Y 800), (q15, ci_l Y 40), (q16, ci_i Y 40), (q17, ci_i Y 40), (q18, ci_z Y 40), (q19, ci_z Y 40), (q20, ci_i Y 40), (q21, ci_i Y 40), (q22, ci_i Y 40), (q23, ci_i Y 40), (q24, ci_i Y 40), (q25, ci_i Y 40), (q26, ci_l Y 40), (q27, ci_l Y 40), (q28, ci_i Y 16384), (q29, ci_i Y 14), (q30, ci_i Y 40), (q31, ci_l Y 40)] H := hP
  have hD : va_D (va_A (ciw10 h0) s.heap.size) [(h0, .inr (10, [.int 0, .int 0, .ref q1, .ref q2, .ref q3, .ref q4, .long 0, .int 4, .int 0, .int 0, .ref q5, .ref q6, .ref q7, .ref q8, .ref q9, .ref q10, .ref q11, .int 0, .ref q12, .ref q13, .ref q14, .int 0, .ref q15, .ref q16, .ref q17, .long 0, .ref q18, .ref q19, .ref q20, .ref q21, .ref q22, .ref q23, .ref q24, .ref q25, .ref q26, .ref q27, .int 0, .int 0, .int 0, .ref q28, .ref q29, .ref q30, .null, .null, .int 0])), (q1, ci_i Y 40), (q2, ci_i Y 40), (q3, ci_i Y 120), (q4, ci_l Y 40), (q5, ci_z Y 40), (q6, ci_i Y 40), (q7, ci_l Y 40), (q8, ci_i Y 40), (q9, ci_i Y 120), (q10, ci_i Y 80), (q11, ci_i Y 80), (q12, ci_l Y 320), (q13, ci_i Y 40), (q14, ci_l Y 800), (q15, ci_l Y 40), (q16, ci_i Y 40), (q17, ci_i Y 40), (q18, ci_z Y 40), (q19, ci_z Y 40), (q20, ci_i Y 40), (q21, ci_i Y 40), (q22, ci_i Y 40), (q23, ci_i Y 40), (q24, ci_i Y 40), (q25, ci_i Y 40), (q26, ci_l Y 40), (q27, ci_l Y 40), (q28, ci_i Y 16384), (q29, ci_i Y 14), (q30, ci_i Y 40), (q31, ci_l Y 40)] := hD
  refine ci_putF hc hin (o := 10) (idx := 106) (ci := 10) (k := 42) (List.mem_of_getElem? (i := 146) rfl) (r := (RX10, TX10, 45)) rfl rfl rfl hP hD hS 0 rfl rfl (ty := .array .long) (v := .ref q31) (by decide +kernel) rfl rfl (Nat.le_of_ble_eq_true rfl) dX10_init_257 (fun H locs hP hD hS => ?_)
  have hP : va_P D vwCl [(h0, .inr (10, [.int 0, .int 0, .ref q1, .ref q2, .ref q3, .ref q4, .long 0, .int 4, .int 0, .int 0, .ref q5, .ref q6, .ref q7, .ref q8, .ref q9, .ref q10, .ref q11, .int 0, .ref q12, .ref q13, .ref q14, .int 0, .ref q15, .ref q16, .ref q17, .long 0, .ref q18, .ref q19, .ref q20, .ref q21, .ref q22, .ref q23, .ref q24, .ref q25, .ref q26, .ref q27, .int 0, .int 0, .int 0, .ref q28, .ref q29, .ref q30, .ref q31, .null, .int 0])), (q1, ci_i Y 40), (q2, ci_i Y 40), (q3, ci_i Y 120), (q4, ci_l Y 40), (q5, ci_z Y 40), (q6, ci_i Y 40), (q7, ci_l Y 40), (q8, ci_i Y 40), (q9, ci_i Y 120), (q10, ci_i Y 80), (q11, ci_i Y 80), (q12, ci_l Y 320), (q13, ci_i Y 40), (q14, ci_l Y 800), (q15, ci_l Y 40), (q16, ci_i Y 40), (q17, ci_i Y 40), (q18, ci_z Y 40), (q19, ci_z Y 40), (q20, ci_i Y 40), (q21, ci_i Y 40), (q22, ci_i Y 40), (q23, ci_i Y 40), (q24, ci_i Y 40), (q25, ci_i Y 40), (q26, ci_l Y 40), (q27, ci_l Y 40), (q28, ci_i Y 16384), (q29, ci_i Y 14), (q30, ci_i Y 40), (q31, ci_l Y 40)] H := hP
  have hD : va_D (va_A (ciw10 h0) s.heap.size) [(h0, .inr (10, [.int 0, .int 0, .ref q1, .ref q2, .ref q3, .ref q4, .long 0, .int 4, .int 0, .int 0, .ref q5, .ref q6, .ref q7, .ref q8, .ref q9, .ref q10, .ref q11, .int 0, .ref q12, .ref q13, .ref q14, .int 0, .ref q15, .ref q16, .ref q17, .long 0, .ref q18, .ref q19, .ref q20, .ref q21, .ref q22, .ref q23, .ref q24, .ref q25, .ref q26, .ref q27, .int 0, .int 0, .int 0, .ref q28, .ref q29, .ref q30, .ref q31, .null, .int 0])), (q1, ci_i Y 40), (q2, ci_i Y 40), (q3, ci_i Y 120), (q4, ci_l Y 40), (q5, ci_z Y 40), (q6, ci_i Y 40), (q7, ci_l Y 40), (q8, ci_i Y 40), (q9, ci_i Y 120), (q10, ci_i Y 80), (q11, ci_i Y 80), (q12, ci_l Y 320), (q13, ci_i Y 40), (q14, ci_l Y 800), (q15, ci_l Y 40), (q16, ci_i Y 40), (q17, ci_i Y 40), (q18, ci_z Y 40), (q19, ci_z Y 40), (q20, ci_i Y 40), (q21, ci_i Y 40), (q22, ci_i Y 40), (q23, ci_i Y 40), (q24, ci_i Y 40), (q25, ci_i Y 40), (q26, ci_l Y 40), (q27, ci_l Y 40), (q28, ci_i Y 16384), (q29, ci_i Y 14), (q30, ci_i Y 40), (q31, ci_l Y 40)] := hD
  refine lv_aload_n hx hb dX10_init_260 rfl (lv_at hl 0 rfl) ?_
  refine lv_bipush (v := 40) hx hb dX10_init_261 (by decide +kernel) ?_
  refine ci_newL hc hP hD hS (n := 40) (N := 40) (by decide +kernel) (by decide +kernel) (Nat.le_of_ble_eq_true rfl) (Nat.le_of_ble_eq_true rfl) (Nat.le_of_ble_eq_true rfl) dX10_init_263 (fun q32 H hP hD hS => ?_)
  have hP : va_P D vwCl [(h0, .inr (10, [.int 0, .int 0, .ref q1, .ref q2, .ref q3, .ref q4, .long 0, .int 4, .int 0, .int 0, .ref q5, .ref q6, .ref q7, .ref q8, .ref q9, .ref q10, .ref q11, .int 0, .ref q12, .ref q13, .ref q14, .int 0, .ref q15, .ref q16, .ref q17, .long 0, .ref q18, .ref q19, .ref q20, .ref q21, .ref q22, .ref q23, .ref q24, .ref q25, .ref q26, .ref q27, .int 0, .int 0, .int 0, .ref q28, .ref q29, .ref q30, .ref q31, .null, .int 0])), (q1, ci_i Y 40), (q2, ci_i Y 40), (q3, ci_i Y 120), (q4, ci_l Y 40), (q5, ci_z Y 40), (q6, ci_i Y 40), (q7, ci_l Y 40), (q8, ci_i Y 40), (q9, ci_i Y 120), (q10, ci_i Y 80), (q11, ci_i Y 80), (q12, ci_l Y 320), (q13, ci_i Y 40), (q14, ci_l Y 800), (q15, ci_l Y 40), (q16, ci_i Y 40), (q17, ci_i Y 40), (q18, ci_z Y 40), (q19, ci_z Y 40), (q20, ci_i Y 40), (q21, ci_i Y 40), (q22, ci_i Y 40), (q23, ci_i Y 40), (q24, ci_i Y 40), (q25, ci_i Y 40), (q26, ci_l Y 40), (q27, ci_l Y 40), (q28, ci_i Y 16384), (q29, ci_i Y 14), (q30, ci_i Y 40), (q31, ci_l Y 40), (q32, ci_l Y 40)] H := hP
  have hD : va_D (va_A (ciw10 h0) s.heap.size) [(h0, .inr (10, [.int 0, .int 0, .ref q1, .ref q2, .ref q3, .ref q4, .long 0, .int 4, .int 0, .int 0, .ref q5, .ref q6, .ref q7, .ref q8, .ref q9, .ref q10, .ref q11, .int 0, .ref q12, .ref q13, .ref q14, .int 0, .ref q15, .ref q16, .ref q17, .long 0, .ref q18, .ref q19, .ref q20, .ref q21, .ref q22, .ref q23, .ref q24, .ref q25, .ref q26, .ref q27, .int 0, .int 0, .int 0, .ref q28, .ref q29, .ref q30, .ref q31, .null, .int 0])), (q1, ci_i Y 40), (q2, ci_i Y 40), (q3, ci_i Y 120), (q4, ci_l Y 40), (q5, ci_z Y 40), (q6, ci_i Y 40), (q7, ci_l Y 40), (q8, ci_i Y 40), (q9, ci_i Y 120), (q10, ci_i Y 80), (q11, ci_i Y 80), (q12, ci_l Y 320), (q13, ci_i Y 40), (q14, ci_l Y 800), (q15, ci_l Y 40), (q16, ci_i Y 40), (q17, ci_i Y 40), (q18, ci_z Y 40), (q19, ci_z Y 40), (q20, ci_i Y 40), (q21, ci_i Y 40), (q22, ci_i Y 40), (q23, ci_i Y 40), (q24, ci_i Y 40), (q25, ci_i Y 40), (q26, ci_l Y 40), (q27, ci_l Y 40), (q28, ci_i Y 16384), (q29, ci_i Y 14), (q30, ci_i Y 40), (q31, ci_l Y 40), (q32, ci_l Y 40)] := hD
  refine ci_putF hc hin (o := 10) (idx := 109) (ci := 10) (k := 43) (List.mem_of_getElem? (i := 147) rfl) (r := (RX10, TX10, 45)) rfl rfl rfl hP hD hS 0 rfl rfl (ty := .array .long) (v := .ref q32) (by decide +kernel) rfl rfl (Nat.le_of_ble_eq_true rfl) dX10_init_265 (fun H locs hP hD hS => ?_)
  have hP : va_P D vwCl [(h0, .inr (10, [.int 0, .int 0, .ref q1, .ref q2, .ref q3, .ref q4, .long 0, .int 4, .int 0, .int 0, .ref q5, .ref q6, .ref q7, .ref q8, .ref q9, .ref q10, .ref q11, .int 0, .ref q12, .ref q13, .ref q14, .int 0, .ref q15, .ref q16, .ref q17, .long 0, .ref q18, .ref q19, .ref q20, .ref q21, .ref q22, .ref q23, .ref q24, .ref q25, .ref q26, .ref q27, .int 0, .int 0, .int 0, .ref q28, .ref q29, .ref q30, .ref q31, .ref q32, .int 0])), (q1, ci_i Y 40), (q2, ci_i Y 40), (q3, ci_i Y 120), (q4, ci_l Y 40), (q5, ci_z Y 40), (q6, ci_i Y 40), (q7, ci_l Y 40), (q8, ci_i Y 40), (q9, ci_i Y 120), (q10, ci_i Y 80), (q11, ci_i Y 80), (q12, ci_l Y 320), (q13, ci_i Y 40), (q14, ci_l Y 800), (q15, ci_l Y 40), (q16, ci_i Y 40), (q17, ci_i Y 40), (q18, ci_z Y 40), (q19, ci_z Y 40), (q20, ci_i Y 40), (q21, ci_i Y 40), (q22, ci_i Y 40), (q23, ci_i Y 40), (q24, ci_i Y 40), (q25, ci_i Y 40), (q26, ci_l Y 40), (q27, ci_l Y 40), (q28, ci_i Y 16384), (q29, ci_i Y 14), (q30, ci_i Y 40), (q31, ci_l Y 40), (q32, ci_l Y 40)] H := hP
  have hD : va_D (va_A (ciw10 h0) s.heap.size) [(h0, .inr (10, [.int 0, .int 0, .ref q1, .ref q2, .ref q3, .ref q4, .long 0, .int 4, .int 0, .int 0, .ref q5, .ref q6, .ref q7, .ref q8, .ref q9, .ref q10, .ref q11, .int 0, .ref q12, .ref q13, .ref q14, .int 0, .ref q15, .ref q16, .ref q17, .long 0, .ref q18, .ref q19, .ref q20, .ref q21, .ref q22, .ref q23, .ref q24, .ref q25, .ref q26, .ref q27, .int 0, .int 0, .int 0, .ref q28, .ref q29, .ref q30, .ref q31, .ref q32, .int 0])), (q1, ci_i Y 40), (q2, ci_i Y 40), (q3, ci_i Y 120), (q4, ci_l Y 40), (q5, ci_z Y 40), (q6, ci_i Y 40), (q7, ci_l Y 40), (q8, ci_i Y 40), (q9, ci_i Y 120), (q10, ci_i Y 80), (q11, ci_i Y 80), (q12, ci_l Y 320), (q13, ci_i Y 40), (q14, ci_l Y 800), (q15, ci_l Y 40), (q16, ci_i Y 40), (q17, ci_i Y 40), (q18, ci_z Y 40), (q19, ci_z Y 40), (q20, ci_i Y 40), (q21, ci_i Y 40), (q22, ci_i Y 40), (q23, ci_i Y 40), (q24, ci_i Y 40), (q25, ci_i Y 40), (q26, ci_l Y 40), (q27, ci_l Y 40), (q28, ci_i Y 16384), (q29, ci_i Y 14), (q30, ci_i Y 40), (q31, ci_l Y 40), (q32, ci_l Y 40)] := hD
  refine W.widen (k := 32) (n := 18878) (Nat.le_of_ble_eq_true rfl) (Nat.le_of_ble_eq_true rfl) ?_
  exact W.vret hx hb hr (fun t ht hW => ⟨⟨fun i => [q1, q2, q3, q4, q5, q6, q7, q8, q9, q10, q11, q12, q13, q14, q15, q16, q17, q18, q19, q20, q21, q22, q23, q24, q25, q26, q27, q28, q29, q30, q31, q32].getD i 0, rfl, trivial, by rw [ht]; exact hP, hD⟩, hS.F ht⟩) hS.2.2 dX10_init_268
