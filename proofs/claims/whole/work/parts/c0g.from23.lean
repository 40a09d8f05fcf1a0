/-! THE CLAIM OUT OF ONE WALK OF THE LAW'S BODY. Your part is whole_start (and what it stands on); all else here is the same for every law, but numbers. -/
def R_law : String := "TableMapperLaw"
def lw_P (b : Addr) (xs : List Int32) (args : Array Value) (s : State) : Prop := args = #[.ref b] ∧ s.IntsAt b xs ∧ xs.length ≤ 2560 ∧ (Jvm.Cond.and given_1 narrow_1).before args s = true
def lw_Q (_ : Array Value) (s : State) (o : Outcome) (t : State) : Prop := o = .returned (some (.int 1)) ∧ Framed s o t [] 601024 7293034
def lw_Z (below : List Frame) (a : Array Value) (s : State) : State → Prop := fun t => ∃ o, t.status = .running ∧ Ended t below o ∧ lw_Q a s o t
/-- the law's own end, with 1 on the stack, nothing written that was there before, its room as the claim has it -/
theorem lw_ret {p : Program} {l : Launch} {e : Env} {s : State} {m : MethodId} {below : List Frame} {meth : Method} {c : Code} {b : Nat} (hx : p.tables.exec = Jvm.exec) (hb : c.code = code) (hr : meth.sig.returnType = ret) (hlocks : meth.locks = false) {pc : Nat} {H : Heap} {ls : Array Slot} (hdg : decode code pc = .ok (.ireturn, 1)) : W p l e room_1 s m #[Value.ref b] below meth c H [] 601024 7293034 (lw_Z below #[Value.ref b] s) (F0 m pc ls [.int 1]) := by
  intro T hT X
  obtain ⟨fs, hret, hrun, hended, hW, hframe⟩ := X.leave (v := some (.int 1)) (hlocks := hlocks) (fun h => by rw [hr] at h; cases h)
  have hmeth' : T.vm.method? m = some meth := X.method'
  refine ⟨T.setFrames fs, ?_, .returned (some (.int 1)), hrun, hended, rfl, ⟨_, rfl⟩, hW, hframe⟩
  jvm_step X.here [X.here.top, hx, hb, hdg, hmeth', hr, ret, narrow_b1]
  (try refine ⟨rfl, ?_⟩); (try refine ⟨rfl, ?_⟩)
  first | (intro acts; rw [hret _ acts rfl rfl rfl]) | rw [hret _ _ rfl rfl rfl]
  exact Steps.refl _
/-- what holds at the law's entry: the machine, the code, the tables' words (any of lw_tbl by 'hts w (by decide +kernel)'), the script of L ints xs at the cell b, what the Statement gives of the start (any of its parts by flat_of_before) -/
def lw_At (p : Program) (s : State) (m : MethodId) (meth : Method) (c : Code) (b L : Nat) (xs : Nat → Int32) : Prop :=
  p.tables.exec = Jvm.exec ∧ c.code = code ∧ meth.sig.returnType = ret ∧ c.maxLocals = 8 ∧ s.vm.findClass R_law = some m.cls ∧ (∀ w ∈ lw_tbl, w.before #[Value.ref b] s = true) ∧ va_X b L xs s s.heap ∧ b < s.heap.size ∧ meth.locks = false ∧ (Jvm.Cond.and given_1 narrow_1).before #[Value.ref b] s = true
/-- from pc 23 on -/
def st_ro (xs : Nat → Int32) : jm_G := (fun t _ k => if t = 100 then nI (ar k) else xs k, fun _ _ k => lN (plM k))
set_option maxHeartbeats 4000000 in
set_option maxRecDepth 100000 in
theorem lw_from23 {p : Program} {e : Env} {s : State} {m : MethodId} {below : List Frame} {meth : Method} {c : Code} (l : Launch) (hflags : l.flags = flags0) {b L : Nat} {xs : Nat → Int32} (hL : L ≤ 2560) (C0 : lw_At p s m meth c b L xs) {D : va_G} {Y : sd_Y} (hK : va_K D vwCl (sd_tys Y) s) {q1 q2 q3 : Nat} {u1 u2 : Nat → Nat} {H : Heap} {locs : List Loc} {ls : Array Slot}
    (hP : va_P D vwCl (st_w Y q1 q2 q3 u1 u2) H) (hD : va_D (fun q : Nat => s.heap.size ≤ q) (st_w Y q1 q2 q3 u1 u2)) (hS : va_S (fun q : Nat => s.heap.size ≤ q) s.heap H locs) (hl : lv_has ls 8 [(4, .int 0), (3, .ref q3), (2, .ref q2), (1, .ref q1), (0, .ref b)]) :
    W p l e room_1 s m #[Value.ref b] below meth c H locs 87 23246 (lw_Z below #[Value.ref b] s) (F0 m 23 ls []) := by
  obtain ⟨hx, hb, hr, hml, hown, hts0, hX, hbl, hlocks, hgv⟩ := C0
  have hts : ∀ w ∈ sd_W, w.before #[Value.ref b] s = true := fun w hw => hts0 w (List.mem_filter.mp hw).1
  have hfl : l.stackTraces = false := by unfold Launch.stackTraces; rw [hflags]; decide +kernel
  obtain ⟨aS, hzS, htS⟩ := st_src hts0 hgv
  obtain ⟨aP, hzP, htP⟩ := st_plc hts0 hgv
  have hsub := st_A (aS := aS) (aP := aP) (b := b) hD
  have hinj := st_inj (aS := aS) (aP := aP) (b := b) hD
  have hws := st_ws (ρ := st_ro xs) (aS := aS) (aP := aP) (b := b) hP
  have hA : ∀ a : Nat, a < s.heap.size → ¬ sd_A (st_ad q1 q2 q3 aS aP b u1 u2) a := fun a h1 h2 => absurd (hsub a h2) (Nat.not_le.mpr h1)
  have hxP := st_exc hts0 hgv hA
  have e0 : st_ad q1 q2 q3 aS aP b u1 u2 0 0 = q1 := rfl
  have e1 : st_ad q1 q2 q3 aS aP b u1 u2 38 0 = q2 := rfl
  have e2 : st_ad q1 q2 q3 aS aP b u1 u2 71 0 = q3 := rfl
  have e3 : st_ad q1 q2 q3 aS aP b u1 u2 100 0 = aS := rfl
  have e4 : st_ad q1 q2 q3 aS aP b u1 u2 101 0 = aP := rfl
  have e5 : st_ad q1 q2 q3 aS aP b u1 u2 102 0 = b := rfl
  generalize st_ad q1 q2 q3 aS aP b u1 u2 = ad at hsub hinj hws hA hxP e0 e1 e2 e3 e4 e5
  have hst : sd_st L D Y ad (st_ro xs) s s.heap := by
    refine ⟨hK, fun w hw => ?_, hinj, ?_, ?_, ?_, ?_, ?_⟩
    · have hin := sd_nest_in w hw
      obtain ⟨q, -, rfl⟩ := List.mem_map.mp hw
      exact va_Nw.of rfl (hts0 _ hin)
    · rw [e3]; exact hzS.narrow hsub
    · rw [e4]; exact hzP.narrow hsub
    · rw [e3]; exact htS.narrow hsub
    · rw [e4]; exact htP.narrow hsub
    · rw [e5]
      obtain ⟨scr, x1, x2, x3, x4, x5⟩ := hX
      exact ⟨scr, x1, x2, x3, Nat.le_of_eq x4.symm, by rw [x4], fun j hj => x5 j hj, hA b hbl⟩
  have hcx : sd_cx p s m #[Value.ref b] c L 11 8 code D Y ad (st_ro xs) := ⟨hx, hb, hml, hown, hts, hst⟩
  have hret : ∀ cs sl, cs ≤ room_1.cells → sl ≤ room_1.slots → sd_hret p l e room_1 s m #[Value.ref b] below meth c cs sl (lw_Z below #[Value.ref b] s) 3 code D Y ad (st_ro xs) (fun r _ => r = some (jI (nI 1))) := by
    intro cs sl h1 h2 i v τ H1 locs1 ls1 pc hd hrt hpo hro' hok' hP' hS'
    rcases hrt with ⟨rfl, x9, rfl, -⟩ | ⟨-, h0, -⟩ | ⟨-, h0, -⟩ | ⟨-, h0, -⟩
    · cases hpo
      refine va_forget (fun q hq => hsub _ (hS'.2.2 q hq)) ?_
      refine W.widen (k := 601024) (n := 7293034) h1 h2 ?_
      exact lw_ret hx hb hr hlocks hd
    · cases h0
    · cases h0
    · cases h0
  have hcall : sd_hcall l room_1 L D Y ad (st_ro xs) (jm_does L 13) := by
    intro k' as' σ' post' h' q' hq' hro' hok'
    obtain ⟨-, -, -, -, -, -, -, -, -, -, -, h60'⟩ := sd_mF hq'
    exact ⟨sd_rm 13, rfl, rfl, Nat.le_of_ble_eq_true rfl, (show 8 + (q'.2.2.1 + 11) + 1300 ≤ 84000 by omega), sd_sound l L D Y ad (st_ro xs) 13 k' as' σ' post' h' q' hq' hro' hok'⟩
  have X := lw_body_open (e := e) (below := below) (meth := meth) (d := 13) (ec := 1) (es := 6) (cs := 87) (sl := 23246) (Nat.le_refl 13) hL hcx ⟨Nat.le_of_ble_eq_true rfl, Nat.le_of_ble_eq_true rfl⟩ hret hcall (fun cs sl A σ i h1 h2 hb _ next => lw_helper hfl hcx hxP ⟨Nat.le_of_ble_eq_true rfl, Nat.le_of_ble_eq_true rfl⟩ cs sl A σ i h1 h2 hb next) (Nat.le_of_ble_eq_true rfl) (Nat.le_of_ble_eq_true rfl) (A0_R (st_ro xs) (fun j _ => rfl) (fun i _ => rfl))
  refine va_forget (fun q hq => hS.2.2 q hq) ?_
  have hl' : lv_has ls 8 (sd_ll ad (lvL 0) 0) := by
    have h9 := lv_sub hl [4, 3, 2, 1, 0] rfl
    rw [← e0, ← e1, ← e2, ← e5] at h9
    exact h9
  refine X ⟨rfl, rfl, rfl⟩ (fun i v hv => ?_) (fun v hv => by cases hv) rfl H [] ls hws ⟨hS.1, fun q h1 _ => hS.2.1 q h1 (Nat.not_le.mpr h1), fun q hq => by cases hq⟩ hl'
  match i, hv with
  | 0, hv => cases hv; exact Or.inr ⟨rfl, Or.inr (Or.inr rfl)⟩
  | 1, hv => cases hv; exact Or.inl (by decide)
  | 2, hv => cases hv; exact Or.inl (by decide)
  | 3, hv => cases hv; exact Or.inl (by decide)
  | 4, hv => cases hv; trivial
  | 5, hv => cases hv
  | 6, hv => cases hv
  | 7, hv => cases hv
  | i + 8, hv => cases i <;> cases hv
