/-! THE CONTRACTS: what the abstract machine does, the methods do -/
theorem jm_pad_at : ∀ (n : Nat) (l : jm_L) (i : Nat) {v : jm_V}, jm_at (jm_pad n l) i = some v → jm_at l i = some v
  | 0, _, _, _, h => h
  | n + 1, [], 0, _, h => by simp [jm_pad, jm_at] at h
  | n + 1, [], i + 1, v, h => by
    have h1 := jm_pad_at n [] i (v := v) h
    simp [jm_at] at h1
  | n + 1, _ :: _, 0, _, h => h
  | n + 1, _ :: l, i + 1, v, h => jm_pad_at n l i (v := v) h
theorem jm_pad_len : ∀ (n : Nat) (l : jm_L), l.length ≤ n → (jm_pad n l).length = n
  | 0, [], _ => rfl
  | 0, _ :: _, h => by simp at h
  | n + 1, [], _ => by simp [jm_pad, jm_pad_len n [] (by simp)]
  | n + 1, _ :: l, h => by simp [jm_pad, jm_pad_len n l (by simpa using h)]
theorem jm_lay_len (ad : Nat → Nat → Nat) : ∀ as : List jm_V, (lg_sl (as.map (sd_c ad))).length = (jm_lay as).length
  | [] => rfl
  | .inl x :: r => by
    have e : lg_sl ((Sum.inl x :: r : List jm_V).map (sd_c ad)) = [Slot.val (.int x)] ++ lg_sl (r.map (sd_c ad)) := by simp only [lg_sl, List.map_cons, List.flatMap_cons]; rfl
    rw [e, List.length_append, jm_lay_len ad r]
    simp [jm_lay]
    omega
  | .inr (.inl x) :: r => by
    have e : lg_sl ((Sum.inr (Sum.inl x) :: r : List jm_V).map (sd_c ad)) = [Slot.val (.long x), .second] ++ lg_sl (r.map (sd_c ad)) := by simp only [lg_sl, List.map_cons, List.flatMap_cons]; rfl
    rw [e, List.length_append, jm_lay_len ad r]
    simp [jm_lay]
    omega
  | .inr (.inr x) :: r => by
    have e : lg_sl ((Sum.inr (Sum.inr x) :: r : List jm_V).map (sd_c ad)) = [Slot.val (.ref (ad x.1 x.2))] ++ lg_sl (r.map (sd_c ad)) := by simp only [lg_sl, List.map_cons, List.flatMap_cons]; rfl
    rw [e, List.length_append, jm_lay_len ad r]
    simp [jm_lay]
    omega
theorem jm_lay_args (ad : Nat → Nat → Nat) : ∀ (as : List jm_V) (k i : Nat) {v : jm_V}, jm_at (jm_lay as) i = some v → (k + i, sd_c ad v) ∈ lv_args k (as.map (sd_c ad)) ∧ v ∈ as
  | [], _, _, _, h => by simp [jm_lay, jm_at] at h
  | .inl x :: r, k, 0, v, h => by
    have h' : some (jI x) = some v := h
    cases h'
    exact ⟨List.mem_cons_self, List.mem_cons_self⟩
  | .inl x :: r, k, i + 1, v, h => by
    have h1 := jm_lay_args ad r (k + 1) i (v := v) h
    refine ⟨List.mem_cons_of_mem _ ?_, List.mem_cons_of_mem _ h1.2⟩
    have e : k + (i + 1) = k + 1 + i := by omega
    rw [e]
    exact h1.1
  | .inr (.inr x) :: r, k, 0, v, h => by
    have h' : some (Sum.inr (Sum.inr x) : jm_V) = some v := h
    cases h'
    exact ⟨List.mem_cons_self, List.mem_cons_self⟩
  | .inr (.inr x) :: r, k, i + 1, v, h => by
    have h1 := jm_lay_args ad r (k + 1) i (v := v) h
    refine ⟨List.mem_cons_of_mem _ ?_, List.mem_cons_of_mem _ h1.2⟩
    have e : k + (i + 1) = k + 1 + i := by omega
    rw [e]
    exact h1.1
  | .inr (.inl x) :: r, k, 0, v, h => by
    have h' : some (jJ x) = some v := h
    cases h'
    exact ⟨List.mem_cons_self, List.mem_cons_self⟩
  | .inr (.inl x) :: r, k, 1, v, h => by simp [jm_lay, jm_at] at h
  | .inr (.inl x) :: r, k, i + 2, v, h => by
    have h1 := jm_lay_args ad r (k + 2) i (v := v) h
    refine ⟨List.mem_cons_of_mem _ ?_, List.mem_cons_of_mem _ h1.2⟩
    have e : k + (i + 2) = k + 2 + i := by omega
    rw [e]
    exact h1.1
theorem sd_entry (ad : Nat → Nat → Nat) (as : List jm_V) {nL : Nat} (h : (jm_lay as).length ≤ nL) : lv_has ((lg_sl (as.map (sd_c ad)) ++ List.replicate (nL - (lg_sl (as.map (sd_c ad))).length) Slot.unset).toArray) nL (sd_ll ad (jm_pad nL (jm_lay as)) 0) := by
  have h0 := lv_entry (as.map (sd_c ad)) (n := nL) (by rw [jm_lay_len]; exact h)
  refine ⟨h0.1, h0.2.1, fun q hq => h0.2.2 q ?_⟩
  obtain ⟨j, x⟩ := q
  obtain ⟨n, u, e, h1, h2⟩ := (sd_ll_in _ _ _ _).mp hq
  subst h2; subst e
  exact (jm_lay_args ad as 0 n (jm_pad_at _ _ _ h1)).1
set_option maxHeartbeats 4000000 in
theorem sd_sound (l : Launch) (L : Nat) (D : va_G) (Y : sd_Y) (ad : Nat → Nat → Nat) (ρ : jm_G) : ∀ (d k : Nat) (as : List jm_V) (σ : jm_G) (post : Option jm_V → jm_G → Prop), jm_does L d k as σ post → sd_Met l L D Y ad ρ d k as σ post
  | 0, _, _, _, _, h => h.elim
  | d + 1, k, as, σ, post, h => by
    intro q hq hro hok
    obtain ⟨hcode, own, rk, cd, hm, hcls, hplain, -, -, hret, hdec, h60⟩ := sd_mF hq
    unfold jm_does at h
    rw [jm_nth_eq, hm] at h
    obtain ⟨hlen, hruns⟩ := h
    refine Met.ofW (cc := q.2.1) (maxL := q.2.2.1) (ret := q.2.2.2) hplain rfl ?_
    intro p e s m args below meth c s₁ B hml hv
    obtain ⟨rfl, hst, hP⟩ := hv
    have hts : ∀ w ∈ sd_W, w.before (as.map (sd_c ad)).toArray s = true := fun w hw => atoms_spec (ws := Cond.code q.1 q.2.1 q.2.2.1 q.2.2.2 :: sd_W) B.pre w (List.mem_cons_of_mem _ hw)
    have hown : s.vm.findClass (sd_own own) = some m.cls := by rw [← hcls]; exact findClass_of_methodNamed B.named
    have hcx : sd_cx p s m (as.map (sd_c ad)).toArray c L own q.2.2.1 q.2.1 D Y ad ρ := ⟨B.exec, B.bytes, hml, hown, hts, hst⟩
    have hlocks := B.notSynchronized
    have hb := B.bytes
    have hx := B.exec
    have hr := B.returns
    have hR : sd_hret p l e (sd_rm (d + 1)) s m (as.map (sd_c ad)).toArray below meth c 0 0 (MQ below (sd_Qc D Y ad ρ post) (as.map (sd_c ad)).toArray s 0 0 (sd_A ad)) rk q.2.1 D Y ad ρ post := by
      intro i v τ H locs ls pc hd hrt hpo hro' hok' hP' hS'
      have hq9 : ∀ t : State, t.heap = H → s.WarmedH t.vm → sd_Qc D Y ad ρ post (as.map (sd_c ad)).toArray s (.returned (v.map (sd_c ad))) t := fun t ht hW => ⟨⟨v, τ, rfl, hpo, hro', hok', by rw [ht]; exact hP'⟩, hS'.F ht⟩
      rcases hrt with ⟨rfl, x, rfl, hk⟩ | ⟨rfl, rfl, x, rfl⟩ | ⟨rfl, rfl, x, rfl⟩ | ⟨rfl, rfl, rfl⟩
      · rcases hk with rfl | ⟨rfl, h01⟩
        · rcases hret with ⟨h0, -⟩ | ⟨-, hret⟩ | ⟨h0, -⟩ | ⟨h0, -⟩ | ⟨h0, -⟩
          all_goals first | (cases h0; done) | skip
          exact W.iret hx hb (hr.trans hret) hq9 hS'.2.2 hd
        · rcases hret with ⟨h0, -⟩ | ⟨h0, -⟩ | ⟨h0, -⟩ | ⟨-, hret⟩ | ⟨h0, -⟩
          all_goals first | (cases h0; done) | skip
          exact W.zret hx hb (hr.trans hret) (by rcases h01 with rfl | rfl <;> rfl) hq9 hS'.2.2 hd
      · rcases hret with ⟨h0, -⟩ | ⟨h0, -⟩ | ⟨-, hret⟩ | ⟨h0, -⟩ | ⟨h0, -⟩
        all_goals first | (cases h0; done) | skip
        exact W.lret hx hb (hr.trans hret) hq9 hS'.2.2 hd
      · rcases hret with ⟨h0, -⟩ | ⟨h0, -⟩ | ⟨h0, -⟩ | ⟨h0, -⟩ | ⟨-, n, hret⟩
        all_goals first | (cases h0; done) | skip
        exact W.aret hx hb (hr.trans hret) (Or.inl ⟨n, rfl⟩) (Or.inr ⟨_, rfl⟩) hq9 hS'.2.2 hd
      · rcases hret with ⟨-, hret⟩ | ⟨h0, -⟩ | ⟨h0, -⟩ | ⟨h0, -⟩ | ⟨h0, -⟩
        all_goals first | (cases h0; done) | skip
        exact W.vret hx hb (hr.trans hret) hq9 hS'.2.2 hd
    have hC : sd_hcall l (sd_rm (d + 1)) L D Y ad ρ (jm_does L d) := by
      intro k' as' σ' post' h' q' hq' hro' hok'
      obtain ⟨-, -, -, -, -, -, -, -, -, -, -, h60'⟩ := sd_mF hq'
      exact ⟨sd_rm d, rfl, rfl, Nat.le_refl _, by simp only [sd_rm]; omega, sd_sound l L D Y ad ρ d k' as' σ' post' h' q' hq' hro' hok'⟩
    have X := hruns (sd_X p l e (sd_rm (d + 1)) s m (as.map (sd_c ad)).toArray below meth c 0 0 (MQ below (sd_Qc D Y ad ρ post) (as.map (sd_c ad)).toArray s 0 0 (sd_A ad)) q.2.2.1 D Y ad ρ) (fun _ h => h.elim)
      (sd_step hcx ⟨by simp only [sd_rm]; omega, by simp only [sd_rm]; omega, Nat.le_refl _, Nat.le_refl _⟩ hR hC hdec)
      (fun σ pc lv lv' st hle hX h1 h2 h3 h4 H locs ls h5 h6 h7 => hX h1 (fun i v hv => h2 i v (jm_le_at hle hv)) h3 ((jm_le_len hle).trans h4) H locs ls h5 h6 (sd_ll_le hle h7))
    have h9 := X hro (fun i v hv => hok v (jm_lay_args ad as 0 i (jm_pad_at _ _ _ hv)).2) (fun v hv => by cases hv) (jm_pad_len _ _ hlen) s.heap [] _ hP va_S.rf (sd_entry ad as hlen)
    rw [lg_entry_eq]
    exact h9
