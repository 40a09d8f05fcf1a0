/-! round the law's loop -/
set_option maxRecDepth 20000 in
set_option maxHeartbeats 4000000 in
theorem lw_loop {L d : Nat} (hd : 13 ≤ d) (hL : L ≤ 2560) {post : Option jm_V → jm_G → Prop} {X : jm_S → Prop} (hg : ∀ (cut : List Nat) (n : Nat) (s : jm_S), jm_go L 11 3 iLw (jm_does L d) post X cut n s → X s) (i0 : Nat) (h18 : ∀ A σ i, i0 ≤ i → bRA A σ → i + 5 ≤ L → X (σ, 740, lvL i, [])) (hend : ∀ A σ, bRA A σ → post (some (jI (nI 1))) σ) : ∀ (m i : Nat) (A : ast) (σ : jm_G), i0 ≤ i → L < i + 5 * m → i ≤ L → bRA A σ → X (σ, 23, lvL i, []) := by
  have out : ∀ (i : Nat) (A : ast) (σ : jm_G), L < i + 5 → i ≤ L → bRA A σ → X (σ, 23, lvL i, []) := by
    intro i A σ hx hiL hb
    refine hg [] 20 _ ?_
    refine br_c (fun _ => ?_) (fun h => ?_)
    · exact And.intro (Or.inr rfl) (hend A σ hb)
    · have h : ¬ nI L - nI 5 < nI i := h
      rw [lt_sub5 (by omega) hL] at h
      omega
  intro m
  induction m with
  | zero =>
    intro i A σ hi0 hm hiL hb
    exact out i A σ (by omega) hiL hb
  | succ m ih =>
    intro i A σ hi0 hm hiL hb
    by_cases hx : i + 5 ≤ L
    case neg => exact out i A σ (by omega) hiL hb
    have nxt : ∀ (A2 : ast) (σ2 : jm_G), bRA A2 σ2 → X (σ2, 1117, lvL i, []) := by
      intro A2 σ2 b2
      refine hg [23] 10 _ ?_
      show X (σ2, 23, [some (jR 102 0), some (jR 0 0), some (jR 38 0), some (jR 71 0), some (jI (nI i + nI 5)), none, none, none], [])
      rw [nI_add]
      exact ih (i + 5) A2 σ2 (by omega) (by omega) (by omega) b2
    obtain ⟨S, hS, eS⟩ := wb_of (lgv σ i)
    refine hg [168, 181, 242, 255, 292, 317, 342, 355, 380, 433, 458, 495, 532, 557, 595, 664, 677, 703, 740, 795, 820, 857, 894, 943, 980, 1005, 1030, 1067, 1092, 1117] 30 _ ?_
    refine br_c (fun h => ?_) (fun _ => ?_)
    · have h : nI L - nI 5 < nI i := h
      rw [lt_sub5 (by omega) hL] at h
      omega
    refine And.intro (vp_in_nI (by omega) (by omega)) ?_
    refine And.intro (fun _ => nxt A σ hb) ?_
    refine And.intro (fun _ => lw_c0 hg hb hx hL (E_input L d (by omega)) (F_minput (D_minput L d (by omega))) fun σ2 _ b2 => nxt _ σ2 b2) ?_
    refine And.intro (fun _ => lw_c1 hg hb hx hL (E_gate L _ _ _ _ d (by omega)) (F_mgate (D_mgate L d (by omega)) _ _ _ _) fun σ2 _ b2 => nxt _ σ2 b2) ?_
    refine And.intro (fun _ => lw_c2 hg hb hx hL (E_register L d (by omega)) (F_mregister (D_mregister L d (by omega))) fun σ2 _ b2 => nxt _ σ2 b2) ?_
    refine And.intro (fun _ => lw_c3 hg hb hx hL (E_feed L _ _ d (by omega)) (F_mfeed (D_mfeed L d (by omega)) _ _) fun σ2 _ b2 => nxt _ σ2 b2) ?_
    refine And.intro (fun _ => lw_c4 hg hb hx hL (E_output L _ d (by omega)) (F_moutput (D_moutput L d (by omega)) _) fun σ2 _ b2 => nxt _ σ2 b2) ?_
    refine And.intro (fun _ => lw_c5 hg hb hx hL (E_inputs L _ d (by omega)) (F_minputs (D_minputs L d (by omega)) _) fun σ2 _ b2 => nxt _ σ2 b2) ?_
    refine And.intro (fun _ => lw_c6 hg hb hx hL (E_map L d (by omega)) (F_mmap (D_mmap L d (by omega))) fun σ2 _ b2 => nxt _ σ2 b2) ?_
    refine And.intro (fun _ => lw_c7 hg hb hx hL (E_again L _ d (by omega)) (F_magain (D_magain L d (by omega)) _) fun σ2 _ b2 => nxt _ σ2 b2) ?_
    refine And.intro (fun _ => lw_c8 hg hb hx hL (fun b => E_set L _ b d (by omega)) (fun b => F_mset (D_mset L d (by omega)) _ b) fun b σ2 _ b2 => nxt _ σ2 b2) ?_
    refine And.intro (fun _ => lw_c9 hg hb hx hL (E_clock L _ d (by omega)) (F_mclock (D_mclock L d (by omega)) _) fun σ2 _ b2 => nxt _ σ2 b2) ?_
    refine And.intro (fun _ => lw_c10 hg hb hx hL (F_cnode (D_cnode L d (by omega)) _ _) (F_mnode (D_mnode L d (by omega)) _ _) fun σ2 _ b2 => nxt _ σ2 b2) ?_
    refine And.intro (fun _ => lw_c11 hg hb hx hL (F_cnear (D_cnear L d (by omega)) _ _) (F_mnear (D_mnear L d (by omega)) _ _) fun σ2 _ b2 => nxt _ σ2 b2) ?_
    refine And.intro (fun _ => lw_c12 hg hb hx hL (F_ccone (D_ccone L d (by omega)) _) (F_mcone (D_mcone L d (by omega)) _) fun σ2 _ b2 => nxt _ σ2 b2) ?_
    refine And.intro (fun _ => lw_c13 hg hb hx hL (F_ckept (D_ckept L d (by omega)) _ _) (F_mkept (D_mkept L d (by omega)) _ _) fun σ2 _ b2 => nxt _ σ2 b2) ?_
    refine And.intro (fun _ => lw_c14 hg hb hx hL (by rw [eS]; exact F_cisCut (D_cisCut L d (by omega)) _ hS) (by rw [eS]; exact F_misCut (D_misCut L d (by omega)) _ hS) fun σ2 _ b2 => nxt _ σ2 b2) ?_
    refine And.intro (fun _ => lw_c15 hg hb hx hL (F_cdepth (D_cdepth L d (by omega))) (F_mdepth (D_mdepth L d (by omega))) fun σ2 _ b2 => nxt _ σ2 b2) ?_
    refine And.intro (fun _ => lw_c16 hg hb hx hL (E_chosen L _ d (by omega)) (F_mchosen (D_mchosen L d (by omega)) _) fun σ2 _ b2 => nxt _ σ2 b2) ?_
    refine And.intro (fun _ => lw_c17 hg hb hx hL (E_table L _ _ d (by omega)) (F_mtable (D_mtable L d (by omega)) _ _) fun σ2 _ b2 => nxt _ σ2 b2) ?_
    refine And.intro (fun _ => h18 A σ i hi0 hb hx) ?_
    refine And.intro (fun _ => lw_c19 hg hb hx hL (E_mapped L _ d (by omega)) (F_mmapped (D_mmapped L d (by omega)) _) fun σ2 _ b2 => nxt _ σ2 b2) ?_
    refine And.intro (fun _ => lw_c20 hg hb hx hL (E_cell L _ _ d (by omega)) (F_mcell (D_mcell L d (by omega)) _ _) fun σ2 _ b2 => nxt _ σ2 b2) ?_
    refine And.intro (fun _ => lw_c21 hg hb hx hL (E_clusters L _ _ d (by omega)) (F_mclusters (D_mclusters L d (by omega)) _ _) fun σ2 _ b2 => nxt _ σ2 b2) ?_
    refine And.intro (fun _ => lw_c22 hg hb hx hL (E_cluster L _ _ _ d (by omega)) (F_mcluster (D_mcluster L d (by omega)) _ _ _) fun σ2 _ b2 => nxt _ σ2 b2) ?_
    refine And.intro (fun _ => lw_c23 hg hb hx hL (E_cross L _ _ d (by omega)) (F_mcross (D_mcross L d (by omega)) _ _) fun σ2 _ b2 => nxt _ σ2 b2) ?_
    refine And.intro (fun _ => lw_c24 hg hb hx hL (E_is L _ d (by omega)) (F_mis (D_mis L d (by omega)) _) fun σ2 _ b2 => nxt _ σ2 b2) ?_
    refine And.intro (fun _ => lw_c25 hg hb hx hL (E_comes L _ d (by omega)) (F_mcomes (D_mcomesF L d (by omega)) _) fun σ2 _ b2 => nxt _ σ2 b2) ?_
    refine And.intro (fun _ => lw_c26 hg hb hx hL (E_differs L _ _ d (by omega)) (F_mdiffers (D_mdiffers L d (by omega)) _ _) fun σ2 _ b2 => nxt _ σ2 b2) ?_
    refine And.intro (fun _ => lw_c27 hg hb hx hL (E_slow L _ d (by omega)) (F_mslow (D_mslow L d (by omega)) _) fun σ2 _ b2 => nxt _ σ2 b2) ?_
    refine And.intro (fun _ => lw_c28 hg hb hx hL (E_count L _ d (by omega)) (F_mcount (D_mcount L d (by omega)) _) fun σ2 _ b2 => nxt _ σ2 b2) ?_
    exact trivial
