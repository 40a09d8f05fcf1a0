/-! the law's body as runs of the abstract machine, up to its own helper -/
def KL (L i0 : Nat) (s : jm_S) : Prop := ∃ (A : ast) (σ : jm_G) (i : Nat), i0 ≤ i ∧ i + 5 ≤ L ∧ bRA A σ ∧ s = (σ, 748, lvL i, [jR 71 0, jI (σ.1 102 0 (nI i + nI 1).toNatClampNeg), jR 0 0])
theorem law_runs {L d : Nat} (hd : 13 ≤ d) (hL : L ≤ 2560) {i0 : Nat} (hi : i0 ≤ L) {A : ast} {σ : jm_G} (hb : bRA A σ) : jm_runs L 11 3 iLw (jm_does L d) (fun r _ => r = some (jI (nI 1))) (KL L i0) (σ, 23, lvL i0, []) :=
  jm_run (jm_does_mon L d) fun X hK hg hw => lw_loop hd hL hg i0 (fun A σ i h0 hb hi => lw_18a hg hi hL (hK _ ⟨A, σ, i, h0, hi, hb, rfl⟩)) (fun _ _ _ => rfl) (L + 1) i0 A σ (Nat.le_refl _) (by omega) hi hb
set_option maxRecDepth 20000 in
set_option maxHeartbeats 4000000 in
theorem law_runs18 {L d : Nat} (hd : 13 ≤ d) (hL : L ≤ 2560) {i : Nat} (hi : i + 5 ≤ L) {A : ast} {σ : jm_G} (hb : bRA A σ) (hout : hoT A.1 A.2.2.1 (σ.1 102 0 (nI i + nI 1).toNatClampNeg) = false → σ.2 71 0 0 = lN (hoA A.1 A.2.2.1 A.2.2.2.1 (σ.1 102 0 (nI i + nI 1).toNatClampNeg))) : jm_runs L 11 3 iLw (jm_does L d) (fun r _ => r = some (jI (nI 1))) (KL L (i + 5)) (σ, 751, lvL i, [jI (bI (hoT A.1 A.2.2.1 (σ.1 102 0 (nI i + nI 1).toNatClampNeg)))]) :=
  jm_run (jm_does_mon L d) fun X hK hg hw => lw_18b hg hw (D_mholds L d (by omega)) (D_mthrown L d (by omega)) hi hL hb hout fun σ2 _ b2 => by
    refine hg [23] 10 _ ?_
    show X (σ2, 23, [some (jR 102 0), some (jR 0 0), some (jR 38 0), some (jR 71 0), some (jI (nI i + nI 5)), none, none, none], [])
    rw [nI_add]
    exact lw_loop hd hL hg (i + 5) (fun A σ i h0 hb hi => lw_18a hg hi hL (hK _ ⟨A, σ, i, h0, hi, hb, rfl⟩)) (fun _ _ _ => rfl) (L + 1) (i + 5) A σ2 (Nat.le_refl _) (by omega) hi b2
