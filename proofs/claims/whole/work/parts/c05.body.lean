/-! the law's body on the machine, over its helper's behaviour (open: hH is still to be proved) -/
theorem lw_body_open {p : Program} {l : Launch} {e : Env} {R : Room} {s : State} {m : MethodId} {args : Array Value} {below : List Frame} {meth : Method} {c : Code} {Q : State → Prop} {L d ec es : Nat} {D : va_G} {Y : sd_Y} {ad : Nat → Nat → Nat} {ρ : jm_G} (hd : 13 ≤ d) (hL : L ≤ 2560) (hcx : sd_cx p s m args c L 11 8 code D Y ad ρ) (hR : 1 ≤ R.frames ∧ 21 ≤ R.locals)
    (hret : ∀ cs sl, cs ≤ R.cells → sl ≤ R.slots → sd_hret p l e R s m args below meth c cs sl Q 3 code D Y ad ρ (fun r _ => r = some (jI (nI 1)))) (hcall : sd_hcall l R L D Y ad ρ (jm_does L d))
    (hH : ∀ (cs sl : Nat) (A : ast) (σ : jm_G) (i : Nat), cs + ec ≤ R.cells → sl + es ≤ R.slots → bRA A σ → i + 5 ≤ L → (∀ σ', bRA A σ' → σ'.1 102 0 = σ.1 102 0 → (hoT A.1 A.2.2.1 (σ.1 102 0 (nI i + nI 1).toNatClampNeg) = false → σ'.2 71 0 0 = lN (hoA A.1 A.2.2.1 A.2.2.2.1 (σ.1 102 0 (nI i + nI 1).toNatClampNeg))) → sd_X p l e R s m args below meth c (cs + ec) (sl + es) Q 8 D Y ad ρ (σ', 751, lvL i, [jI (bI (hoT A.1 A.2.2.1 (σ.1 102 0 (nI i + nI 1).toNatClampNeg)))])) → sd_X p l e R s m args below meth c cs sl Q 8 D Y ad ρ (σ, 748, lvL i, [jR 71 0, jI (σ.1 102 0 (nI i + nI 1).toNatClampNeg), jR 0 0]))
    {cs sl : Nat} (hcs : cs + 513 * ec ≤ R.cells) (hsl : sl + 513 * es ≤ R.slots) {A : ast} {σ : jm_G} (hb : bRA A σ) : sd_X p l e R s m args below meth c cs sl Q 8 D Y ad ρ (σ, 23, lvL 0, []) := by
  have at748 : ∀ (n : Nat) (cs sl i : Nat) (A : ast) (σ : jm_G), i + 5 ≤ L → L < i + 5 * n → cs + n * ec ≤ R.cells → sl + n * es ≤ R.slots → bRA A σ → sd_X p l e R s m args below meth c cs sl Q 8 D Y ad ρ (σ, 748, lvL i, [jR 71 0, jI (σ.1 102 0 (nI i + nI 1).toNatClampNeg), jR 0 0]) := by
    intro n
    induction n with
    | zero => intro cs sl i A σ h1 h2; omega
    | succ n ih =>
      intro cs sl i A σ hi hn h1 h2 hb
      rw [Nat.succ_mul] at h1 h2
      refine hH cs sl A σ i (by omega) (by omega) hb hi fun σ' b' e1 ho => ?_
      rw [← e1] at ho ⊢
      refine sd_runs hcx ⟨hR.1, hR.2, by omega, by omega⟩ (hret (cs + ec) (sl + es) (by omega) (by omega)) hcall iLw_dec ?_ (law_runs18 hd hL hi b' ho)
      rintro z ⟨A2, σ2, i2, j1, j2, j3, rfl⟩
      exact ih (cs + ec) (sl + es) i2 A2 σ2 j2 (by omega) (by omega) (by omega) j3
  refine sd_runs hcx ⟨hR.1, hR.2, by omega, by omega⟩ (hret cs sl (by omega) (by omega)) hcall iLw_dec ?_ (law_runs hd hL (Nat.zero_le _) hb)
  rintro z ⟨A2, σ2, i2, j1, j2, j3, rfl⟩
  exact at748 513 cs sl i2 A2 σ2 j2 (by omega) hcs hsl j3
