/-! both sides beside each other; the start -/
theorem mRA_off {A : ast} {σ τ : jm_G} (h : mRA A σ) (ho : off 0 37 σ τ) : mRA A τ := by
  have hm : mf (List.range 38) [] σ τ := ⟨fun t i h1 h2 => ho t i (by rw [List.mem_range] at h2; omega), fun i f _ => by
    have q := ho 38 i (by omega)
    rw [q.1, q.2]
    exact ⟨rfl, rfl⟩⟩
  exact mR_mf h hm (by decide) (by decide)
theorem cRA_off {A : ast} {σ τ : jm_G} (h : cRA A σ) (ho : off 38 71 σ τ) : cRA A τ := by
  obtain ⟨a1, a2, a3, a4, a5, a6, a7, a8⟩ := h
  refine ⟨cN_off a1 ho (by omega) (by omega), ?_, ?_, ?_, cAll_off a5 ho (by omega), fun j hj hg => ?_, cP_off a7 ho (by omega), fun e => ⟨cV_off (a8 e).1 ho (by omega), cB_off (a8 e).2.1 ho (by omega), cL_off (a8 e).2.2.1 ho (by omega), cU_off (a8 e).2.2.2 ho (by omega)⟩⟩
  · rw [(ho 0 0 (by omega)).1]; exact a2
  · rw [(ho 0 0 (by omega)).1]; exact a3
  · rw [(ho 8 0 (by omega)).2]; exact a4
  · rw [(ho 25 0 (by omega)).1]; exact a6 j hj hg
/-- both sides hold the same -/
def bRA (A : ast) (σ : jm_G) : Prop := okA A ∧ cRA A σ ∧ mRA A σ
/-- one call on each side, one behind the other -/
theorem both {C : jm_C} {kc km : Nat} {args : List jm_V} {ans : ast → jm_V} {nx : ast → ast} (hc : fC C kc args ans nx) (hm : fM C km args ans nx) {A : ast} {σ : jm_G} (h : bRA A σ) {P : Option jm_V → jm_G → Prop} (hp : ∀ σ1, off 0 37 σ σ1 → (∀ Q : Option jm_V → jm_G → Prop, (∀ σ2, off 0 70 σ σ2 → bRA (nx A) σ2 → Q (some (ans A)) σ2) → C km (jR 38 0 :: args) σ1 Q) → P (some (ans A)) σ1) : C kc (jR 0 0 :: args) σ P := by
  refine hc A σ P h.1 h.2.1 fun σ1 k1 r1 o1 => hp σ1 o1 fun Q hQ => ?_
  refine hm A σ1 Q h.1 (mRA_off h.2.2 o1) fun σ2 k2 r2 o2 => ?_
  exact hQ σ2 (off_trans (off_wide o1 (by omega) (by omega)) (off_wide o2 (by omega) (by omega))) ⟨k2, cRA_off r1 (off_wide o2 (by omega) (by omega)), r2⟩
def N0 : nw := (0, fun _ => 0, fun _ => 0, fun _ _ => 0, fun _ => 0, 0, fun _ => 0)
def A0 : ast := (N0, 4, false, fun _ => 0, 0)
/-- the store behind both constructors; tables and script as they are -/
def st0 (ρ : jm_G) : jm_G := (fun t i k => if t < 100 then (if (t = 0 ∧ k = 7) ∨ (t = 38 ∧ k = 7) then nI 4 else if t = 17 ∧ k = 3 then nI (i + 3) else nI 0) else ρ.1 t i k, fun t i k => if t < 100 then lN 0 else ρ.2 t i k)
theorem N0_G (i : Nat) : isG N0 i = false := by simp [isG, N0, nN]
theorem N0_R (i : Nat) : isR N0 i = false := by simp [isR, N0, nN]
theorem N0_I (i : Nat) : isI N0 i = false := by simp [isI, N0, nN]
theorem N0_ok : nw_ok N0 := by
  refine ⟨Nat.zero_le _, fun i hi => absurd hi (Nat.not_lt_zero _), fun i hi => ?_, fun i hi => ?_, fun i hi => ?_, ?_, fun i => ?_⟩
  · rw [N0_G] at hi; cases hi
  · rw [N0_R] at hi; cases hi
  · have hi : (0 : Nat).testBit i = true := hi
    rw [Nat.zero_testBit] at hi; cases hi
  · show cnt 0 40 ≤ 12
    rw [cnt_0]; omega
  · rw [N0_G]; rfl
theorem A0_ok : okA A0 := by
  refine ⟨N0_ok, by decide, by decide, fun i hi => ?_, fun e => by cases e⟩
  have hi : (0 : Nat).testBit i = true := hi
  rw [Nat.zero_testBit] at hi
  cases hi
theorem mk_none {p : Nat → Bool} (h : ∀ i, p i = false) : ∀ n, mk p n = 0
  | 0 => rfl
  | n + 1 => by rw [mk, h n, mk_none h n, if_neg (fun e => by cases e)]; rfl
theorem A0_R (ρ : jm_G) (h1 : ∀ j, j < 7 → ρ.1 100 0 j = nI (ar j)) (h2 : ∀ i, i < 6 → ρ.2 101 0 i = lN (plM i)) : bRA A0 (st0 ρ) := by
  have eI : iM N0 = 0 := mk_none N0_I _
  have eG : gM N0 = 0 := mk_none N0_G _
  have eR : rM N0 = 0 := mk_none N0_R _
  refine ⟨A0_ok, ⟨⟨rfl, ?_, ?_, ?_, rfl, fun i hi => ?_, fun i hi => ?_, fun i hi => ?_, fun i hi => rfl, fun j hj => h1 j hj⟩, rfl, rfl, rfl, fun i hi => ⟨0, Nat.zero_le _, ⟨?_, fun j hj => absurd hj (Nat.not_lt_zero _), fun j _ hj => ⟨?_, rfl, ?_⟩, fun s hs => absurd hs (Nat.not_lt_zero _), fun g hg => absurd hg (Nat.not_lt_zero _)⟩, ?_⟩, fun j hj _ => rfl, fun i hi => h2 i hi, fun e => by cases e⟩, ?_⟩
  · show lN 0 = lN (iM N0)
    rw [eI]
  · show lN 0 = lN (gM N0)
    rw [eG]
  · show lN 0 = lN (rM N0)
    rw [eR]
  · have hi : isG N0 i = true := hi
    rw [N0_G] at hi; cases hi
  · have hi : isR N0 i = true := hi
    rw [N0_R] at hi; cases hi
  · show lN 0 = lN (sM N0 i)
    unfold sM
    rw [N0_G]
    rfl
  · rfl
  · rfl
  · rfl
  · rfl
  · refine mR_new ⟨⟨rfl, fun i hi => absurd hi (Nat.not_lt_zero _), fun i hi => absurd hi (Nat.not_lt_zero _), fun i hi => absurd hi (Nat.not_lt_zero _), fun i hi => absurd hi (Nat.not_lt_zero _), rfl⟩, rfl, rfl, fun i hi => absurd hi (Nat.not_lt_zero _)⟩ rfl
