/-! ONE STEP of the abstract machine; what runs to an end; calls by depth -/
def jm_kind (L t : Nat) : Option jm_H := match Nat.blt t 100 with
  | true => jm_nth jm_sh t
  | false => match Nat.beq t 100, Nat.beq t 101, Nat.beq t 102 with
    | true, _, _ => some (1, .inr (7, 0))
    | _, true, _ => some (1, .inr (6, 1))
    | _, _, true => some (1, .inr (L, 0))
    | _, _, _ => none
def jm_pick (b : Bool) (i : Nat) : Nat := match b with
  | true => i
  | false => 0
def jm_val (σ : jm_G) (t i k : Nat) (f : jm_F) : jm_V := match f with
  | .inl w => match Nat.beq w 1 with
    | true => jJ (σ.2 t i k)
    | false => jI (σ.1 t i k)
  | .inr (t', b) => jR t' (jm_pick b i)
def jm_fld (L own idx t : Nat) : Option (Nat × jm_F) := match jm_key jm_fl own idx with
  | some (ci, k) => match jm_kind L t with
    | some (_, .inl (cj, fs)) => match Nat.beq ci cj with
      | true => match jm_nth fs k with
        | some f => some (k, f)
        | none => none
      | false => none
    | _ => none
  | none => none
def jm_getf (L own : Nat) (σ : jm_G) (pc : Nat) (lv : jm_L) (st : List jm_V) (idx : Nat) : jm_R := match st with
  | .inr (.inr (t, i)) :: r => match jm_fld L own idx t with
    | some (k, f) => jm_nx (σ, pc + 3, lv, jm_val σ t i k f :: r)
    | none => jm_no
  | _ => jm_no
def jm_putf (L own : Nat) (σ : jm_G) (pc : Nat) (lv : jm_L) (st : List jm_V) (idx : Nat) : jm_R := match st with
  | .inl x :: .inr (.inr (t, i)) :: r => match jm_fld L own idx t with
    | some (k, .inl w) => match Nat.beq w 0 with
      | true => jm_nx (wI σ t i (upd (σ.1 t i) k x), pc + 3, lv, r)
      | false => match Nat.beq w 2 with
        | true => jm_ck (x = 0 ∨ x = 1) (wI σ t i (upd (σ.1 t i) k x), pc + 3, lv, r)
        | false => jm_no
    | _ => jm_no
  | .inr (.inl x) :: .inr (.inr (t, i)) :: r => match jm_fld L own idx t with
    | some (k, .inl w) => match Nat.beq w 1 with
      | true => jm_nx (wJ σ t i (vp_updL (σ.2 t i) k x), pc + 3, lv, r)
      | false => jm_no
    | _ => jm_no
  | _ => jm_no
/-- the length of a row of such elements -/
def jm_row (L t w : Nat) : Option Nat := match jm_kind L t with
  | some (_, .inr (n, u)) => match Nat.beq u w with
    | true => some n
    | false => none
  | _ => none
def jm_ald (L : Nat) (st : List jm_V) (w : Nat) (f : Nat → Nat → Int32 → Nat → List jm_V → jm_R) : jm_R := match st with
  | .inl x :: .inr (.inr (t, i)) :: r => match jm_row L t w with
    | some n => f t i x n r
    | none => jm_no
  | _ => jm_no
def jm_ast (L : Nat) (σ : jm_G) (pc : Nat) (lv : jm_L) (st : List jm_V) (w : Nat) : jm_R := match st with
  | .inl y :: .inl x :: .inr (.inr (t, i)) :: r => match Nat.blt t 100, jm_row L t w with
    | true, some n => match Nat.beq w 0 with
      | true => jm_ck (vp_in x n) (wI σ t i (upd (σ.1 t i) x.toNatClampNeg y), pc, lv, r)
      | false => match Nat.beq w 2 with
        | true => jm_ck (vp_in x n ∧ (y = 0 ∨ y = 1)) (wI σ t i (upd (σ.1 t i) x.toNatClampNeg y), pc, lv, r)
        | false => jm_no
    | _, _ => jm_no
  | .inr (.inl y) :: .inl x :: .inr (.inr (t, i)) :: r => match Nat.blt t 100, jm_row L t w with
    | true, some n => match Nat.beq w 1 with
      | true => jm_ck (vp_in x n) (wJ σ t i (vp_updL (σ.2 t i) x.toNatClampNeg y), pc, lv, r)
      | false => jm_no
    | _, _ => jm_no
  | _ => jm_no
def jm_cond (c : ClassFile.Cond) (x : Int32) (s1 s2 : jm_S) : jm_R := match c with
  | .eq => jm_br (x = 0) s1 s2
  | .ne => jm_br (x = 0) s2 s1
  | .lt => jm_br (x < 0) s1 s2
  | .ge => jm_br (0 ≤ x) s1 s2
  | .gt => jm_br (0 < x) s1 s2
  | .le => jm_br (x ≤ 0) s1 s2
def jm_cmp (c : ClassFile.Cond) (x y : Int32) (s1 s2 : jm_S) : jm_R := match c with
  | .eq => jm_br (x = y) s1 s2
  | .ne => jm_br (x = y) s2 s1
  | .lt => jm_br (x < y) s1 s2
  | .ge => jm_br (y ≤ x) s1 s2
  | .gt => jm_br (y < x) s1 s2
  | .le => jm_br (x ≤ y) s1 s2
def jm_inv (L own : Nat) (σ : jm_G) (pc : Nat) (lv : jm_L) (st : List jm_V) (idx : Nat) (vt : Bool) : jm_R := match jm_key jm_ml own idx with
  | some (k, n, c) => match jm_take n st [] with
    | some (as, r) => match Nat.ble (jm_cat r) 8 with
      | true => match vt with
        | false => match Nat.beq c 0 with
          | true => jm_cl k as σ (pc + 3) lv r
          | false => jm_no
        | true => match as with
          | .inr (.inr (t, _)) :: _ => match jm_kind L t with
            | some (_, .inl (cj, _)) => match Nat.beq c (cj + 1) with
              | true => jm_cl k as σ (pc + 3) lv r
              | false => jm_no
            | _ => jm_no
          | _ => jm_no
      | false => jm_no
    | none => jm_no
  | none => jm_no
def jm_tsw (σ : jm_G) (pc : Nat) (lv : jm_L) (r : List jm_V) (x : Int32) : Int → List Int → List (Prop × jm_S)
  | _, [] => []
  | v, o :: os => (x = jm_int v, (σ, jm_tgt pc o, lv, r)) :: jm_tsw σ pc lv r x (v + 1) os
def jm_small (n : Int) (m : Nat) : Bool := match n with
  | .ofNat k => Nat.blt k m
  | .negSucc k => Nat.blt k m
def jm_st (L own rk : Nat) (i : Instr) (s : jm_S) : jm_R := match s with
  | (σ, pc, lv, st) => match i with
    | .aload_n k => jm_lod σ (pc + 1) lv k.val st 2
    | .aload k => jm_lod σ (pc + 2) lv k st 2
    | .iload_n k => jm_lod σ (pc + 1) lv k.val st 0
    | .iload k => jm_lod σ (pc + 2) lv k st 0
    | .lload_n k => jm_lod σ (pc + 1) lv k.val st 1
    | .lload k => jm_lod σ (pc + 2) lv k st 1
    | .astore_n k => jm_sto σ (pc + 1) lv k.val st 2
    | .astore k => jm_sto σ (pc + 2) lv k st 2
    | .istore_n k => jm_sto σ (pc + 1) lv k.val st 0
    | .istore k => jm_sto σ (pc + 2) lv k st 0
    | .lstore_n k => jm_sto σ (pc + 1) lv k.val st 1
    | .lstore k => jm_sto σ (pc + 2) lv k st 1
    | .iconst k => jm_nx (σ, pc + 1, lv, jI (jm_int k) :: st)
    | .bipush k => match jm_small k 128 with | true => jm_nx (σ, pc + 2, lv, jI (jm_int k) :: st) | false => jm_no
    | .sipush k => match jm_small k 32768 with | true => jm_nx (σ, pc + 3, lv, jI (jm_int k) :: st) | false => jm_no
    | .lconst k => jm_nx (σ, pc + 1, lv, jJ (lN k.val) :: st)
    | .ldc2_w k => match jm_key jm_lc own k with | some v => jm_nx (σ, pc + 3, lv, jJ v :: st) | none => jm_no
    | .iadd => jm_ii st fun x y r => jm_nx (σ, pc + 1, lv, jI (x + y) :: r)
    | .isub => jm_ii st fun x y r => jm_nx (σ, pc + 1, lv, jI (x - y) :: r)
    | .imul => jm_ii st fun x y r => jm_nx (σ, pc + 1, lv, jI (x * y) :: r)
    | .iand => jm_ii st fun x y r => jm_nx (σ, pc + 1, lv, jI (x &&& y) :: r)
    | .ior => jm_ii st fun x y r => jm_nx (σ, pc + 1, lv, jI (x ||| y) :: r)
    | .ixor => jm_ii st fun x y r => jm_nx (σ, pc + 1, lv, jI (x ^^^ y) :: r)
    | .ishl => jm_ii st fun x y r => jm_nx (σ, pc + 1, lv, jI (x <<< (y &&& 31)) :: r)
    | .ishr => jm_ii st fun x y r => jm_nx (σ, pc + 1, lv, jI (x >>> (y &&& 31)) :: r)
    | .idiv => jm_ii st fun x y r => jm_ck (¬ y = 0) (σ, pc + 1, lv, jI (x / y) :: r)
    | .irem => jm_ii st fun x y r => jm_ck (¬ y = 0) (σ, pc + 1, lv, jI (x - x / y * y) :: r)
    | .ladd => jm_jj st fun x y r => jm_nx (σ, pc + 1, lv, jJ (x + y) :: r)
    | .lsub => jm_jj st fun x y r => jm_nx (σ, pc + 1, lv, jJ (x - y) :: r)
    | .land => jm_jj st fun x y r => jm_nx (σ, pc + 1, lv, jJ (x &&& y) :: r)
    | .lor => jm_jj st fun x y r => jm_nx (σ, pc + 1, lv, jJ (x ||| y) :: r)
    | .lxor => jm_jj st fun x y r => jm_nx (σ, pc + 1, lv, jJ (x ^^^ y) :: r)
    | .lcmp => jm_jj st fun x y r => jm_nx (σ, pc + 1, lv, jI (lg_cmp x y) :: r)
    | .lneg => jm_j st fun x r => jm_nx (σ, pc + 1, lv, jJ (-x) :: r)
    | .lshl => jm_ij st fun x y r => jm_nx (σ, pc + 1, lv, jJ (x <<< (y.toInt64 &&& 63)) :: r)
    | .lshr => jm_ij st fun x y r => jm_nx (σ, pc + 1, lv, jJ (x >>> (y.toInt64 &&& 63)) :: r)
    | .lushr => jm_ij st fun x y r => jm_nx (σ, pc + 1, lv, jJ (x.toUInt64 >>> (y.toInt64.toUInt64 &&& Int64.toUInt64 63)).toInt64 :: r)
    | .i2l => jm_i st fun x r => jm_nx (σ, pc + 1, lv, jJ x.toInt64 :: r)
    | .l2i => jm_j st fun x r => jm_nx (σ, pc + 1, lv, jI x.toInt32 :: r)
    | .dup => match st with
      | .inl x :: r => jm_nx (σ, pc + 1, lv, jI x :: jI x :: r)
      | .inr (.inr q) :: r => jm_nx (σ, pc + 1, lv, .inr (.inr q) :: .inr (.inr q) :: r)
      | _ => jm_no
    | .dup2 => match st with
      | .inr (.inl x) :: r => jm_nx (σ, pc + 1, lv, jJ x :: jJ x :: r)
      | .inl x :: .inr (.inr q) :: r => jm_nx (σ, pc + 1, lv, jI x :: .inr (.inr q) :: jI x :: .inr (.inr q) :: r)
      | _ => jm_no
    | .dup_x1 => match st with
      | .inl x :: .inr (.inr q) :: r => jm_nx (σ, pc + 1, lv, jI x :: .inr (.inr q) :: jI x :: r)
      | _ => jm_no
    | .iinc k c => match jm_at lv k with
      | some (.inl x) => match Nat.blt k lv.length with
        | true => jm_nx (σ, pc + 3, jm_put1 lv k (jI (x + jm_int c)), st)
        | false => jm_no
      | _ => jm_no
    | .goto o => jm_nx (σ, jm_tgt pc o, lv, st)
    | .ifCond c o => jm_i st fun x r => jm_cond c x (σ, jm_tgt pc o, lv, r) (σ, pc + 3, lv, r)
    | .if_icmp c o => jm_ii st fun x y r => jm_cmp c x y (σ, jm_tgt pc o, lv, r) (σ, pc + 3, lv, r)
    | .tableswitch d lo hi os => jm_i st fun x r => jm_sw ((x.toInt < lo ∨ hi < x.toInt, (σ, jm_tgt pc d, lv, r)) :: jm_tsw σ pc lv r x lo os.toList)
    | .getfield idx => jm_getf L own σ pc lv st idx
    | .putfield idx => jm_putf L own σ pc lv st idx
    | .getstatic idx => match jm_key jm_gs own idx with | some t => jm_nx (σ, pc + 3, lv, jR t 0 :: st) | none => jm_no
    | .iaload => jm_ald L st 0 fun t i x n r => jm_ck (vp_in x n) (σ, pc + 1, lv, jI (σ.1 t i x.toNatClampNeg) :: r)
    | .baload => jm_ald L st 2 fun t i x n r => jm_ck (vp_in x n) (σ, pc + 1, lv, jI (σ.1 t i x.toNatClampNeg) :: r)
    | .laload => jm_ald L st 1 fun t i x n r => jm_ck (vp_in x n) (σ, pc + 1, lv, jJ (σ.2 t i x.toNatClampNeg) :: r)
    | .aaload => jm_ald L st 3 fun _ _ x n r => jm_ck (vp_in x n) (σ, pc + 1, lv, jR 17 x.toNatClampNeg :: r)
    | .iastore => jm_ast L σ (pc + 1) lv st 0
    | .bastore => jm_ast L σ (pc + 1) lv st 2
    | .lastore => jm_ast L σ (pc + 1) lv st 1
    | .arraylength => match st with
      | .inr (.inr (t, _)) :: r => match jm_kind L t with
        | some (_, .inr (n, _)) => jm_nx (σ, pc + 1, lv, jI (nI n) :: r)
        | _ => jm_no
      | _ => jm_no
    | .invokevirtual idx => jm_inv L own σ pc lv st idx true
    | .invokestatic idx => match jm_key jm_mm own idx with
      | some b => jm_ii st fun x y r => match Nat.ble (jm_cat r) 8 with
        | true => jm_nx (σ, pc + 3, lv, jI (match b with | true => if x < y then y else x | false => if y < x then y else x) :: r)
        | false => jm_no
      | none => jm_inv L own σ pc lv st idx false
    | .ireturn => match st with
      | [.inl x] => match Nat.beq rk 1 with
        | true => jm_rt True (some (jI x)) σ
        | false => match Nat.beq rk 3 with
          | true => jm_rt (x = 0 ∨ x = 1) (some (jI x)) σ
          | false => jm_no
      | _ => jm_no
    | .lreturn => match st, Nat.beq rk 2 with
      | [.inr (.inl x)], true => jm_rt True (some (jJ x)) σ
      | _, _ => jm_no
    | .areturn => match st, Nat.beq rk 4 with
      | [.inr (.inr q)], true => jm_rt True (some (.inr (.inr q))) σ
      | _, _ => jm_no
    | .return_ => match st, Nat.beq rk 0 with
      | [], true => jm_rt True none σ
      | _, _ => jm_no
    | _ => jm_no
def jm_1 (L own rk : Nat) (cd : List (Nat × Instr × Nat)) (s : jm_S) : jm_R := match jm_look cd s.2.1 with
  | some (i, _) => jm_st L own rk i s
  | none => jm_no
/-- locals of which some are forgotten -/
def jm_le : jm_L → jm_L → Prop
  | [], [] => True
  | none :: a, _ :: b => jm_le a b
  | some x :: a, y :: b => y = some x ∧ jm_le a b
  | _, _ => False
/-- from a state it comes to an end with Rt, or to one of K -/
def jm_runs (L own rk : Nat) (cd : List (Nat × Instr × Nat)) (C : jm_C) (Rt : Option jm_V → jm_G → Prop) (K : jm_S → Prop) (s : jm_S) : Prop :=
  ∀ X : jm_S → Prop, (∀ s, K s → X s) → (∀ s, jm_sem X Rt C (jm_1 L own rk cd s) → X s) → (∀ σ pc lv lv' st, jm_le lv' lv → X (σ, pc, lv', st) → X (σ, pc, lv, st)) → X s
def jm_mem : List Nat → Nat → Bool
  | [], _ => false
  | a :: r, n => match Nat.beq a n with
    | true => true
    | false => jm_mem r n
/-- so many steps at once, up to the next place of 'cut' -/
def jm_go (L own rk : Nat) (cd : List (Nat × Instr × Nat)) (C : jm_C) (Rt : Option jm_V → jm_G → Prop) (X : jm_S → Prop) (cut : List Nat) : Nat → jm_S → Prop
  | 0, s => X s
  | n + 1, s => jm_sem (fun s' => match jm_mem cut s'.2.1 with
    | true => X s'
    | false => jm_go L own rk cd C Rt X cut n s') Rt C (jm_1 L own rk cd s)
def jm_lay : List jm_V → jm_L
  | [] => []
  | .inr (.inl x) :: r => some (jJ x) :: none :: jm_lay r
  | .inl x :: r => some (jI x) :: jm_lay r
  | .inr (.inr q) :: r => some (.inr (.inr q)) :: jm_lay r
def jm_pad : Nat → jm_L → jm_L
  | 0, l => l
  | n + 1, [] => none :: jm_pad n []
  | n + 1, v :: l => v :: jm_pad n l
/-- a contract table is monotone in what comes behind -/
def jm_mon (C : jm_C) : Prop := ∀ k as σ (P Q : Option jm_V → jm_G → Prop), (∀ r σ', P r σ' → Q r σ') → C k as σ P → C k as σ Q
theorem jm_all_mono {X Y : jm_S → Prop} (h : ∀ s, X s → Y s) : ∀ l, jm_all X l → jm_all Y l
  | [], _ => trivial
  | _ :: r, hh => ⟨fun c => h _ (hh.1 c), jm_all_mono h r hh.2⟩
theorem jm_sem_mono {X Y : jm_S → Prop} {P Q : Option jm_V → jm_G → Prop} {C D : jm_C} (hC : jm_mon C) (h : ∀ s, X s → Y s) (hP : ∀ v σ, P v σ → Q v σ) (hD : ∀ k as σ p, C k as σ p → D k as σ p) : ∀ r, jm_sem X P C r → jm_sem Y Q D r := by
  intro r hr
  rcases r with s | ⟨c, s⟩ | ⟨c, s1, s2⟩ | ⟨c, v, σ⟩ | ⟨k, as, σ, pc, lv, st⟩ | l
  · exact h _ hr
  · exact ⟨hr.1, h _ hr.2⟩
  · exact ⟨fun q => h _ (hr.1 q), fun q => h _ (hr.2 q)⟩
  · exact ⟨hr.1, hP _ _ hr.2⟩
  · exact hD _ _ _ _ (hC _ _ _ _ _ (fun r σ' q => h _ q) hr)
  · exact jm_all_mono h l hr
theorem jm_go_ok {L own rk : Nat} {cd : List (Nat × Instr × Nat)} {C : jm_C} {Rt : Option jm_V → jm_G → Prop} {X : jm_S → Prop} (hC : jm_mon C) (hX : ∀ s, jm_sem X Rt C (jm_1 L own rk cd s) → X s) (cut : List Nat) : ∀ n s, jm_go L own rk cd C Rt X cut n s → X s
  | 0, _, h => h
  | n + 1, s, h => by
    refine hX s (jm_sem_mono hC (fun s' hs => ?_) (fun _ _ h => h) (fun _ _ _ _ h => h) _ h)
    revert hs
    cases jm_mem cut s'.2.1 with
    | true => exact fun h => h
    | false => exact fun h => jm_go_ok hC hX cut n s' h
/-- calls by depth -/
def jm_does (L : Nat) : Nat → jm_C
  | 0 => fun _ _ _ _ => False
  | d + 1 => fun k as σ post => match jm_nth jm_mt k with
    | some (own, rk, nL, cd) => (jm_lay as).length ≤ nL ∧ jm_runs L own rk cd (jm_does L d) post (fun _ => False) (σ, 0, jm_pad nL (jm_lay as), [])
    | none => False
theorem jm_runs_mono {L own rk : Nat} {cd : List (Nat × Instr × Nat)} {C D : jm_C} {P Q : Option jm_V → jm_G → Prop} {K : jm_S → Prop} {s : jm_S} (hC : jm_mon C) (hP : ∀ v σ, P v σ → Q v σ) (hD : ∀ k as σ p, C k as σ p → D k as σ p) (h : jm_runs L own rk cd C P K s) : jm_runs L own rk cd D Q K s :=
  fun X hK hX hW => h X hK (fun s hs => hX s (jm_sem_mono hC (fun _ h => h) hP hD _ hs)) hW
theorem jm_does_mon (L : Nat) : ∀ d, jm_mon (jm_does L d)
  | 0 => fun _ _ _ _ _ _ h => h
  | d + 1 => by
    intro k as σ P Q h hd
    unfold jm_does at hd ⊢
    cases hk : jm_nth jm_mt k with
    | none => rw [hk] at hd; exact hd
    | some q =>
      obtain ⟨own, rk, nL, cd⟩ := q
      rw [hk] at hd
      exact ⟨hd.1, jm_runs_mono (jm_does_mon L d) h (fun _ _ _ _ h => h) hd.2⟩
theorem jm_does_up (L : Nat) : ∀ d k as σ P, jm_does L d k as σ P → jm_does L (d + 1) k as σ P
  | 0 => fun _ _ _ _ h => h.elim
  | d + 1 => by
    intro k as σ P hd
    unfold jm_does at hd ⊢
    cases hk : jm_nth jm_mt k with
    | none => rw [hk] at hd; exact hd
    | some q =>
      obtain ⟨own, rk, nL, cd⟩ := q
      rw [hk] at hd
      exact ⟨hd.1, jm_runs_mono (jm_does_mon L d) (fun _ _ h => h) (jm_does_up L d) hd.2⟩
/-- a proof that a method runs: over an X closed under steps -/
theorem jm_run {L own rk : Nat} {cd : List (Nat × Instr × Nat)} {C : jm_C} {Rt : Option jm_V → jm_G → Prop} {K : jm_S → Prop} {s : jm_S} (hC : jm_mon C)
    (h : ∀ X : jm_S → Prop, (∀ s, K s → X s) → (∀ (cut : List Nat) (n : Nat) (s : jm_S), jm_go L own rk cd C Rt X cut n s → X s) → (∀ σ pc lv lv' st, jm_le lv' lv → X (σ, pc, lv', st) → X (σ, pc, lv, st)) → X s) : jm_runs L own rk cd C Rt K s :=
  fun X hK hX hW => h X hK (fun cut n s hs => jm_go_ok hC hX cut n s hs) hW
