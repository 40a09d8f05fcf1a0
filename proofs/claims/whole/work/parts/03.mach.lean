/-! THE ABSTRACT MACHINE: values, a store of the cells, one step, what runs to an end. Pure: no Java machine in it. -/
/-- an int, a long, a cell: its kind and which of that kind -/
abbrev jm_V : Type := Int32 ⊕ Int64 ⊕ (Nat × Nat)
/-- the store: what ints and what longs each cell holds (fields and elements by their places) -/
abbrev jm_G : Type := (Nat → Nat → Nat → Int32) × (Nat → Nat → Nat → Int64)
abbrev jm_L : Type := List (Option jm_V)
abbrev jm_S : Type := jm_G × Nat × jm_L × List jm_V
/-- what a call of a method by its number comes to -/
abbrev jm_C : Type := Nat → List jm_V → jm_G → (Option jm_V → jm_G → Prop) → Prop
abbrev jI (x : Int32) : jm_V := Sum.inl x
abbrev jJ (x : Int64) : jm_V := Sum.inr (Sum.inl x)
abbrev jR (t i : Nat) : jm_V := Sum.inr (Sum.inr (t, i))
def wI (σ : jm_G) (t i : Nat) (f : Nat → Int32) : jm_G := (fun a b => if a = t ∧ b = i then f else σ.1 a b, σ.2)
def wJ (σ : jm_G) (t i : Nat) (f : Nat → Int64) : jm_G := (σ.1, fun a b => if a = t ∧ b = i then f else σ.2 a b)
/-- next; with a condition; a branch; a return; a call; a switch -/
abbrev jm_R : Type := jm_S ⊕ (Prop × jm_S) ⊕ (Prop × jm_S × jm_S) ⊕ (Prop × Option jm_V × jm_G) ⊕ (Nat × List jm_V × jm_G × Nat × jm_L × List jm_V) ⊕ List (Prop × jm_S)
abbrev jm_nx (s : jm_S) : jm_R := .inl s
abbrev jm_ck (c : Prop) (s : jm_S) : jm_R := .inr (.inl (c, s))
abbrev jm_br (c : Prop) (s1 s2 : jm_S) : jm_R := .inr (.inr (.inl (c, s1, s2)))
abbrev jm_rt (c : Prop) (v : Option jm_V) (σ : jm_G) : jm_R := .inr (.inr (.inr (.inl (c, v, σ))))
abbrev jm_cl (k : Nat) (as : List jm_V) (σ : jm_G) (pc : Nat) (lv : jm_L) (st : List jm_V) : jm_R := .inr (.inr (.inr (.inr (.inl (k, as, σ, pc, lv, st)))))
abbrev jm_sw (l : List (Prop × jm_S)) : jm_R := .inr (.inr (.inr (.inr (.inr l))))
abbrev jm_no : jm_R := .inr (.inr (.inr (.inl (False, none, (fun _ _ _ => 0, fun _ _ _ => 0)))))
def jm_all (X : jm_S → Prop) : List (Prop × jm_S) → Prop
  | [] => True
  | q :: r => (q.1 → X q.2) ∧ jm_all X r
def jm_sem (X : jm_S → Prop) (Rt : Option jm_V → jm_G → Prop) (C : jm_C) (r : jm_R) : Prop := match r with
  | .inl s => X s
  | .inr (.inl (c, s)) => c ∧ X s
  | .inr (.inr (.inl (c, s1, s2))) => (c → X s1) ∧ (¬ c → X s2)
  | .inr (.inr (.inr (.inl (c, v, σ)))) => c ∧ Rt v σ
  | .inr (.inr (.inr (.inr (.inl (k, as, σ, pc, lv, st))))) => C k as σ (fun r σ' => X (σ', pc, lv, r.toList ++ st))
  | .inr (.inr (.inr (.inr (.inr l)))) => jm_all X l
def jm_int (n : Int) : Int32 := match n with
  | .ofNat k => nI k
  | .negSucc k => -(nI (k + 1))
def jm_look : List (Nat × Instr × Nat) → Nat → Option (Instr × Nat)
  | [], _ => none
  | q :: r, pc => match Nat.beq q.1 pc with
    | true => some q.2
    | false => jm_look r pc
def jm_key {α : Type} : List (Nat × Nat × α) → Nat → Nat → Option α
  | [], _, _ => none
  | q :: r, a, b => match Nat.beq q.1 a with
    | true => match Nat.beq q.2.1 b with
      | true => some q.2.2
      | false => jm_key r a b
    | false => jm_key r a b
/-- local i, if it stands -/
def jm_at : jm_L → Nat → Option jm_V
  | [], _ => none
  | v :: _, 0 => v
  | _ :: r, i + 1 => jm_at r i
def jm_kill : jm_L → Nat → jm_L
  | [], _ => []
  | v :: r, 0 => v :: r
  | v :: r, 1 => (match v with | some (.inr (.inl _)) => none | v => v) :: r
  | v :: r, i + 2 => v :: jm_kill r (i + 1)
def jm_set : jm_L → Nat → Option jm_V → jm_L
  | [], _, _ => []
  | _ :: r, 0, x => x :: r
  | v :: r, i + 1, x => v :: jm_set r i x
def jm_put1 (lv : jm_L) (i : Nat) (v : jm_V) : jm_L := jm_set (jm_kill lv i) i (some v)
def jm_put2 (lv : jm_L) (i : Nat) (v : jm_V) : jm_L := jm_set (jm_set (jm_kill lv i) i (some v)) (i + 1) none
/-- stores: an int or a cell at i, a long at i, i + 1 -/
def jm_sto (σ : jm_G) (pc : Nat) (lv : jm_L) (i : Nat) (st : List jm_V) (w : Nat) : jm_R := match st with
  | v :: r => match v with
    | .inr (.inl x) => match Nat.beq w 1, Nat.blt (i + 1) lv.length with
      | true, true => jm_nx (σ, pc, jm_put2 lv i (jJ x), r)
      | _, _ => jm_no
    | .inl x => match Nat.beq w 0, Nat.blt i lv.length with
      | true, true => jm_nx (σ, pc, jm_put1 lv i (jI x), r)
      | _, _ => jm_no
    | .inr (.inr q) => match Nat.beq w 2, Nat.blt i lv.length with
      | true, true => jm_nx (σ, pc, jm_put1 lv i (jR q.1 q.2), r)
      | _, _ => jm_no
  | [] => jm_no
def jm_lod (σ : jm_G) (pc : Nat) (lv : jm_L) (i : Nat) (st : List jm_V) (w : Nat) : jm_R := match jm_at lv i with
  | some v => match v with
    | .inl x => match Nat.beq w 0 with | true => jm_nx (σ, pc, lv, jI x :: st) | false => jm_no
    | .inr (.inl x) => match Nat.beq w 1 with | true => jm_nx (σ, pc, lv, jJ x :: st) | false => jm_no
    | .inr (.inr q) => match Nat.beq w 2 with | true => jm_nx (σ, pc, lv, jR q.1 q.2 :: st) | false => jm_no
  | none => jm_no
def jm_i (st : List jm_V) (f : Int32 → List jm_V → jm_R) : jm_R := match st with
  | .inl x :: r => f x r
  | _ => jm_no
def jm_ii (st : List jm_V) (f : Int32 → Int32 → List jm_V → jm_R) : jm_R := match st with
  | .inl y :: .inl x :: r => f x y r
  | _ => jm_no
def jm_j (st : List jm_V) (f : Int64 → List jm_V → jm_R) : jm_R := match st with
  | .inr (.inl x) :: r => f x r
  | _ => jm_no
def jm_jj (st : List jm_V) (f : Int64 → Int64 → List jm_V → jm_R) : jm_R := match st with
  | .inr (.inl y) :: .inr (.inl x) :: r => f x y r
  | _ => jm_no
def jm_ij (st : List jm_V) (f : Int64 → Int32 → List jm_V → jm_R) : jm_R := match st with
  | .inl y :: .inr (.inl x) :: r => f x y r
  | _ => jm_no
/-- the kinds of cells: how many of it, an object (class, what each field is: 0 an int, 1 a long, 2 a boolean, or a cell: of the same place among its kind?) or a row (length; of 0 ints, 1 longs, 2 booleans, 3 the cells of kind 17) -/
abbrev jm_F : Type := Nat ⊕ (Nat × Bool)
abbrev jm_H : Type := Nat × ((Nat × List jm_F) ⊕ (Nat × Nat))
def jm_nth {α : Type} : List α → Nat → Option α
  | [], _ => none
  | v :: _, 0 => some v
  | _ :: r, i + 1 => jm_nth r i
def jm_cat (st : List jm_V) : Nat := match st with
  | [] => 0
  | .inr (.inl _) :: r => jm_cat r + 2
  | _ :: r => jm_cat r + 1
/-- the first n of a stack, turned, and what is below -/
def jm_take : Nat → List jm_V → List jm_V → Option (List jm_V × List jm_V)
  | 0, st, a => some (a, st)
  | _ + 1, [], _ => none
  | n + 1, v :: r, a => jm_take n r (v :: a)
def jm_tgt (pc : Nat) (off : Int) : Nat := match (pc : Int) + off with
  | .ofNat k => k
  | .negSucc _ => 1000000
