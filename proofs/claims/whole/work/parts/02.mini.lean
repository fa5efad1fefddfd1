/-! A small machine: references are places in a list of cells; place mSC is the script. -/
abbrev mC : Type := (Nat × vp_A) ⊕ (Nat × List Value)
abbrev mH : Type := List mC
def mSC : Nat := 100000
/-- pc, locals, stack, cells -/
abbrev mS : Type := Nat × List (Option Value) × List Value × mH
/-- returned, or threw the exception of that number -/
abbrev mO : Type := Option Value ⊕ Nat
/-- the outcome, the cells, and how many cells of how many slots were made -/
abbrev mR : Type := mO × mH × Nat × Nat
/-- goes on; branches (no second road: it must be the first); ends (if the flag holds); calls; makes so many slots and goes on -/
abbrev mX : Type := mS ⊕ (Bool × mS × Option mS) ⊕ (Bool × mO × mH) ⊕ (Nat × List Value × mS) ⊕ (mS × Nat)
abbrev mI : Type := Instr × Nat × Nat × Nat
def mInb (i : Int32) (n : Nat) : Bool := decide (¬ (i < 0 ∨ n ≤ i.toNatClampNeg))
def mOkV (n : Nat) : Value → Bool
  | .ref a => Nat.blt a n || Nat.beq a mSC
  | _ => true
def mOkL (n : Nat) : List (Option Value) → Bool
  | [] => true
  | none :: t => mOkL n t
  | some v :: t => mOkV n v && mOkL n t
def mOkS (n : Nat) : List Value → Bool
  | [] => true
  | v :: t => mOkV n v && mOkS n t
def mOkH (n : Nat) : mH → Bool
  | [] => true
  | .inl _ :: t => mOkH n t
  | .inr (_, fs) :: t => mOkS n fs && mOkH n t
/-- one word each, ints and references -/
def mOne : List Value → Bool
  | [] => true
  | .int _ :: t => mOne t
  | .ref _ :: t => mOne t
  | _ => false
def mCat (S : List Value) : Nat := (S.map fun v => v.category).sum
def mBin (f : Int32 → Int32 → Int32) (pc : Nat) (L : List (Option Value)) (S : List Value) (h : mH) : Option mX :=
  match S with
  | .int b :: .int a :: S' => some (.inl (pc, L, .int (f a b) :: S', h))
  | _ => none
def mLdI (j : Nat) (pc : Nat) (L : List (Option Value)) (S : List Value) (h : mH) : Option mX :=
  match L[j]? with
  | some (some (.int v)) => some (.inl (pc, L, .int v :: S, h))
  | _ => none
def mLdA (j : Nat) (pc : Nat) (L : List (Option Value)) (S : List Value) (h : mH) : Option mX :=
  match L[j]? with
  | some (some (.ref a)) => some (.inl (pc, L, .ref a :: S, h))
  | _ => none
def mStI (j : Nat) (pc : Nat) (L : List (Option Value)) (S : List Value) (h : mH) : Option mX :=
  match S with
  | .int v :: S' => bif Nat.blt j L.length then some (.inl (pc, L.set j (some (.int v)), S', h)) else none
  | _ => none
def mStA (j : Nat) (pc : Nat) (L : List (Option Value)) (S : List Value) (h : mH) : Option mX :=
  match S with
  | .ref v :: S' => bif Nat.blt j L.length then some (.inl (pc, L.set j (some (.ref v)), S', h)) else none
  | _ => none
def mCmp0 (c : Jvm.ClassFile.Cond) (a : Int32) : Bool :=
  match c with
  | .eq => decide (a = 0)
  | .ne => decide (¬ a = 0)
  | .lt => decide (a < 0)
  | .ge => decide (0 ≤ a)
  | .gt => decide (0 < a)
  | .le => decide (a ≤ 0)
def mCmp (c : Jvm.ClassFile.Cond) (a b : Int32) : Bool :=
  match c with
  | .eq => decide (a = b)
  | .ne => decide (¬ a = b)
  | .lt => decide (a < b)
  | .ge => decide (b ≤ a)
  | .gt => decide (b < a)
  | .le => decide (a ≤ b)
def mPutOk (ty : FieldType) (v : Value) : Bool :=
  match ty, v with
  | .int, .int _ => true
  | .boolean, .int b => decide (b = 0) || decide (b = 1)
  | .array _, .ref _ => true
  | .object _, .ref _ => true
  | _, _ => false
def mSw (pc : Nat) (lo hi dflt : Int) (offs : List Int) (v : Int) : Nat :=
  bif decide (v < lo) || decide (hi < v) then ((pc : Int) + dflt).toNat else ((pc : Int) + offs.getD (v - lo).toNat 0).toNat
/-- a constant -/
def mK (n : Int) : Int32 :=
  match n with
  | .ofNat k => nI k
  | .negSucc 0 => -1
  | .negSucc 1 => -2
  | .negSucc 2 => -3
  | .negSucc k => -(nI (k + 1))
