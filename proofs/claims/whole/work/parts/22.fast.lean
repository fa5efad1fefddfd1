/-! each instruction as a small function -/
section MFX
variable (Ls : Nat) (xs : Nat → Int32)
def mx_iinc (nx : Nat) (j : Nat) (n : Int) (L : List (Option Value)) (S : List Value) (h : mH) : Option mX :=
  match L[j]? with
  | some (some (.int v)) => some (.inl (nx, L.set j (some (.int (v + mK n))), S, h))
  | _ => none
def mx_idiv (nx : Nat) (L : List (Option Value)) (S : List Value) (h : mH) : Option mX :=
  match S with
  | .int b :: .int a :: S' => bif decide (b = 0) then none else some (.inl (nx, L, .int (a / b) :: S', h))
  | _ => none
def mx_irem (nx : Nat) (L : List (Option Value)) (S : List Value) (h : mH) : Option mX :=
  match S with
  | .int b :: .int a :: S' => bif decide (b = 0) then none else some (.inl (nx, L, .int (a - a / b * b) :: S', h))
  | _ => none
def mx_i2l (nx : Nat) (L : List (Option Value)) (S : List Value) (h : mH) : Option mX :=
  match S with
  | .int a :: S' => some (.inl (nx, L, .long a.toInt64 :: S', h))
  | _ => none
def mx_lcmp (nx : Nat) (L : List (Option Value)) (S : List Value) (h : mH) : Option mX :=
  match S with
  | .long b :: .long a :: S' => some (.inl (nx, L, .int (lg_cmp a b) :: S', h))
  | _ => none
def mx_dup (nx : Nat) (L : List (Option Value)) (S : List Value) (h : mH) : Option mX :=
  match S with
  | .int a :: S' => some (.inl (nx, L, .int a :: .int a :: S', h))
  | .ref a :: S' => some (.inl (nx, L, .ref a :: .ref a :: S', h))
  | _ => none
def mx_ifCond (nx : Nat) (x : Nat) (c : Jvm.ClassFile.Cond) (L : List (Option Value)) (S : List Value) (h : mH) : Option mX :=
  match S with
  | .int a :: S' => some (.inr (.inl (mCmp0 c a, (x, L, S', h), some (nx, L, S', h))))
  | _ => none
def mx_if_icmp (nx : Nat) (x : Nat) (c : Jvm.ClassFile.Cond) (L : List (Option Value)) (S : List Value) (h : mH) : Option mX :=
  match S with
  | .int b :: .int a :: S' => some (.inr (.inl (mCmp c a b, (x, L, S', h), some (nx, L, S', h))))
  | _ => none
def mx_tableswitch (pc : Nat) (d : Int) (lo : Int) (hi : Int) (offs : Array Int) (L : List (Option Value)) (S : List Value) (h : mH) : Option mX :=
  match S with
  | .int v :: S' => some (.inl (mSw pc lo hi d offs.toList v.toInt, L, S', h))
  | _ => none
def mx_getfield (nx : Nat) (x : Nat) (y : Nat) (L : List (Option Value)) (S : List Value) (h : mH) : Option mX :=
  match S with
  | .ref a :: S' =>
    match h[a]? with
    | some (.inr (ci, fs)) =>
      bif Nat.beq ci x then
        match fs[y]? with
        | some v => some (.inl (nx, L, v :: S', h))
        | none => none
      else none
    | _ => none
  | _ => none
def mx_putfield (nx : Nat) (x : Nat) (y : Nat) (L : List (Option Value)) (S : List Value) (h : mH) : Option mX :=
  match S with
  | v :: .ref a :: S' =>
    match h[a]? with
    | some (.inr (ci, fs)) =>
      bif Nat.beq ci x && Nat.blt y fs.length && mPutOk (mFT x y) v then some (.inl (nx, L, S', h.set a (.inr (ci, fs.set y v))))
      else none
    | _ => none
  | _ => none
def mx_iaload (nx : Nat) (L : List (Option Value)) (S : List Value) (h : mH) : Option mX :=
  match S with
  | .int j :: .ref a :: S' =>
    bif Nat.beq a mSC then some (.inr (.inl (mInb j Ls, (nx, L, .int (xs j.toNatClampNeg) :: S', h), none)))
    else
      match h[a]? with
      | some (.inl (0, n, .inl f)) => some (.inr (.inl (mInb j n, (nx, L, .int (f j.toNatClampNeg) :: S', h), none)))
      | _ => none
  | _ => none
def mx_iastore (nx : Nat) (L : List (Option Value)) (S : List Value) (h : mH) : Option mX :=
  match S with
  | .int v :: .int j :: .ref a :: S' =>
    match h[a]? with
    | some (.inl (0, n, .inl f)) => some (.inr (.inl (mInb j n, (nx, L, S', h.set a (.inl (0, n, .inl (upd f j.toNatClampNeg v)))  ), none)))
    | _ => none
  | _ => none
def mx_baload (nx : Nat) (L : List (Option Value)) (S : List Value) (h : mH) : Option mX :=
  match S with
  | .int j :: .ref a :: S' =>
    match h[a]? with
    | some (.inl (1, n, .inl f)) => some (.inr (.inl (mInb j n, (nx, L, .int (f j.toNatClampNeg) :: S', h), none)))
    | _ => none
  | _ => none
def mx_bastore (nx : Nat) (L : List (Option Value)) (S : List Value) (h : mH) : Option mX :=
  match S with
  | .int v :: .int j :: .ref a :: S' =>
    match h[a]? with
    | some (.inl (1, n, .inl f)) => some (.inr (.inl (mInb j n, (nx, L, S', h.set a (.inl (1, n, .inl (upd f j.toNatClampNeg (vp_nar .boolean v))))  ), none)))
    | _ => none
  | _ => none
def mx_laload (nx : Nat) (L : List (Option Value)) (S : List Value) (h : mH) : Option mX :=
  match S with
  | .int j :: .ref a :: S' =>
    match h[a]? with
    | some (.inl (2, n, .inr (.inl f))) => some (.inr (.inl (mInb j n, (nx, L, .long (f j.toNatClampNeg) :: S', h), none)))
    | _ => none
  | _ => none
def mx_lastore (nx : Nat) (L : List (Option Value)) (S : List Value) (h : mH) : Option mX :=
  match S with
  | .long v :: .int j :: .ref a :: S' =>
    match h[a]? with
    | some (.inl (2, n, .inr (.inl f))) => some (.inr (.inl (mInb j n, (nx, L, S', h.set a (.inl (2, n, .inr (.inl (vp_updL f j.toNatClampNeg v))))  ), none)))
    | _ => none
  | _ => none
def mx_arraylength (nx : Nat) (L : List (Option Value)) (S : List Value) (h : mH) : Option mX :=
  match S with
  | .ref a :: S' => bif Nat.beq a mSC then some (.inl (nx, L, .int (Int32.ofNat Ls) :: S', h)) else none
  | _ => none
def mx_newarray (nx : Nat) (t : ArrayType) (L : List (Option Value)) (S : List Value) (h : mH) : Option mX :=
  match S with
  | .int n :: S' =>
    bif decide (¬ n < 0) && Nat.ble n.toNatClampNeg 1000 && mOkL h.length L && mOkS h.length S' && mOkH h.length h && Nat.blt h.length 1000 then
      match t with
      | .int => some (.inr (.inr (.inr (.inr ((nx, L, .ref h.length :: S', h ++ [.inl (0, n.toNatClampNeg, .inl fun _ => 0)]), n.toNatClampNeg)))))
      | .boolean => some (.inr (.inr (.inr (.inr ((nx, L, .ref h.length :: S', h ++ [.inl (1, n.toNatClampNeg, .inl fun _ => 0)]), n.toNatClampNeg)))))
      | .long => some (.inr (.inr (.inr (.inr ((nx, L, .ref h.length :: S', h ++ [.inl (2, n.toNatClampNeg, .inr (.inl fun _ => 0))]), n.toNatClampNeg)))))
      | _ => none
    else none
  | _ => none
def mx_new (k : Nat) (nx : Nat) (x : Nat) (y : Nat) (L : List (Option Value)) (S : List Value) (h : mH) : Option mX :=
  match y with
  | 0 => bif mOkL h.length L && mOkS h.length S && mOkH h.length h && Nat.blt h.length 1000 then some (.inr (.inr (.inr (.inr ((nx, L, .ref h.length :: S, h ++ [.inr (x, mDef x)]), (mDef x).length))))) else none
  | _ => bif mNoH k && Nat.ble (mCat S) 6 && Nat.ble 6 (mFr k) && Nat.ble 100 (mLo k) then some (.inr (.inr (.inl (true, .inr x, h)))) else none
def mx_invokestatic (k : Nat) (nx : Nat) (x : Nat) (y : Nat) (L : List (Option Value)) (S : List Value) (h : mH) : Option mX :=
  bif Nat.ble y S.length && mOne (S.take y) && mOkL h.length L && mOkS h.length S && Nat.ble (mCat (S.drop y)) 8 && Nat.ble (mFr x + 1) (mFr k) && Nat.ble (8 + (mNL x + 11) + mLo x) (mLo k) then
    some (.inr (.inr (.inr (.inl (x, (S.take y).reverse, (nx, L, S.drop y, h))))))
  else none
def mx_invokevirtual (k : Nat) (nx : Nat) (x : Nat) (y : Nat) (L : List (Option Value)) (S : List Value) (h : mH) : Option mX :=
  match S[y]? with
  | some (.ref a) =>
    match h[a]? with
    | some (.inr (ci, _)) =>
      bif Nat.beq ci (mCl x) && mOne (S.take (y + 1)) && mOkL h.length L && mOkS h.length S && Nat.ble (mCat (S.drop (y + 1))) 8 && Nat.ble (mFr x + 1) (mFr k) && Nat.ble (8 + (mNL x + 11) + mLo x) (mLo k) then
        some (.inr (.inr (.inr (.inl (x, (S.take (y + 1)).reverse, (nx, L, S.drop (y + 1), h))))))
      else none
    | _ => none
  | _ => none
def mx_invokespecial (k : Nat) (nx : Nat) (x : Nat) (L : List (Option Value)) (S : List Value) (h : mH) : Option mX :=
  match S with
  | .ref a :: S' =>
    bif Nat.beq x 999 then bif Nat.ble (mCat S' + 12) (mLo k) && Nat.ble 1 (mFr k) then some (.inl (nx, L, S', h)) else none
    else
      bif mOkL h.length L && mOkS h.length S && Nat.ble (mCat S') 8 && Nat.ble (mFr x + 1) (mFr k) && Nat.ble (8 + (mNL x + 11) + mLo x) (mLo k) then
        some (.inr (.inr (.inr (.inl (x, [.ref a], (nx, L, S', h))))))
      else none
  | _ => none
def mx_ireturn (k : Nat) (L : List (Option Value)) (S : List Value) (h : mH) : Option mX :=
  match S with
  | [.int v] =>
    match mRet k with
    | some .int => some (.inr (.inr (.inl (true, .inl (some (.int v)), h))))
    | some .boolean => some (.inr (.inr (.inl (decide (v &&& 1 = v), .inl (some (.int v)), h))))
    | _ => none
  | _ => none
def mx_return_ (k : Nat) (L : List (Option Value)) (S : List Value) (h : mH) : Option mX :=
  match S with
  | [] =>
    match mRet k with
    | none => some (.inr (.inr (.inl (true, .inl none, h))))
    | _ => none
  | _ => none
def mx_const (v : Int32) (nx : Nat) (L : List (Option Value)) (S : List Value) (h : mH) : Option mX := some (.inl (nx, L, .int v :: S, h))
def mx_goto (x : Nat) (L : List (Option Value)) (S : List Value) (h : mH) : Option mX := some (.inl (x, L, S, h))
end MFX
abbrev mF : Type := List (Option Value) → List Value → mH → Option mX
def fLook1 : List (Nat × mF) → Nat → Option mF
  | [], _ => none
  | (q, i) :: t, pc => bif Nat.beq q pc then some i else fLook1 t pc
def fLook : List (Nat × List (Nat × mF)) → Nat → Option mF
  | [], _ => none
  | (b, l) :: t, pc => bif Nat.blt pc b then fLook1 l pc else fLook t pc
def fMap1 (Ls : Nat) (xs : Nat → Int32) (k : Nat) : List (Nat × mI) → List (Nat × mF)
  | [] => []
  | (pc, i, nx, x, y) :: t => (pc, mEx Ls xs k i nx x y pc) :: fMap1 Ls xs k t
def fMap (Ls : Nat) (xs : Nat → Int32) (k : Nat) : List (Nat × List (Nat × mI)) → List (Nat × List (Nat × mF))
  | [] => []
  | (b, l) :: t => (b, fMap1 Ls xs k l) :: fMap Ls xs k t
theorem fLook1_map {Ls : Nat} {xs : Nat → Int32} {k pc : Nat} : ∀ l : List (Nat × mI), fLook1 (fMap1 Ls xs k l) pc = (mLook1 l pc).map (fun q => mEx Ls xs k q.1 q.2.1 q.2.2.1 q.2.2.2 pc) := by
  intro l
  induction l with
  | nil => rfl
  | cons a t ih =>
    obtain ⟨q, i, nx, x, y⟩ := a
    simp only [fMap1, fLook1, mLook1]
    cases hb : Nat.beq q pc
    · simp only [cond_false]; exact ih
    · simp only [cond_true]
      cases Nat.eq_of_beq_eq_true hb
      rfl
theorem fLook_map {Ls : Nat} {xs : Nat → Int32} {k pc : Nat} : ∀ l : List (Nat × List (Nat × mI)), fLook (fMap Ls xs k l) pc = (mLook l pc).map (fun q => mEx Ls xs k q.1 q.2.1 q.2.2.1 q.2.2.2 pc) := by
  intro l
  induction l with
  | nil => rfl
  | cons a t ih =>
    obtain ⟨b, c⟩ := a
    simp only [fMap, fLook, mLook]
    cases hb : Nat.blt pc b
    · simp only [cond_false]; exact ih
    · simp only [cond_true]; exact fLook1_map c
theorem fMap_app {Ls : Nat} {xs : Nat → Int32} {k : Nat} : ∀ a b : List (Nat × List (Nat × mI)), fMap Ls xs k (a ++ b) = fMap Ls xs k a ++ fMap Ls xs k b := by
  intro a b
  induction a with
  | nil => rfl
  | cons x t ih =>
    obtain ⟨q, l⟩ := x
    simp only [List.cons_append, fMap, ih]
