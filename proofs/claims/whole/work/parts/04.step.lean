section MEX
variable (Ls : Nat) (xs : Nat → Int32)
def mEx (k : Nat) (i : Instr) (nx x y : Nat) (pc : Nat) (L : List (Option Value)) (S : List Value) (h : mH) : Option mX :=
  match i with
  | .iconst n => some (.inl (nx, L, .int (mK n) :: S, h))
  | .bipush n => some (.inl (nx, L, .int (mK n) :: S, h))
  | .sipush n => some (.inl (nx, L, .int (mK n) :: S, h))
  | .ldc _ => some (.inl (nx, L, .int (nI x) :: S, h))
  | .ldc_w _ => some (.inl (nx, L, .int (nI x) :: S, h))
  | .iload_n j => mLdI j.val (nx) L S h
  | .iload j => mLdI j (nx) L S h
  | .aload_n j => mLdA j.val (nx) L S h
  | .aload j => mLdA j (nx) L S h
  | .istore_n j => mStI j.val (nx) L S h
  | .istore j => mStI j (nx) L S h
  | .astore_n j => mStA j.val (nx) L S h
  | .astore j => mStA j (nx) L S h
  | .iinc j n =>
    match L[j]? with
    | some (some (.int v)) => some (.inl (nx, L.set j (some (.int (v + mK n))), S, h))
    | _ => none
  | .iadd => mBin (fun a b => a + b) (nx) L S h
  | .isub => mBin (fun a b => a - b) (nx) L S h
  | .imul => mBin (fun a b => a * b) (nx) L S h
  | .iand => mBin (fun a b => a &&& b) (nx) L S h
  | .ior => mBin (fun a b => a ||| b) (nx) L S h
  | .ishl => mBin (fun a b => a <<< (b &&& 31)) (nx) L S h
  | .ishr => mBin (fun a b => a >>> (b &&& 31)) (nx) L S h
  | .iushr => mBin (fun a b => (a.toUInt32 >>> (b.toUInt32 &&& Int32.toUInt32 31)).toInt32) (nx) L S h
  | .idiv =>
    match S with
    | .int b :: .int a :: S' => bif decide (b = 0) then none else some (.inl (nx, L, .int (a / b) :: S', h))
    | _ => none
  | .irem =>
    match S with
    | .int b :: .int a :: S' => bif decide (b = 0) then none else some (.inl (nx, L, .int (a - a / b * b) :: S', h))
    | _ => none
  | .i2l =>
    match S with
    | .int a :: S' => some (.inl (nx, L, .long a.toInt64 :: S', h))
    | _ => none
  | .lcmp =>
    match S with
    | .long b :: .long a :: S' => some (.inl (nx, L, .int (lg_cmp a b) :: S', h))
    | _ => none
  | .dup =>
    match S with
    | .int a :: S' => some (.inl (nx, L, .int a :: .int a :: S', h))
    | .ref a :: S' => some (.inl (nx, L, .ref a :: .ref a :: S', h))
    | _ => none
  | .goto _ => some (.inl (x, L, S, h))
  | .ifCond c _ =>
    match S with
    | .int a :: S' => some (.inr (.inl (mCmp0 c a, (x, L, S', h), some (nx, L, S', h))))
    | _ => none
  | .if_icmp c _ =>
    match S with
    | .int b :: .int a :: S' => some (.inr (.inl (mCmp c a b, (x, L, S', h), some (nx, L, S', h))))
    | _ => none
  | .tableswitch d lo hi offs =>
    match S with
    | .int v :: S' => some (.inl (mSw pc lo hi d offs.toList v.toInt, L, S', h))
    | _ => none
  | .getfield _ =>
    match S with
    | .ref a :: S' =>
      match h[a]? with
      | some (.inr (ci, fs)) =>
        bif Nat.beq ci x then
          match fs[y]? with
          | some v => some (.inl (nx, L, v :: S', h))
          | none => none
        else none
      | _ => none
    | _ => none
  | .putfield _ =>
    match S with
    | v :: .ref a :: S' =>
      match h[a]? with
      | some (.inr (ci, fs)) =>
        bif Nat.beq ci x && Nat.blt y fs.length && mPutOk (mFT x y) v then some (.inl (nx, L, S', h.set a (.inr (ci, fs.set y v))))
        else none
      | _ => none
    | _ => none
  | .iaload =>
    match S with
    | .int j :: .ref a :: S' =>
      bif Nat.beq a mSC then some (.inr (.inl (mInb j Ls, (nx, L, .int (xs j.toNatClampNeg) :: S', h), none)))
      else
        match h[a]? with
        | some (.inl (0, n, .inl f)) => some (.inr (.inl (mInb j n, (nx, L, .int (f j.toNatClampNeg) :: S', h), none)))
        | _ => none
    | _ => none
  | .iastore =>
    match S with
    | .int v :: .int j :: .ref a :: S' =>
      match h[a]? with
      | some (.inl (0, n, .inl f)) => some (.inr (.inl (mInb j n, (nx, L, S', h.set a (.inl (0, n, .inl (upd f j.toNatClampNeg v)))  ), none)))
      | _ => none
    | _ => none
  | .baload =>
    match S with
    | .int j :: .ref a :: S' =>
      match h[a]? with
      | some (.inl (1, n, .inl f)) => some (.inr (.inl (mInb j n, (nx, L, .int (f j.toNatClampNeg) :: S', h), none)))
      | _ => none
    | _ => none
  | .bastore =>
    match S with
    | .int v :: .int j :: .ref a :: S' =>
      match h[a]? with
      | some (.inl (1, n, .inl f)) => some (.inr (.inl (mInb j n, (nx, L, S', h.set a (.inl (1, n, .inl (upd f j.toNatClampNeg (vp_nar .boolean v))))  ), none)))
      | _ => none
    | _ => none
  | .laload =>
    match S with
    | .int j :: .ref a :: S' =>
      match h[a]? with
      | some (.inl (2, n, .inr (.inl f))) => some (.inr (.inl (mInb j n, (nx, L, .long (f j.toNatClampNeg) :: S', h), none)))
      | _ => none
    | _ => none
  | .lastore =>
    match S with
    | .long v :: .int j :: .ref a :: S' =>
      match h[a]? with
      | some (.inl (2, n, .inr (.inl f))) => some (.inr (.inl (mInb j n, (nx, L, S', h.set a (.inl (2, n, .inr (.inl (vp_updL f j.toNatClampNeg v))))  ), none)))
      | _ => none
    | _ => none
  | .arraylength =>
    match S with
    | .ref a :: S' => bif Nat.beq a mSC then some (.inl (nx, L, .int (Int32.ofNat Ls) :: S', h)) else none
    | _ => none
  | .newarray t =>
    match S with
    | .int n :: S' =>
      bif decide (¬ n < 0) && Nat.ble n.toNatClampNeg 1000 && mOkL h.length L && mOkS h.length S' && mOkH h.length h && Nat.blt h.length 1000 then
        match t with
        | .int => some (.inr (.inr (.inr (.inr ((nx, L, .ref h.length :: S', h ++ [.inl (0, n.toNatClampNeg, .inl fun _ => 0)]), n.toNatClampNeg)))))
        | .boolean => some (.inr (.inr (.inr (.inr ((nx, L, .ref h.length :: S', h ++ [.inl (1, n.toNatClampNeg, .inl fun _ => 0)]), n.toNatClampNeg)))))
        | .long => some (.inr (.inr (.inr (.inr ((nx, L, .ref h.length :: S', h ++ [.inl (2, n.toNatClampNeg, .inr (.inl fun _ => 0))]), n.toNatClampNeg)))))
        | _ => none
      else none
    | _ => none
  | .new _ =>
    match y with
    | 0 => bif mOkL h.length L && mOkS h.length S && mOkH h.length h && Nat.blt h.length 1000 then some (.inr (.inr (.inr (.inr ((nx, L, .ref h.length :: S, h ++ [.inr (x, mDef x)]), (mDef x).length))))) else none
    | _ => bif mNoH k && Nat.ble (mCat S) 6 && Nat.ble 6 (mFr k) && Nat.ble 100 (mLo k) then some (.inr (.inr (.inl (true, .inr x, h)))) else none
  | .invokestatic _ =>
    bif Nat.ble y S.length && mOne (S.take y) && mOkL h.length L && mOkS h.length S && Nat.ble (mCat (S.drop y)) 8 && Nat.ble (mFr x + 1) (mFr k) && Nat.ble (8 + (mNL x + 11) + mLo x) (mLo k) then
      some (.inr (.inr (.inr (.inl (x, (S.take y).reverse, (nx, L, S.drop y, h))))))
    else none
  | .invokevirtual _ =>
    match S[y]? with
    | some (.ref a) =>
      match h[a]? with
      | some (.inr (ci, _)) =>
        bif Nat.beq ci (mCl x) && mOne (S.take (y + 1)) && mOkL h.length L && mOkS h.length S && Nat.ble (mCat (S.drop (y + 1))) 8 && Nat.ble (mFr x + 1) (mFr k) && Nat.ble (8 + (mNL x + 11) + mLo x) (mLo k) then
          some (.inr (.inr (.inr (.inl (x, (S.take (y + 1)).reverse, (nx, L, S.drop (y + 1), h))))))
        else none
      | _ => none
    | _ => none
  | .invokespecial _ =>
    match S with
    | .ref a :: S' =>
      bif Nat.beq x 999 then bif Nat.ble (mCat S' + 12) (mLo k) && Nat.ble 1 (mFr k) then some (.inl (nx, L, S', h)) else none
      else
        bif mOkL h.length L && mOkS h.length S && Nat.ble (mCat S') 8 && Nat.ble (mFr x + 1) (mFr k) && Nat.ble (8 + (mNL x + 11) + mLo x) (mLo k) then
          some (.inr (.inr (.inr (.inl (x, [.ref a], (nx, L, S', h))))))
        else none
    | _ => none
  | .ireturn =>
    match S with
    | [.int v] =>
      match mRet k with
      | some .int => some (.inr (.inr (.inl (true, .inl (some (.int v)), h))))
      | some .boolean => some (.inr (.inr (.inl (decide (v &&& 1 = v), .inl (some (.int v)), h))))
      | _ => none
    | _ => none
  | .return_ =>
    match S with
    | [] =>
      match mRet k with
      | none => some (.inr (.inr (.inl (true, .inl none, h))))
      | _ => none
    | _ => none
  | _ => none
def mStep (k : Nat) : mS → Option mX
  | (pc, L, S, h) =>
    match mCode k pc with
    | some (i, nx, x, y) => mEx Ls xs k i nx x y pc L S h
    | none => none
def mEnt (k : Nat) (av : List Value) (h : mH) : mS := (0, av.map some ++ List.replicate (mNL k - av.length) none, [], h)
def mAdd (c s : Nat) (r : mR) : mR := (r.1, r.2.1, c + r.2.2.1, s + r.2.2.2)
def mGo : Nat → Nat → mS → Option mR
  | 0, _, _ => none
  | n + 1, k, st =>
    match mStep Ls xs k st with
    | none => none
    | some (.inl st') => mGo n k st'
    | some (.inr (.inl (true, a, _))) => mGo n k a
    | some (.inr (.inl (false, _, some b))) => mGo n k b
    | some (.inr (.inl (false, _, none))) => none
    | some (.inr (.inr (.inl (true, .inl v, h)))) => some (.inl v, h, 0, 0)
    | some (.inr (.inr (.inl (true, .inr j, h)))) => some (.inr j, h, 1, 6)
    | some (.inr (.inr (.inl (false, _, _)))) => none
    | some (.inr (.inr (.inr (.inr (st', s))))) => (mGo n k st').map (mAdd 1 s)
    | some (.inr (.inr (.inr (.inl (k', av, (pc, L, S, h)))))) =>
      match mGo n k' (mEnt k' av h) with
      | none => none
      | some (.inl v, h', c, s) => (mGo n k (pc, L, v.toList ++ S, h')).map (mAdd c s)
      | some (.inr j, h', c, s) =>
        match mHH k with
        | [] => some (.inr j, h', c, s)
        | _ =>
          match mHn k (pc - 3) j with
          | some (q, i) => (mGo n k (q, L.set i none, [], h')).map (mAdd c s)
          | none => none
end MEX
