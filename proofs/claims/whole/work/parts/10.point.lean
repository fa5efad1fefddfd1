/-! the facts of an instruction, and the place where a walk stands -/
def mLen : Instr → Nat
  | .iload _ | .aload _ | .istore _ | .astore _ | .bipush _ | .ldc _ | .newarray _ => 2
  | .sipush _ | .iinc _ _ | .goto _ | .ifCond _ _ | .if_icmp _ _ | .getfield _ | .putfield _ | .invokevirtual _ | .invokespecial _ | .invokestatic _ | .new _ | .ldc_w _ => 3
  | .tableswitch _ _ _ _ => 73
  | _ => 1
def mTys (dA : Nat → ClassId) : List (ClassId × FieldType) := [(dA 0, .int), (dA 1, .boolean), (dA 2, .long)]
def mMeth (w : Nat) : Prop := ((mHH w = [] ∧ Jvm.Cond.code (mY w) (mBy w) (mNL w) (mRet w) ∈ mWs) ∨ (mHH w ≠ [] ∧ Jvm.Cond.codeWith (mY w) (mBy w) (mNL w) (mRet w) (mHH w) ∈ mWs)) ∧ Jvm.Cond.initialized (mY w).cls ∈ mWs ∧ (mY w).cls ≠ "java/lang/invoke/MethodHandle" ∧ (mY w).cls ≠ "java/lang/invoke/VarHandle" ∧ plainName (mY w).cls = true
def mFact (k pc : Nat) (i : Instr) (nx x y : Nat) : Prop :=
  decode (mBy k) pc = .ok (i, mLen i) ∧ nx = pc + mLen i ∧
  match i with
  | .iconst n => Int32.ofInt n = mK n
  | .bipush n => (Int8.ofInt n).toInt32 = mK n
  | .sipush n => (Int16.ofInt n).toInt32 = mK n
  | .iinc _ n => Int32.ofInt n = mK n
  | .ldc j => Jvm.Cond.constant (mY k).cls j (Int32.ofNat x) ∈ mWs
  | .ldc_w j => Jvm.Cond.constant (mY k).cls j (Int32.ofNat x) ∈ mWs
  | .goto off => (pc : Int) + off = (x : Int)
  | .ifCond _ off => (pc : Int) + off = (x : Int)
  | .if_icmp _ off => (pc : Int) + off = (x : Int)
  | .tableswitch d lo hi offs => 0 ≤ (pc : Int) + d ∧ (hi - lo + 1).toNat = offs.size ∧ lo ≤ hi ∧ ∀ o ∈ offs.toList, 0 ≤ (pc : Int) + o
  | .getfield j => ∃ C T N, mCls[x]? = some (C, T, N) ∧ y < N ∧ Jvm.Cond.fieldLink (mY k).cls j (T y).1 (T y).2.1 (T y).2.2.1 ∈ mWs
  | .putfield j => ∃ C T N, mCls[x]? = some (C, T, N) ∧ y < N ∧ Jvm.Cond.fieldLink (mY k).cls j (T y).1 (T y).2.1 (T y).2.2.1 ∈ mWs ∧ ((T y).2.2.2 = false ∨ ((T y).2.2.2 = true ∧ (mY k).name = "<init>" ∧ (T y).1 = (mY k).cls))
  | .newarray t => Jvm.Cond.arrayClass (newarray.typeOf t) ∈ mWs
  | .new j =>
    match y with
    | 0 => ∃ C T N, mCls[x]? = some (C, T, N) ∧ (mDef x).length = N ∧ Jvm.Cond.classLink (mY k).cls j C ∈ mWs ∧ Jvm.Cond.instantiable C N ∈ mWs ∧ Jvm.Cond.initialized C ∈ mWs ∧ ∀ q, q < N → defaultValue (mFT x q) = vp_V (mDef x) q
    | _ => ∃ (is ic : Nat) (text : String) (ix : Nat) (rx : ByteArray), decode (mBy k) (pc + 3) = .ok (.dup, 1) ∧ decode (mBy k) (pc + 4) = .ok (.ldc is, 2) ∧ decode (mBy k) (pc + 6) = .ok (.invokespecial ic, 3) ∧ decode (mBy k) (pc + 9) = .ok (.athrow, 1) ∧ Jvm.Cond.stringRef (mY k).cls is text ∈ mVs ∧
        Jvm.Cond.classLink (mY k).cls j (mXn x) ∈ mWs ∧ Jvm.Cond.initialized (mXn x) ∈ mWs ∧ Bundle.fit (mXn x) = true ∧ decode rx 0 = .ok (.aload_n 0, 1) ∧ decode rx 1 = .ok (.aload_n 1, 1) ∧ decode rx 2 = .ok (.invokespecial ix, 3) ∧ decode rx 5 = .ok (.return_, 1) ∧ ∀ w ∈ xAll (mY k).cls ic (mXn x) ix rx, w ∈ mWs ∨ w ∈ mVs
  | .invokestatic j => mMeth x ∧ Jvm.Cond.static (mY x) ∈ mWs ∧ (parseMethodDescriptor (mY x).desc).map (fun d => d.parameters.length) = some y ∧ y ≤ mNL x ∧ (Jvm.Cond.methodLink (mY k).cls j (mY x) ∈ mWs ∨ ∃ host, Jvm.Cond.methodLinkNest (mY k).cls j (mY x) host ∈ mVs)
  | .invokevirtual j => mMeth x ∧ Jvm.Cond.instanceMethod (mY x) ∈ mWs ∧ (parseMethodDescriptor (mY x).desc).map (fun d => d.parameters.length) = some y ∧ y + 1 ≤ mNL x ∧ Jvm.Cond.methodLink (mY k).cls j (mY x) ∈ mWs ∧ (∃ T N, mCls[mCl x]? = some ((mY x).cls, T, N)) ∧ Jvm.Cond.selects (mY x).cls (mY x) (mY x) ∈ mWs
  | .invokespecial j =>
    (x = 999 ∧ Jvm.Cond.methodLink (mY k).cls j Lib.objectInit ∈ mWs ∧ Jvm.Cond.instanceMethod Lib.objectInit ∈ mWs ∧ Jvm.Cond.code Lib.objectInit ⟨#[0xb1]⟩ 1 none ∈ mWs) ∨
    (x ≠ 999 ∧ mMeth x ∧ mHH x = [] ∧ mRet x = none ∧ Jvm.Cond.instanceMethod (mY x) ∈ mWs ∧ (mY x).name = "<init>" ∧ (parseMethodDescriptor (mY x).desc).map (fun d => d.parameters.length) = some 0 ∧ 1 ≤ mNL x ∧ Jvm.Cond.methodLink (mY k).cls j (mY x) ∈ mWs)
  | _ => True
section SND
variable {p : Program} {l : Launch} {e : Env} {R : Room} {s : State} {m : MethodId} {args : Array Value} {below : List Frame} {meth : Method} {c : Code} {H : Heap} {locs : List Loc} {cells slots : Nat} {Q : State → Prop}
variable {D : va_G} {dA : Nat → ClassId} {b Ls : Nat} {xs : Nat → Int32} {A : Nat → Prop} {ρ : Nat → Nat} {k : Nat}
/-- what holds all through a method's walk -/
def Cx (D : va_G) (dA : Nat → ClassId) (b Ls : Nat) (xs : Nat → Int32) (A : Nat → Prop) (p : Program) (s : State) (m : MethodId) (args : Array Value) (meth : Method) (c : Code) (k : Nat) : Prop :=
  p.tables.exec = Jvm.exec ∧ c.code = mBy k ∧ c.maxLocals = mNL k ∧ s.vm.findClass (mY k).cls = some m.cls ∧ (∀ w ∈ mWs, w.before args s = true) ∧ (∀ w ∈ mVs, w.before args s = true) ∧ va_K D mCls (mTys dA) s ∧ va_X b Ls xs s s.heap ∧ b < s.heap.size ∧ ¬ A b ∧ (∀ q, s.heap.size ≤ q → A q) ∧ meth.sig.returnType = mRet k ∧ meth.locks = false ∧ meth.name = (mY k).name ∧
  c.exceptionTable.toList.map (fun h => (h.startPc, h.endPc, h.handlerPc, h.catchType)) = mHH k ∧ xZ s ∧ ∀ (q : Nat) (cell : Cell), A q → s.heap[q]? = some cell → cell.vm.isStatics = false
/-- the cells at a point of the walk -/
def Wp (D : va_G) (dA : Nat → ClassId) (b : Nat) (A : Nat → Prop) (s : State) (ρ : Nat → Nat) (h : mH) (H : Heap) (locs : List Loc) : Prop :=
  va_P D mCls (trH ρ dA h) H ∧ va_D A (trH ρ dA h) ∧ va_S A s.heap H locs ∧ ρ mSC = b
theorem mBin_inv {f : Int32 → Int32 → Int32} {pc : Nat} {L : List (Option Value)} {S : List Value} {h : mH} {r : mX} (hs : mBin f pc L S h = some r) :
    ∃ x y S0, S = .int y :: .int x :: S0 ∧ r = .inl (pc, L, .int (f x y) :: S0, h) := by
  unfold mBin at hs
  split at hs
  · cases hs; exact ⟨_, _, _, rfl, rfl⟩
  · cases hs
theorem mLdI_inv {j pc : Nat} {L : List (Option Value)} {S : List Value} {h : mH} {r : mX} (hs : mLdI j pc L S h = some r) :
    ∃ v, L[j]? = some (some (.int v)) ∧ r = .inl (pc, L, .int v :: S, h) := by
  unfold mLdI at hs
  split at hs
  · rename_i v hv; cases hs; exact ⟨_, hv, rfl⟩
  · cases hs
theorem mLdA_inv {j pc : Nat} {L : List (Option Value)} {S : List Value} {h : mH} {r : mX} (hs : mLdA j pc L S h = some r) :
    ∃ v, L[j]? = some (some (.ref v)) ∧ r = .inl (pc, L, .ref v :: S, h) := by
  unfold mLdA at hs
  split at hs
  · rename_i v hv; cases hs; exact ⟨_, hv, rfl⟩
  · cases hs
theorem mStI_inv {j pc : Nat} {L : List (Option Value)} {S : List Value} {h : mH} {r : mX} (hs : mStI j pc L S h = some r) :
    ∃ v S0, S = .int v :: S0 ∧ j < L.length ∧ r = .inl (pc, L.set j (some (.int v)), S0, h) := by
  unfold mStI at hs
  split at hs
  · cases hb : Nat.blt j L.length <;> rw [hb] at hs <;> simp only [cond_true, cond_false] at hs <;> cases hs
    exact ⟨_, _, rfl, blt_lt hb, rfl⟩
  · cases hs
theorem mStA_inv {j pc : Nat} {L : List (Option Value)} {S : List Value} {h : mH} {r : mX} (hs : mStA j pc L S h = some r) :
    ∃ v S0, S = .ref v :: S0 ∧ j < L.length ∧ r = .inl (pc, L.set j (some (.ref v)), S0, h) := by
  unfold mStA at hs
  split at hs
  · cases hb : Nat.blt j L.length <;> rw [hb] at hs <;> simp only [cond_true, cond_false] at hs <;> cases hs
    exact ⟨_, _, rfl, blt_lt hb, rfl⟩
  · cases hs
theorem mOne_rev {S : List Value} (h : mOne S = true) : mOne S.reverse = true := by
  rw [mOne_iff] at h ⊢
  intro v hv
  exact h v (List.mem_reverse.mp hv)
theorem mOkS_drop {n : Nat} {S : List Value} (h : mOkS n S = true) (y : Nat) : mOkS n (S.drop y) = true := by
  induction S generalizing y with
  | nil => simpa using h
  | cons v t ih =>
    simp only [mOkS, Bool.and_eq_true] at h
    cases y with
    | zero => simp [mOkS, h.1, h.2]
    | succ y => exact ih h.2 y
theorem mMeth_has {args : Array Value} {s : State} {x : Nat} (hts : ∀ w ∈ mWs, w.before args s = true) (h : mMeth x) : xHas s (mY x) (mBy x) (mNL x) (mRet x) (mHH x) := by
  rcases h.1 with ⟨h0, h1⟩ | ⟨-, h1⟩
  · rw [h0]; exact xHas.of (hts _ h1)
  · exact xHas.ofW (hts _ h1)
theorem mInb_spec {i : Int32} {n : Nat} (h : mInb i n = true) : vp_in i n := by
  unfold mInb at h
  unfold vp_in
  exact of_decide_eq_true h
theorem mT {b : Bool} (h : b = false → False) : b = true := by cases b; exact (h rfl).elim; rfl
theorem mCat_tr {S : List Value} : ((S.map (trV ρ)).map fun v => v.category).sum = mCat S := by
  simp only [mCat, List.map_map]
  congr 2
  funext v
  exact trV_cat
theorem mPutOk_spec {ty : FieldType} {v : Value} (h : mPutOk ty v = true) : narrow ty (trV ρ v) = trV ρ v ∧ fits ty (trV ρ v) = true := by
  unfold mPutOk at h
  split at h
  · exact ⟨rfl, rfl⟩
  · rename_i z
    simp only [Bool.or_eq_true, decide_eq_true_eq] at h
    rcases h with rfl | rfl
    · exact ⟨rfl, rfl⟩
    · exact ⟨rfl, rfl⟩
  · exact ⟨rfl, rfl⟩
  · exact ⟨rfl, rfl⟩
  · cases h
end SND
theorem mLay0 : ∀ w ∈ u_ws "ClusterVolume" mTf_0 4, w ∈ mWs := by decide +kernel
theorem mLay1 : ∀ w ∈ u_ws "ClusterVolume$Disk" mTf_1 4, w ∈ mWs := by decide +kernel
theorem mLay2 : ∀ w ∈ u_ws "ClusterVolumeModel" mTf_2 9, w ∈ mWs := by decide +kernel
theorem mCls_cases {x : Nat} {C : String} {T : u_T} {N : Nat} (h : mCls[x]? = some (C, T, N)) : (x = 0 ∧ C = "ClusterVolume" ∧ T = mTf_0 ∧ N = 4) ∨ (x = 1 ∧ C = "ClusterVolume$Disk" ∧ T = mTf_1 ∧ N = 4) ∨ (x = 2 ∧ C = "ClusterVolumeModel" ∧ T = mTf_2 ∧ N = 9) := by
  match x, h with
  | 0, h => cases h; exact Or.inl ⟨rfl, rfl, rfl, rfl⟩
  | 1, h => cases h; exact Or.inr (Or.inl ⟨rfl, rfl, rfl, rfl⟩)
  | 2, h => cases h; exact Or.inr (Or.inr ⟨rfl, rfl, rfl, rfl⟩)
  | n + 3, h => cases h
theorem mLay {x : Nat} {C : String} {T : u_T} {N : Nat} (h : mCls[x]? = some (C, T, N)) : ∀ w ∈ u_ws C T N, w ∈ mWs := by
  rcases mCls_cases h with ⟨rfl, rfl, rfl, rfl⟩ | ⟨rfl, rfl, rfl, rfl⟩ | ⟨rfl, rfl, rfl, rfl⟩
  · exact mLay0
  · exact mLay1
  · exact mLay2
theorem mFTy0 : ∀ k, k < 4 → parseFieldDescriptor (mTf_0 k).2.2.1 = some (mFT 0 k) := by decide +kernel
theorem mFTy1 : ∀ k, k < 4 → parseFieldDescriptor (mTf_1 k).2.2.1 = some (mFT 1 k) := by decide +kernel
theorem mFTy2 : ∀ k, k < 9 → parseFieldDescriptor (mTf_2 k).2.2.1 = some (mFT 2 k) := by decide +kernel
theorem mFTy {x : Nat} {C : String} {T : u_T} {N : Nat} (h : mCls[x]? = some (C, T, N)) : ∀ k, k < N → parseFieldDescriptor (T k).2.2.1 = some (mFT x k) := by
  rcases mCls_cases h with ⟨rfl, rfl, rfl, rfl⟩ | ⟨rfl, rfl, rfl, rfl⟩ | ⟨rfl, rfl, rfl, rfl⟩
  · exact mFTy0
  · exact mFTy1
  · exact mFTy2
theorem mNd0 : ∀ a, a < 4 → ∀ b, b < 4 → a ≠ b → (mTf_0 a).2.1 ≠ (mTf_0 b).2.1 := by decide +kernel
theorem mNd1 : ∀ a, a < 4 → ∀ b, b < 4 → a ≠ b → (mTf_1 a).2.1 ≠ (mTf_1 b).2.1 := by decide +kernel
theorem mNd2 : ∀ a, a < 9 → ∀ b, b < 9 → a ≠ b → (mTf_2 a).2.1 ≠ (mTf_2 b).2.1 := by decide +kernel
theorem mNd {x : Nat} {C : String} {T : u_T} {N : Nat} (h : mCls[x]? = some (C, T, N)) : ∀ a, a < N → ∀ b, b < N → a ≠ b → (T a).2.1 ≠ (T b).2.1 := by
  rcases mCls_cases h with ⟨rfl, rfl, rfl, rfl⟩ | ⟨rfl, rfl, rfl, rfl⟩ | ⟨rfl, rfl, rfl, rfl⟩
  · exact mNd0
  · exact mNd1
  · exact mNd2
theorem mDef_tr {ρ : Nat → Nat} {x : Nat} : (mDef x).map (trV ρ) = mDef x := by
  unfold mDef
  split <;> rfl
