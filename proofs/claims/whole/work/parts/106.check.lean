def mIcL : List (String × Nat × Nat) := [("ClusterVolume", 0, 165), ("ClusterVolume", 1, 91), ("ClusterVolume", 2, 47), ("ClusterVolume", 3, 58), ("ClusterVolume", 4, 181), ("ClusterVolume", 5, 125), ("ClusterVolume$Disk", 0, 37)]
def mIc (c : String) (x ic : Nat) : Bool := decide ((c, x, ic) ∈ mIcL)
/-! the check of an instruction, by the kernel -/
def mChkN (k j x : Nat) : Bool :=
  match mCls[x]? with
  | some (C, _, N) => Nat.beq (mDef x).length N && mAtW (mPl (mOws.getD k 0) j) (.classLink (mY k).cls j C) && mAtW ([58, 66, 494].getD x 0) (.instantiable C N) && mAtW ([44, 45, 46].getD x 0) (.initialized C) && (List.range N).all (fun q => decide (defaultValue (mFT x q) = vp_V (mDef x) q))
  | none => false
def mChkU (k pc x : Nat) : Bool :=
  match decode (mBy k) (pc + 4), decode (mBy k) (pc + 6) with
  | .ok (.ldc is, 2), .ok (.invokespecial ic, 3) => mAtV (mStr (mOws.getD k 0) is).1 (.stringRef (mY k).cls is (mStr (mOws.getD k 0) is).2) && mIc (mY k).cls x ic
  | _, _ => false
def mChkT (k pc j x : Nat) : Bool :=
  decide (decode (mBy k) (pc + 3) = .ok (.dup, 1)) && decide (decode (mBy k) (pc + 9) = .ok (.athrow, 1)) && mAtW (mPl (mOws.getD k 0) j) (.classLink (mY k).cls j (mXn x)) && mAtW ([50, 51, 52, 53, 54, 55].getD x 0) (.initialized (mXn x)) && Nat.blt x 6 && mChkU k pc x
def mChk (k pc : Nat) (i : Instr) (nx x y : Nat) : Bool :=
  decide (decode (mBy k) pc = .ok (i, mLen i)) && Nat.beq nx (pc + mLen i) &&
  match i with
  | .iconst n => decide (Int32.ofInt n = mK n)
  | .bipush n => decide ((Int8.ofInt n).toInt32 = mK n)
  | .sipush n => decide ((Int16.ofInt n).toInt32 = mK n)
  | .iinc _ n => decide (Int32.ofInt n = mK n)
  | .ldc j => mAtW (mPl (mOws.getD k 0) j) (.constant (mY k).cls j (Int32.ofNat x))
  | .ldc_w j => mAtW (mPl (mOws.getD k 0) j) (.constant (mY k).cls j (Int32.ofNat x))
  | .goto off => decide ((pc : Int) + off = (x : Int))
  | .ifCond _ off => decide ((pc : Int) + off = (x : Int))
  | .if_icmp _ off => decide ((pc : Int) + off = (x : Int))
  | .tableswitch d lo hi offs => decide (0 ≤ (pc : Int) + d) && decide ((hi - lo + 1).toNat = offs.size) && decide (lo ≤ hi) && offs.toList.all (fun o => decide (0 ≤ (pc : Int) + o))
  | .getfield j =>
    match mCls[x]? with
    | some (_, T, N) => Nat.blt y N && mAtW (mPl (mOws.getD k 0) j) (.fieldLink (mY k).cls j (T y).1 (T y).2.1 (T y).2.2.1)
    | none => false
  | .putfield j =>
    match mCls[x]? with
    | some (_, T, N) => Nat.blt y N && mAtW (mPl (mOws.getD k 0) j) (.fieldLink (mY k).cls j (T y).1 (T y).2.1 (T y).2.2.1) && (decide ((T y).2.2.2 = false) || (decide ((T y).2.2.2 = true) && decide ((mY k).name = "<init>") && decide ((T y).1 = (mY k).cls)))
    | none => false
  | .newarray t => mAtW (match t with | .int => 84 | .boolean => 98 | _ => 678) (.arrayClass (newarray.typeOf t))
  | .new j =>
    match y with
    | 0 => mChkN k j x
    | _ => mChkT k pc j x
  | .invokestatic j => Nat.blt x 99 && mAtW (mPs.getD x 0) (.static (mY x)) && decide ((parseMethodDescriptor (mY x).desc).map (fun d => d.parameters.length) = some y) && Nat.ble y (mNL x) && (mAtW (mPl (mOws.getD k 0) j) (.methodLink (mY k).cls j (mY x)) || mAtV (mPl (mOws.getD k 0) j) (.methodLinkNest (mY k).cls j (mY x) "ClusterVolume"))
  | .invokevirtual j => Nat.blt x 99 && mAtW (mPi.getD x 0) (.instanceMethod (mY x)) && decide ((parseMethodDescriptor (mY x).desc).map (fun d => d.parameters.length) = some y) && Nat.ble (y + 1) (mNL x) && mAtW (mPl (mOws.getD k 0) j) (.methodLink (mY k).cls j (mY x)) && mAtW (mPe.getD x 0) (.selects (mY x).cls (mY x) (mY x)) &&
      (match mCls[mCl x]? with
       | some (C, _, _) => decide (C = (mY x).cls)
       | none => false)
  | .invokespecial j =>
    bif Nat.beq x 999 then mAtW (mPl (mOws.getD k 0) j) (.methodLink (mY k).cls j Lib.objectInit) && mAtW 63 (.instanceMethod Lib.objectInit) && mAtW 64 (.code Lib.objectInit ⟨#[0xb1]⟩ 1 none)
    else Nat.blt x 99 && decide (mHH x = []) && decide (mRet x = none) && mAtW (mPi.getD x 0) (.instanceMethod (mY x)) && decide ((mY x).name = "<init>") && decide ((parseMethodDescriptor (mY x).desc).map (fun d => d.parameters.length) = some 0) && Nat.ble 1 (mNL x) && mAtW (mPl (mOws.getD k 0) j) (.methodLink (mY k).cls j (mY x))
  | _ => true
theorem mIc_all : ∀ q ∈ mIcL, ∀ w ∈ xAll q.1 q.2.2 (mXn q.2.1) (mRx q.2.1).1 (mRx q.2.1).2, w ∈ mWs ∨ w ∈ mVs := List.forall_mem_cons.mpr ⟨mOk2_in mTh_0_0, List.forall_mem_cons.mpr ⟨mOk2_in mTh_0_1, List.forall_mem_cons.mpr ⟨mOk2_in mTh_0_2, List.forall_mem_cons.mpr ⟨mOk2_in mTh_0_3, List.forall_mem_cons.mpr ⟨mOk2_in mTh_0_4, List.forall_mem_cons.mpr ⟨mOk2_in mTh_0_5, List.forall_mem_cons.mpr ⟨mOk2_in mTh_1_0, fun _ h => absurd h List.not_mem_nil⟩⟩⟩⟩⟩⟩⟩
theorem mIc_spec {c : String} {x ic : Nat} (h : mIc c x ic = true) : ∀ w ∈ xAll c ic (mXn x) (mRx x).1 (mRx x).2, w ∈ mWs ∨ w ∈ mVs := mIc_all (c, x, ic) (of_decide_eq_true h)
theorem mRxd {x : Nat} (h : x < 6) : Bundle.fit (mXn x) = true ∧ decode (mRx x).2 0 = .ok (.aload_n 0, 1) ∧ decode (mRx x).2 1 = .ok (.aload_n 1, 1) ∧ decode (mRx x).2 2 = .ok (.invokespecial (mRx x).1, 3) ∧ decode (mRx x).2 5 = .ok (.return_, 1) := by
  match x, h with
  | 0, _ => exact ⟨by decide +kernel, mRxd_0⟩
  | 1, _ => exact ⟨by decide +kernel, mRxd_1⟩
  | 2, _ => exact ⟨by decide +kernel, mRxd_2⟩
  | 3, _ => exact ⟨by decide +kernel, mRxd_3⟩
  | 4, _ => exact ⟨by decide +kernel, mRxd_4⟩
  | 5, _ => exact ⟨by decide +kernel, mRxd_5⟩
  | n + 6, h => exact absurd h (by omega)
set_option maxHeartbeats 4000000 in
theorem mChk_spec {k pc nx x y : Nat} {i : Instr} (h : mChk k pc i nx x y = true) : mFact k pc i nx x y := by
  unfold mChk at h
  rw [Bool.and_eq_true, Bool.and_eq_true] at h
  obtain ⟨⟨h1, h2⟩, h3⟩ := h
  refine ⟨of_decide_eq_true h1, Nat.eq_of_beq_eq_true h2, ?_⟩
  cases i with
  | iconst n => exact of_decide_eq_true h3
  | bipush n => exact of_decide_eq_true h3
  | sipush n => exact of_decide_eq_true h3
  | iinc j n => exact of_decide_eq_true h3
  | ldc j => exact mAtW_in h3
  | ldc_w j => exact mAtW_in h3
  | goto off => exact of_decide_eq_true h3
  | ifCond c off => exact of_decide_eq_true h3
  | if_icmp c off => exact of_decide_eq_true h3
  | tableswitch d lo hi offs =>
    simp only [Bool.and_eq_true, List.all_eq_true] at h3
    obtain ⟨⟨⟨a1, a2⟩, a3⟩, a4⟩ := h3
    exact ⟨of_decide_eq_true a1, of_decide_eq_true a2, of_decide_eq_true a3, fun o ho => of_decide_eq_true (a4 o ho)⟩
  | getfield j =>
    dsimp only at h3
    split at h3
    · rename_i C T N hc
      simp only [Bool.and_eq_true] at h3
      exact ⟨C, T, N, hc, blt_lt h3.1, mAtW_in h3.2⟩
    · cases h3
  | putfield j =>
    dsimp only at h3
    split at h3
    · rename_i C T N hc
      simp only [Bool.and_eq_true, Bool.or_eq_true, decide_eq_true_eq] at h3
      refine ⟨C, T, N, hc, blt_lt h3.1.1, mAtW_in h3.1.2, ?_⟩
      rcases h3.2 with h4 | ⟨⟨h4, h5⟩, h6⟩
      · exact Or.inl h4
      · exact Or.inr ⟨h4, h5, h6⟩
    · cases h3
  | newarray t => exact mAtW_in h3
  | new j =>
    cases y with
    | zero =>
      have h3 : mChkN k j x = true := h3
      unfold mChkN at h3
      split at h3
      · rename_i C T N hc
        simp only [Bool.and_eq_true, List.all_eq_true] at h3
        obtain ⟨⟨⟨⟨a1, a2⟩, a3⟩, a4⟩, a5⟩ := h3
        exact ⟨C, T, N, hc, Nat.eq_of_beq_eq_true a1, mAtW_in a2, mAtW_in a3, mAtW_in a4, fun q hq => of_decide_eq_true (a5 q (List.mem_range.mpr hq))⟩
      · cases h3
    | succ y =>
      have h3 : mChkT k pc j x = true := h3
      unfold mChkT at h3
      simp only [Bool.and_eq_true] at h3
      obtain ⟨⟨⟨⟨⟨a1, a2⟩, a3⟩, a4⟩, a5⟩, a6⟩ := h3
      unfold mChkU at a6
      split at a6
      · rename_i is ic d4 d6
        simp only [Bool.and_eq_true] at a6
        obtain ⟨c1, c2, c3, c4, c5⟩ := mRxd (blt_lt a5)
        exact ⟨is, ic, _, (mRx x).1, (mRx x).2, of_decide_eq_true a1, d4, d6, of_decide_eq_true a2, mAtV_in a6.1, mAtW_in a3, mAtW_in a4, c1, c2, c3, c4, c5, mIc_spec a6.2⟩
      · cases a6
  | invokestatic j =>
    simp only [Bool.and_eq_true, Bool.or_eq_true] at h3
    obtain ⟨⟨⟨⟨a1, a2⟩, a3⟩, a4⟩, a5⟩ := h3
    refine ⟨mMeths x (blt_lt a1), mAtW_in a2, of_decide_eq_true a3, Nat.le_of_ble_eq_true a4, ?_⟩
    rcases a5 with a5 | a5
    · exact Or.inl (mAtW_in a5)
    · exact Or.inr ⟨_, mAtV_in a5⟩
  | invokevirtual j =>
    simp only [Bool.and_eq_true] at h3
    obtain ⟨⟨⟨⟨⟨⟨a1, a2⟩, a3⟩, a4⟩, a5⟩, a6⟩, a7⟩ := h3
    refine ⟨mMeths x (blt_lt a1), mAtW_in a2, of_decide_eq_true a3, Nat.le_of_ble_eq_true a4, mAtW_in a5, ?_, mAtW_in a6⟩
    split at a7
    · rename_i C T N hc
      have e := of_decide_eq_true a7
      subst e
      exact ⟨T, N, hc⟩
    · cases a7
  | invokespecial j =>
    dsimp only at h3
    cases hb : Nat.beq x 999 <;> rw [hb] at h3 <;> simp only [cond_true, cond_false, Bool.and_eq_true] at h3
    · obtain ⟨⟨⟨⟨⟨⟨⟨a1, a2⟩, a3⟩, a4⟩, a5⟩, a6⟩, a7⟩, a8⟩ := h3
      exact Or.inr ⟨(fun e => by rw [e] at hb; cases hb), mMeths x (blt_lt a1), of_decide_eq_true a2, of_decide_eq_true a3, mAtW_in a4, of_decide_eq_true a5, of_decide_eq_true a6, Nat.le_of_ble_eq_true a7, mAtW_in a8⟩
    · exact Or.inl ⟨Nat.eq_of_beq_eq_true hb, mAtW_in h3.1.1, mAtW_in h3.1.2, mAtW_in h3.2⟩
  | _ => trivial
theorem mLook1_mem {l : List (Nat × mI)} {pc : Nat} {i : mI} (h : mLook1 l pc = some i) : (pc, i) ∈ l := by
  induction l with
  | nil => cases h
  | cons a t ih =>
    obtain ⟨q, j⟩ := a
    simp only [mLook1] at h
    cases hb : Nat.beq q pc <;> rw [hb] at h <;> simp only [cond_true, cond_false] at h
    · exact List.mem_cons_of_mem _ (ih h)
    · cases h
      cases Nat.eq_of_beq_eq_true hb
      exact List.mem_cons_self
theorem mLook_mem {l : List (Nat × List (Nat × mI))} {pc : Nat} {i : mI} (h : mLook l pc = some i) : ∃ c ∈ l, (pc, i) ∈ c.2 := by
  induction l with
  | nil => cases h
  | cons a t ih =>
    obtain ⟨b, c⟩ := a
    simp only [mLook] at h
    cases hb : Nat.blt pc b <;> rw [hb] at h <;> simp only [cond_true, cond_false] at h
    · obtain ⟨c', h1, h2⟩ := ih h
      exact ⟨c', List.mem_cons_of_mem _ h1, h2⟩
    · exact ⟨(b, c), List.mem_cons_self, mLook1_mem h⟩
def mChkL (k : Nat) (l : List (Nat × List (Nat × mI))) : Bool := l.all fun c => c.2.all fun q => mChk k q.1 q.2.1 q.2.2.1 q.2.2.2.1 q.2.2.2.2
theorem mChkL_app {k : Nat} {a b : List (Nat × List (Nat × mI))} (h1 : mChkL k a = true) (h2 : mChkL k b = true) : mChkL k (a ++ b) = true := by
  simp only [mChkL, List.all_append, Bool.and_eq_true]
  exact ⟨h1, h2⟩
theorem mChkL_spec {k : Nat} {l : List (Nat × List (Nat × mI))} (h : mChkL k l = true) {pc nx x y : Nat} {i : Instr} (hl : mLook l pc = some (i, nx, x, y)) : mFact k pc i nx x y := by
  obtain ⟨c, hc, hq⟩ := mLook_mem hl
  unfold mChkL at h
  rw [List.all_eq_true] at h
  have h5 := h c hc
  rw [List.all_eq_true] at h5
  have h6 := h5 _ hq
  dsimp only at h6
  exact mChk_spec h6
