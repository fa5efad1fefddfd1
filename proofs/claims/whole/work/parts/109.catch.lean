/-! handlers -/
def mTk (own : String) (pc j qh : Nat) : List (Nat × Nat × Nat × Nat) → Prop
  | [] => False
  | (a, b, hp, ct) :: t => a ≤ pc ∧ pc < b ∧ ct ≠ 0 ∧ ∃ name : String, Jvm.Cond.classLink own ct name ∈ mWs ∧ ((name = mXn j ∧ Jvm.Cond.castable (mXn j) (mXn j) ∈ mVs ∧ hp = qh) ∨ (Jvm.Cond.not (.castable (mXn j) name) ∈ mVs ∧ mTk own pc j qh t))
def mCat2 (k pc j q i : Nat) : Prop := ∃ qh : Nat, ((decode (mBy k) qh = .ok (.astore i, 2) ∧ q = qh + 2) ∨ ∃ f : Fin 4, decode (mBy k) qh = .ok (.astore_n f, 1) ∧ f.val = i ∧ q = qh + 1) ∧ i < mNL k ∧ mTk (mY k).cls pc j qh (mHH k)
theorem mNc_in {w : Jvm.Cond} (h : w ∈ mNcs) : w ∈ mVs := List.mem_append_right _ h
set_option maxRecDepth 100000 in
theorem mct_88_0 {pc q i : Nat} (h : (bif Nat.blt pc 10 then some (15, 4) else none) = some (q, i)) : mCat2 88 pc 0 q i := by
  cases hb : Nat.blt pc 10 <;> rw [hb] at h <;> simp only [cond_true, cond_false] at h <;> cases h
  exact ⟨13, Or.inl ⟨by decide +kernel, rfl⟩, by decide, ⟨Nat.zero_le _, blt_lt hb, by decide, "java/lang/IllegalStateException", mWs_in (n := 257) rfl rfl, Or.inl ⟨rfl, mVs_in (n := 173) rfl rfl, rfl⟩⟩⟩
set_option maxRecDepth 100000 in
theorem mct_88_1 {pc q i : Nat} (h : (bif Nat.blt pc 10 then some (19, 4) else none) = some (q, i)) : mCat2 88 pc 1 q i := by
  cases hb : Nat.blt pc 10 <;> rw [hb] at h <;> simp only [cond_true, cond_false] at h <;> cases h
  exact ⟨17, Or.inl ⟨by decide +kernel, rfl⟩, by decide, ⟨Nat.zero_le _, blt_lt hb, by decide, "java/lang/IllegalStateException", mWs_in (n := 257) rfl rfl, Or.inr ⟨mNc_in (by decide +kernel), ⟨Nat.zero_le _, blt_lt hb, by decide, "java/lang/IllegalArgumentException", mWs_in (n := 258) rfl rfl, Or.inl ⟨rfl, mVs_in (n := 279) rfl rfl, rfl⟩⟩⟩⟩⟩
set_option maxRecDepth 100000 in
theorem mct_88_2 {pc q i : Nat} (h : (bif Nat.blt pc 10 then some (23, 4) else none) = some (q, i)) : mCat2 88 pc 2 q i := by
  cases hb : Nat.blt pc 10 <;> rw [hb] at h <;> simp only [cond_true, cond_false] at h <;> cases h
  exact ⟨21, Or.inl ⟨by decide +kernel, rfl⟩, by decide, ⟨Nat.zero_le _, blt_lt hb, by decide, "java/lang/IllegalStateException", mWs_in (n := 257) rfl rfl, Or.inr ⟨mNc_in (by decide +kernel), ⟨Nat.zero_le _, blt_lt hb, by decide, "java/lang/IllegalArgumentException", mWs_in (n := 258) rfl rfl, Or.inr ⟨mNc_in (by decide +kernel), ⟨Nat.zero_le _, blt_lt hb, by decide, "java/util/NoSuchElementException", mWs_in (n := 259) rfl rfl, Or.inl ⟨rfl, mVs_in (n := 304) rfl rfl, rfl⟩⟩⟩⟩⟩⟩⟩
set_option maxRecDepth 100000 in
theorem mct_88_3 {pc q i : Nat} (h : (bif Nat.blt pc 10 then some (27, 4) else none) = some (q, i)) : mCat2 88 pc 3 q i := by
  cases hb : Nat.blt pc 10 <;> rw [hb] at h <;> simp only [cond_true, cond_false] at h <;> cases h
  exact ⟨25, Or.inl ⟨by decide +kernel, rfl⟩, by decide, ⟨Nat.zero_le _, blt_lt hb, by decide, "java/lang/IllegalStateException", mWs_in (n := 257) rfl rfl, Or.inr ⟨mNc_in (by decide +kernel), ⟨Nat.zero_le _, blt_lt hb, by decide, "java/lang/IllegalArgumentException", mWs_in (n := 258) rfl rfl, Or.inr ⟨mNc_in (by decide +kernel), ⟨Nat.zero_le _, blt_lt hb, by decide, "java/util/NoSuchElementException", mWs_in (n := 259) rfl rfl, Or.inr ⟨mNc_in (by decide +kernel), ⟨Nat.zero_le _, blt_lt hb, by decide, "java/lang/UnsupportedOperationException", mWs_in (n := 260) rfl rfl, Or.inl ⟨rfl, mVs_in (n := 321) rfl rfl, rfl⟩⟩⟩⟩⟩⟩⟩⟩⟩
set_option maxRecDepth 100000 in
theorem mct_88_4 {pc q i : Nat} (h : (bif Nat.blt pc 10 then some (31, 4) else none) = some (q, i)) : mCat2 88 pc 4 q i := by
  cases hb : Nat.blt pc 10 <;> rw [hb] at h <;> simp only [cond_true, cond_false] at h <;> cases h
  exact ⟨29, Or.inl ⟨by decide +kernel, rfl⟩, by decide, ⟨Nat.zero_le _, blt_lt hb, by decide, "java/lang/IllegalStateException", mWs_in (n := 257) rfl rfl, Or.inr ⟨mNc_in (by decide +kernel), ⟨Nat.zero_le _, blt_lt hb, by decide, "java/lang/IllegalArgumentException", mWs_in (n := 258) rfl rfl, Or.inr ⟨mNc_in (by decide +kernel), ⟨Nat.zero_le _, blt_lt hb, by decide, "java/util/NoSuchElementException", mWs_in (n := 259) rfl rfl, Or.inr ⟨mNc_in (by decide +kernel), ⟨Nat.zero_le _, blt_lt hb, by decide, "java/lang/UnsupportedOperationException", mWs_in (n := 260) rfl rfl, Or.inr ⟨mNc_in (by decide +kernel), ⟨Nat.zero_le _, blt_lt hb, by decide, "java/lang/ArithmeticException", mWs_in (n := 261) rfl rfl, Or.inl ⟨rfl, mVs_in (n := 345) rfl rfl, rfl⟩⟩⟩⟩⟩⟩⟩⟩⟩⟩⟩
set_option maxRecDepth 100000 in
theorem mct_89_0 {pc q i : Nat} (h : (bif Nat.blt pc 9 then some (13, 3) else none) = some (q, i)) : mCat2 89 pc 0 q i := by
  cases hb : Nat.blt pc 9 <;> rw [hb] at h <;> simp only [cond_true, cond_false] at h <;> cases h
  exact ⟨12, Or.inr ⟨3, by decide +kernel, rfl, rfl⟩, by decide, ⟨Nat.zero_le _, blt_lt hb, by decide, "java/lang/IllegalStateException", mWs_in (n := 257) rfl rfl, Or.inl ⟨rfl, mVs_in (n := 173) rfl rfl, rfl⟩⟩⟩
set_option maxRecDepth 100000 in
theorem mct_89_1 {pc q i : Nat} (h : (bif Nat.blt pc 9 then some (16, 3) else none) = some (q, i)) : mCat2 89 pc 1 q i := by
  cases hb : Nat.blt pc 9 <;> rw [hb] at h <;> simp only [cond_true, cond_false] at h <;> cases h
  exact ⟨15, Or.inr ⟨3, by decide +kernel, rfl, rfl⟩, by decide, ⟨Nat.zero_le _, blt_lt hb, by decide, "java/lang/IllegalStateException", mWs_in (n := 257) rfl rfl, Or.inr ⟨mNc_in (by decide +kernel), ⟨Nat.zero_le _, blt_lt hb, by decide, "java/lang/IllegalArgumentException", mWs_in (n := 258) rfl rfl, Or.inl ⟨rfl, mVs_in (n := 279) rfl rfl, rfl⟩⟩⟩⟩⟩
set_option maxRecDepth 100000 in
theorem mct_89_2 {pc q i : Nat} (h : (bif Nat.blt pc 9 then some (19, 3) else none) = some (q, i)) : mCat2 89 pc 2 q i := by
  cases hb : Nat.blt pc 9 <;> rw [hb] at h <;> simp only [cond_true, cond_false] at h <;> cases h
  exact ⟨18, Or.inr ⟨3, by decide +kernel, rfl, rfl⟩, by decide, ⟨Nat.zero_le _, blt_lt hb, by decide, "java/lang/IllegalStateException", mWs_in (n := 257) rfl rfl, Or.inr ⟨mNc_in (by decide +kernel), ⟨Nat.zero_le _, blt_lt hb, by decide, "java/lang/IllegalArgumentException", mWs_in (n := 258) rfl rfl, Or.inr ⟨mNc_in (by decide +kernel), ⟨Nat.zero_le _, blt_lt hb, by decide, "java/util/NoSuchElementException", mWs_in (n := 259) rfl rfl, Or.inl ⟨rfl, mVs_in (n := 304) rfl rfl, rfl⟩⟩⟩⟩⟩⟩⟩
set_option maxRecDepth 100000 in
theorem mct_89_3 {pc q i : Nat} (h : (bif Nat.blt pc 9 then some (22, 3) else none) = some (q, i)) : mCat2 89 pc 3 q i := by
  cases hb : Nat.blt pc 9 <;> rw [hb] at h <;> simp only [cond_true, cond_false] at h <;> cases h
  exact ⟨21, Or.inr ⟨3, by decide +kernel, rfl, rfl⟩, by decide, ⟨Nat.zero_le _, blt_lt hb, by decide, "java/lang/IllegalStateException", mWs_in (n := 257) rfl rfl, Or.inr ⟨mNc_in (by decide +kernel), ⟨Nat.zero_le _, blt_lt hb, by decide, "java/lang/IllegalArgumentException", mWs_in (n := 258) rfl rfl, Or.inr ⟨mNc_in (by decide +kernel), ⟨Nat.zero_le _, blt_lt hb, by decide, "java/util/NoSuchElementException", mWs_in (n := 259) rfl rfl, Or.inr ⟨mNc_in (by decide +kernel), ⟨Nat.zero_le _, blt_lt hb, by decide, "java/lang/UnsupportedOperationException", mWs_in (n := 260) rfl rfl, Or.inl ⟨rfl, mVs_in (n := 321) rfl rfl, rfl⟩⟩⟩⟩⟩⟩⟩⟩⟩
set_option maxRecDepth 100000 in
theorem mct_90_0 {pc q i : Nat} (h : (bif Nat.blt pc 10 then some (15, 4) else none) = some (q, i)) : mCat2 90 pc 0 q i := by
  cases hb : Nat.blt pc 10 <;> rw [hb] at h <;> simp only [cond_true, cond_false] at h <;> cases h
  exact ⟨13, Or.inl ⟨by decide +kernel, rfl⟩, by decide, ⟨Nat.zero_le _, blt_lt hb, by decide, "java/lang/IllegalStateException", mWs_in (n := 257) rfl rfl, Or.inl ⟨rfl, mVs_in (n := 173) rfl rfl, rfl⟩⟩⟩
set_option maxRecDepth 100000 in
theorem mct_90_1 {pc q i : Nat} (h : (bif Nat.blt pc 10 then some (19, 4) else none) = some (q, i)) : mCat2 90 pc 1 q i := by
  cases hb : Nat.blt pc 10 <;> rw [hb] at h <;> simp only [cond_true, cond_false] at h <;> cases h
  exact ⟨17, Or.inl ⟨by decide +kernel, rfl⟩, by decide, ⟨Nat.zero_le _, blt_lt hb, by decide, "java/lang/IllegalStateException", mWs_in (n := 257) rfl rfl, Or.inr ⟨mNc_in (by decide +kernel), ⟨Nat.zero_le _, blt_lt hb, by decide, "java/lang/IllegalArgumentException", mWs_in (n := 258) rfl rfl, Or.inl ⟨rfl, mVs_in (n := 279) rfl rfl, rfl⟩⟩⟩⟩⟩
set_option maxRecDepth 100000 in
theorem mct_90_2 {pc q i : Nat} (h : (bif Nat.blt pc 10 then some (23, 4) else none) = some (q, i)) : mCat2 90 pc 2 q i := by
  cases hb : Nat.blt pc 10 <;> rw [hb] at h <;> simp only [cond_true, cond_false] at h <;> cases h
  exact ⟨21, Or.inl ⟨by decide +kernel, rfl⟩, by decide, ⟨Nat.zero_le _, blt_lt hb, by decide, "java/lang/IllegalStateException", mWs_in (n := 257) rfl rfl, Or.inr ⟨mNc_in (by decide +kernel), ⟨Nat.zero_le _, blt_lt hb, by decide, "java/lang/IllegalArgumentException", mWs_in (n := 258) rfl rfl, Or.inr ⟨mNc_in (by decide +kernel), ⟨Nat.zero_le _, blt_lt hb, by decide, "java/util/NoSuchElementException", mWs_in (n := 259) rfl rfl, Or.inl ⟨rfl, mVs_in (n := 304) rfl rfl, rfl⟩⟩⟩⟩⟩⟩⟩
set_option maxRecDepth 100000 in
theorem mct_90_3 {pc q i : Nat} (h : (bif Nat.blt pc 10 then some (27, 4) else none) = some (q, i)) : mCat2 90 pc 3 q i := by
  cases hb : Nat.blt pc 10 <;> rw [hb] at h <;> simp only [cond_true, cond_false] at h <;> cases h
  exact ⟨25, Or.inl ⟨by decide +kernel, rfl⟩, by decide, ⟨Nat.zero_le _, blt_lt hb, by decide, "java/lang/IllegalStateException", mWs_in (n := 257) rfl rfl, Or.inr ⟨mNc_in (by decide +kernel), ⟨Nat.zero_le _, blt_lt hb, by decide, "java/lang/IllegalArgumentException", mWs_in (n := 258) rfl rfl, Or.inr ⟨mNc_in (by decide +kernel), ⟨Nat.zero_le _, blt_lt hb, by decide, "java/util/NoSuchElementException", mWs_in (n := 259) rfl rfl, Or.inr ⟨mNc_in (by decide +kernel), ⟨Nat.zero_le _, blt_lt hb, by decide, "java/lang/UnsupportedOperationException", mWs_in (n := 260) rfl rfl, Or.inl ⟨rfl, mVs_in (n := 321) rfl rfl, rfl⟩⟩⟩⟩⟩⟩⟩⟩⟩
set_option maxRecDepth 100000 in
theorem mct_91_0 {pc q i : Nat} (h : (bif Nat.blt pc 10 then some (15, 4) else none) = some (q, i)) : mCat2 91 pc 0 q i := by
  cases hb : Nat.blt pc 10 <;> rw [hb] at h <;> simp only [cond_true, cond_false] at h <;> cases h
  exact ⟨13, Or.inl ⟨by decide +kernel, rfl⟩, by decide, ⟨Nat.zero_le _, blt_lt hb, by decide, "java/lang/IllegalStateException", mWs_in (n := 257) rfl rfl, Or.inl ⟨rfl, mVs_in (n := 173) rfl rfl, rfl⟩⟩⟩
set_option maxRecDepth 100000 in
theorem mct_91_1 {pc q i : Nat} (h : (bif Nat.blt pc 10 then some (19, 4) else none) = some (q, i)) : mCat2 91 pc 1 q i := by
  cases hb : Nat.blt pc 10 <;> rw [hb] at h <;> simp only [cond_true, cond_false] at h <;> cases h
  exact ⟨17, Or.inl ⟨by decide +kernel, rfl⟩, by decide, ⟨Nat.zero_le _, blt_lt hb, by decide, "java/lang/IllegalStateException", mWs_in (n := 257) rfl rfl, Or.inr ⟨mNc_in (by decide +kernel), ⟨Nat.zero_le _, blt_lt hb, by decide, "java/lang/IllegalArgumentException", mWs_in (n := 258) rfl rfl, Or.inl ⟨rfl, mVs_in (n := 279) rfl rfl, rfl⟩⟩⟩⟩⟩
set_option maxRecDepth 100000 in
theorem mct_91_2 {pc q i : Nat} (h : (bif Nat.blt pc 10 then some (23, 4) else none) = some (q, i)) : mCat2 91 pc 2 q i := by
  cases hb : Nat.blt pc 10 <;> rw [hb] at h <;> simp only [cond_true, cond_false] at h <;> cases h
  exact ⟨21, Or.inl ⟨by decide +kernel, rfl⟩, by decide, ⟨Nat.zero_le _, blt_lt hb, by decide, "java/lang/IllegalStateException", mWs_in (n := 257) rfl rfl, Or.inr ⟨mNc_in (by decide +kernel), ⟨Nat.zero_le _, blt_lt hb, by decide, "java/lang/IllegalArgumentException", mWs_in (n := 258) rfl rfl, Or.inr ⟨mNc_in (by decide +kernel), ⟨Nat.zero_le _, blt_lt hb, by decide, "java/util/NoSuchElementException", mWs_in (n := 259) rfl rfl, Or.inl ⟨rfl, mVs_in (n := 304) rfl rfl, rfl⟩⟩⟩⟩⟩⟩⟩
set_option maxRecDepth 100000 in
theorem mct_91_3 {pc q i : Nat} (h : (bif Nat.blt pc 10 then some (27, 4) else none) = some (q, i)) : mCat2 91 pc 3 q i := by
  cases hb : Nat.blt pc 10 <;> rw [hb] at h <;> simp only [cond_true, cond_false] at h <;> cases h
  exact ⟨25, Or.inl ⟨by decide +kernel, rfl⟩, by decide, ⟨Nat.zero_le _, blt_lt hb, by decide, "java/lang/IllegalStateException", mWs_in (n := 257) rfl rfl, Or.inr ⟨mNc_in (by decide +kernel), ⟨Nat.zero_le _, blt_lt hb, by decide, "java/lang/IllegalArgumentException", mWs_in (n := 258) rfl rfl, Or.inr ⟨mNc_in (by decide +kernel), ⟨Nat.zero_le _, blt_lt hb, by decide, "java/util/NoSuchElementException", mWs_in (n := 259) rfl rfl, Or.inr ⟨mNc_in (by decide +kernel), ⟨Nat.zero_le _, blt_lt hb, by decide, "java/lang/UnsupportedOperationException", mWs_in (n := 260) rfl rfl, Or.inl ⟨rfl, mVs_in (n := 321) rfl rfl, rfl⟩⟩⟩⟩⟩⟩⟩⟩⟩
set_option maxRecDepth 100000 in
theorem mct_91_4 {pc q i : Nat} (h : (bif Nat.blt pc 10 then some (31, 4) else none) = some (q, i)) : mCat2 91 pc 4 q i := by
  cases hb : Nat.blt pc 10 <;> rw [hb] at h <;> simp only [cond_true, cond_false] at h <;> cases h
  exact ⟨29, Or.inl ⟨by decide +kernel, rfl⟩, by decide, ⟨Nat.zero_le _, blt_lt hb, by decide, "java/lang/IllegalStateException", mWs_in (n := 257) rfl rfl, Or.inr ⟨mNc_in (by decide +kernel), ⟨Nat.zero_le _, blt_lt hb, by decide, "java/lang/IllegalArgumentException", mWs_in (n := 258) rfl rfl, Or.inr ⟨mNc_in (by decide +kernel), ⟨Nat.zero_le _, blt_lt hb, by decide, "java/util/NoSuchElementException", mWs_in (n := 259) rfl rfl, Or.inr ⟨mNc_in (by decide +kernel), ⟨Nat.zero_le _, blt_lt hb, by decide, "java/lang/UnsupportedOperationException", mWs_in (n := 260) rfl rfl, Or.inr ⟨mNc_in (by decide +kernel), ⟨Nat.zero_le _, blt_lt hb, by decide, "java/lang/ArithmeticException", mWs_in (n := 261) rfl rfl, Or.inl ⟨rfl, mVs_in (n := 345) rfl rfl, rfl⟩⟩⟩⟩⟩⟩⟩⟩⟩⟩⟩
set_option maxRecDepth 100000 in
theorem mct_92_0 {pc q i : Nat} (h : (bif Nat.blt pc 10 then some (15, 4) else none) = some (q, i)) : mCat2 92 pc 0 q i := by
  cases hb : Nat.blt pc 10 <;> rw [hb] at h <;> simp only [cond_true, cond_false] at h <;> cases h
  exact ⟨13, Or.inl ⟨by decide +kernel, rfl⟩, by decide, ⟨Nat.zero_le _, blt_lt hb, by decide, "java/lang/IllegalStateException", mWs_in (n := 257) rfl rfl, Or.inl ⟨rfl, mVs_in (n := 173) rfl rfl, rfl⟩⟩⟩
set_option maxRecDepth 100000 in
theorem mct_92_1 {pc q i : Nat} (h : (bif Nat.blt pc 10 then some (19, 4) else none) = some (q, i)) : mCat2 92 pc 1 q i := by
  cases hb : Nat.blt pc 10 <;> rw [hb] at h <;> simp only [cond_true, cond_false] at h <;> cases h
  exact ⟨17, Or.inl ⟨by decide +kernel, rfl⟩, by decide, ⟨Nat.zero_le _, blt_lt hb, by decide, "java/lang/IllegalStateException", mWs_in (n := 257) rfl rfl, Or.inr ⟨mNc_in (by decide +kernel), ⟨Nat.zero_le _, blt_lt hb, by decide, "java/lang/IllegalArgumentException", mWs_in (n := 258) rfl rfl, Or.inl ⟨rfl, mVs_in (n := 279) rfl rfl, rfl⟩⟩⟩⟩⟩
set_option maxRecDepth 100000 in
theorem mct_92_2 {pc q i : Nat} (h : (bif Nat.blt pc 10 then some (23, 4) else none) = some (q, i)) : mCat2 92 pc 2 q i := by
  cases hb : Nat.blt pc 10 <;> rw [hb] at h <;> simp only [cond_true, cond_false] at h <;> cases h
  exact ⟨21, Or.inl ⟨by decide +kernel, rfl⟩, by decide, ⟨Nat.zero_le _, blt_lt hb, by decide, "java/lang/IllegalStateException", mWs_in (n := 257) rfl rfl, Or.inr ⟨mNc_in (by decide +kernel), ⟨Nat.zero_le _, blt_lt hb, by decide, "java/lang/IllegalArgumentException", mWs_in (n := 258) rfl rfl, Or.inr ⟨mNc_in (by decide +kernel), ⟨Nat.zero_le _, blt_lt hb, by decide, "java/util/NoSuchElementException", mWs_in (n := 259) rfl rfl, Or.inl ⟨rfl, mVs_in (n := 304) rfl rfl, rfl⟩⟩⟩⟩⟩⟩⟩
set_option maxRecDepth 100000 in
theorem mct_92_3 {pc q i : Nat} (h : (bif Nat.blt pc 10 then some (27, 4) else none) = some (q, i)) : mCat2 92 pc 3 q i := by
  cases hb : Nat.blt pc 10 <;> rw [hb] at h <;> simp only [cond_true, cond_false] at h <;> cases h
  exact ⟨25, Or.inl ⟨by decide +kernel, rfl⟩, by decide, ⟨Nat.zero_le _, blt_lt hb, by decide, "java/lang/IllegalStateException", mWs_in (n := 257) rfl rfl, Or.inr ⟨mNc_in (by decide +kernel), ⟨Nat.zero_le _, blt_lt hb, by decide, "java/lang/IllegalArgumentException", mWs_in (n := 258) rfl rfl, Or.inr ⟨mNc_in (by decide +kernel), ⟨Nat.zero_le _, blt_lt hb, by decide, "java/util/NoSuchElementException", mWs_in (n := 259) rfl rfl, Or.inr ⟨mNc_in (by decide +kernel), ⟨Nat.zero_le _, blt_lt hb, by decide, "java/lang/UnsupportedOperationException", mWs_in (n := 260) rfl rfl, Or.inl ⟨rfl, mVs_in (n := 321) rfl rfl, rfl⟩⟩⟩⟩⟩⟩⟩⟩⟩
set_option maxRecDepth 100000 in
theorem mct_92_5 {pc q i : Nat} (h : (bif Nat.blt pc 10 then some (31, 4) else none) = some (q, i)) : mCat2 92 pc 5 q i := by
  cases hb : Nat.blt pc 10 <;> rw [hb] at h <;> simp only [cond_true, cond_false] at h <;> cases h
  exact ⟨29, Or.inl ⟨by decide +kernel, rfl⟩, by decide, ⟨Nat.zero_le _, blt_lt hb, by decide, "java/lang/IllegalStateException", mWs_in (n := 257) rfl rfl, Or.inr ⟨mNc_in (by decide +kernel), ⟨Nat.zero_le _, blt_lt hb, by decide, "java/lang/IllegalArgumentException", mWs_in (n := 258) rfl rfl, Or.inr ⟨mNc_in (by decide +kernel), ⟨Nat.zero_le _, blt_lt hb, by decide, "java/util/NoSuchElementException", mWs_in (n := 259) rfl rfl, Or.inr ⟨mNc_in (by decide +kernel), ⟨Nat.zero_le _, blt_lt hb, by decide, "java/lang/UnsupportedOperationException", mWs_in (n := 260) rfl rfl, Or.inr ⟨mNc_in (by decide +kernel), ⟨Nat.zero_le _, blt_lt hb, by decide, "java/lang/IndexOutOfBoundsException", mWs_in (n := 421) rfl rfl, Or.inl ⟨rfl, mVs_in (n := 432) rfl rfl, rfl⟩⟩⟩⟩⟩⟩⟩⟩⟩⟩⟩
set_option maxRecDepth 100000 in
theorem mct_93_0 {pc q i : Nat} (h : (bif Nat.blt pc 12 then some (17, 5) else none) = some (q, i)) : mCat2 93 pc 0 q i := by
  cases hb : Nat.blt pc 12 <;> rw [hb] at h <;> simp only [cond_true, cond_false] at h <;> cases h
  exact ⟨15, Or.inl ⟨by decide +kernel, rfl⟩, by decide, ⟨Nat.zero_le _, blt_lt hb, by decide, "java/lang/IllegalStateException", mWs_in (n := 257) rfl rfl, Or.inl ⟨rfl, mVs_in (n := 173) rfl rfl, rfl⟩⟩⟩
set_option maxRecDepth 100000 in
theorem mct_93_1 {pc q i : Nat} (h : (bif Nat.blt pc 12 then some (21, 5) else none) = some (q, i)) : mCat2 93 pc 1 q i := by
  cases hb : Nat.blt pc 12 <;> rw [hb] at h <;> simp only [cond_true, cond_false] at h <;> cases h
  exact ⟨19, Or.inl ⟨by decide +kernel, rfl⟩, by decide, ⟨Nat.zero_le _, blt_lt hb, by decide, "java/lang/IllegalStateException", mWs_in (n := 257) rfl rfl, Or.inr ⟨mNc_in (by decide +kernel), ⟨Nat.zero_le _, blt_lt hb, by decide, "java/lang/IllegalArgumentException", mWs_in (n := 258) rfl rfl, Or.inl ⟨rfl, mVs_in (n := 279) rfl rfl, rfl⟩⟩⟩⟩⟩
set_option maxRecDepth 100000 in
theorem mct_93_2 {pc q i : Nat} (h : (bif Nat.blt pc 12 then some (25, 5) else none) = some (q, i)) : mCat2 93 pc 2 q i := by
  cases hb : Nat.blt pc 12 <;> rw [hb] at h <;> simp only [cond_true, cond_false] at h <;> cases h
  exact ⟨23, Or.inl ⟨by decide +kernel, rfl⟩, by decide, ⟨Nat.zero_le _, blt_lt hb, by decide, "java/lang/IllegalStateException", mWs_in (n := 257) rfl rfl, Or.inr ⟨mNc_in (by decide +kernel), ⟨Nat.zero_le _, blt_lt hb, by decide, "java/lang/IllegalArgumentException", mWs_in (n := 258) rfl rfl, Or.inr ⟨mNc_in (by decide +kernel), ⟨Nat.zero_le _, blt_lt hb, by decide, "java/util/NoSuchElementException", mWs_in (n := 259) rfl rfl, Or.inl ⟨rfl, mVs_in (n := 304) rfl rfl, rfl⟩⟩⟩⟩⟩⟩⟩
set_option maxRecDepth 100000 in
theorem mct_93_3 {pc q i : Nat} (h : (bif Nat.blt pc 12 then some (29, 5) else none) = some (q, i)) : mCat2 93 pc 3 q i := by
  cases hb : Nat.blt pc 12 <;> rw [hb] at h <;> simp only [cond_true, cond_false] at h <;> cases h
  exact ⟨27, Or.inl ⟨by decide +kernel, rfl⟩, by decide, ⟨Nat.zero_le _, blt_lt hb, by decide, "java/lang/IllegalStateException", mWs_in (n := 257) rfl rfl, Or.inr ⟨mNc_in (by decide +kernel), ⟨Nat.zero_le _, blt_lt hb, by decide, "java/lang/IllegalArgumentException", mWs_in (n := 258) rfl rfl, Or.inr ⟨mNc_in (by decide +kernel), ⟨Nat.zero_le _, blt_lt hb, by decide, "java/util/NoSuchElementException", mWs_in (n := 259) rfl rfl, Or.inr ⟨mNc_in (by decide +kernel), ⟨Nat.zero_le _, blt_lt hb, by decide, "java/lang/UnsupportedOperationException", mWs_in (n := 260) rfl rfl, Or.inl ⟨rfl, mVs_in (n := 321) rfl rfl, rfl⟩⟩⟩⟩⟩⟩⟩⟩⟩
set_option maxRecDepth 100000 in
theorem mct_93_5 {pc q i : Nat} (h : (bif Nat.blt pc 12 then some (33, 5) else none) = some (q, i)) : mCat2 93 pc 5 q i := by
  cases hb : Nat.blt pc 12 <;> rw [hb] at h <;> simp only [cond_true, cond_false] at h <;> cases h
  exact ⟨31, Or.inl ⟨by decide +kernel, rfl⟩, by decide, ⟨Nat.zero_le _, blt_lt hb, by decide, "java/lang/IllegalStateException", mWs_in (n := 257) rfl rfl, Or.inr ⟨mNc_in (by decide +kernel), ⟨Nat.zero_le _, blt_lt hb, by decide, "java/lang/IllegalArgumentException", mWs_in (n := 258) rfl rfl, Or.inr ⟨mNc_in (by decide +kernel), ⟨Nat.zero_le _, blt_lt hb, by decide, "java/util/NoSuchElementException", mWs_in (n := 259) rfl rfl, Or.inr ⟨mNc_in (by decide +kernel), ⟨Nat.zero_le _, blt_lt hb, by decide, "java/lang/UnsupportedOperationException", mWs_in (n := 260) rfl rfl, Or.inr ⟨mNc_in (by decide +kernel), ⟨Nat.zero_le _, blt_lt hb, by decide, "java/lang/IndexOutOfBoundsException", mWs_in (n := 421) rfl rfl, Or.inl ⟨rfl, mVs_in (n := 432) rfl rfl, rfl⟩⟩⟩⟩⟩⟩⟩⟩⟩⟩⟩
set_option maxRecDepth 100000 in
theorem mct_94_0 {pc q i : Nat} (h : (bif Nat.blt pc 10 then some (15, 4) else none) = some (q, i)) : mCat2 94 pc 0 q i := by
  cases hb : Nat.blt pc 10 <;> rw [hb] at h <;> simp only [cond_true, cond_false] at h <;> cases h
  exact ⟨13, Or.inl ⟨by decide +kernel, rfl⟩, by decide, ⟨Nat.zero_le _, blt_lt hb, by decide, "java/lang/IllegalStateException", mWs_in (n := 257) rfl rfl, Or.inl ⟨rfl, mVs_in (n := 173) rfl rfl, rfl⟩⟩⟩
set_option maxRecDepth 100000 in
theorem mct_94_1 {pc q i : Nat} (h : (bif Nat.blt pc 10 then some (19, 4) else none) = some (q, i)) : mCat2 94 pc 1 q i := by
  cases hb : Nat.blt pc 10 <;> rw [hb] at h <;> simp only [cond_true, cond_false] at h <;> cases h
  exact ⟨17, Or.inl ⟨by decide +kernel, rfl⟩, by decide, ⟨Nat.zero_le _, blt_lt hb, by decide, "java/lang/IllegalStateException", mWs_in (n := 257) rfl rfl, Or.inr ⟨mNc_in (by decide +kernel), ⟨Nat.zero_le _, blt_lt hb, by decide, "java/lang/IllegalArgumentException", mWs_in (n := 258) rfl rfl, Or.inl ⟨rfl, mVs_in (n := 279) rfl rfl, rfl⟩⟩⟩⟩⟩
set_option maxRecDepth 100000 in
theorem mct_94_2 {pc q i : Nat} (h : (bif Nat.blt pc 10 then some (23, 4) else none) = some (q, i)) : mCat2 94 pc 2 q i := by
  cases hb : Nat.blt pc 10 <;> rw [hb] at h <;> simp only [cond_true, cond_false] at h <;> cases h
  exact ⟨21, Or.inl ⟨by decide +kernel, rfl⟩, by decide, ⟨Nat.zero_le _, blt_lt hb, by decide, "java/lang/IllegalStateException", mWs_in (n := 257) rfl rfl, Or.inr ⟨mNc_in (by decide +kernel), ⟨Nat.zero_le _, blt_lt hb, by decide, "java/lang/IllegalArgumentException", mWs_in (n := 258) rfl rfl, Or.inr ⟨mNc_in (by decide +kernel), ⟨Nat.zero_le _, blt_lt hb, by decide, "java/util/NoSuchElementException", mWs_in (n := 259) rfl rfl, Or.inl ⟨rfl, mVs_in (n := 304) rfl rfl, rfl⟩⟩⟩⟩⟩⟩⟩
set_option maxRecDepth 100000 in
theorem mct_94_3 {pc q i : Nat} (h : (bif Nat.blt pc 10 then some (27, 4) else none) = some (q, i)) : mCat2 94 pc 3 q i := by
  cases hb : Nat.blt pc 10 <;> rw [hb] at h <;> simp only [cond_true, cond_false] at h <;> cases h
  exact ⟨25, Or.inl ⟨by decide +kernel, rfl⟩, by decide, ⟨Nat.zero_le _, blt_lt hb, by decide, "java/lang/IllegalStateException", mWs_in (n := 257) rfl rfl, Or.inr ⟨mNc_in (by decide +kernel), ⟨Nat.zero_le _, blt_lt hb, by decide, "java/lang/IllegalArgumentException", mWs_in (n := 258) rfl rfl, Or.inr ⟨mNc_in (by decide +kernel), ⟨Nat.zero_le _, blt_lt hb, by decide, "java/util/NoSuchElementException", mWs_in (n := 259) rfl rfl, Or.inr ⟨mNc_in (by decide +kernel), ⟨Nat.zero_le _, blt_lt hb, by decide, "java/lang/UnsupportedOperationException", mWs_in (n := 260) rfl rfl, Or.inl ⟨rfl, mVs_in (n := 321) rfl rfl, rfl⟩⟩⟩⟩⟩⟩⟩⟩⟩
set_option maxRecDepth 100000 in
theorem mct_94_5 {pc q i : Nat} (h : (bif Nat.blt pc 10 then some (31, 4) else none) = some (q, i)) : mCat2 94 pc 5 q i := by
  cases hb : Nat.blt pc 10 <;> rw [hb] at h <;> simp only [cond_true, cond_false] at h <;> cases h
  exact ⟨29, Or.inl ⟨by decide +kernel, rfl⟩, by decide, ⟨Nat.zero_le _, blt_lt hb, by decide, "java/lang/IllegalStateException", mWs_in (n := 257) rfl rfl, Or.inr ⟨mNc_in (by decide +kernel), ⟨Nat.zero_le _, blt_lt hb, by decide, "java/lang/IllegalArgumentException", mWs_in (n := 258) rfl rfl, Or.inr ⟨mNc_in (by decide +kernel), ⟨Nat.zero_le _, blt_lt hb, by decide, "java/util/NoSuchElementException", mWs_in (n := 259) rfl rfl, Or.inr ⟨mNc_in (by decide +kernel), ⟨Nat.zero_le _, blt_lt hb, by decide, "java/lang/UnsupportedOperationException", mWs_in (n := 260) rfl rfl, Or.inr ⟨mNc_in (by decide +kernel), ⟨Nat.zero_le _, blt_lt hb, by decide, "java/lang/IndexOutOfBoundsException", mWs_in (n := 421) rfl rfl, Or.inl ⟨rfl, mVs_in (n := 432) rfl rfl, rfl⟩⟩⟩⟩⟩⟩⟩⟩⟩⟩⟩
set_option maxRecDepth 100000 in
theorem mct_95_0 {pc q i : Nat} (h : (bif Nat.blt pc 9 then some (13, 3) else none) = some (q, i)) : mCat2 95 pc 0 q i := by
  cases hb : Nat.blt pc 9 <;> rw [hb] at h <;> simp only [cond_true, cond_false] at h <;> cases h
  exact ⟨12, Or.inr ⟨3, by decide +kernel, rfl, rfl⟩, by decide, ⟨Nat.zero_le _, blt_lt hb, by decide, "java/lang/IllegalStateException", mWs_in (n := 257) rfl rfl, Or.inl ⟨rfl, mVs_in (n := 173) rfl rfl, rfl⟩⟩⟩
set_option maxRecDepth 100000 in
theorem mct_95_1 {pc q i : Nat} (h : (bif Nat.blt pc 9 then some (16, 3) else none) = some (q, i)) : mCat2 95 pc 1 q i := by
  cases hb : Nat.blt pc 9 <;> rw [hb] at h <;> simp only [cond_true, cond_false] at h <;> cases h
  exact ⟨15, Or.inr ⟨3, by decide +kernel, rfl, rfl⟩, by decide, ⟨Nat.zero_le _, blt_lt hb, by decide, "java/lang/IllegalStateException", mWs_in (n := 257) rfl rfl, Or.inr ⟨mNc_in (by decide +kernel), ⟨Nat.zero_le _, blt_lt hb, by decide, "java/lang/IllegalArgumentException", mWs_in (n := 258) rfl rfl, Or.inl ⟨rfl, mVs_in (n := 279) rfl rfl, rfl⟩⟩⟩⟩⟩
set_option maxRecDepth 100000 in
theorem mct_95_2 {pc q i : Nat} (h : (bif Nat.blt pc 9 then some (19, 3) else none) = some (q, i)) : mCat2 95 pc 2 q i := by
  cases hb : Nat.blt pc 9 <;> rw [hb] at h <;> simp only [cond_true, cond_false] at h <;> cases h
  exact ⟨18, Or.inr ⟨3, by decide +kernel, rfl, rfl⟩, by decide, ⟨Nat.zero_le _, blt_lt hb, by decide, "java/lang/IllegalStateException", mWs_in (n := 257) rfl rfl, Or.inr ⟨mNc_in (by decide +kernel), ⟨Nat.zero_le _, blt_lt hb, by decide, "java/lang/IllegalArgumentException", mWs_in (n := 258) rfl rfl, Or.inr ⟨mNc_in (by decide +kernel), ⟨Nat.zero_le _, blt_lt hb, by decide, "java/util/NoSuchElementException", mWs_in (n := 259) rfl rfl, Or.inl ⟨rfl, mVs_in (n := 304) rfl rfl, rfl⟩⟩⟩⟩⟩⟩⟩
set_option maxRecDepth 100000 in
theorem mct_96_0 {pc q i : Nat} (h : (bif Nat.blt pc 9 then some (13, 3) else none) = some (q, i)) : mCat2 96 pc 0 q i := by
  cases hb : Nat.blt pc 9 <;> rw [hb] at h <;> simp only [cond_true, cond_false] at h <;> cases h
  exact ⟨12, Or.inr ⟨3, by decide +kernel, rfl, rfl⟩, by decide, ⟨Nat.zero_le _, blt_lt hb, by decide, "java/lang/IllegalStateException", mWs_in (n := 257) rfl rfl, Or.inl ⟨rfl, mVs_in (n := 173) rfl rfl, rfl⟩⟩⟩
set_option maxRecDepth 100000 in
theorem mct_96_1 {pc q i : Nat} (h : (bif Nat.blt pc 9 then some (16, 3) else none) = some (q, i)) : mCat2 96 pc 1 q i := by
  cases hb : Nat.blt pc 9 <;> rw [hb] at h <;> simp only [cond_true, cond_false] at h <;> cases h
  exact ⟨15, Or.inr ⟨3, by decide +kernel, rfl, rfl⟩, by decide, ⟨Nat.zero_le _, blt_lt hb, by decide, "java/lang/IllegalStateException", mWs_in (n := 257) rfl rfl, Or.inr ⟨mNc_in (by decide +kernel), ⟨Nat.zero_le _, blt_lt hb, by decide, "java/lang/IllegalArgumentException", mWs_in (n := 258) rfl rfl, Or.inl ⟨rfl, mVs_in (n := 279) rfl rfl, rfl⟩⟩⟩⟩⟩
set_option maxRecDepth 100000 in
theorem mct_96_2 {pc q i : Nat} (h : (bif Nat.blt pc 9 then some (19, 3) else none) = some (q, i)) : mCat2 96 pc 2 q i := by
  cases hb : Nat.blt pc 9 <;> rw [hb] at h <;> simp only [cond_true, cond_false] at h <;> cases h
  exact ⟨18, Or.inr ⟨3, by decide +kernel, rfl, rfl⟩, by decide, ⟨Nat.zero_le _, blt_lt hb, by decide, "java/lang/IllegalStateException", mWs_in (n := 257) rfl rfl, Or.inr ⟨mNc_in (by decide +kernel), ⟨Nat.zero_le _, blt_lt hb, by decide, "java/lang/IllegalArgumentException", mWs_in (n := 258) rfl rfl, Or.inr ⟨mNc_in (by decide +kernel), ⟨Nat.zero_le _, blt_lt hb, by decide, "java/util/NoSuchElementException", mWs_in (n := 259) rfl rfl, Or.inl ⟨rfl, mVs_in (n := 304) rfl rfl, rfl⟩⟩⟩⟩⟩⟩⟩
set_option maxRecDepth 100000 in
theorem mct_96_3 {pc q i : Nat} (h : (bif Nat.blt pc 9 then some (22, 3) else none) = some (q, i)) : mCat2 96 pc 3 q i := by
  cases hb : Nat.blt pc 9 <;> rw [hb] at h <;> simp only [cond_true, cond_false] at h <;> cases h
  exact ⟨21, Or.inr ⟨3, by decide +kernel, rfl, rfl⟩, by decide, ⟨Nat.zero_le _, blt_lt hb, by decide, "java/lang/IllegalStateException", mWs_in (n := 257) rfl rfl, Or.inr ⟨mNc_in (by decide +kernel), ⟨Nat.zero_le _, blt_lt hb, by decide, "java/lang/IllegalArgumentException", mWs_in (n := 258) rfl rfl, Or.inr ⟨mNc_in (by decide +kernel), ⟨Nat.zero_le _, blt_lt hb, by decide, "java/util/NoSuchElementException", mWs_in (n := 259) rfl rfl, Or.inr ⟨mNc_in (by decide +kernel), ⟨Nat.zero_le _, blt_lt hb, by decide, "java/lang/UnsupportedOperationException", mWs_in (n := 260) rfl rfl, Or.inl ⟨rfl, mVs_in (n := 321) rfl rfl, rfl⟩⟩⟩⟩⟩⟩⟩⟩⟩
set_option maxRecDepth 100000 in
theorem mct_97_0 {pc q i : Nat} (h : (bif Nat.blt pc 8 then some (12, 2) else none) = some (q, i)) : mCat2 97 pc 0 q i := by
  cases hb : Nat.blt pc 8 <;> rw [hb] at h <;> simp only [cond_true, cond_false] at h <;> cases h
  exact ⟨11, Or.inr ⟨2, by decide +kernel, rfl, rfl⟩, by decide, ⟨Nat.zero_le _, blt_lt hb, by decide, "java/lang/IllegalStateException", mWs_in (n := 257) rfl rfl, Or.inl ⟨rfl, mVs_in (n := 173) rfl rfl, rfl⟩⟩⟩
theorem mCatch {k pc j q i : Nat} (h : mHn k pc j = some (q, i)) : mCat2 k pc j q i := by
  unfold mHn at h
  split at h
  · split at h
    · exact mct_88_0 h
    · exact mct_88_1 h
    · exact mct_88_2 h
    · exact mct_88_3 h
    · exact mct_88_4 h
    · cases h
  · split at h
    · exact mct_89_0 h
    · exact mct_89_1 h
    · exact mct_89_2 h
    · exact mct_89_3 h
    · cases h
  · split at h
    · exact mct_90_0 h
    · exact mct_90_1 h
    · exact mct_90_2 h
    · exact mct_90_3 h
    · cases h
  · split at h
    · exact mct_91_0 h
    · exact mct_91_1 h
    · exact mct_91_2 h
    · exact mct_91_3 h
    · exact mct_91_4 h
    · cases h
  · split at h
    · exact mct_92_0 h
    · exact mct_92_1 h
    · exact mct_92_2 h
    · exact mct_92_3 h
    · exact mct_92_5 h
    · cases h
  · split at h
    · exact mct_93_0 h
    · exact mct_93_1 h
    · exact mct_93_2 h
    · exact mct_93_3 h
    · exact mct_93_5 h
    · cases h
  · split at h
    · exact mct_94_0 h
    · exact mct_94_1 h
    · exact mct_94_2 h
    · exact mct_94_3 h
    · exact mct_94_5 h
    · cases h
  · split at h
    · exact mct_95_0 h
    · exact mct_95_1 h
    · exact mct_95_2 h
    · cases h
  · split at h
    · exact mct_96_0 h
    · exact mct_96_1 h
    · exact mct_96_2 h
    · exact mct_96_3 h
    · cases h
  · split at h
    · exact mct_97_0 h
    · cases h
  · cases h
theorem mTk_takes {e : Env} {s : State} {args : Array Value} {d : ClassId} {own : String} (hpl : e.platform.magicAccessors = ({} : Platform).magicAccessors) (hown : s.vm.findClass own = some d) (hts : ∀ w ∈ mWs, w.before args s = true) (hvs : ∀ w ∈ mVs, w.before args s = true) {pc j qh : Nat} {kc : ClassId} (hk : s.vm.findClass (mXn j) = some kc) :
    ∀ (rows : List ExceptionTableEntry), mTk own pc j qh (rows.map (fun h => (h.startPc, h.endPc, h.handlerPc, h.catchType))) → xTakes e s d pc kc qh rows := by
  intro rows
  induction rows with
  | nil => intro h; exact h
  | cons r t ih =>
    intro h
    obtain ⟨h1, h2, h3, name, h4, h5⟩ := h
    refine Or.inr ⟨by simp [covers, h1, h2], h3, ?_⟩
    obtain ⟨c', hc', hcl⟩ := Cond.classLink_spec hown (hts _ h4) e.platform hpl
    refine ⟨c', hcl, ?_⟩
    rcases h5 with ⟨rfl, h6, h7⟩ | ⟨h6, h7⟩
    · obtain ⟨c3, c4, e3, e4, e5⟩ := Cond.castable_spec (hvs _ h6)
      cases Option.some.inj (e3.symm.trans hk)
      cases Option.some.inj (e4.symm.trans hc')
      exact Or.inl ⟨e5, h7⟩
    · obtain ⟨c3, c4, e3, e4, e5⟩ := va_Nc.of (hvs _ h6)
      cases Option.some.inj (e3.symm.trans hk)
      cases Option.some.inj (e4.symm.trans hc')
      exact Or.inr ⟨e5, ih h7⟩
