/-! words that are carried from call to call -/
def mVk : Jvm.Cond → Bool
  | .castable _ _ => true
  | .stringRef _ _ _ => true
  | .methodLinkNest _ _ _ _ => true
  | .declares _ => true
  | .not (.castable _ _) => true
  | _ => false
def mNcN : List String := ["java/lang/IllegalStateException", "java/lang/IllegalArgumentException", "java/util/NoSuchElementException", "java/lang/UnsupportedOperationException", "java/lang/ArithmeticException", "java/lang/IndexOutOfBoundsException"]
def mNcs : List Jvm.Cond := mNcN.flatMap fun a => (mNcN.filter fun b => b != a).map fun b => .not (.castable a b)
def mWs : List Jvm.Cond := lw_tbl.filter goodWord
def mVs : List Jvm.Cond := lw_tbl.filter mVk ++ mNcs
theorem mWs_in {n : Nat} {w : Jvm.Cond} (h : lw_tbl[n]? = some w) (hg : goodWord w = true) : w ∈ mWs := List.mem_filter.mpr ⟨List.mem_of_getElem? h, hg⟩
theorem mVs_in {n : Nat} {w : Jvm.Cond} (h : lw_tbl[n]? = some w) (hg : mVk w = true) : w ∈ mVs := List.mem_append_left _ (List.mem_filter.mpr ⟨List.mem_of_getElem? h, hg⟩)
theorem mGood (w : Jvm.Cond) (h : w ∈ mWs) : (w.onTables && w.keeps) = true ∨ ∃ ty, w = .arrayClass ty := good_of_word (List.mem_filter.mp h).2
theorem mNcs_k : ∀ w ∈ mNcs, mVk w = true := by decide +kernel
theorem mVs_k (w : Jvm.Cond) (h : w ∈ mVs) : mVk w = true := by
  rcases List.mem_append.mp h with h | h
  · exact (List.mem_filter.mp h).2
  · exact mNcs_k w h
theorem vk_R_move {a a' : Array Value} {s U : State} {c tx : String} {i : Nat} (hW : s.WarmedH U.vm) (h : (Jvm.Cond.stringRef c i tx).before a s = true) : (Jvm.Cond.stringRef c i tx).before a' U = true := by
  have h2 := Cond.stringRef_warmed (args := a) hW h
  first
    | exact va_tabs rfl (rfl : (s.setVm U.vm).vm = U.vm) h2
    | (simp only [Cond.before, Cond.holds, Cond.value, State.names, State.poolOf?, State.resolvedAt?] at h2 ⊢; exact h2)
theorem mV_move {w : Jvm.Cond} (hk : mVk w = true) {a a' : Array Value} {s U : State} (hW : s.WarmedH U.vm) (h : w.before a s = true) : w.before a' U = true := by
  unfold mVk at hk
  split at hk
  · refine va_tabs (A := a) rfl (rfl : (s.setVm U.vm).vm = U.vm) ?_
    rw [Cond.castable_setVm hW.alike]; exact h
  · exact (vk_R_move hW h)
  · exact va_tabs rfl (rfl : (s.setVm U.vm).vm = U.vm) (Cond.methodLinkNest_warmed (args := a) hW h)
  · refine va_tabs (A := a) rfl (rfl : (s.setVm U.vm).vm = U.vm) ?_
    rw [Cond.declares_setVm hW.alike]; exact h
  · obtain ⟨c1, t1, h1, h2, h3⟩ := va_Nc.moved hW.alike (va_Nc.of h)
    simp only [Cond.before, Cond.holds, Cond.value, h1, h2, h3]
    rfl
  · cases hk
