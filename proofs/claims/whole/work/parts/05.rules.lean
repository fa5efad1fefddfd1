section MEV
variable {Ls : Nat} {xs : Nat → Int32}
theorem mGo_succ : ∀ (n k : Nat) (st : mS) (r : mR), mGo Ls xs n k st = some r → mGo Ls xs (n + 1) k st = some r := by
  intro n
  induction n with
  | zero => intro k st r h; simp [mGo] at h
  | succ n ih =>
    intro k st r h
    have ihm : ∀ (k : Nat) (st : mS) (f : mR → mR) (r : mR), (mGo Ls xs n k st).map f = some r → (mGo Ls xs (n + 1) k st).map f = some r := by
      intro k st f r h
      obtain ⟨q, h1, h2⟩ := Option.map_eq_some_iff.mp h
      rw [ih _ _ _ h1, ← h2]; rfl
    rw [mGo] at h
    rw [mGo]
    split at h
    · simp at h
    · exact ih _ _ _ h
    · exact ih _ _ _ h
    · exact ih _ _ _ h
    · simp at h
    · exact h
    · exact h
    · simp at h
    · exact ihm _ _ _ _ h
    · rename_i k' av pc L S hh _
      cases hg : mGo Ls xs n k' (mEnt k' av hh) with
      | none => rw [hg] at h; simp at h
      | some q =>
        rw [ih _ _ _ hg]
        rw [hg] at h
        obtain ⟨o, h', c, s⟩ := q
        cases o with
        | inl v => exact ihm _ _ _ _ h
        | inr j =>
          dsimp only at h ⊢
          split at h
          · exact h
          · split at h
            · exact ihm _ _ _ _ h
            · exact h
theorem mGo_le {n n' k : Nat} {st : mS} {r : mR} (h : mGo Ls xs n k st = some r) (hn : n ≤ n') : mGo Ls xs n' k st = some r := by
  induction hn with
  | refl => exact h
  | step _ ih => exact mGo_succ _ _ _ _ ih
def mEv (Ls : Nat) (xs : Nat → Int32) (k : Nat) (st : mS) (r : mR) : Prop := ∃ n, mGo Ls xs n k st = some r
def mRun (Ls : Nat) (xs : Nat → Int32) : Nat → Nat → mS → mS
  | 0, _, st => st
  | n + 1, k, st =>
    match mStep Ls xs k st with
    | some (.inl st') => mRun Ls xs n k st'
    | _ => st
def mHd (Ls : Nat) (xs : Nat → Int32) (k : Nat) (st : mS) : Option mX := mStep Ls xs k (mRun Ls xs 300 k st)
theorem mEv.plain {k : Nat} {st st' : mS} {r : mR} (h : mStep Ls xs k st = some (.inl st')) (he : mEv Ls xs k st' r) : mEv Ls xs k st r := by
  obtain ⟨n, hn⟩ := he
  exact ⟨n + 1, by rw [mGo, h]; exact hn⟩
theorem mEv.run {k : Nat} {r : mR} : ∀ (n : Nat) {st : mS}, mEv Ls xs k (mRun Ls xs n k st) r → mEv Ls xs k st r := by
  intro n
  induction n with
  | zero => intro st h; exact h
  | succ n ih =>
    intro st h
    rw [mRun] at h
    split at h
    · rename_i st' heq
      exact mEv.plain heq (ih h)
    · exact h
theorem mEv.brT {k : Nat} {st a : mS} {b : Option mS} {r : mR} {c : Bool} (h : mHd Ls xs k st = some (.inr (.inl (c, a, b)))) (hc : c = true) (he : mEv Ls xs k a r) : mEv Ls xs k st r := by
  refine mEv.run 300 ?_
  obtain ⟨n, hn⟩ := he
  subst hc
  exact ⟨n + 1, by rw [mHd] at h; rw [mGo, h]; exact hn⟩
theorem mEv.brF {k : Nat} {st a b : mS} {r : mR} {c : Bool} (h : mHd Ls xs k st = some (.inr (.inl (c, a, some b)))) (hc : c = false) (he : mEv Ls xs k b r) : mEv Ls xs k st r := by
  refine mEv.run 300 ?_
  obtain ⟨n, hn⟩ := he
  subst hc
  exact ⟨n + 1, by rw [mHd] at h; rw [mGo, h]; exact hn⟩
theorem mEv.br {k : Nat} {st a b : mS} {r : mR} {P : Prop} {dP : Decidable P} (h : mHd Ls xs k st = some (.inr (.inl (@decide P dP, a, some b)))) (ht : P → mEv Ls xs k a r) (hf : ¬ P → mEv Ls xs k b r) : mEv Ls xs k st r := by
  by_cases hP : P
  · exact mEv.brT h (by simp [hP]) (ht hP)
  · exact mEv.brF h (by simp [hP]) (hf hP)
theorem mEv.retV {k : Nat} {st : mS} {v : Option Value} {h' : mH} {c : Bool} (h : mHd Ls xs k st = some (.inr (.inr (.inl (c, .inl v, h'))))) (hc : c = true) : mEv Ls xs k st (.inl v, h', 0, 0) := by
  refine mEv.run 300 ?_
  subst hc
  exact ⟨1, by rw [mHd] at h; rw [mGo, h]⟩
theorem mEv.retX {k : Nat} {st : mS} {j : Nat} {h' : mH} {c : Bool} (h : mHd Ls xs k st = some (.inr (.inr (.inl (c, .inr j, h'))))) (hc : c = true) : mEv Ls xs k st (.inr j, h', 1, 6) := by
  refine mEv.run 300 ?_
  subst hc
  exact ⟨1, by rw [mHd] at h; rw [mGo, h]⟩
theorem mEv.mk {k : Nat} {st a : mS} {z : Nat} {r : mR} (h : mHd Ls xs k st = some (.inr (.inr (.inr (.inr (a, z)))))) (he : mEv Ls xs k a r) : mEv Ls xs k st (mAdd 1 z r) := by
  refine mEv.run 300 ?_
  obtain ⟨n, hn⟩ := he
  exact ⟨n + 1, by rw [mHd] at h; rw [mGo, h]; simp only [hn]; rfl⟩
theorem mEv.call {k k' pc c s : Nat} {st : mS} {r : mR} {av S : List Value} {L : List (Option Value)} {h h' : mH} {v : Option Value} (hs : mHd Ls xs k st = some (.inr (.inr (.inr (.inl (k', av, (pc, L, S, h))))))) (hc : mEv Ls xs k' (mEnt k' av h) (.inl v, h', c, s))
    (he : mEv Ls xs k (pc, L, v.toList ++ S, h') r) : mEv Ls xs k st (mAdd c s r) := by
  refine mEv.run 300 ?_
  obtain ⟨n1, h1⟩ := hc
  obtain ⟨n2, h2⟩ := he
  exact ⟨max n1 n2 + 1, by rw [mHd] at hs; rw [mGo, hs]; simp only [mGo_le h1 (Nat.le_max_left _ _), mGo_le h2 (Nat.le_max_right _ _)]; rfl⟩
/-- the same, where the called method makes nothing -/
theorem mEv.call0 {k k' pc : Nat} {st : mS} {r : mR} {av S : List Value} {L : List (Option Value)} {h h' : mH} {v : Option Value} (hs : mHd Ls xs k st = some (.inr (.inr (.inr (.inl (k', av, (pc, L, S, h))))))) (hc : mEv Ls xs k' (mEnt k' av h) (.inl v, h', 0, 0))
    (he : mEv Ls xs k (pc, L, v.toList ++ S, h') r) : mEv Ls xs k st r := by
  have := mEv.call hs hc he
  rwa [show mAdd 0 0 r = r by simp [mAdd]] at this
theorem mEv.thr {k k' pc c s j : Nat} {st : mS} {av S : List Value} {L : List (Option Value)} {h h' : mH} (hs : mHd Ls xs k st = some (.inr (.inr (.inr (.inl (k', av, (pc, L, S, h))))))) (hc : mEv Ls xs k' (mEnt k' av h) (.inr j, h', c, s))
    (hh : mHH k = []) : mEv Ls xs k st (.inr j, h', c, s) := by
  refine mEv.run 300 ?_
  obtain ⟨n1, h1⟩ := hc
  exact ⟨n1 + 1, by rw [mHd] at hs; rw [mGo, hs]; simp only [h1, hh]⟩
theorem mEv.cat {k k' pc c s j q i : Nat} {st : mS} {r : mR} {av S : List Value} {L : List (Option Value)} {h h' : mH} (hs : mHd Ls xs k st = some (.inr (.inr (.inr (.inl (k', av, (pc, L, S, h))))))) (hc : mEv Ls xs k' (mEnt k' av h) (.inr j, h', c, s))
    (hne : mHH k ≠ []) (hh : mHn k (pc - 3) j = some (q, i)) (he : mEv Ls xs k (q, L.set i none, [], h') r) : mEv Ls xs k st (mAdd c s r) := by
  refine mEv.run 300 ?_
  obtain ⟨n1, h1⟩ := hc
  obtain ⟨n2, h2⟩ := he
  exact ⟨max n1 n2 + 1, by rw [mHd] at hs; rw [mGo, hs]; simp only [mGo_le h1 (Nat.le_max_left _ _), hh, mGo_le h2 (Nat.le_max_right _ _)]; rfl⟩
end MEV
