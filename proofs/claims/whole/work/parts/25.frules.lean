section FEV
variable {Ls : Nat} {xs : Nat → Int32}
/-- one instruction, its parts apart -/
def fOne (Ls : Nat) (xs : Nat → Int32) (k pc : Nat) (L : List (Option Value)) (S : List Value) (h : mH) : Option mX :=
  match fRec Ls xs k with
  | some r =>
    match fLook r pc with
    | some f => f L S h
    | none => none
  | none => none
theorem fOne_eq {k pc : Nat} {L : List (Option Value)} {S : List Value} {h : mH} : fOne Ls xs k pc L S h = mStep Ls xs k (pc, L, S, h) := fStep_eq (st := (pc, L, S, h))
/-- instructions up to one that doesn't simply go on -/
def fGo (Ls : Nat) (xs : Nat → Int32) : Nat → Nat → Nat → List (Option Value) → List Value → mH → Option mX
  | 0, _, _, _, _, _ => none
  | n + 1, k, pc, L, S, h =>
    match fOne Ls xs k pc L S h with
    | some (.inl (pc', L', S', h')) => fGo Ls xs n k pc' L' S' h'
    | r => r
def mPl? : mX → Bool
  | .inl _ => true
  | _ => false
theorem fGo_run : ∀ (n : Nat) {k pc : Nat} {L : List (Option Value)} {S : List Value} {h : mH} {x : mX}, fGo Ls xs n k pc L S h = some x → mPl? x = false → ∃ st, (∀ r, mEv Ls xs k st r → mEv Ls xs k (pc, L, S, h) r) ∧ mStep Ls xs k st = some x := by
  intro n
  induction n with
  | zero => intro k pc L S h x hx _; cases hx
  | succ n ih =>
    intro k pc L S h x hx hp
    rw [fGo] at hx
    split at hx
    · rename_i pc' L' S' h' heq
      obtain ⟨st, h1, h2⟩ := ih hx hp
      exact ⟨st, fun r hr => mEv.plain (fOne_eq.symm.trans heq) (h1 r hr), h2⟩
    · exact ⟨(pc, L, S, h), fun r hr => hr, fOne_eq.symm.trans hx⟩
/-- so many plain instructions, to a state that is named -/
def fSt (Ls : Nat) (xs : Nat → Int32) : Nat → Nat → Nat → List (Option Value) → List Value → mH → Option mS
  | 0, _, pc, L, S, h => some (pc, L, S, h)
  | n + 1, k, pc, L, S, h =>
    match fOne Ls xs k pc L S h with
    | some (.inl (pc', L', S', h')) => fSt Ls xs n k pc' L' S' h'
    | _ => none
theorem fEv.steps : ∀ (n : Nat) {k pc : Nat} {L : List (Option Value)} {S : List Value} {h : mH} {st : mS} {r : mR}, fSt Ls xs n k pc L S h = some st → mEv Ls xs k st r → mEv Ls xs k (pc, L, S, h) r := by
  intro n
  induction n with
  | zero => intro k pc L S h st r hs he; cases hs; exact he
  | succ n ih =>
    intro k pc L S h st r hs he
    rw [fSt] at hs
    split at hs
    · rename_i pc' L' S' h' heq
      exact mEv.plain (fOne_eq.symm.trans heq) (ih hs he)
    · cases hs
theorem mHd_of {k : Nat} {st : mS} {x : mX} (h : mStep Ls xs k st = some x) (hp : mPl? x = false) : mHd Ls xs k st = some x := by
  have : mRun Ls xs 300 k st = st := by
    rw [mRun, h]
    cases x with
    | inl s => cases hp
    | inr s => rfl
  unfold mHd
  rw [this, h]
theorem fEv.brT {k pc : Nat} {L : List (Option Value)} {S : List Value} {hh : mH} {a : mS} {b : Option mS} {r : mR} {c : Bool} (h : fGo Ls xs 300 k pc L S hh = some (.inr (.inl (c, a, b)))) (hc : c = true) (he : mEv Ls xs k a r) : mEv Ls xs k (pc, L, S, hh) r := by
  obtain ⟨st, h1, h2⟩ := fGo_run 300 h rfl
  exact h1 r (mEv.brT (mHd_of h2 rfl) hc he)
theorem fEv.brF {k pc : Nat} {L : List (Option Value)} {S : List Value} {hh : mH} {a b : mS} {r : mR} {c : Bool} (h : fGo Ls xs 300 k pc L S hh = some (.inr (.inl (c, a, some b)))) (hc : c = false) (he : mEv Ls xs k b r) : mEv Ls xs k (pc, L, S, hh) r := by
  obtain ⟨st, h1, h2⟩ := fGo_run 300 h rfl
  exact h1 r (mEv.brF (mHd_of h2 rfl) hc he)
theorem fEv.br {k pc : Nat} {L : List (Option Value)} {S : List Value} {hh : mH} {a b : mS} {r : mR} {P : Prop} {dP : Decidable P} (h : fGo Ls xs 300 k pc L S hh = some (.inr (.inl (@decide P dP, a, some b)))) (ht : P → mEv Ls xs k a r) (hf : ¬ P → mEv Ls xs k b r) : mEv Ls xs k (pc, L, S, hh) r := by
  obtain ⟨st, h1, h2⟩ := fGo_run 300 h rfl
  exact h1 r (mEv.br (mHd_of h2 rfl) ht hf)
theorem fEv.retV {k pc : Nat} {L : List (Option Value)} {S : List Value} {hh h' : mH} {v : Option Value} {c : Bool} (h : fGo Ls xs 300 k pc L S hh = some (.inr (.inr (.inl (c, .inl v, h'))))) (hc : c = true) : mEv Ls xs k (pc, L, S, hh) (.inl v, h', 0, 0) := by
  obtain ⟨st, h1, h2⟩ := fGo_run 300 h rfl
  exact h1 _ (mEv.retV (mHd_of h2 rfl) hc)
theorem fEv.retX {k pc : Nat} {L : List (Option Value)} {S : List Value} {hh h' : mH} {j : Nat} {c : Bool} (h : fGo Ls xs 300 k pc L S hh = some (.inr (.inr (.inl (c, .inr j, h'))))) (hc : c = true) : mEv Ls xs k (pc, L, S, hh) (.inr j, h', 1, 6) := by
  obtain ⟨st, h1, h2⟩ := fGo_run 300 h rfl
  exact h1 _ (mEv.retX (mHd_of h2 rfl) hc)
theorem fEv.mk {k pc : Nat} {L : List (Option Value)} {S : List Value} {hh : mH} {a : mS} {z : Nat} {r : mR} (h : fGo Ls xs 300 k pc L S hh = some (.inr (.inr (.inr (.inr (a, z)))))) (he : mEv Ls xs k a r) : mEv Ls xs k (pc, L, S, hh) (mAdd 1 z r) := by
  obtain ⟨st, h1, h2⟩ := fGo_run 300 h rfl
  exact h1 _ (mEv.mk (mHd_of h2 rfl) he)
theorem fEv.call {k pc k' pc' c s : Nat} {L : List (Option Value)} {S : List Value} {hh : mH} {r : mR} {av S' : List Value} {L' : List (Option Value)} {h h' : mH} {v : Option Value} (hs : fGo Ls xs 300 k pc L S hh = some (.inr (.inr (.inr (.inl (k', av, (pc', L', S', h))))))) (hc : mEv Ls xs k' (mEnt k' av h) (.inl v, h', c, s))
    (he : mEv Ls xs k (pc', L', v.toList ++ S', h') r) : mEv Ls xs k (pc, L, S, hh) (mAdd c s r) := by
  obtain ⟨st, h1, h2⟩ := fGo_run 300 hs rfl
  exact h1 _ (mEv.call (mHd_of h2 rfl) hc he)
theorem fEv.call0 {k pc k' pc' : Nat} {L : List (Option Value)} {S : List Value} {hh : mH} {r : mR} {av S' : List Value} {L' : List (Option Value)} {h h' : mH} {v : Option Value} (hs : fGo Ls xs 300 k pc L S hh = some (.inr (.inr (.inr (.inl (k', av, (pc', L', S', h))))))) (hc : mEv Ls xs k' (mEnt k' av h) (.inl v, h', 0, 0))
    (he : mEv Ls xs k (pc', L', v.toList ++ S', h') r) : mEv Ls xs k (pc, L, S, hh) r := by
  obtain ⟨st, h1, h2⟩ := fGo_run 300 hs rfl
  exact h1 _ (mEv.call0 (mHd_of h2 rfl) hc he)
/-- a call that answers an int -/
theorem fEv.calli {k pc k' pc' : Nat} {L : List (Option Value)} {S : List Value} {hh : mH} {r : mR} {av S' : List Value} {L' : List (Option Value)} {h h' : mH} {v : Int32} (hs : fGo Ls xs 300 k pc L S hh = some (.inr (.inr (.inr (.inl (k', av, (pc', L', S', h))))))) (hc : mEv Ls xs k' (mEnt k' av h) (.inl (some (.int v)), h', 0, 0))
    (he : mEv Ls xs k (pc', L', .int v :: S', h') r) : mEv Ls xs k (pc, L, S, hh) r := fEv.call0 hs hc he
/-- a call without an answer -/
theorem fEv.calln {k pc k' pc' : Nat} {L : List (Option Value)} {S : List Value} {hh : mH} {r : mR} {av S' : List Value} {L' : List (Option Value)} {h h' : mH} (hs : fGo Ls xs 300 k pc L S hh = some (.inr (.inr (.inr (.inl (k', av, (pc', L', S', h))))))) (hc : mEv Ls xs k' (mEnt k' av h) (.inl none, h', 0, 0))
    (he : mEv Ls xs k (pc', L', S', h') r) : mEv Ls xs k (pc, L, S, hh) r := fEv.call0 hs hc he
theorem fEv.thr {k pc k' pc' c s j : Nat} {L : List (Option Value)} {S : List Value} {hh : mH} {av S' : List Value} {L' : List (Option Value)} {h h' : mH} (hs : fGo Ls xs 300 k pc L S hh = some (.inr (.inr (.inr (.inl (k', av, (pc', L', S', h))))))) (hc : mEv Ls xs k' (mEnt k' av h) (.inr j, h', c, s))
    (hn : mHH k = []) : mEv Ls xs k (pc, L, S, hh) (.inr j, h', c, s) := by
  obtain ⟨st, h1, h2⟩ := fGo_run 300 hs rfl
  exact h1 _ (mEv.thr (mHd_of h2 rfl) hc hn)
theorem fEv.cat {k pc k' pc' c s j q i : Nat} {L : List (Option Value)} {S : List Value} {hh : mH} {r : mR} {av S' : List Value} {L' : List (Option Value)} {h h' : mH} (hs : fGo Ls xs 300 k pc L S hh = some (.inr (.inr (.inr (.inl (k', av, (pc', L', S', h))))))) (hc : mEv Ls xs k' (mEnt k' av h) (.inr j, h', c, s))
    (hne : mHH k ≠ []) (hn : mHn k (pc' - 3) j = some (q, i)) (he : mEv Ls xs k (q, L'.set i none, [], h') r) : mEv Ls xs k (pc, L, S, hh) (mAdd c s r) := by
  obtain ⟨st, h1, h2⟩ := fGo_run 300 hs rfl
  exact h1 _ (mEv.cat (mHd_of h2 rfl) hc hne hn he)
end FEV
