/-! from places to addresses -/
theorem blt_lt {a n : Nat} (h : Nat.blt a n = true) : a < n := Nat.le_of_ble_eq_true h
theorem mOne_iff {S : List Value} : mOne S = true ↔ ∀ v ∈ S, (∃ z, v = .int z) ∨ ∃ a, v = .ref a := by
  induction S with
  | nil => simp [mOne]
  | cons v t ih => cases v <;> simp [mOne, ih]
def trV (ρ : Nat → Nat) : Value → Value
  | .ref k => .ref (ρ k)
  | v => v
def trC (ρ : Nat → Nat) (dA : Nat → ClassId) : mC → va_E
  | .inl (t, a) => .inl (dA t, a)
  | .inr (ci, fs) => .inr (ci, fs.map (trV ρ))
def trH (ρ : Nat → Nat) (dA : Nat → ClassId) (h : mH) : va_W := h.mapIdx fun i c => (ρ i, trC ρ dA c)
theorem trH_get {ρ : Nat → Nat} {dA : Nat → ClassId} {h : mH} {i : Nat} {c : mC} (hc : h[i]? = some c) : (trH ρ dA h)[i]? = some (ρ i, trC ρ dA c) := by
  simp [trH, hc]
theorem trH_inv {ρ : Nat → Nat} {dA : Nat → ClassId} {h : mH} {i : Nat} {q : Nat × va_E} (hq : (trH ρ dA h)[i]? = some q) : ∃ c, h[i]? = some c ∧ q = (ρ i, trC ρ dA c) := by
  simp only [trH, List.getElem?_mapIdx] at hq
  obtain ⟨c, h1, h2⟩ := Option.map_eq_some_iff.mp hq
  exact ⟨c, h1, h2.symm⟩
theorem trH_set {ρ : Nat → Nat} {dA : Nat → ClassId} {h : mH} {i : Nat} {c : mC} : (trH ρ dA h).set i (ρ i, trC ρ dA c) = trH ρ dA (h.set i c) := by
  apply List.ext_getElem?
  intro j
  by_cases hj : i = j
  · subst hj
    by_cases hl : i < h.length
    · rw [List.getElem?_set_self (by simpa [trH] using hl), trH_get (List.getElem?_set_self hl)]
    · rw [List.getElem?_eq_none (by simp [trH]; omega), List.getElem?_eq_none (by simp [trH]; omega)]
  · rw [List.getElem?_set_ne hj]
    simp [trH, List.getElem?_set_ne hj]
theorem trH_push {ρ : Nat → Nat} {dA : Nat → ClassId} {h : mH} {c : mC} : trH ρ dA (h ++ [c]) = trH ρ dA h ++ [(ρ h.length, trC ρ dA c)] := by
  simp [trH, List.mapIdx_append]
theorem mOkV_tr {n : Nat} {v : Value} {ρ ρ' : Nat → Nat} (h : mOkV n v = true) (e : ∀ i, i < n → ρ' i = ρ i) (e2 : ρ' mSC = ρ mSC) : trV ρ' v = trV ρ v := by
  cases v with
  | ref a =>
    simp only [mOkV, Bool.or_eq_true] at h
    rcases h with h | h
    · have : a < n := blt_lt h
      simp [trV, e a this]
    · have : a = mSC := Nat.eq_of_beq_eq_true h
      subst this
      simp [trV, e2]
  | _ => rfl
theorem mOkS_tr {n : Nat} {S : List Value} {ρ ρ' : Nat → Nat} (h : mOkS n S = true) (e : ∀ i, i < n → ρ' i = ρ i) (e2 : ρ' mSC = ρ mSC) : S.map (trV ρ') = S.map (trV ρ) := by
  induction S with
  | nil => rfl
  | cons v t ih =>
    simp only [mOkS, Bool.and_eq_true] at h
    simp [mOkV_tr h.1 e e2, ih h.2]
theorem mOkH_tr {n : Nat} {ρ ρ' : Nat → Nat} {dA : Nat → ClassId} (e : ∀ i, i < n → ρ' i = ρ i) (e2 : ρ' mSC = ρ mSC) : ∀ (h : mH) (i : Nat) (c : mC), mOkH n h = true → h[i]? = some c → trC ρ' dA c = trC ρ dA c := by
  intro h
  induction h with
  | nil => intro i c _ hc; simp at hc
  | cons d t ih =>
    intro i c ho hc
    cases i with
    | zero =>
      simp at hc
      subst hc
      obtain ⟨t1, a⟩ | ⟨ci, fs⟩ := d
      · rfl
      · simp only [mOkH, Bool.and_eq_true] at ho
        simp only [trC]
        rw [mOkS_tr ho.1 e e2]
    | succ i =>
      refine ih i c ?_ (by simpa using hc)
      obtain ⟨t1, a⟩ | ⟨ci, fs⟩ := d
      · simpa [mOkH] using ho
      · simp only [mOkH, Bool.and_eq_true] at ho
        exact ho.2
theorem trH_ext {n : Nat} {ρ ρ' : Nat → Nat} {dA : Nat → ClassId} {h : mH} (e : ∀ i, i < n → ρ' i = ρ i) (e2 : ρ' mSC = ρ mSC) (hn : h.length ≤ n) (ho : mOkH n h = true) : trH ρ' dA h = trH ρ dA h := by
  apply List.ext_getElem?
  intro i
  simp only [trH, List.getElem?_mapIdx]
  cases hc : h[i]? with
  | none => rfl
  | some c =>
    have hi : i < h.length := (List.getElem?_eq_some_iff.mp hc).1
    simp [mOkH_tr e e2 h i c ho hc, e i (by omega)]
/-! locals -/
def lpm (ρ : Nat → Nat) (L : List (Option Value)) : List (Nat × Value) := L.zipIdx.filterMap fun q => q.1.map fun v => (q.2, trV ρ v)
theorem lpm_mem {ρ : Nat → Nat} {L : List (Option Value)} {q : Nat × Value} : q ∈ lpm ρ L ↔ ∃ v, L[q.1]? = some (some v) ∧ q.2 = trV ρ v := by
  obtain ⟨i, w⟩ := q
  simp only [lpm, List.mem_filterMap, Option.map_eq_some_iff, Prod.mk.injEq, Prod.exists]
  constructor
  · rintro ⟨o, j, hm, v, rfl, rfl, rfl⟩
    exact ⟨v, List.mem_zipIdx_iff_getElem?.mp hm, rfl⟩
  · rintro ⟨v, hv, rfl⟩
    exact ⟨some v, i, List.mem_zipIdx_iff_getElem?.mpr hv, v, rfl, rfl, rfl⟩
def LR (ρ : Nat → Nat) (ls : Array Slot) (n : Nat) (L : List (Option Value)) : Prop := lv_has ls n (lpm ρ L) ∧ L.length = n ∧ ∀ (i : Nat) (v : Value), L[i]? = some (some v) → v.category = 1
theorem LR.at {ρ : Nat → Nat} {ls : Array Slot} {n i : Nat} {L : List (Option Value)} {v : Value} (h : LR ρ ls n L) (hv : L[i]? = some (some v)) : ls[i]? = some (.val (trV ρ v)) := h.1.2.2 (i, trV ρ v) (lpm_mem.mpr ⟨v, hv, rfl⟩)
theorem trV_cat {ρ : Nat → Nat} {v : Value} : (trV ρ v).category = v.category := by cases v <;> rfl
theorem LR.put {ρ : Nat → Nat} {ls ls' : Array Slot} {n i : Nat} {L : List (Option Value)} {v : Value} (h : LR ρ ls n L) (hc : v.category = 1) (hi : i < L.length)
    (h' : lv_has ls' n ((i, trV ρ v) :: (lpm ρ L).filter (fun q => !(q.1 == i) && !(q.1 + 1 == i && q.2.category == 2)))) : LR ρ ls' n (L.set i (some v)) := by
  have key : ∀ (j : Nat) (w : Value), (L.set i (some v))[j]? = some (some w) → (j = i ∧ w = v) ∨ (j ≠ i ∧ L[j]? = some (some w)) := by
    intro j w hj
    by_cases e : i = j
    · subst e
      rw [List.getElem?_set_self hi] at hj
      exact Or.inl ⟨rfl, by simpa using hj.symm⟩
    · rw [List.getElem?_set_ne e] at hj
      exact Or.inr ⟨Ne.symm e, hj⟩
  refine ⟨⟨h'.1, h'.2.1, fun q hq => ?_⟩, by simp [h.2.1], fun j w hj => ?_⟩
  · obtain ⟨w, hw, hw2⟩ := lpm_mem.mp hq
    obtain ⟨j, z⟩ := q
    dsimp only at hw hw2
    rcases key j w hw with ⟨rfl, rfl⟩ | ⟨hne, hj⟩
    · subst hw2
      exact h'.2.2 _ List.mem_cons_self
    · subst hw2
      refine h'.2.2 _ (List.mem_cons_of_mem _ (List.mem_filter.mpr ⟨lpm_mem.mpr ⟨w, hj, rfl⟩, ?_⟩))
      have := h.2.2 j w hj
      simp [hne, trV_cat, this]
  · rcases key j w hj with ⟨rfl, rfl⟩ | ⟨-, hj⟩
    · exact hc
    · exact h.2.2 j w hj
theorem LR.drop {ρ : Nat → Nat} {ls ls' : Array Slot} {n i : Nat} {L : List (Option Value)} {v : Value} (h : LR ρ ls n L)
    (h' : lv_has ls' n ((i, v) :: (lpm ρ L).filter (fun q => !(q.1 == i) && !(q.1 + 1 == i && q.2.category == 2)))) : LR ρ ls' n (L.set i none) := by
  have key : ∀ (j : Nat) (w : Value), (L.set i none)[j]? = some (some w) → j ≠ i ∧ L[j]? = some (some w) := by
    intro j w hj
    by_cases e : i = j
    · subst e
      by_cases hi : i < L.length
      · rw [List.getElem?_set_self hi] at hj
        simp at hj
      · rw [List.getElem?_eq_none (by simp; omega)] at hj
        simp at hj
    · rw [List.getElem?_set_ne e] at hj
      exact ⟨Ne.symm e, hj⟩
  refine ⟨⟨h'.1, h'.2.1, fun q hq => ?_⟩, by simp [h.2.1], fun j w hj => h.2.2 j w (key j w hj).2⟩
  obtain ⟨w, hw, hw2⟩ := lpm_mem.mp hq
  obtain ⟨j, z⟩ := q
  dsimp only at hw hw2
  obtain ⟨hne, hj⟩ := key j w hw
  subst hw2
  refine h'.2.2 _ (List.mem_cons_of_mem _ (List.mem_filter.mpr ⟨lpm_mem.mpr ⟨w, hj, rfl⟩, ?_⟩))
  have := h.2.2 j w hj
  simp [hne, trV_cat, this]
theorem LR.ext {n : Nat} {ρ ρ' : Nat → Nat} {ls : Array Slot} {nl : Nat} {L : List (Option Value)} (h : LR ρ ls nl L) (ho : mOkL n L = true) (e : ∀ i, i < n → ρ' i = ρ i) (e2 : ρ' mSC = ρ mSC) : LR ρ' ls nl L := by
  have key : ∀ (L : List (Option Value)), mOkL n L = true → ∀ (i : Nat) (v : Value), L[i]? = some (some v) → mOkV n v = true := by
    intro L
    induction L with
    | nil => intro _ i v hv; simp at hv
    | cons o t ih =>
      intro ho i v hv
      cases o with
      | none =>
        cases i with
        | zero => simp at hv
        | succ i => exact ih (by simpa [mOkL] using ho) i v (by simpa using hv)
      | some w =>
        simp only [mOkL, Bool.and_eq_true] at ho
        cases i with
        | zero => simp at hv; subst hv; exact ho.1
        | succ i => exact ih ho.2 i v (by simpa using hv)
  refine ⟨⟨h.1.1, h.1.2.1, fun q hq => ?_⟩, h.2⟩
  obtain ⟨v, hv, hw⟩ := lpm_mem.mp hq
  refine h.1.2.2 q (lpm_mem.mpr ⟨v, hv, ?_⟩)
  rw [hw, mOkV_tr (key L ho q.1 v hv) e e2]
theorem LR.entry {ρ : Nat → Nat} {av : List Value} {n : Nat} (hn : av.length ≤ n) (h1 : mOne av = true) :
    LR ρ ((lg_sl (av.map (trV ρ)) ++ List.replicate (n - (lg_sl (av.map (trV ρ))).length) Slot.unset).toArray) n (av.map some ++ List.replicate (n - av.length) none) := by
  have c1 : ∀ (av : List Value), mOne av = true → ∀ v ∈ av, v.category = 1 := by
    intro av ho v hv
    rcases mOne_iff.mp ho v hv with ⟨z, rfl⟩ | ⟨z, rfl⟩ <;> rfl
  have l1 : ∀ (av : List Value), (∀ v ∈ av, v.category = 1) → (lg_sl av).length = av.length := by
    intro av
    induction av with
    | nil => intro _; rfl
    | cons w t ih =>
      intro hc
      have h2 : ¬ w.category = 2 := by rw [hc w List.mem_cons_self]; decide
      simp [lg_sl, h2] 
      have := ih (fun v hv => hc v (List.mem_cons_of_mem _ hv))
      simpa [lg_sl] using this
  have m1 : ∀ (av : List Value) (j i : Nat) (v : Value), (∀ v ∈ av, v.category = 1) → av[i]? = some v → (j + i, v) ∈ lv_args j av := by
    intro av
    induction av with
    | nil => intro j i v _ hv; simp at hv
    | cons w t ih =>
      intro j i v hc hv
      have h2 : ¬ w.category = 2 := by rw [hc w List.mem_cons_self]; decide
      simp only [lv_args, h2, if_false]
      cases i with
      | zero => simp at hv; subst hv; simp
      | succ i =>
        refine List.mem_cons_of_mem _ ?_
        have := ih (j + 1) i v (fun v hv => hc v (List.mem_cons_of_mem _ hv)) (by simpa using hv)
        rwa [show j + 1 + i = j + (i + 1) by omega] at this
  have hc2 : ∀ v ∈ av.map (trV ρ), v.category = 1 := by
    intro v hv
    obtain ⟨w, hw, rfl⟩ := List.mem_map.mp hv
    rw [trV_cat]; exact c1 av h1 w hw
  have hl := lv_entry (av.map (trV ρ)) (n := n) (by rw [l1 _ hc2]; simpa using hn)
  have hget : ∀ (i : Nat) (v : Value), (av.map some ++ List.replicate (n - av.length) none)[i]? = some (some v) → av[i]? = some v := by
    intro i v hv
    by_cases hi : i < av.length
    · rw [List.getElem?_append_left (by simpa using hi)] at hv
      simpa using hv
    · rw [List.getElem?_append_right (by simpa using hi)] at hv
      simp [List.getElem?_replicate] at hv
  refine ⟨⟨hl.1, hl.2.1, fun q hq => ?_⟩, by simp; omega, fun i v hv => c1 av h1 v (List.mem_of_getElem? (hget i v hv))⟩
  obtain ⟨v, hv, hw⟩ := lpm_mem.mp hq
  refine hl.2.2 q ?_
  have := m1 (av.map (trV ρ)) 0 q.1 (trV ρ v) hc2 (by simp [hget _ _ hv])
  rw [Nat.zero_add, ← hw] at this
  exact this
