/-! the class's reads -/
def Chain (t : Nat → Int32) : Int32 → List Nat → Prop
  | x, [] => x = -1
  | x, a :: l => x = nI a ∧ a < 32 ∧ Chain t (t a) l
def dirC (c : Nat → Int32) (e : Int32) : Bool := decide (e = -3) || decide (cellA c e (nI 1) = nI 2)
def fstC (c : Nat → Int32) (e : Int32) : Int32 := if e = -3 then nI 0 else cellA c e (nI 2)
def lkI (c : Nat → Int32) (nm : Int32) (l : List Nat) : Int32 :=
  match l with
  | [] => -1
  | a :: l => if c (4 * a) = nm then nI a else lkI c nm l
def nmsI (c : Nat → Int32) (z : Int32) (l : List Nat) : Int32 :=
  match l with
  | [] => z
  | a :: l => nmsI c (z ||| (nI 1 <<< (c (4 * a) &&& 31))) l
def lastI (x : Nat) (l : List Nat) : Nat :=
  match l with
  | [] => x
  | a :: l => lastI a l
section KR
variable {Ls : Nat} {xs : Nat → Int32} {c t re en : Nat → Int32} {lf dn n : Int32} {M : mH}
theorem e_isDir {e : Int32} : mEv Ls xs 7 (0, [some (.ref 0), some (.int e)], [], (hV c t lf dn re en n M)) (rV (bI (dirC c e)) (hV c t lf dn re en n M)) := by
  refine fEv.br rfl (fun h1 => ?_) (fun h1 => ?_)
  · have : dirC c e = true := by unfold dirC; rw [decide_eq_true h1]; rfl
    rw [this]
    exact fEv.retV rfl (by decide)
  · refine fEv.calli rfl e_cellAt ?_
    refine fEv.br rfl (fun h2 => ?_) (fun h2 => ?_)
    · have : dirC c e = false := by unfold dirC; rw [decide_eq_false h1, decide_eq_false h2]; rfl
      rw [this]
      exact fEv.retV rfl (by decide)
    · have : dirC c e = true := by unfold dirC; rw [decide_eq_true (Decidable.of_not_not h2)]; simp
      rw [this]
      exact fEv.retV rfl (by decide)
theorem e_firstOf {e : Int32} : mEv Ls xs 11 (0, [some (.ref 0), some (.int e)], [], (hV c t lf dn re en n M)) (rV (fstC c e) (hV c t lf dn re en n M)) := by
  refine fEv.br rfl (fun h1 => ?_) (fun h1 => ?_)
  · refine fEv.calli rfl e_cellAt ?_
    have : fstC c e = cellA c e (nI 2) := by unfold fstC; rw [if_neg h1]
    rw [this]
    exact fEv.retV rfl rfl
  · have : fstC c e = nI 0 := by unfold fstC; rw [if_pos (Decidable.of_not_not h1)]
    rw [this]
    exact fEv.retV rfl rfl
theorem e_lengthOf {e : Int32} : mEv Ls xs 9 (0, [some (.ref 0), some (.int e)], [], (hV c t lf dn re en n M)) (rV (cellA c e (nI 3)) (hV c t lf dn re en n M)) := by
  refine fEv.calli rfl e_cellAt ?_
  exact fEv.retV rfl rfl
theorem en_loop {e nm : Int32} : ∀ (l : List Nat) (x : Int32) (st : Nat), Chain t x l → st + l.length ≤ 32 → mEv Ls xs 19 (21, [some (.ref 0), some (.int e), some (.int nm), some (.int x), some (.int (nI st))], [], hV c t lf dn re en n M) (rV (lkI c nm l) (hV c t lf dn re en n M)) := by
  intro l
  induction l with
  | nil =>
    intro x st hx hs
    have hx : x = -1 := hx
    subst hx
    refine fEv.br rfl (fun h1 => ?_) (fun h1 => ?_)
    · exact fEv.retV rfl rfl
    · refine fEv.calli rfl e_isC ?_
      rw [isC_m1]
      refine fEv.brT rfl (by decide) ?_
      exact fEv.retV rfl rfl
  | cons a l ih =>
    intro x st hx hs
    obtain ⟨rfl, ha, hc⟩ := hx
    simp only [List.length_cons] at hs
    refine fEv.brF rfl (decide_eq_false (nI_ge (a := st) (b := 32) (by omega) (by decide))) ?_
    refine fEv.calli rfl e_isC ?_
    rw [isC_nI ha]
    refine fEv.brF rfl (by decide) ?_
    refine fEv.calli rfl e_cellAt ?_
    rw [cellA_nI ha (by decide), Nat.add_zero]
    refine fEv.br rfl (fun h1 => ?_) (fun h1 => ?_)
    · have : lkI c nm (a :: l) = lkI c nm l := by rw [lkI, if_neg h1]
      rw [this]
      refine fEv.calli rfl e_nextAfter ?_
      rw [nextA_nI ha]
      have h2 := ih (t a) (st + 1) hc (by omega)
      rw [← nI_add] at h2
      exact fEv.steps 3 rfl h2
    · have : lkI c nm (a :: l) = nI a := by rw [lkI, if_pos (Decidable.of_not_not h1)]
      rw [this]
      exact fEv.retV rfl rfl
theorem e_entryNamed {e nm : Int32} {l : List Nat} (hd : dirC c e = true) (hc : Chain t (fstC c e) l) (hl : l.length ≤ 32) : mEv Ls xs 19 (0, [some (.ref 0), some (.int e), some (.int nm), none, none], [], (hV c t lf dn re en n M)) (rV (lkI c nm l) (hV c t lf dn re en n M)) := by
  refine fEv.calli rfl e_isDir ?_
  rw [hd]
  refine fEv.brF rfl (by decide) ?_
  refine fEv.calli rfl e_firstOf ?_
  exact fEv.steps 4 rfl (en_loop l _ 0 hc (by omega))
theorem e_entryNamedF {e nm : Int32} (hd : dirC c e = false) : mEv Ls xs 19 (0, [some (.ref 0), some (.int e), some (.int nm), none, none], [], (hV c t lf dn re en n M)) (rV (-1) (hV c t lf dn re en n M)) := by
  refine fEv.calli rfl e_isDir ?_
  rw [hd]
  refine fEv.brT rfl (by decide) ?_
  exact fEv.steps 4 rfl (en_loop [] _ 0 rfl (by decide))
theorem nm_loop {e : Int32} : ∀ (l : List Nat) (x z : Int32) (st : Nat), Chain t x l → st + l.length ≤ 32 → mEv Ls xs 24 (11, [some (.ref 0), some (.int e), some (.int z), some (.int x), some (.int (nI st))], [], hV c t lf dn re en n M) (rV (nmsI c z l &&& (-2)) (hV c t lf dn re en n M)) := by
  intro l
  induction l with
  | nil =>
    intro x z st hx hs
    have hx : x = -1 := hx
    subst hx
    refine fEv.br rfl (fun h1 => ?_) (fun h1 => ?_)
    · exact fEv.retV rfl rfl
    · refine fEv.calli rfl e_isC ?_
      rw [isC_m1]
      refine fEv.brT rfl (by decide) ?_
      exact fEv.retV rfl rfl
  | cons a l ih =>
    intro x z st hx hs
    obtain ⟨rfl, ha, hc⟩ := hx
    simp only [List.length_cons] at hs
    refine fEv.brF rfl (decide_eq_false (nI_ge (a := st) (b := 32) (by omega) (by decide))) ?_
    refine fEv.calli rfl e_isC ?_
    rw [isC_nI ha]
    refine fEv.brF rfl (by decide) ?_
    refine fEv.calli rfl e_cellAt ?_
    rw [cellA_nI ha (by decide), Nat.add_zero]
    refine fEv.calli rfl e_nextAfter ?_
    rw [nextA_nI ha]
    have h2 := ih (t a) (z ||| (nI 1 <<< (c (4 * a) &&& 31))) (st + 1) hc (by omega)
    rw [← nI_add] at h2
    exact fEv.steps 3 rfl h2
theorem e_namesIn {e : Int32} {l : List Nat} (hc : Chain t (fstC c e) l) (hl : l.length ≤ 32) : mEv Ls xs 24 (0, [some (.ref 0), some (.int e), none, none, none], [], (hV c t lf dn re en n M)) (rV (nmsI c (nI 0) l &&& (-2)) (hV c t lf dn re en n M)) := by
  refine fEv.calli rfl e_firstOf ?_
  exact fEv.steps 3 rfl (nm_loop l _ _ 0 hc (by omega))
theorem la_loop {x0 : Int32} : ∀ (l : List Nat) (a st : Nat), a < 32 → Chain t (t a) l → st + l.length ≤ 32 → mEv Ls xs 22 (4, [some (.ref 0), some (.int x0), some (.int (nI a)), some (.int (nI st))], [], hV c t lf dn re en n M) (rV (nI (lastI a l)) (hV c t lf dn re en n M)) := by
  intro l
  induction l with
  | nil =>
    intro a st ha hx hs
    have hx : t a = -1 := hx
    refine fEv.br rfl (fun h1 => ?_) (fun h1 => ?_)
    · exact fEv.retV rfl rfl
    · refine fEv.calli rfl e_nextAfter ?_
      rw [nextA_nI ha, hx]
      refine fEv.calli rfl e_isC ?_
      rw [isC_m1]
      refine fEv.brT rfl (by decide) ?_
      exact fEv.retV rfl rfl
  | cons b l ih =>
    intro a st ha hx hs
    obtain ⟨h0, hb, hc⟩ := hx
    simp only [List.length_cons] at hs
    refine fEv.brF rfl (decide_eq_false (nI_ge (a := st) (b := 32) (by omega) (by decide))) ?_
    refine fEv.calli rfl e_nextAfter ?_
    rw [nextA_nI ha, h0]
    refine fEv.calli rfl e_isC ?_
    rw [isC_nI hb]
    refine fEv.brF rfl (by decide) ?_
    refine fEv.calli rfl e_nextAfter ?_
    rw [nextA_nI ha, h0]
    have h2 := ih b (st + 1) hb hc (by omega)
    rw [← nI_add] at h2
    exact fEv.steps 3 rfl h2
theorem e_lastOfChain {a : Nat} {l : List Nat} (ha : a < 32) (hc : Chain t (t a) l) (hl : l.length ≤ 32) : mEv Ls xs 22 (0, [some (.ref 0), some (.int (nI a)), none, none], [], (hV c t lf dn re en n M)) (rV (nI (lastI a l)) (hV c t lf dn re en n M)) := fEv.steps 4 rfl (la_loop l a 0 ha hc (by omega))
theorem cp_loop {e i : Int32} : ∀ (q : Nat) (x : Int32) (l : List Nat), q < 1000 → Chain t x l → q < l.length → mEv Ls xs 10 (11, [some (.ref 0), some (.int e), some (.int i), some (.int x), some (.int (nI q))], [], hV c t lf dn re en n M) (rV (nI (l.getD q 0)) (hV c t lf dn re en n M)) := by
  intro q
  induction q with
  | zero =>
    intro x l _ hc hl
    cases l with
    | nil => cases hl
    | cons a l =>
      obtain ⟨rfl, ha, hc⟩ := hc
      refine fEv.brT rfl (by decide) ?_
      exact fEv.retV rfl rfl
  | succ q ih =>
    intro x l hq hc hl
    cases l with
    | nil => cases hl
    | cons a l =>
      obtain ⟨rfl, ha, hc⟩ := hc
      refine fEv.brF rfl (decide_eq_false (nI_nle (by omega) (by omega))) ?_
      refine fEv.calli rfl e_nextAfter ?_
      rw [nextA_nI ha]
      have h2 := ih (t a) l (by omega) hc (by simpa using hl)
      rw [← pk_m1] at h2
      exact fEv.steps 3 rfl h2
theorem e_clusterOfPlace {e : Int32} {i : Nat} {l : List Nat} (hi : i < 1000) (hc : Chain t (fstC c e) l) (hl : i / 4 < l.length) : mEv Ls xs 10 (0, [some (.ref 0), some (.int e), some (.int (nI i)), none, none], [], (hV c t lf dn re en n M)) (rV (nI (l.getD (i / 4) 0)) (hV c t lf dn re en n M)) := by
  refine fEv.calli rfl e_firstOf ?_
  have h2 := cp_loop (Ls := Ls) (xs := xs) (re := re) (en := en) (lf := lf) (dn := dn) (n := n) (M := M) (c := c) (e := e) (i := nI i) (i / 4) _ l (by omega) hc hl
  rw [← pk_div (d := 4) (by omega) (by decide) (by decide)] at h2
  exact fEv.steps 5 rfl h2
theorem ct_loop {j : Nat} (hj : j < 32) (hf : t j = -2) (hm : ∀ i, i < j → ¬ t i = -2) : ∀ (m i : Nat), i + m = j → mEv Ls xs 20 (2, [some (.ref 0), some (.int (nI i))], [], hV c t lf dn re en n M) (rV (nI j) (hV c t lf dn re en n M)) := by
  intro m
  induction m with
  | zero =>
    intro i hi
    have hi : i = j := hi
    subst hi
    refine fEv.brF rfl (decide_eq_false (nI_ge (b := 32) hj (by decide))) ?_
    refine fEv.calli rfl e_nextAfter ?_
    rw [nextA_nI hj, hf]
    refine fEv.brF rfl (by decide) ?_
    exact fEv.retV rfl rfl
  | succ m ih =>
    intro i hi
    refine fEv.brF rfl (decide_eq_false (nI_ge (a := i) (b := 32) (by omega) (by decide))) ?_
    refine fEv.calli rfl e_nextAfter ?_
    rw [nextA_nI (by omega)]
    refine fEv.brT rfl (decide_eq_true (hm i (by omega))) ?_
    have h2 := ih (i + 1) (by omega)
    rw [← nI_add] at h2
    exact fEv.steps 2 rfl h2
theorem e_take {j : Nat} (hj : j < 32) (hf : t j = -2) (hm : ∀ i, i < j → ¬ t i = -2) : mEv Ls xs 20 (0, [some (.ref 0), none], [], (hV c t lf dn re en n M)) (rV (nI j) (hV c t lf dn re en n M)) := fEv.steps 2 rfl (ct_loop hj hf hm j 0 (by omega))
theorem ctn_loop (hm : ∀ i, i < 32 → ¬ t i = -2) : ∀ (m i : Nat), i + m = 32 → mEv Ls xs 20 (2, [some (.ref 0), some (.int (nI i))], [], hV c t lf dn re en n M) (rX 4 (hV c t lf dn re en n M)) := by
  intro m
  induction m with
  | zero =>
    intro i hi
    have hi : i = 32 := hi
    subst hi
    refine fEv.brT rfl (by decide) ?_
    exact fEv.retX rfl rfl
  | succ m ih =>
    intro i hi
    refine fEv.brF rfl (decide_eq_false (nI_ge (a := i) (b := 32) (by omega) (by decide))) ?_
    refine fEv.calli rfl e_nextAfter ?_
    rw [nextA_nI (by omega)]
    refine fEv.brT rfl (decide_eq_true (hm i (by omega))) ?_
    have h2 := ih (i + 1) (by omega)
    rw [← nI_add] at h2
    exact fEv.steps 2 rfl h2
theorem e_takeN (hm : ∀ i, i < 32 → ¬ t i = -2) : mEv Ls xs 20 (0, [some (.ref 0), none], [], (hV c t lf dn re en n M)) (rX 4 (hV c t lf dn re en n M)) := fEv.steps 2 rfl (ctn_loop hm 32 0 (by omega))
end KR
