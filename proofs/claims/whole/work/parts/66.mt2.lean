/-! the class's check -/
def pu : List Nat → (Nat → Int32) → Nat → (Nat → Int32)
  | [], en, _ => en
  | a :: l, en, n => pu l (upd en n (nI a)) (n + 1)
theorem pu_lt : ∀ (l : List Nat) (en : Nat → Int32) (n j : Nat), j < n → pu l en n j = en j := by
  intro l
  induction l with
  | nil => intro en n j _; rfl
  | cons a l ih =>
    intro en n j h
    rw [pu, ih _ _ _ (by omega), pk_un (by omega)]
theorem pu_ge : ∀ (l : List Nat) (en : Nat → Int32) (n j : Nat), j < l.length → pu l en n (n + j) = nI (l.getD j 0) := by
  intro l
  induction l with
  | nil => intro en n j h; cases h
  | cons a l ih =>
    intro en n j h
    cases j with
    | zero => rw [pu, pu_lt _ _ _ _ (by omega), Nat.add_zero, pk_us]; rfl
    | succ j =>
      rw [pu, show n + (j + 1) = n + 1 + j by omega, ih _ _ _ (by simpa using h)]
      rfl
def clr (re : Nat → Int32) (i : Nat) : Nat → Int32 := fun a => if a < i then 0 else re a
theorem clr_s {re : Nat → Int32} {i : Nat} : upd (clr re i) i 0 = clr re (i + 1) := by
  funext a
  by_cases e : a = i
  · subst e; rw [pk_us]; unfold clr; rw [if_pos (by omega)]
  · rw [pk_un e]
    unfold clr
    by_cases e2 : a < i
    · rw [if_pos e2, if_pos (by omega)]
    · rw [if_neg e2, if_neg (by omega)]
theorem clr_0 {re : Nat → Int32} : clr re 0 = re := by
  funext a; unfold clr; rw [if_neg (by omega)]
theorem getD_mid {D T : List Nat} {x : Nat} : (D ++ x :: T).getD D.length 0 = x := by
  induction D with
  | nil => rfl
  | cons a D ih => exact ih
theorem getD_app {Q l : List Nat} : ∀ {j : Nat}, j < Q.length → (Q ++ l).getD j 0 = Q.getD j 0 := by
  induction Q with
  | nil => intro j h; cases h
  | cons a Q ih =>
    intro j h
    cases j with
    | zero => rfl
    | succ j => exact ih (by simpa using h)
theorem getD_app2 {Q l : List Nat} {j : Nat} : (Q ++ l).getD (Q.length + j) 0 = l.getD j 0 := by
  induction Q with
  | nil => rw [List.nil_append, List.length_nil, Nat.zero_add]
  | cons a Q ih =>
    rw [List.length_cons, show Q.length + 1 + j = Q.length + j + 1 by omega]
    exact ih
section KM
variable {Ls : Nat} {xs : Nat → Int32} {c t re en : Nat → Int32} {lf dn n : Int32} {M : mH}
theorem rc_loop0 {x0 fl : Int32} (hfl : fl = 0) : ∀ (l : List Nat) (x : Int32) (st : Nat) (re : Nat → Int32), Chain t x l → st + l.length ≤ 32 → mEv Ls xs 5 (5, [some (.ref 0), some (.int x0), some (.int fl), some (.int x), some (.int (nI st))], [], hV c t lf dn re en n M) (rN (hV c t lf dn (mL re l) en n M)) := by
  intro l
  induction l with
  | nil =>
    intro x st re hx hs
    have hx : x = -1 := hx
    subst hx
    rw [mL_nil]
    refine fEv.br rfl (fun h1 => ?_) (fun h1 => ?_)
    · exact fEv.retV rfl rfl
    · refine fEv.calli rfl e_isC ?_
      rw [isC_m1]
      refine fEv.brT rfl (by decide) ?_
      exact fEv.retV rfl rfl
  | cons a l ih =>
    intro x st re hx hs
    obtain ⟨rfl, ha, hc⟩ := hx
    simp only [List.length_cons] at hs
    refine fEv.brF rfl (decide_eq_false (nI_ge (a := st) (b := 32) (by omega) (by decide))) ?_
    refine fEv.calli rfl e_isC ?_
    rw [isC_nI ha]
    refine fEv.brF rfl (by decide) ?_
    refine fEv.brT rfl (bT ha) ?_
    refine fEv.brT rfl (decide_eq_true hfl) ?_
    refine fEv.calli rfl e_nextAfter ?_
    rw [nextA_nI ha, kT ha]
    have h2 := ih (t a) (st + 1) (upd re a 1) hc (by omega)
    rw [← nI_add, mL_one, mL_app, ← mL_one] at h2
    exact fEv.steps 3 rfl h2
theorem rc_loop1 {x0 fl : Int32} (hfl : ¬ fl = 0) : ∀ (l : List Nat) (x : Int32) (st n : Nat) (re en : Nat → Int32), Chain t x l → st + l.length ≤ 32 → n + l.length ≤ 32 → mEv Ls xs 5 (5, [some (.ref 0), some (.int x0), some (.int fl), some (.int x), some (.int (nI st))], [], hV c t lf dn re en (nI n) M) (rN (hV c t lf dn (mL re l) (pu l en n) (nI (n + l.length)) M)) := by
  intro l
  induction l with
  | nil =>
    intro x st n re en hx hs hn
    have hx : x = -1 := hx
    subst hx
    rw [mL_nil]
    refine fEv.br rfl (fun h1 => ?_) (fun h1 => ?_)
    · exact fEv.retV rfl rfl
    · refine fEv.calli rfl e_isC ?_
      rw [isC_m1]
      refine fEv.brT rfl (by decide) ?_
      exact fEv.retV rfl rfl
  | cons a l ih =>
    intro x st n re en hx hs hn
    obtain ⟨rfl, ha, hc⟩ := hx
    simp only [List.length_cons] at hs hn
    refine fEv.brF rfl (decide_eq_false (nI_ge (a := st) (b := 32) (by omega) (by decide))) ?_
    refine fEv.calli rfl e_isC ?_
    rw [isC_nI ha]
    refine fEv.brF rfl (by decide) ?_
    refine fEv.brT rfl (bT ha) ?_
    refine fEv.brF rfl (decide_eq_false hfl) ?_
    refine fEv.brF rfl (decide_eq_false (nI_ge (a := n) (b := 32) (by omega) (by decide))) ?_
    refine fEv.brT rfl (bT (a := n) (by omega)) ?_
    refine fEv.calli rfl e_nextAfter ?_
    rw [nextA_nI ha, kT ha, kT (show n < 32 by omega)]
    have h2 := ih (t a) (st + 1) (n + 1) (upd re a 1) (upd en n (nI a)) hc (by omega) (by omega)
    rw [← nI_add, mL_one, mL_app, ← mL_one, show n + 1 + l.length = n + (l.length + 1) by omega, ← nI_add (a := n)] at h2
    exact fEv.steps 3 rfl h2
theorem e_reach0 {x fl : Int32} {l : List Nat} (hfl : fl = 0) (hc : Chain t x l) (hl : l.length ≤ 32) : mEv Ls xs 5 (0, [some (.ref 0), some (.int x), some (.int fl), none, none], [], (hV c t lf dn re en n M)) (rN (hV c t lf dn (mL re l) en n M)) := fEv.steps 4 rfl (rc_loop0 hfl l x 0 re hc (by omega))
theorem e_reach1 {x fl : Int32} {l : List Nat} {n : Nat} (hfl : ¬ fl = 0) (hc : Chain t x l) (hl : l.length ≤ 32) (hn : n + l.length ≤ 32) : mEv Ls xs 5 (0, [some (.ref 0), some (.int x), some (.int fl), none, none], [], (hV c t lf dn re en (nI n) M)) (rN (hV c t lf dn (mL re l) (pu l en n) (nI (n + l.length)) M)) := fEv.steps 4 rfl (rc_loop1 hfl l x 0 n re en hc (by omega) hn)
theorem e_cut0 {q : Nat} (hq : q < 32) (hl : c (4 * q + 3) = nI 0) : mEv Ls xs 8 (0, [some (.ref 0), some (.int (nI q)), none], [], (hV c t lf dn re en n M)) (rN (hV c t lf dn re en n M)) := by
  refine fEv.calli rfl (e_lenN hq) ?_
  rw [hl]
  refine fEv.brT rfl (by decide) ?_
  exact fEv.retV rfl rfl
theorem e_cut1 {q m : Nat} {l : List Nat} (hlf : lf = -1) (hq : q < 32) (hl : c (4 * q + 3) = nI (m + 1)) (hm : m < 200) (hc : Chain t (c (4 * q + 2)) l) (hml : m / 4 < l.length) : mEv Ls xs 8 (0, [some (.ref 0), some (.int (nI q)), none], [], (hV c t lf dn re en n M)) (rN (hV c (upd t (l.getD (m / 4) 0) (-1)) lf dn re en n M)) := by
  subst hlf
  have hlt : l.getD (m / 4) 0 < 32 := hc.lt _ (getD_mem hml)
  refine fEv.calli rfl (e_lenN hq) ?_
  rw [hl]
  refine fEv.brF rfl (decide_eq_false (nI_nle (by omega) (by omega))) ?_
  have h2 := e_clusterOfPlace (Ls := Ls) (xs := xs) (c := c) (t := t) (lf := -1) (dn := dn) (re := re) (en := en) (n := n) (M := M) (e := nI q) (i := m) (l := l) (by omega) (by unfold fstC; rw [if_neg (nI_ne3 hq), cellA_nI hq (by decide)]; exact hc) hml
  rw [show nI m = nI (m + 1) - nI 1 by rw [pk_sub (by omega)]; rfl] at h2
  refine fEv.calli rfl h2 ?_
  refine fEv.calln rfl (e_writeTable1 (by decide) hlt) ?_
  exact fEv.retV rfl rfl
end KM
