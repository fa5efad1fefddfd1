/-! the model's check -/
section KQ
variable {Ls : Nat} {xs : Nat → Int32} {P : Px} {T : mH} {cd hm he fr lf dn : Int32} {c t mk : Nat → Int32}
theorem nt_loop {x : Nat} {fl : Int32} {k : Nat} (hk : k ≤ 32) : ∀ (K : List Nat) (t : Nat → Int32) (f : Int32) (i : Nat) (mk : Nat → Int32) (o6 : Option Value), oInt o6 → i + K.length = k → Pf t f K → mEv Ls xs 84 (76, [some (.ref 6), some (.int (nI x)), some (.int fl), some (.int (nI k)), some (.int f), some (.int (nI i)), o6], [], hM P T cd (c, t, lf, dn) mk hm he fr) (rN (hM P T cd (c, tL t (lastL K), lf, dn) (mL mk K) hm he fr)) := by
  intro K
  induction K with
  | nil =>
    intro t f i mk o6 h6 hi _
    have hi : i = k := hi
    subst hi
    have e0 : lastL [] = [] := rfl
    rw [e0, tL_nil, mL_nil]
    refine fEv.brT rfl (decide_eq_true (Int32.le_refl _)) ?_
    exact fEv.retV rfl rfl
  | cons a K ih =>
    intro t f i mk o6 h6 hi hp
    obtain ⟨rfl, ha, hp⟩ := hp
    simp only [List.length_cons] at hi
    refine fEv.brF rfl (decide_eq_false (nI_ge (a := i) (b := k) (by omega) (by omega))) ?_
    refine fEv.brT rfl (bT ha) ?_
    refine fEv.brT rfl (bT ha) ?_
    cases K with
    | nil =>
      simp only [List.length_nil] at hi
      refine fEv.brF rfl (decide_eq_false (fun z => z (by show nI i = nI k - nI 1; rw [pk_sub (by omega)]; congr 1; omega))) ?_
      refine fEv.brT rfl (bT ha) ?_
      rw [kT ha]
      have h2 := ih (upd t a (-1)) (t a) (i + 1) (upd mk a 1) (some (.int (t a))) (Or.inr ⟨_, rfl⟩) (by simp; omega) trivial
      have e0 : lastL [] = [] := rfl
      have e1 : lastL [a] = [a] := rfl
      rw [← nI_add, e0, tL_nil, mL_nil] at h2
      rw [e1, ← tL_one, ← mL_one]
      exact fEv.steps 4 rfl h2
    | cons b K =>
      refine fEv.brT rfl (decide_eq_true (fun z => ?_)) ?_
      · have z : nI i = nI k - nI 1 := z
        rw [pk_sub (by omega)] at z
        have := (nI_eq (by omega) (by omega)).mp z
        simp only [List.length_cons] at hi
        omega
      · refine fEv.brT rfl (bT ha) ?_
        rw [kT ha]
        have h2 := ih (upd t a (t a)) (t a) (i + 1) (upd mk a 1) (some (.int (t a))) (Or.inr ⟨_, rfl⟩) (by simp only [List.length_cons] at hi ⊢; omega) (by rw [upd_self rfl]; exact hp)
        have e1 : lastL (a :: b :: K) = lastL (b :: K) := rfl
        rw [← nI_add, mL_one, mL_app, ← mL_one] at h2
        rw [e1]
        have e2 : tL t (lastL (b :: K)) = tL (upd t a (t a)) (lastL (b :: K)) := by rw [upd_self rfl]
        rw [e2]
        exact fEv.steps 4 rfl h2
theorem m_note0 {x : Nat} (hx : x < 32) (hf : c (4 * x) ≤ 0 ∨ ¬ c (4 * x + 1) = nI 1) : mEv Ls xs 84 (0, [some (.ref 6), some (.int (nI x)), none, none, none, none, none], [], (hM P T cd (c, t, lf, dn) mk hm he fr)) (rN (hM P T cd (c, t, lf, dn) (upd mk x 1) hm he fr)) := by
  have fin : ∀ fl : Int32, fl = 0 → mEv Ls xs 84 (38, [some (.ref 6), some (.int (nI x)), some (.int fl), none, none, none, none], [], hM P T cd (c, t, lf, dn) (upd mk x 1) hm he fr) (rN (hM P T cd (c, t, lf, dn) (upd mk x 1) hm he fr)) := by
    rintro fl rfl
    refine fEv.brT rfl (by decide) ?_
    refine fEv.brT rfl (b4i hx (i := 2) (by decide)) ?_
    rw [k4i hx (by decide)]
    refine fEv.brT rfl (by decide) ?_
    exact fEv.retV rfl rfl
  refine fEv.brT rfl (bT hx) ?_
  rw [kT hx]
  refine fEv.brT rfl (b4 hx) ?_
  rw [k4 hx]
  refine fEv.br rfl (fun h1 => ?_) (fun h1 => ?_)
  · exact fEv.steps 2 rfl (fin (nI 0) rfl)
  · have h1 : ¬ c (4 * x) ≤ 0 := h1
    refine fEv.brT rfl (b4i hx (i := 1) (by decide)) ?_
    rw [k4i hx (by decide)]
    refine fEv.brT rfl (decide_eq_true (hf.resolve_left h1)) ?_
    exact fEv.steps 2 rfl (fin (nI 0) rfl)
theorem m_note1 {x len : Nat} {K : List Nat} (hx : x < 32) (h0 : ¬ c (4 * x) ≤ 0) (h1 : c (4 * x + 1) = nI 1) (hl : c (4 * x + 3) = nI len) (hlen : len ≤ 128) (hK : K.length = (len + 3) / 4) (hP : Pf t (c (4 * x + 2)) K) : mEv Ls xs 84 (0, [some (.ref 6), some (.int (nI x)), none, none, none, none, none], [], (hM P T cd (c, t, lf, dn) mk hm he fr)) (rN (hM P T cd (c, tL t (lastL K), lf, dn) (mL (upd mk x 1) K) hm he fr)) := by
  refine fEv.brT rfl (bT hx) ?_
  rw [kT hx]
  refine fEv.brT rfl (b4 hx) ?_
  rw [k4 hx]
  refine fEv.brF rfl (decide_eq_false h0) ?_
  refine fEv.brT rfl (b4i hx (i := 1) (by decide)) ?_
  rw [k4i hx (by decide)]
  refine fEv.brF rfl (decide_eq_false (fun z => z h1)) ?_
  refine fEv.brF rfl (by decide) ?_
  refine fEv.brT rfl (b4i hx (i := 3) (by decide)) ?_
  rw [k4i hx (by decide)]
  rw [show MS.c (c, t, lf, dn) (4 * x + 3) = nI len from hl]
  refine fEv.brT rfl (b4i hx (i := 2) (by decide)) ?_
  rw [k4i hx (by decide)]
  have h2 := nt_loop (Ls := Ls) (xs := xs) (P := P) (T := T) (cd := cd) (hm := hm) (he := he) (fr := fr) (lf := lf) (dn := dn) (c := c) (x := x) (fl := nI 1) (k := (len + 3) / 4) (by omega) K t (c (4 * x + 2)) 0 (upd mk x 1) none (Or.inl rfl) (by omega) hP
  rw [← pk_div (a := len + 3) (d := 4) (by omega) (by decide) (by decide), ← nI_add] at h2
  exact fEv.steps 3 rfl h2
theorem m_below0 {x : Nat} (hx : x < 32) (hf : c (4 * x) ≤ 0 ∨ ¬ c (4 * x + 1) = nI 2) : mEv Ls xs 85 (0, [some (.ref 6), some (.int (nI x))], [], (hM P T cd (c, t, lf, dn) mk hm he fr)) (rV (-1) (hM P T cd (c, t, lf, dn) mk hm he fr)) := by
  refine fEv.brT rfl (b4 hx) ?_
  rw [k4 hx]
  refine fEv.br rfl (fun h1 => ?_) (fun h1 => ?_)
  · exact fEv.retV rfl rfl
  · have h1 : ¬ c (4 * x) ≤ 0 := h1
    refine fEv.brT rfl (b4i hx (i := 1) (by decide)) ?_
    rw [k4i hx (by decide)]
    refine fEv.brT rfl (decide_eq_true (hf.resolve_left h1)) ?_
    exact fEv.retV rfl rfl
theorem m_below1 {x : Nat} (hx : x < 32) (h0 : ¬ c (4 * x) ≤ 0) (h1 : c (4 * x + 1) = nI 2) : mEv Ls xs 85 (0, [some (.ref 6), some (.int (nI x))], [], (hM P T cd (c, t, lf, dn) mk hm he fr)) (rV (c (4 * x + 2)) (hM P T cd (c, t, lf, dn) mk hm he fr)) := by
  refine fEv.brT rfl (b4 hx) ?_
  rw [k4 hx]
  refine fEv.brF rfl (decide_eq_false h0) ?_
  refine fEv.brT rfl (b4i hx (i := 1) (by decide)) ?_
  rw [k4i hx (by decide)]
  refine fEv.brF rfl (decide_eq_false (fun z => z h1)) ?_
  refine fEv.brT rfl (b4i hx (i := 2) (by decide)) ?_
  rw [k4i hx (by decide)]
  exact fEv.retV rfl rfl
end KQ
