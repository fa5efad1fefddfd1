/-! a call on both sides -/
def I1 (c t : Nat → Int32) : Prop := ∃ ch R lv, Inv False c t ch R lv
def J1 (c t : Nat → Int32) : Prop := ∃ ch R lv, Inv True c t ch R lv
def St (c t : Nat → Int32) (dn : Int32) : Prop := (dn = 0 ∧ J1 c t) ∨ (dn = 1 ∧ I1 c t)
def xj (x5 j : Nat) : Nat := if j = 5 then x5 else j - 1
/-- the highest code of a method -/
def jmx (k x5 : Nat) : Nat := if k = 36 then 3 else if k = 38 then 1 else if x5 = 0 then 4 else 5
theorem jmx_pos (k x5 : Nat) : 1 ≤ jmx k x5 := by
  unfold jmx
  split
  · decide
  · split
    · decide
    · split <;> decide
def Op (Ls : Nat) (xs : Nat → Int32) (k k' : Nat) (av : List Value) (x5 : Nat) (c t : Nat → Int32) (lf dn : Int32) : Prop :=
  ∃ (c' t' : Nat → Int32) (lf' dn' : Int32) (j : Nat) (v : Int32), St c' t' dn' ∧ j ≤ jmx k x5 ∧
    (∀ re en n M, mEv Ls xs k (mEnt k (.ref 0 :: av) (hV c t lf dn re en n M)) (if j = 0 then rV v (hV c' t' lf' dn' re en n M) else rX (xj x5 j) (hV c' t' lf' dn' re en n M))) ∧
    (∀ P T cd mk hm he fr, ∃ w hm' he' fr', (j = 0 → w = v) ∧ mEv Ls xs k' (mEnt k' (.ref 6 :: av) (hM P T cd (c, t, lf, dn) mk hm he fr)) (rV w (hM P T (nI j) (c', t', lf', dn') mk hm' he' fr')))
section OP
variable {Ls : Nat} {xs : Nat → Int32} {k k' x5 : Nat} {av : List Value} {c t : Nat → Int32} {lf dn : Int32}
theorem Op.err (j : Nat) {x : Nat} (hj : ¬ j = 0) (hj5 : j ≤ jmx k x5) (hx : xj x5 j = x) (hs : St c t dn) (hc : ∀ re en n M, mEv Ls xs k (mEnt k (.ref 0 :: av) (hV c t lf dn re en n M)) (rX x (hV c t lf dn re en n M)))
    (hm : ∀ P T cd mk hm he fr, ∃ w hm' he' fr', mEv Ls xs k' (mEnt k' (.ref 6 :: av) (hM P T cd (c, t, lf, dn) mk hm he fr)) (rV w (hM P T (nI j) (c, t, lf, dn) mk hm' he' fr'))) : Op Ls xs k k' av x5 c t lf dn := by
  refine ⟨c, t, lf, dn, j, 0, hs, hj5, fun re en n M => ?_, fun P T cd mk hm' he fr => ?_⟩
  · rw [if_neg hj, hx]; exact hc re en n M
  · obtain ⟨w, a, b, d, h⟩ := hm P T cd mk hm' he fr
    exact ⟨w, a, b, d, fun z => absurd z hj, h⟩
theorem Op.val {v : Int32} (hs : St c t dn) (hc : ∀ re en n M, mEv Ls xs k (mEnt k (.ref 0 :: av) (hV c t lf dn re en n M)) (rV v (hV c t lf dn re en n M)))
    (hm : ∀ P T cd mk hm he fr, ∃ hm' he' fr', mEv Ls xs k' (mEnt k' (.ref 6 :: av) (hM P T cd (c, t, lf, dn) mk hm he fr)) (rV v (hM P T (nI 0) (c, t, lf, dn) mk hm' he' fr'))) : Op Ls xs k k' av x5 c t lf dn := by
  refine ⟨c, t, lf, dn, 0, v, hs, Nat.zero_le _, fun re en n M => ?_, fun P T cd mk hm' he fr => ?_⟩
  · rw [if_pos rfl]; exact hc re en n M
  · obtain ⟨a, b, d, h⟩ := hm P T cd mk hm' he fr
    exact ⟨v, a, b, d, fun _ => rfl, h⟩
theorem Op.wr {v : Int32} {ws : List Wr} (hs : SafeW I1 J1 ws c t) (hc : ∀ re en n M, mEv Ls xs k (mEnt k (.ref 0 :: av) (hV c t lf 0 re en n M)) (rsC re en n M (some (.int v)) ws c t lf))
    (hm : ∀ P T cd mk hm he fr, ∃ hm' he' fr', mEv Ls xs k' (mEnt k' (.ref 6 :: av) (hM P T cd (c, t, lf, 0) mk hm he fr)) (rE P T mk v (mws ws (c, t, lf, 0)) hm' he' fr')) : Op Ls xs k k' av x5 c t lf 0 := by
  have h1 := hs.run (lf := lf)
  have h2 := mws_rW ws c t lf
  cases hr : rW ws c t lf with
  | mk c' r =>
    obtain ⟨t', lf', b⟩ := r
    rw [hr] at h1 h2
    have h2 : mws ws (c, t, lf, 0) = (c', t', lf', bI b) := h2
    cases b with
    | true =>
      refine ⟨c', t', lf', 1, 1, v, Or.inr ⟨rfl, h1.1 rfl⟩, jmx_pos k x5, fun re en n M => ?_, fun P T cd mk hm' he fr => ?_⟩
      · have := hc re en n M
        unfold rsC at this
        rw [hr] at this
        rw [if_neg (by decide)]
        exact this
      · obtain ⟨a, b, d, h⟩ := hm P T cd mk hm' he fr
        unfold rE at h
        rw [h2, if_neg (show ¬ MS.dn (c', t', lf', bI true) = 0 by show ¬ (1 : Int32) = 0; decide), if_neg (show ¬ MS.dn (c', t', lf', bI true) = 0 by show ¬ (1 : Int32) = 0; decide)] at h
        exact ⟨_, a, b, d, fun z => absurd z (by decide), h⟩
    | false =>
      refine ⟨c', t', lf', 0, 0, v, Or.inl ⟨rfl, h1.2 rfl⟩, Nat.zero_le _, fun re en n M => ?_, fun P T cd mk hm' he fr => ?_⟩
      · have := hc re en n M
        unfold rsC at this
        rw [hr] at this
        rw [if_pos rfl]
        exact this
      · obtain ⟨a, b, d, h⟩ := hm P T cd mk hm' he fr
        unfold rE at h
        rw [h2, if_pos (show MS.dn (c', t', lf', bI false) = 0 by rfl), if_pos (show MS.dn (c', t', lf', bI false) = 0 by rfl)] at h
        exact ⟨_, a, b, d, fun _ => rfl, h⟩
end OP
/-- a path is bad or good -/
theorem path_cases (a : Int32) : badP a ∨ ∃ p : Nat, p < 65536 ∧ a = nI p ∧ okP p = true := by
  rcases pk_ix a (n := 65536) (by decide) with h | h | ⟨p, hp, rfl⟩
  · exact Or.inl (Or.inl (Or.inl h))
  · refine Or.inl (Or.inl (Or.inr ?_))
    have e : nI 65535 < nI 65536 := nI_lt (by decide) (by decide)
    exact Int32.lt_of_lt_of_le e h
  · rcases b_cases (okP p) with h | h
    · exact Or.inr ⟨p, hp, rfl, h⟩
    · exact Or.inl (Or.inr ⟨p, hp, rfl, h⟩)
theorem okN_of {u : Prop} {c t : Nat → Int32} {ch : Nat → List Nat} {R : Nat → Prop} {lv : Nat → Nat} (h : Inv u c t ch R lv) {p : Nat} (hp : R p) (hd : dirP c p = true) : okN c (ch p) := by
  obtain ⟨g1, g2, g3, g4, g5⟩ := h.2.2.2.1 p hp hd
  have hn : ∀ a ∈ ch p, c (4 * a) = nI (nmD c a) ∧ nmD c a ≤ 15 := by
    intro a ha
    unfold nmD
    rcases g3 a ha with e | ⟨⟨d, e1, e2, e3⟩, -⟩
    · rw [e]; exact ⟨rfl, by decide⟩
    · rw [e3, nI_clamp (by omega)]; exact ⟨rfl, e2⟩
  refine ⟨hn, fun a ha b hb hab h0 => ?_, (h.2.1 p hp).2.1⟩
  refine g4 a ha b hb ?_ ?_
  · rw [(hn a ha).1, (hn b hb).1, hab]
  · rw [(hn a ha).1]
    intro z
    have := hn a ha
    exact h0 ((nI_eq (by omega) (by decide)).mp z)
