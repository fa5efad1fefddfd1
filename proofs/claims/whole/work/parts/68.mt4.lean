/-! the class's mount, whole -/
section KO
variable {Ls : Nat} {xs : Nat → Int32} {c t re en : Nat → Int32} {lf dn n : Int32} {M : mH} {u : Prop} {ch : Nat → List Nat} {R : Nat → Prop} {lv : Nat → Nat}
theorem fu_loop : ∀ (m i : Nat), i + m = 32 → mEv Ls xs 12 (4, [some (.ref 0), some (.int (nI (sw re t i).2)), some (.int (nI i))], [], hV c (sw re t i).1 (-1) 0 re en n M) (rV (nI (sw re t 32).2) (hV c (sw re t 32).1 (-1) 0 re en n M)) := by
  intro m
  induction m with
  | zero =>
    intro i hi
    have hi : i = 32 := hi
    subst hi
    refine fEv.brT rfl (by decide) ?_
    exact fEv.retV rfl rfl
  | succ m ih =>
    intro i hi
    have hi3 : i < 32 := by omega
    have h2 := ih (i + 1) (by omega)
    rw [← nI_add, sw] at h2
    refine fEv.brF rfl (decide_eq_false (nI_ge (a := i) (b := 32) (by omega) (by decide))) ?_
    refine fEv.brT rfl (bT hi3) ?_
    rw [kT hi3]
    refine fEv.br rfl (fun h1 => ?_) (fun h1 => ?_)
    · rw [if_neg (fun z => h1 z.1)] at h2
      exact fEv.steps 2 rfl h2
    · refine fEv.calli rfl e_nextAfter ?_
      rw [nextA_nI hi3]
      refine fEv.br rfl (fun h3 => ?_) (fun h3 => ?_)
      · rw [if_neg (fun z => z.2 h3)] at h2
        exact fEv.steps 2 rfl h2
      · rw [if_pos ⟨Decidable.of_not_not h1, h3⟩] at h2
        refine fEv.calln rfl (e_writeTable1 (by decide) hi3) ?_
        have h2 : mEv Ls xs 12 (4, [some (.ref 0), some (.int (nI ((sw re t i).2 + 1))), some (.int (nI i + nI 1))], [], hV c (upd (sw re t i).1 i (-2)) (-1) 0 re en n M) (rV (nI (sw re t 32).2) (hV c (sw re t 32).1 (-1) 0 re en n M)) := h2
        rw [← nI_add] at h2
        exact fEv.steps 3 rfl h2
theorem e_freeUn : mEv Ls xs 12 (0, [some (.ref 0), none, none], [], (hV c t (-1) 0 re en n M)) (rV (nI (sw re t 32).2) (hV c (sw re t 32).1 (-1) 0 re en n M)) := fEv.steps 4 rfl (fu_loop (t := t) 32 0 (by omega))
theorem e_power : mEv Ls xs 42 (0, [some (.ref 1)], [], (hV c t lf dn re en n M)) (rN (hV c t (-1) 0 re en n M)) := fEv.retV rfl rfl
theorem e_check (h : Inv u c t ch R lv) : ∃ Q W en', (∀ x, x ∈ Q ↔ Vx c ch R x) ∧ (∀ a, a ∈ W ↔ a ∈ cov c ch Q) ∧ mEv Ls xs 4 (0, [some (.ref 0), none, none, none], [], (hV c t (-1) 0 re en n M)) (rN (hV c (tL t (cut c ch Q)) (-1) 0 (mL (clr re 32) W) en' (nI Q.length) M)) := by
  have hl := h.len h.r32
  have hc : Chain t (nI 0) (ch 32) := h.chain h.r32
  have hb : Bf c ch R [] (ch 32) (ch 32) (pu (ch 32) en 0) := by
    unfold Bf
    rw [List.nil_append]
    refine ⟨fun x hx => ⟨32, h.r32, dirP_32, hx⟩, (h.2.1 32 h.r32).2.1, fun j hj => ?_, ⟨fun x hx => hx, fun p hp => by cases hp⟩, fun x hx => Or.inl hx, fun a => ⟨fun z => Or.inl z, fun z => ?_⟩⟩
    · have := pu_ge (ch 32) en 0 j hj
      rwa [Nat.zero_add] at this
    · rcases z with z | ⟨x, hx, -⟩
      · exact z
      · cases hx
  obtain ⟨Q, W, en', g1, g2, g3⟩ := bf_loop (Ls := Ls) (xs := xs) (M := M) (re0 := clr re 32) h 32 [] (ch 32) (ch 32) (pu (ch 32) en 0) none none (Or.inl rfl) (Or.inl rfl) (by decide) hb
  refine ⟨Q, W, en', g1, g2, ?_⟩
  have e0 : cut c ch [] = [] := rfl
  rw [e0, tL_nil, List.nil_append] at g3
  have h1 := cl_loop (Ls := Ls) (xs := xs) (c := c) (t := t) (re := re) (en := en) (lf := -1) (dn := 0) (n := n) (M := M) (r := rN (hV c (tL t (cut c ch Q)) (-1) 0 (mL (clr re 32) W) en' (nI Q.length) M)) (fun o => by
    have h5 := e_reach1 (Ls := Ls) (xs := xs) (c := c) (t := t) (re := clr re 32) (en := en) (lf := -1) (dn := 0) (n := 0) (M := M) (x := nI 0) (fl := nI 1) (by decide) hc hl (by omega)
    rw [Nat.zero_add] at h5
    refine fEv.calln rfl h5 ?_
    exact fEv.steps 2 rfl g3) 32 0 (by omega)
  rw [clr_0] at h1
  exact fEv.steps 2 rfl h1
theorem e_mount (h : Inv u c t ch R lv) : ∃ Q W en' n', (∀ x, x ∈ Q ↔ Vx c ch R x) ∧ (∀ a, a ∈ W ↔ a ∈ cov c ch Q) ∧ mEv Ls xs 3 (0, [some (.ref 0)], [], (hV c t lf dn re en n M)) (rV (nI (sw (mL (clr re 32) W) (tL t (cut c ch Q)) 32).2) (hV c (sw (mL (clr re 32) W) (tL t (cut c ch Q)) 32).1 (-1) 0 (mL (clr re 32) W) en' n' M)) := by
  obtain ⟨Q, W, en', g1, g2, g3⟩ := e_check (Ls := Ls) (xs := xs) (re := re) (en := en) (n := n) (M := M) h
  refine ⟨Q, W, en', nI Q.length, g1, g2, ?_⟩
  refine fEv.calln rfl e_power ?_
  refine fEv.calln rfl g3 ?_
  refine fEv.calli rfl e_freeUn ?_
  exact fEv.retV rfl rfl
end KO
