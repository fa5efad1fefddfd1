/-! what always holds -/
def iE (c : Nat → Int32) (R : Nat → Prop) (lv : Nat → Nat) (p a : Nat) : Prop := (∃ d, 1 ≤ d ∧ d ≤ 15 ∧ c (4 * a) = nI d) ∧ R a ∧ lv a = lv p + 1 ∧ (c (4 * a + 1) = nI 1 ∨ c (4 * a + 1) = nI 2)
def iD (c t : Nat → Int32) (ch : Nat → List Nat) (R : Nat → Prop) (lv : Nat → Nat) (p : Nat) : Prop :=
  Chain t (fsP c p) (ch p) ∧ (lv p = 4 → ch p = []) ∧ (∀ a ∈ ch p, c (4 * a) = nI 0 ∨ iE c R lv p a) ∧ (∀ a ∈ ch p, ∀ b ∈ ch p, c (4 * a) = c (4 * b) → ¬ c (4 * a) = nI 0 → a = b) ∧ (p < 32 → c (4 * p + 3) = nI 0)
def iF (u : Prop) (c t : Nat → Int32) (ch : Nat → List Nat) (p : Nat) : Prop :=
  Chain t (c (4 * p + 2)) (ch p) ∧ ∃ len, c (4 * p + 3) = nI len ∧ len ≤ 4 * (ch p).length ∧ (len = 0 → ch p = []) ∧ (u → (ch p).length = (len + 3) / 4)
def iR (c : Nat → Int32) (ch : Nat → List Nat) (R : Nat → Prop) (lv : Nat → Nat) (p : Nat) : Prop := lv p ≤ 4 ∧ (ch p).Nodup ∧ (p = 32 ∨ (p < 32 ∧ ∃ q, R q ∧ dirP c q = true ∧ p ∈ ch q ∧ ¬ c (4 * p) = nI 0))
def Inv (u : Prop) (c t : Nat → Int32) (ch : Nat → List Nat) (R : Nat → Prop) (lv : Nat → Nat) : Prop :=
  (R 32 ∧ lv 32 = 0) ∧ (∀ p, R p → iR c ch R lv p) ∧ (∀ p q, R p → R q → p ≠ q → ∀ a ∈ ch p, a ∉ ch q) ∧ (∀ p, R p → dirP c p = true → iD c t ch R lv p) ∧ (∀ p, R p → dirP c p = false → iF u c t ch p)
theorem Chain_congr {t t' : Nat → Int32} : ∀ {l : List Nat} {x : Int32}, Chain t x l → (∀ a ∈ l, t' a = t a) → Chain t' x l := by
  intro l
  induction l with
  | nil => intro x h _; exact h
  | cons a l ih =>
    intro x h ha
    refine ⟨h.1, h.2.1, ?_⟩
    rw [ha a List.mem_cons_self]
    exact ih h.2.2 (fun b hb => ha b (List.mem_cons_of_mem _ hb))
theorem Chain_nf {t : Nat → Int32} : ∀ {l : List Nat} {x : Int32}, Chain t x l → ∀ a ∈ l, ¬ t a = -2 := by
  intro l
  induction l with
  | nil => intro x _ a ha; cases ha
  | cons b l ih =>
    intro x h a ha
    rcases List.mem_cons.mp ha with rfl | ha
    · cases l with
      | nil => have : t a = -1 := h.2.2; rw [this]; decide
      | cons y l =>
        have h1 : t a = nI y := h.2.2.1
        have h2 : y < 32 := h.2.2.2.1
        rw [h1]
        intro q
        have := congrArg Int32.toInt q
        rw [nI_toInt (by omega)] at this
        have e : (-2 : Int32).toInt = -2 := by decide
        omega
    · exact ih h.2.2 a ha
theorem nodup_le : ∀ (n : Nat) (l : List Nat), l.Nodup → (∀ a ∈ l, a < n) → l.length ≤ n := by
  intro n
  induction n with
  | zero =>
    intro l _ h
    cases l with
    | nil => exact Nat.le_refl _
    | cons a l => exact absurd (h a List.mem_cons_self) (by omega)
  | succ n ih =>
    intro l hn h
    have h1 := ih (l.erase n) (hn.erase n) (by
      intro a ha
      have h2 := (List.Nodup.mem_erase_iff hn).mp ha
      have := h a h2.2
      have := h2.1
      omega)
    by_cases hm : n ∈ l
    · rw [List.length_erase_of_mem hm] at h1
      omega
    · rw [List.erase_of_not_mem hm] at h1
      omega
theorem dirP_congr {c c' : Nat → Int32} {p : Nat} (h : c' (4 * p + 1) = c (4 * p + 1)) : dirP c' p = dirP c p := by unfold dirP; rw [h]
theorem fsP_congr {c c' : Nat → Int32} {p : Nat} (h : c' (4 * p + 2) = c (4 * p + 2)) : fsP c' p = fsP c p := by unfold fsP; rw [h]
theorem dirP_32 {c : Nat → Int32} : dirP c 32 = true := by unfold dirP; simp
theorem b_cases (b : Bool) : b = true ∨ b = false := by cases b <;> simp
section IV
variable {u : Prop} {c t c' t' : Nat → Int32} {ch : Nat → List Nat} {R : Nat → Prop} {lv : Nat → Nat}
theorem Inv.weak (h : Inv u c t ch R lv) : Inv False c t ch R lv := by
  refine ⟨h.1, h.2.1, h.2.2.1, h.2.2.2.1, fun p hp hd => ?_⟩
  obtain ⟨h1, len, h2, h3, h4, -⟩ := h.2.2.2.2 p hp hd
  exact ⟨h1, len, h2, h3, h4, fun q => q.elim⟩
theorem Inv.chain (h : Inv u c t ch R lv) {p : Nat} (hp : R p) : Chain t (fsP c p) (ch p) := by
  rcases b_cases (dirP c p) with hd | hd
  · exact (h.2.2.2.1 p hp hd).1
  · have := (h.2.2.2.2 p hp hd).1
    unfold fsP
    rw [if_neg (by intro q; rw [q, dirP_32] at hd; cases hd)]
    exact this
theorem Inv.lt (h : Inv u c t ch R lv) {p a : Nat} (hp : R p) (ha : a ∈ ch p) : a < 32 := (h.chain hp).lt a ha
theorem Inv.le (h : Inv u c t ch R lv) {p : Nat} (hp : R p) : p ≤ 32 := by
  rcases (h.2.1 p hp).2.2 with e | e
  · omega
  · have := e.1; omega
theorem Inv.len (h : Inv u c t ch R lv) {p : Nat} (hp : R p) : (ch p).length ≤ 32 := nodup_le 32 _ (h.2.1 p hp).2.1 (fun _ ha => h.lt hp ha)
theorem Inv.rc (h : Inv u c t ch R lv) : Rc c t ch R := by
  intro p hp
  refine ⟨h.le hp, fun hd => ⟨h.chain hp, h.len hp, fun a ha h0 => ?_⟩⟩
  rcases (h.2.2.2.1 p hp hd).2.2.1 a ha with e | e
  · exact absurd e h0
  · exact ⟨e.2.1, h.lt hp ha⟩
theorem Inv.r32 (h : Inv u c t ch R lv) : R 32 := h.1.1
theorem Inv.owned (h : Inv u c t ch R lv) {p a : Nat} (hp : R p) (ha : a ∈ ch p) : ¬ t a = -2 := Chain_nf (h.chain hp) a ha
theorem Inv.notR (h : Inv u c t ch R lv) {a : Nat} (ha : a < 32) (hf : t a = -2) : ¬ R a := by
  intro hR
  rcases (h.2.1 a hR).2.2 with e | ⟨-, q, hq, -, hm, -⟩
  · omega
  · exact h.owned hq hm hf
theorem Inv.notIn (h : Inv u c t ch R lv) {a : Nat} (hf : t a = -2) : ∀ p, R p → a ∉ ch p := fun _ hp ha => h.owned hp ha hf
/-- what is owned stays -/
theorem Inv.frame (h : Inv u c t ch R lv) (ht : ∀ p, R p → ∀ a ∈ ch p, t' a = t a) (hc : ∀ p, R p → dirP c p = true → ∀ a ∈ ch p, ∀ i, i < 4 → c' (4 * a + i) = c (4 * a + i)) : Inv u c' t' ch R lv := by
  obtain ⟨h1, h2, h3, h4, h5⟩ := h
  have hcell : ∀ p, R p → ¬ p = 32 → ∀ i, i < 4 → c' (4 * p + i) = c (4 * p + i) := by
    intro p hp hn i hi
    rcases (h2 p hp).2.2 with e | ⟨-, q, hq, hd, hm, -⟩
    · exact absurd e hn
    · exact hc q hq hd p hm i hi
  have hdir : ∀ p, R p → dirP c' p = dirP c p := by
    intro p hp
    by_cases e : p = 32
    · rw [e, dirP_32, dirP_32]
    · exact dirP_congr (hcell p hp e 1 (by decide))
  have hfs : ∀ p, R p → fsP c' p = fsP c p := by
    intro p hp
    by_cases e : p = 32
    · rw [e]; rfl
    · exact fsP_congr (hcell p hp e 2 (by decide))
  refine ⟨h1, fun p hp => ?_, h3, fun p hp hd => ?_, fun p hp hd => ?_⟩
  · obtain ⟨g1, g2, g3⟩ := h2 p hp
    refine ⟨g1, g2, ?_⟩
    rcases g3 with e | ⟨e1, q, hq, hd, hm, hn⟩
    · exact Or.inl e
    · refine Or.inr ⟨e1, q, hq, by rw [hdir q hq]; exact hd, hm, ?_⟩
      rw [show c' (4 * p) = c (4 * p) from hc q hq hd p hm 0 (by decide)]
      exact hn
  · rw [hdir p hp] at hd
    obtain ⟨g1, g2, g3, g4, g5⟩ := h4 p hp hd
    have e0 : ∀ a ∈ ch p, c' (4 * a) = c (4 * a) := fun a ha => hc p hp hd a ha 0 (by decide)
    refine ⟨by rw [hfs p hp]; exact Chain_congr g1 (ht p hp), g2, fun a ha => ?_, fun a ha b hb => ?_, fun hl => ?_⟩
    · rcases g3 a ha with e | ⟨e1, e2, e3, e4⟩
      · exact Or.inl (by rw [e0 a ha]; exact e)
      · refine Or.inr ⟨by rw [e0 a ha]; exact e1, e2, e3, ?_⟩
        rw [hc p hp hd a ha 1 (by decide)]; exact e4
    · rw [e0 a ha, e0 b hb]; exact g4 a ha b hb
    · rw [hcell p hp (by omega) 3 (by decide)]; exact g5 hl
  · rw [hdir p hp] at hd
    obtain ⟨g1, len, g2, g3, g4, g5⟩ := h5 p hp hd
    have e : ¬ p = 32 := by intro q; rw [q, dirP_32] at hd; cases hd
    refine ⟨by rw [hcell p hp e 2 (by decide)]; exact Chain_congr g1 (ht p hp), len, by rw [hcell p hp e 3 (by decide)]; exact g2, g3, g4, g5⟩
/-- an entry comes to the directory q -/
theorem Inv.add (h : Inv u c t ch R lv) {q a d : Nat} {L : List Nat} (hq : R q) (hqd : dirP c q = true) (hlv : lv q ≤ 3) (ha : ¬ R a) (ha3 : a < 32) (hown : ∀ p, R p → p ≠ q → a ∉ ch p) (haL : a ∈ L) (hLn : L.Nodup) (hL : ∀ x ∈ L, x = a ∨ x ∈ ch q) (hL2 : ∀ x ∈ ch q, x ∈ L)
    (hc : ∀ p i, p ≠ a → i < 4 → ¬ (p = q ∧ i = 2) → c' (4 * p + i) = c (4 * p + i)) (hd1 : 1 ≤ d) (hd2 : d ≤ 15) (h0 : c' (4 * a) = nI d) (hk : c' (4 * a + 1) = nI 1 ∨ c' (4 * a + 1) = nI 2) (hf : c' (4 * a + 2) = -1) (hz : c' (4 * a + 3) = nI 0)
    (hch : Chain t' (fsP c' q) L) (ht : ∀ p, R p → p ≠ q → ∀ x ∈ ch p, t' x = t x) (hnm : ∀ x ∈ ch q, x ≠ a → ¬ c (4 * x) = nI d) :
    Inv u c' t' (fun x => if x = a then [] else if x = q then L else ch x) (fun x => R x ∨ x = a) (fun x => if x = a then lv q + 1 else lv x) := by
  obtain ⟨h1, h2, h3, h4, h5⟩ := h
  have hqa : q ≠ a := fun z => ha (z ▸ hq)
  have hpa : ∀ p, R p → p ≠ a := fun p hp z => ha (z ▸ hp)
  have hsub : ∀ p, R p → ∀ x, x ∈ (if p = q then L else ch p) → x = a ∧ p = q ∨ x ∈ ch p := by
    intro p hp x hx
    by_cases e : p = q
    · rw [if_pos e] at hx
      rcases hL x hx with z | z
      · exact Or.inl ⟨z, e⟩
      · exact Or.inr (e ▸ z)
    · rw [if_neg e] at hx; exact Or.inr hx
  have hdir : ∀ p, p ≠ a → dirP c' p = dirP c p := fun p hp => dirP_congr (hc p 1 hp (by decide) (fun z => absurd z.2 (by decide)))
  have c0 : ∀ p, p ≠ a → c' (4 * p) = c (4 * p) := fun p hp => hc p 0 hp (by decide) (fun z => absurd z.2 (by decide))
  have c3 : ∀ p, p ≠ a → c' (4 * p + 3) = c (4 * p + 3) := fun p hp => hc p 3 hp (by decide) (fun z => absurd z.2 (by decide))
  have nd : ¬ nI d = nI 0 := fun z => by have := (nI_eq (a := d) (b := 0) (by omega) (by decide)).mp z; omega
  have keep : ∀ p, R p → ∀ x, x ∈ ch p → p ≠ q → x ∈ (if p = q then L else ch p) := fun p hp x hx e => by rw [if_neg e]; exact hx
  have chn : Chain t' (fsP c' q) L := hch
  have hfs : ∀ p, R p → p ≠ q → fsP c' p = fsP c p := by
    intro p hp e
    exact fsP_congr (hc p 2 (hpa p hp) (by decide) (fun z => e z.1))
  have ent : ∀ x, R x → ¬ x = 32 → ∃ r, R r ∧ dirP c r = true ∧ x ∈ ch r := by
    intro x hx hn
    rcases (h2 x hx).2.2 with e | ⟨-, r, e1, e2, e3, -⟩
    · exact absurd e hn
    · exact ⟨r, e1, e2, e3⟩
  refine ⟨⟨Or.inl h1.1, ?_⟩, ?_, ?_, ?_, ?_⟩
  · show (if 32 = a then _ else _) = 0
    rw [if_neg (by omega)]; exact h1.2
  · intro p hp
    by_cases e : p = a
    · refine ⟨?_, ?_, ?_⟩
      · show (if p = a then _ else _) ≤ 4
        rw [if_pos e]; omega
      · show (if p = a then _ else _ : List Nat).Nodup
        rw [if_pos e]; exact List.nodup_nil
      · refine Or.inr ⟨by omega, q, Or.inl hq, by rw [hdir q hqa]; exact hqd, ?_, by rw [e, h0]; exact nd⟩
        show p ∈ (if q = a then _ else if q = q then L else _)
        rw [if_neg hqa, if_pos rfl, e]; exact haL
    · have hp : R p := hp.resolve_right e
      obtain ⟨g1, g2, g3⟩ := h2 p hp
      refine ⟨?_, ?_, ?_⟩
      · show (if p = a then _ else _) ≤ 4
        rw [if_neg e]; exact g1
      · show (if p = a then _ else if p = q then L else ch p).Nodup
        rw [if_neg e]
        split
        · exact hLn
        · exact g2
      · rcases g3 with e1 | ⟨e1, r, hr, hrd, hm, hn⟩
        · exact Or.inl e1
        · refine Or.inr ⟨e1, r, Or.inl hr, by rw [hdir r (hpa r hr)]; exact hrd, ?_, by rw [c0 p e]; exact hn⟩
          show p ∈ (if r = a then _ else if r = q then L else ch r)
          rw [if_neg (hpa r hr)]
          split
          · rename_i z; exact hL2 p (z ▸ hm)
          · exact hm
  · intro p r hp hr hpr x hx hx2
    by_cases e : p = a
    · have hx : x ∈ (if p = a then [] else _ : List Nat) := hx
      rw [if_pos e] at hx; cases hx
    · by_cases e2 : r = a
      · have hx2 : x ∈ (if r = a then [] else _ : List Nat) := hx2
        rw [if_pos e2] at hx2; cases hx2
      · have hp : R p := hp.resolve_right e
        have hr : R r := hr.resolve_right e2
        have hx : x ∈ (if p = a then [] else if p = q then L else ch p) := hx
        have hx2 : x ∈ (if r = a then [] else if r = q then L else ch r) := hx2
        rw [if_neg e] at hx
        rw [if_neg e2] at hx2
        rcases hsub p hp x hx with ⟨z1, z2⟩ | z <;> rcases hsub r hr x hx2 with ⟨y1, y2⟩ | y
        · exact hpr (z2.trans y2.symm)
        · exact hown r hr (fun w => hpr (z2.trans w.symm)) (z1 ▸ y)
        · exact hown p hp (fun w => hpr (w.trans y2.symm)) (y1 ▸ z)
        · exact h3 p r hp hr hpr x z y
  · intro p hp hd
    by_cases e : p = a
    · subst e
      refine ⟨?_, ?_, ?_, ?_, fun _ => hz⟩
      · show Chain t' (fsP c' p) (if p = p then [] else _)
        rw [if_pos rfl, fsP_lt ha3]; exact hf
      · intro _
        show (if p = p then [] else _ : List Nat) = []
        rw [if_pos rfl]
      · intro x hx
        have hx : x ∈ (if p = p then [] else _ : List Nat) := hx
        rw [if_pos rfl] at hx; cases hx
      · intro x hx
        have hx : x ∈ (if p = p then [] else _ : List Nat) := hx
        rw [if_pos rfl] at hx; cases hx
    · have hp : R p := hp.resolve_right e
      rw [hdir p e] at hd
      obtain ⟨g1, g2, g3, g4, g5⟩ := h4 p hp hd
      have old : ∀ x, x ∈ ch p → x ≠ a → c' (4 * x) = nI 0 ∨ iE c' (fun x => R x ∨ x = a) (fun x => if x = a then lv q + 1 else lv x) p x := by
        intro x hx hxa
        rcases g3 x hx with z | ⟨z1, z2, z3, z4⟩
        · exact Or.inl (by rw [c0 x hxa]; exact z)
        · refine Or.inr ⟨by rw [c0 x hxa]; exact z1, Or.inl z2, ?_, ?_⟩
          · show (if x = a then _ else _) = (if p = a then _ else _) + 1
            rw [if_neg hxa, if_neg e]; exact z3
          · rw [hc x 1 hxa (by decide) (fun w => absurd w.2 (by decide))]; exact z4
      by_cases e2 : p = q
      · subst e2
        refine ⟨?_, ?_, ?_, ?_, fun hl => by rw [c3 p e]; exact g5 hl⟩
        · show Chain t' (fsP c' p) (if p = a then [] else if p = p then L else _)
          rw [if_neg e, if_pos rfl]; exact hch
        · intro w
          have w : (if p = a then _ else lv p) = 4 := w
          rw [if_neg e] at w; omega
        · intro x hx
          have hx : x ∈ (if p = a then [] else if p = p then L else _) := hx
          rw [if_neg e, if_pos rfl] at hx
          by_cases exa : x = a
          · subst exa
            refine Or.inr ⟨⟨d, hd1, hd2, h0⟩, Or.inr rfl, ?_, hk⟩
            show (if x = x then _ else _) = (if p = x then _ else _) + 1
            rw [if_pos rfl, if_neg e]
          · exact old x ((hL x hx).resolve_left exa) exa
        · intro x hx y hy hxy hne
          have hx : x ∈ (if p = a then [] else if p = p then L else _) := hx
          have hy : y ∈ (if p = a then [] else if p = p then L else _) := hy
          rw [if_neg e, if_pos rfl] at hx hy
          by_cases exa : x = a <;> by_cases eya : y = a
          · rw [exa, eya]
          · rw [exa, h0, c0 y eya] at hxy
            exact absurd hxy.symm (hnm y ((hL y hy).resolve_left eya) eya)
          · rw [eya, h0, c0 x exa] at hxy
            exact absurd hxy (hnm x ((hL x hx).resolve_left exa) exa)
          · rw [c0 x exa, c0 y eya] at hxy
            rw [c0 x exa] at hne
            exact g4 x ((hL x hx).resolve_left exa) y ((hL y hy).resolve_left eya) hxy hne
      · have hna : ∀ x ∈ ch p, x ≠ a := fun x hx z => hown p hp e2 (z ▸ hx)
        refine ⟨?_, ?_, ?_, ?_, fun hl => by rw [c3 p e]; exact g5 hl⟩
        · show Chain t' (fsP c' p) (if p = a then [] else if p = q then L else ch p)
          rw [if_neg e, if_neg e2, hfs p hp e2]; exact Chain_congr g1 (ht p hp e2)
        · intro w
          have w : (if p = a then _ else lv p) = 4 := w
          rw [if_neg e] at w
          show (if p = a then [] else if p = q then L else ch p) = []
          rw [if_neg e, if_neg e2]; exact g2 w
        · intro x hx
          have hx : x ∈ (if p = a then [] else if p = q then L else ch p) := hx
          rw [if_neg e, if_neg e2] at hx
          exact old x hx (hna x hx)
        · intro x hx y hy hxy hne
          have hx : x ∈ (if p = a then [] else if p = q then L else ch p) := hx
          have hy : y ∈ (if p = a then [] else if p = q then L else ch p) := hy
          rw [if_neg e, if_neg e2] at hx hy
          rw [c0 x (hna x hx), c0 y (hna y hy)] at hxy
          rw [c0 x (hna x hx)] at hne
          exact g4 x hx y hy hxy hne
  · intro p hp hd
    by_cases e : p = a
    · subst e
      refine ⟨?_, 0, hz, Nat.zero_le _, fun _ => ?_, fun _ => ?_⟩
      · show Chain t' (c' (4 * p + 2)) (if p = p then [] else _)
        rw [if_pos rfl]; exact hf
      · show (if p = p then [] else _ : List Nat) = []
        rw [if_pos rfl]
      · show (if p = p then [] else _ : List Nat).length = _
        rw [if_pos rfl]; rfl
    · have hp : R p := hp.resolve_right e
      rw [hdir p e] at hd
      have e2 : p ≠ q := by intro z; rw [z, hqd] at hd; cases hd
      obtain ⟨g1, len, g2, g3, g4, g5⟩ := h5 p hp hd
      have ec : (fun x => if x = a then [] else if x = q then L else ch x) p = ch p := by
        show (if p = a then [] else if p = q then L else ch p) = ch p
        rw [if_neg e, if_neg e2]
      unfold iF
      rw [ec]
      refine ⟨?_, len, by rw [c3 p e]; exact g2, g3, g4, g5⟩
      rw [hc p 2 e (by decide) (fun z => e2 z.1)]
      exact Chain_congr g1 (ht p hp e2)
/-- an entry leaves -/
theorem Inv.del (h : Inv u c t ch R lv) {q : Nat} (hq : R q) (hq3 : q < 32) (hno : dirP c q = true → ∀ x ∈ ch q, c (4 * x) = nI 0) (hc : ∀ p i, p ≠ q → i < 4 → c' (4 * p + i) = c (4 * p + i)) (h0 : c' (4 * q) = nI 0) : Inv u c' t ch (fun x => R x ∧ x ≠ q) lv := by
  obtain ⟨h1, h2, h3, h4, h5⟩ := h
  have c0 : ∀ p, p ≠ q → c' (4 * p) = c (4 * p) := fun p hp => hc p 0 hp (by decide)
  have hdir : ∀ p, p ≠ q → dirP c' p = dirP c p := fun p hp => dirP_congr (hc p 1 hp (by decide))
  refine ⟨⟨⟨h1.1, by omega⟩, h1.2⟩, fun p hp => ?_, fun p r hp hr => h3 p r hp.1 hr.1, fun p hp hd => ?_, fun p hp hd => ?_⟩
  · obtain ⟨g1, g2, g3⟩ := h2 p hp.1
    refine ⟨g1, g2, ?_⟩
    rcases g3 with e | ⟨e1, r, hr, hrd, hm, hn⟩
    · exact Or.inl e
    · have hrq : r ≠ q := by
        intro z
        subst z
        exact hn (hno hrd p hm)
      exact Or.inr ⟨e1, r, ⟨hr, hrq⟩, by rw [hdir r hrq]; exact hrd, hm, by rw [c0 p hp.2]; exact hn⟩
  · rw [hdir p hp.2] at hd
    obtain ⟨g1, g2, g3, g4, g5⟩ := h4 p hp.1 hd
    refine ⟨by rw [fsP_congr (hc p 2 hp.2 (by decide))]; exact g1, g2, fun x hx => ?_, fun x hx y hy hxy hne => ?_, fun hl => by rw [hc p 3 hp.2 (by decide)]; exact g5 hl⟩
    · by_cases e : x = q
      · exact Or.inl (e ▸ h0)
      · rcases g3 x hx with z | ⟨z1, z2, z3, z4⟩
        · exact Or.inl (by rw [c0 x e]; exact z)
        · exact Or.inr ⟨by rw [c0 x e]; exact z1, ⟨z2, e⟩, z3, by rw [hc x 1 e (by decide)]; exact z4⟩
    · have ex : x ≠ q := by intro z; rw [z, h0] at hne; exact hne rfl
      have ey : y ≠ q := by intro z; rw [z, h0] at hxy; exact hne hxy
      rw [c0 x ex, c0 y ey] at hxy
      rw [c0 x ex] at hne
      exact g4 x hx y hy hxy hne
  · rw [hdir p hp.2] at hd
    obtain ⟨g1, len, g2, g3, g4, g5⟩ := h5 p hp.1 hd
    exact ⟨by rw [hc p 2 hp.2 (by decide)]; exact g1, len, by rw [hc p 3 hp.2 (by decide)]; exact g2, g3, g4, g5⟩
/-- another name -/
theorem Inv.ren (h : Inv u c t ch R lv) {q r b : Nat} (hr : R r) (hrd : dirP c r = true) (hqr : q ∈ ch r) (hqn : ¬ c (4 * q) = nI 0) (hb1 : 1 ≤ b) (hb2 : b ≤ 15) (hnm : ∀ x ∈ ch r, ¬ c (4 * x) = nI b) (hc : ∀ p i, i < 4 → ¬ (p = q ∧ i = 0) → c' (4 * p + i) = c (4 * p + i)) (h0 : c' (4 * q) = nI b) : Inv u c' t ch R lv := by
  obtain ⟨h1, h2, h3, h4, h5⟩ := h
  have nb : ¬ nI b = nI 0 := fun z => by have := (nI_eq (a := b) (b := 0) (by omega) (by decide)).mp z; omega
  have c0 : ∀ p, p ≠ q → c' (4 * p) = c (4 * p) := fun p hp => hc p 0 (by decide) (fun z => hp z.1)
  have ci : ∀ p i, i < 4 → i ≠ 0 → c' (4 * p + i) = c (4 * p + i) := fun p i hi h => hc p i hi (fun z => h z.2)
  have hdir : ∀ p, dirP c' p = dirP c p := fun p => dirP_congr (ci p 1 (by decide) (by decide))
  refine ⟨h1, fun p hp => ?_, h3, fun p hp hd => ?_, fun p hp hd => ?_⟩
  · obtain ⟨g1, g2, g3⟩ := h2 p hp
    refine ⟨g1, g2, ?_⟩
    rcases g3 with e | ⟨e1, s, hs, hsd, hm, hn⟩
    · exact Or.inl e
    · refine Or.inr ⟨e1, s, hs, by rw [hdir s]; exact hsd, hm, ?_⟩
      by_cases e : p = q
      · rw [e, h0]; exact nb
      · rw [c0 p e]; exact hn
  · rw [hdir p] at hd
    obtain ⟨g1, g2, g3, g4, g5⟩ := h4 p hp hd
    have hpr : q ∈ ch p → p = r := by
      intro hm
      by_cases e : p = r
      · exact e
      · exact absurd hqr (h3 p r hp hr e q hm)
    refine ⟨by rw [fsP_congr (ci p 2 (by decide) (by decide))]; exact g1, g2, fun x hx => ?_, fun x hx y hy hxy hne => ?_, fun hl => by rw [ci p 3 (by decide) (by decide)]; exact g5 hl⟩
    · by_cases e : x = q
      · subst e
        rcases g3 x hx with z | ⟨z1, z2, z3, z4⟩
        · exact absurd z hqn
        · exact Or.inr ⟨⟨b, hb1, hb2, h0⟩, z2, z3, by rw [ci x 1 (by decide) (by decide)]; exact z4⟩
      · rcases g3 x hx with z | ⟨z1, z2, z3, z4⟩
        · exact Or.inl (by rw [c0 x e]; exact z)
        · exact Or.inr ⟨by rw [c0 x e]; exact z1, z2, z3, by rw [ci x 1 (by decide) (by decide)]; exact z4⟩
    · by_cases ex : x = q <;> by_cases ey : y = q
      · rw [ex, ey]
      · rw [ex, h0, c0 y ey] at hxy
        have := hpr (ex ▸ hx)
        exact absurd hxy.symm (hnm y (this ▸ hy))
      · rw [ey, h0, c0 x ex] at hxy
        have := hpr (ey ▸ hy)
        exact absurd hxy (hnm x (this ▸ hx))
      · rw [c0 x ex, c0 y ey] at hxy
        rw [c0 x ex] at hne
        exact g4 x hx y hy hxy hne
  · rw [hdir p] at hd
    obtain ⟨g1, len, g2, g3, g4, g5⟩ := h5 p hp hd
    exact ⟨by rw [ci p 2 (by decide) (by decide)]; exact g1, len, by rw [ci p 3 (by decide) (by decide)]; exact g2, g3, g4, g5⟩
/-- a file's extent changes -/
theorem Inv.file {u' : Prop} (h : Inv u c t ch R lv) {q len : Nat} {L : List Nat} (hu : ∀ p, R p → p ≠ q → dirP c p = false → u' → iF u' c t ch p) (hq : R q) (hqd : dirP c q = false) (hc : ∀ p i, i < 4 → ¬ (p = q ∧ 2 ≤ i) → c' (4 * p + i) = c (4 * p + i)) (hch : Chain t' (c' (4 * q + 2)) L) (hl : c' (4 * q + 3) = nI len) (hl1 : len ≤ 4 * L.length) (hl2 : len = 0 → L = []) (hl3 : u' → L.length = (len + 3) / 4)
    (hLn : L.Nodup) (hdis : ∀ p, R p → p ≠ q → ∀ x ∈ L, x ∉ ch p) (ht : ∀ p, R p → p ≠ q → ∀ x ∈ ch p, t' x = t x) : Inv u' c' t' (fun x => if x = q then L else ch x) R lv := by
  obtain ⟨h1, h2, h3, h4, h5⟩ := h
  have c0 : ∀ p, c' (4 * p) = c (4 * p) := fun p => hc p 0 (by decide) (fun z => absurd z.2 (by decide))
  have c1 : ∀ p, c' (4 * p + 1) = c (4 * p + 1) := fun p => hc p 1 (by decide) (fun z => absurd z.2 (by decide))
  have ci : ∀ p i, p ≠ q → i < 4 → c' (4 * p + i) = c (4 * p + i) := fun p i hp hi => hc p i hi (fun z => hp z.1)
  have hdir : ∀ p, dirP c' p = dirP c p := fun p => dirP_congr (c1 p)
  have dne : ∀ p, dirP c p = true → p ≠ q := fun p hp z => by rw [z, hqd] at hp; cases hp
  refine ⟨h1, fun p hp => ?_, fun p r hp hr hpr x hx hx2 => ?_, fun p hp hd => ?_, fun p hp hd => ?_⟩
  · obtain ⟨g1, g2, g3⟩ := h2 p hp
    refine ⟨g1, ?_, ?_⟩
    · show (if p = q then L else ch p).Nodup
      split
      · exact hLn
      · exact g2
    · rcases g3 with e | ⟨e1, s, hs, hsd, hm, hn⟩
      · exact Or.inl e
      · refine Or.inr ⟨e1, s, hs, by rw [hdir s]; exact hsd, ?_, by rw [c0 p]; exact hn⟩
        show p ∈ (if s = q then L else ch s)
        rw [if_neg (dne s hsd)]; exact hm
  · have hx : x ∈ (if p = q then L else ch p) := hx
    have hx2 : x ∈ (if r = q then L else ch r) := hx2
    by_cases e : p = q <;> by_cases e2 : r = q
    · exact hpr (e.trans e2.symm)
    · rw [if_pos e] at hx; rw [if_neg e2] at hx2
      exact hdis r hr e2 x hx hx2
    · rw [if_neg e] at hx; rw [if_pos e2] at hx2
      exact hdis p hp e x hx2 hx
    · rw [if_neg e] at hx; rw [if_neg e2] at hx2
      exact h3 p r hp hr hpr x hx hx2
  · rw [hdir p] at hd
    have e := dne p hd
    obtain ⟨g1, g2, g3, g4, g5⟩ := h4 p hp hd
    have ec : (fun x => if x = q then L else ch x) p = ch p := if_neg e
    unfold iD
    rw [ec]
    refine ⟨by rw [fsP_congr (ci p 2 e (by decide))]; exact Chain_congr g1 (ht p hp e), g2, fun x hx => ?_, fun x hx y hy hxy hne => ?_, fun hl => by rw [ci p 3 e (by decide)]; exact g5 hl⟩
    · rcases g3 x hx with z | ⟨z1, z2, z3, z4⟩
      · exact Or.inl (by rw [c0 x]; exact z)
      · exact Or.inr ⟨by rw [c0 x]; exact z1, z2, z3, by rw [c1 x]; exact z4⟩
    · rw [c0 x, c0 y] at hxy
      rw [c0 x] at hne
      exact g4 x hx y hy hxy hne
  · rw [hdir p] at hd
    by_cases e : p = q
    · subst e
      have ec : (fun x => if x = p then L else ch x) p = L := if_pos rfl
      unfold iF
      rw [ec]
      exact ⟨hch, len, hl, hl1, hl2, hl3⟩
    · have ec : (fun x => if x = q then L else ch x) p = ch p := if_neg e
      unfold iF
      rw [ec, ci p 2 e (by decide), ci p 3 e (by decide)]
      obtain ⟨g1, len', g2, g3, g4, g5⟩ := h5 p hp hd
      refine ⟨Chain_congr g1 (ht p hp e), len', g2, g3, g4, fun hu' => ?_⟩
      obtain ⟨-, len2, k2, k3, k4, k5⟩ := hu p hp e hd hu'
      have b1 := nodup_le 32 _ (h2 p hp).2.1 (fun _ ha => g1.lt _ ha)
      have : len2 = len' := (nI_eq (by omega) (by omega)).mp (k2.symm.trans g2)
      rw [← this]
      exact k5 hu'
end IV
/-- writes in a row keep I up to the last, then J -/
def SafeW (I J : (Nat → Int32) → (Nat → Int32) → Prop) : List Wr → (Nat → Int32) → (Nat → Int32) → Prop
  | [], c, t => J c t
  | w :: ws, c, t => I c t ∧ SafeW I J ws (w (c, t)).1 (w (c, t)).2
theorem SafeW.run {I J : (Nat → Int32) → (Nat → Int32) → Prop} : ∀ {ws : List Wr} {c t : Nat → Int32} {lf : Int32}, SafeW I J ws c t → ((rW ws c t lf).2.2.2 = true → I (rW ws c t lf).1 (rW ws c t lf).2.1) ∧ ((rW ws c t lf).2.2.2 = false → J (rW ws c t lf).1 (rW ws c t lf).2.1) := by
  intro ws
  induction ws with
  | nil => intro c t lf h; exact ⟨fun z => (by cases z), fun _ => h⟩
  | cons w ws ih =>
    intro c t lf h
    rw [rW]
    by_cases e : lf = 0
    · rw [if_pos e]; exact ⟨fun _ => h.1, fun z => by cases z⟩
    · rw [if_neg e]; exact ih h.2
