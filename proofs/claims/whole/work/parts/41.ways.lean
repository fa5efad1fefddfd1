/-! the model's ways -/
def hE (q : Nat) : Int32 := if q = 32 then -1 else nI q
def gStp (c : Nat → Int32) (ch : Nat → List Nat) (q d : Nat) : Option Nat := if d = 0 then some q else (lkO c d (ch q)).bind fun a => if dirP c a = true then some a else none
def gH (c : Nat → Int32) (ch : Nat → List Nat) (p : Nat) : Option Nat := (gStp c ch 32 (dg p 12)).bind fun a => (gStp c ch a (dg p 8)).bind fun b => gStp c ch b (dg p 4)
def oInt (o : Option Value) : Prop := o = none ∨ ∃ z, o = some (.int z)
theorem fsP_lt {c : Nat → Int32} {q : Nat} (h : q < 32) : fsP c q = c (4 * q + 2) := by unfold fsP; rw [if_neg (by omega)]
theorem hE_lt {q : Nat} (h : q < 32) : hE q = nI q := by unfold hE; rw [if_neg (by omega)]
theorem oI_some {a : Nat} : oI (some a) = nI a := rfl
theorem oI_none : oI none = -1 := rfl
section MP
variable {Ls : Nat} {xs : Nat → Int32} {P : Px} {T : mH} {cd hm he fr : Int32} {s : MS} {mk : Nat → Int32} {ch : Nat → List Nat} {R : Nat → Prop}
theorem mg_some {p z q q' : Nat} {o4 o5 : Option Value} (hR : Rc (MS.c s) (MS.t s) ch R) (hq : R q) (hqd : dirP (MS.c s) q = true) (hp : p < 65536) (hs : z = 12 ∨ z = 8 ∨ z = 4) (h4 : oInt o4) (h5 : oInt o5) (hg : gStp (MS.c s) ch q (dg p z) = some q') :
    R q' ∧ dirP (MS.c s) q' = true ∧ ∃ o5', oInt o5' ∧ ∀ r, mEv Ls xs 54 (15, [some (.ref 6), some (.int (nI p)), some (.int (nI 1)), some (.int (nI z + -(nI (3 + 1)))), some (.int (nI (dg p z))), o5'], [], hM P T cd s mk (fsP (MS.c s) q') (hE q') fr) r →
      mEv Ls xs 54 (15, [some (.ref 6), some (.int (nI p)), some (.int (nI 1)), some (.int (nI z)), o4, o5], [], hM P T cd s mk (fsP (MS.c s) q) (hE q) fr) r := by
  have e0 := dg_of (p := p) (s := z) hp (by omega)
  have hd : dg p z < 16 := dg_lt p z
  obtain ⟨hq32, hch⟩ := hR q hq
  obtain ⟨h1, h2, h3⟩ := hch hqd
  unfold gStp at hg
  by_cases h0 : dg p z = 0
  · rw [if_pos h0] at hg
    cases hg
    refine ⟨hq, hqd, o5, h5, fun r k => ?_⟩
    rw [← e0] at k
    rcases h4 with rfl | ⟨z4, rfl⟩ <;>
    · refine fEv.brF rfl (decide_eq_false (nI_nle (by omega) (by omega))) ?_
      refine fEv.brF rfl (by decide) ?_
      refine fEv.brT rfl (decide_eq_true (by show (nI p >>> (nI z &&& 31)) &&& nI 15 ≤ 0; rw [e0, h0]; decide)) ?_
      exact fEv.steps 2 rfl k
  · rw [if_neg h0] at hg
    obtain ⟨a, hl, hg⟩ := Option.bind_eq_some_iff.mp hg
    split at hg
    · rename_i hda
      cases hg
      obtain ⟨ha1, ha2⟩ := lkO_some hl
      obtain ⟨hRa, ha⟩ := h3 q' ha1 (by rw [ha2]; intro q9; have := (nI_eq (a := dg p z) (b := 0) (by omega) (by decide)).mp q9; exact h0 this)
      refine ⟨hRa, hda, some (.int (nI q')), Or.inr ⟨_, rfl⟩, fun r k => ?_⟩
      have hen := m_entryIn (Ls := Ls) (xs := xs) (P := P) (T := T) (cd := cd) (hm := fsP (MS.c s) q) (he := hE q) (fr := fr) (s := s) (mk := mk) (nm := nI (dg p z)) h1
      rw [lkI_eq, hl, oI_some, ← e0] at hen
      rw [← e0, fsP_lt ha, hE_lt ha] at k
      rcases h4 with rfl | ⟨z4, rfl⟩ <;> rcases h5 with rfl | ⟨z5, rfl⟩ <;>
      · refine fEv.brF rfl (decide_eq_false (nI_nle (by omega) (by omega))) ?_
        refine fEv.brF rfl (by decide) ?_
        refine fEv.brF rfl (decide_eq_false (by show ¬ (nI p >>> (nI z &&& 31)) &&& nI 15 ≤ 0; rw [e0]; exact nI_nle (by omega) (by omega))) ?_
        refine fEv.calli rfl hen ?_
        refine fEv.brF rfl (decide_eq_false (nI_pos (by omega))) ?_
        refine fEv.calli rfl (m_isDir ha) ?_
        rw [hda]
        refine fEv.brF rfl (by decide) ?_
        refine fEv.brF rfl (by decide) ?_
        refine fEv.brT rfl (b4i ha (i := 2) (by decide)) ?_
        rw [k4i ha (by decide)]
        exact fEv.steps 4 rfl k
    · cases hg
theorem mg_none {p z q : Nat} {o4 o5 : Option Value} (hR : Rc (MS.c s) (MS.t s) ch R) (hq : R q) (hqd : dirP (MS.c s) q = true) (hp : p < 65536) (hs : z = 12 ∨ z = 8 ∨ z = 4) (h4 : oInt o4) (h5 : oInt o5) (hg : gStp (MS.c s) ch q (dg p z) = none) :
    ∃ hm' he', mEv Ls xs 54 (15, [some (.ref 6), some (.int (nI p)), some (.int (nI 1)), some (.int (nI z)), o4, o5], [], hM P T cd s mk (fsP (MS.c s) q) (hE q) fr) (rV 0 (hM P T cd s mk hm' he' fr)) := by
  have e0 := dg_of (p := p) (s := z) hp (by omega)
  have hd : dg p z < 16 := dg_lt p z
  obtain ⟨hq32, hch⟩ := hR q hq
  obtain ⟨h1, h2, h3⟩ := hch hqd
  unfold gStp at hg
  by_cases h0 : dg p z = 0
  · rw [if_pos h0] at hg; cases hg
  · rw [if_neg h0] at hg
    have hen := m_entryIn (Ls := Ls) (xs := xs) (P := P) (T := T) (cd := cd) (hm := fsP (MS.c s) q) (he := hE q) (fr := fr) (s := s) (mk := mk) (nm := nI (dg p z)) h1
    rw [lkI_eq, ← e0] at hen
    cases hl : lkO (MS.c s) (dg p z) (ch q) with
    | none =>
      rw [hl, oI_none] at hen
      refine ⟨nI 0, -1, ?_⟩
      rcases h4 with rfl | ⟨z4, rfl⟩ <;> rcases h5 with rfl | ⟨z5, rfl⟩ <;>
      · refine fEv.brF rfl (decide_eq_false (nI_nle (by omega) (by omega))) ?_
        refine fEv.brF rfl (by decide) ?_
        refine fEv.brF rfl (decide_eq_false (by show ¬ (nI p >>> (nI z &&& 31)) &&& nI 15 ≤ 0; rw [e0]; exact nI_nle (by omega) (by omega))) ?_
        refine fEv.calli rfl hen ?_
        refine fEv.brT rfl (by decide) ?_
        refine fEv.brT rfl (by decide) ?_
        refine fEv.steps (st := (15, [some (.ref 6), some (.int (nI p)), some (.int (nI 0)), some (.int (nI z + -(nI (3 + 1)))), some (.int ((nI p >>> (nI z &&& 31)) &&& nI 15)), some (.int (-1))], [], hM P T cd s mk (nI 0) (-1) fr)) 4 rfl ?_
        generalize nI z + -(nI (3 + 1)) = w
        refine fEv.br rfl (fun h => ?_) (fun h => ?_)
        · exact fEv.retV rfl (by decide)
        · refine fEv.brT rfl (by decide) ?_
          exact fEv.retV rfl (by decide)
    | some a =>
      obtain ⟨ha1, ha2⟩ := lkO_some hl
      obtain ⟨hRa, ha⟩ := h3 a ha1 (by rw [ha2]; intro q9; have := (nI_eq (a := dg p z) (b := 0) (by omega) (by decide)).mp q9; exact h0 this)
      rw [hl, oI_some] at hen
      rw [hl, Option.bind_some] at hg
      have hda : dirP (MS.c s) a = false := by
        cases hx : dirP (MS.c s) a with
        | false => rfl
        | true => rw [if_pos hx] at hg; cases hg
      refine ⟨nI 0, nI a, ?_⟩
      rcases h4 with rfl | ⟨z4, rfl⟩ <;> rcases h5 with rfl | ⟨z5, rfl⟩ <;>
      · refine fEv.brF rfl (decide_eq_false (nI_nle (by omega) (by omega))) ?_
        refine fEv.brF rfl (by decide) ?_
        refine fEv.brF rfl (decide_eq_false (by show ¬ (nI p >>> (nI z &&& 31)) &&& nI 15 ≤ 0; rw [e0]; exact nI_nle (by omega) (by omega))) ?_
        refine fEv.calli rfl hen ?_
        refine fEv.brF rfl (decide_eq_false (nI_pos (by omega))) ?_
        refine fEv.calli rfl (m_isDir ha) ?_
        rw [hda]
        refine fEv.brT rfl (by decide) ?_
        refine fEv.brT rfl (by decide) ?_
        refine fEv.steps (st := (15, [some (.ref 6), some (.int (nI p)), some (.int (nI 0)), some (.int (nI z + -(nI (3 + 1)))), some (.int ((nI p >>> (nI z &&& 31)) &&& nI 15)), some (.int (nI a))], [], hM P T cd s mk (nI 0) (nI a) fr)) 4 rfl ?_
        generalize nI z + -(nI (3 + 1)) = w
        refine fEv.br rfl (fun h => ?_) (fun h => ?_)
        · exact fEv.retV rfl (by decide)
        · refine fEv.brT rfl (by decide) ?_
          exact fEv.retV rfl (by decide)
theorem m_homeY {p q : Nat} (hR : Rc (MS.c s) (MS.t s) ch R) (h32 : R 32) (hp : p < 65536) (hg : gH (MS.c s) ch p = some q) :
    R q ∧ dirP (MS.c s) q = true ∧ mEv Ls xs 54 (0, [some (.ref 6), some (.int (nI p)), none, none, none, none], [], (hM P T cd s mk hm he fr)) (rV 1 (hM P T cd s mk (fsP (MS.c s) q) (hE q) fr)) := by
  unfold gH at hg
  obtain ⟨a, g1, hg⟩ := Option.bind_eq_some_iff.mp hg
  obtain ⟨b, g2, g3⟩ := Option.bind_eq_some_iff.mp hg
  have hd32 : dirP (MS.c s) 32 = true := by unfold dirP; simp
  obtain ⟨r1, d1, o1, i1, k1⟩ := mg_some (Ls := Ls) (xs := xs) (P := P) (T := T) (cd := cd) (mk := mk) (fr := fr) (o4 := none) (o5 := none) hR h32 hd32 hp (Or.inl rfl) (Or.inl rfl) (Or.inl rfl) g1
  obtain ⟨r2, d2, o2, i2, k2⟩ := mg_some (Ls := Ls) (xs := xs) (P := P) (T := T) (cd := cd) (mk := mk) (fr := fr) (o4 := some (.int (nI (dg p 12)))) (o5 := o1) hR r1 d1 hp (Or.inr (Or.inl rfl)) (Or.inr ⟨_, rfl⟩) i1 g2
  obtain ⟨r3, d3, o3, i3, k3⟩ := mg_some (Ls := Ls) (xs := xs) (P := P) (T := T) (cd := cd) (mk := mk) (fr := fr) (o4 := some (.int (nI (dg p 8)))) (o5 := o2) hR r2 d2 hp (Or.inr (Or.inr rfl)) (Or.inr ⟨_, rfl⟩) i2 g3
  refine ⟨r3, d3, ?_⟩
  rw [sh4 (s := 8)] at k1
  rw [sh4 (s := 4)] at k2
  rw [sh4 (s := 0)] at k3
  refine fEv.steps 10 rfl (k1 _ (k2 _ (k3 _ ?_)))
  refine fEv.brT rfl (by decide) ?_
  exact fEv.retV rfl (by decide)
theorem m_homeN {p : Nat} (hR : Rc (MS.c s) (MS.t s) ch R) (h32 : R 32) (hp : p < 65536) (hg : gH (MS.c s) ch p = none) :
    ∃ hm' he', mEv Ls xs 54 (0, [some (.ref 6), some (.int (nI p)), none, none, none, none], [], (hM P T cd s mk hm he fr)) (rV 0 (hM P T cd s mk hm' he' fr)) := by
  have hd32 : dirP (MS.c s) 32 = true := by unfold dirP; simp
  unfold gH at hg
  cases g1 : gStp (MS.c s) ch 32 (dg p 12) with
  | none =>
    obtain ⟨hm', he', k⟩ := mg_none (Ls := Ls) (xs := xs) (P := P) (T := T) (cd := cd) (mk := mk) (fr := fr) (o4 := none) (o5 := none) hR h32 hd32 hp (Or.inl rfl) (Or.inl rfl) (Or.inl rfl) g1
    exact ⟨hm', he', fEv.steps 10 rfl k⟩
  | some a =>
    rw [g1, Option.bind_some] at hg
    obtain ⟨r1, d1, o1, i1, k1⟩ := mg_some (Ls := Ls) (xs := xs) (P := P) (T := T) (cd := cd) (mk := mk) (fr := fr) (o4 := none) (o5 := none) hR h32 hd32 hp (Or.inl rfl) (Or.inl rfl) (Or.inl rfl) g1
    rw [sh4 (s := 8)] at k1
    cases g2 : gStp (MS.c s) ch a (dg p 8) with
    | none =>
      obtain ⟨hm', he', k⟩ := mg_none (Ls := Ls) (xs := xs) (P := P) (T := T) (cd := cd) (mk := mk) (fr := fr) (o4 := some (.int (nI (dg p 12)))) (o5 := o1) hR r1 d1 hp (Or.inr (Or.inl rfl)) (Or.inr ⟨_, rfl⟩) i1 g2
      exact ⟨hm', he', fEv.steps 10 rfl (k1 _ k)⟩
    | some b =>
      rw [g2, Option.bind_some] at hg
      obtain ⟨r2, d2, o2, i2, k2⟩ := mg_some (Ls := Ls) (xs := xs) (P := P) (T := T) (cd := cd) (mk := mk) (fr := fr) (o4 := some (.int (nI (dg p 12)))) (o5 := o1) hR r1 d1 hp (Or.inr (Or.inl rfl)) (Or.inr ⟨_, rfl⟩) i1 g2
      rw [sh4 (s := 4)] at k2
      obtain ⟨hm', he', k⟩ := mg_none (Ls := Ls) (xs := xs) (P := P) (T := T) (cd := cd) (mk := mk) (fr := fr) (o4 := some (.int (nI (dg p 8)))) (o5 := o2) hR r2 d2 hp (Or.inr (Or.inr rfl)) (Or.inr ⟨_, rfl⟩) i2 hg
      exact ⟨hm', he', fEv.steps 10 rfl (k1 _ (k2 _ k))⟩
end MP
/-- home, and where the path leads -/
theorem st0 {c : Nat → Int32} {ch : Nat → List Nat} {q : Nat} : stp c ch q 0 = some q := rfl
theorem wk16 {c : Nat → Int32} {ch : Nat → List Nat} {p : Nat} (hp : p < 65536) : wk c ch (p / 16) = (stp c ch 32 (dg p 12)).bind fun a => (stp c ch a (dg p 8)).bind fun b => stp c ch b (dg p 4) := by
  have a1 : dg (p / 16) 12 = 0 := by unfold dg; omega
  have a2 : dg (p / 16) 8 = dg p 12 := by unfold dg; omega
  have a3 : dg (p / 16) 4 = dg p 8 := by unfold dg; omega
  have a4 : dg (p / 16) 0 = dg p 4 := by unfold dg; omega
  unfold wk
  rw [a1, a2, a3, a4, st0, Option.bind_some]
theorem wk_p {c : Nat → Int32} {ch : Nat → List Nat} {p : Nat} (hp : p < 65536) : wk c ch p = (wk c ch (p / 16)).bind fun q => stp c ch q (p % 16) := by
  rw [wk16 hp]
  have a0 : dg p 0 = p % 16 := by unfold dg; omega
  unfold wk
  rw [a0, Option.bind_assoc]
  congr 1; funext a
  rw [Option.bind_assoc]
theorem chkD_tt : ∀ {l : List Nat}, chkD true l = true → ∀ d ∈ l, d ≠ 0 := by
  intro l
  induction l with
  | nil => intro _ d hd; cases hd
  | cons a l ih =>
    intro h d hd
    unfold chkD at h
    split at h
    · cases h
    · rename_i hn
      have ha : a ≠ 0 := fun q => hn ⟨rfl, q⟩
      rcases List.mem_cons.mp hd with rfl | hd
      · exact ha
      · exact ih h d hd
theorem gH_eq {c : Nat → Int32} {ch : Nat → List Nat} {p : Nat} (hp : p < 65536) (ho : okP p = true) : gH c ch p = (wk c ch (p / 16)).bind fun q => if dirP c q = true then some q else none := by
  have hd32 : dirP c 32 = true := by unfold dirP; simp
  have fld : ∀ q d, dirP c q = true → gStp c ch q d = (stp c ch q d).bind fun a => if dirP c a = true then some a else none := by
    intro q d hq
    unfold gStp stp
    by_cases h : d = 0
    · rw [if_pos h, if_pos h, Option.bind_some, if_pos hq]
    · rw [if_neg h, if_neg h, if_pos hq]
  have nof : ∀ q d, dirP c q = false → d ≠ 0 → stp c ch q d = none := by
    intro q d hq hd
    unfold stp
    rw [if_neg hd, if_neg (by rw [hq]; decide)]
  have gD : ∀ q d a, dirP c q = true → gStp c ch q d = some a → dirP c a = true := by
    intro q d a hq h
    rw [fld q d hq] at h
    obtain ⟨b, -, h⟩ := Option.bind_eq_some_iff.mp h
    split at h
    · cases h; assumption
    · cases h
  rw [wk16 hp]
  unfold gH
  unfold okP chkD at ho
  rw [if_neg (fun q => by cases q.1)] at ho
  rw [fld 32 _ hd32]
  cases s1 : stp c ch 32 (dg p 12) with
  | none => rfl
  | some a =>
    rw [Option.bind_some, Option.bind_some]
    cases da : dirP c a with
    | false =>
      have hn : dg p 12 ≠ 0 := by
        intro q
        rw [q, st0] at s1
        cases s1
        rw [hd32] at da; cases da
      rw [show (false || decide (dg p 12 ≠ 0)) = true by simp [hn]] at ho
      have h8 := chkD_tt ho (dg p 8) (by simp)
      rw [if_neg (by decide), nof a _ da h8]
      rfl
    | true =>
      rw [if_pos rfl, Option.bind_some, fld a _ da]
      cases s2 : stp c ch a (dg p 8) with
      | none => rfl
      | some b =>
        rw [Option.bind_some, Option.bind_some]
        cases db : dirP c b with
        | false =>
          have hn : dg p 8 ≠ 0 := by
            intro q
            rw [q, st0] at s2
            cases s2
            rw [da] at db; cases db
          unfold chkD at ho
          split at ho
          · cases ho
          · rw [show (false || decide (dg p 12 ≠ 0) || decide (dg p 8 ≠ 0)) = true by simp [hn]] at ho
            have h4 := chkD_tt ho (dg p 4) (by simp)
            rw [if_neg (by decide), nof b _ db h4]
            rfl
        | true =>
          rw [if_pos rfl, Option.bind_some, fld b _ db]
theorem ok_low {p : Nat} (hp : p < 65536) (ho : okP p = true) (h0 : ¬ p = 0) : p % 16 ≠ 0 := by
  rw [← okM_eq hp] at ho
  unfold okM at ho
  rw [if_neg h0] at ho
  split at ho
  · cases ho
  · assumption
theorem ok_up {p : Nat} (hp : p < 65536) (ho : okP p = true) : okP (p / 16) = true := by
  rw [← okM_eq hp] at ho
  unfold okM at ho
  rw [← okM_eq (by omega)]
  split at ho
  · rename_i h; subst h; decide
  · split at ho
    · cases ho
    · have hx : ∀ k y, okM k y = true → y < 16 ^ k → okM (k + 1) y = true := by
        intro k
        induction k with
        | zero => intro y _ hy; have : y = 0 := by simpa using hy
                  subst this; rfl
        | succ k ih =>
          intro y h hy
          unfold okM at h ⊢
          split at h
          · rename_i h0; rw [if_pos h0]
          · rename_i h0
            rw [if_neg h0]
            split at h
            · cases h
            · rename_i h1
              rw [if_neg h1]
              exact ih _ h (by rw [Nat.pow_succ] at hy; omega)
      exact hx 3 _ ho (by omega)
theorem wk_low {c : Nat → Int32} {ch : Nat → List Nat} {p : Nat} (hp : p < 65536) (ho : okP p = true) (h0 : ¬ p = 0) : wk c ch p = (gH c ch p).bind fun q => lkO c (p % 16) (ch q) := by
  have hl := ok_low hp ho h0
  rw [gH_eq hp ho, wk_p hp, Option.bind_assoc]
  congr 1; funext q
  unfold stp
  rw [if_neg hl]
  split <;> rfl
