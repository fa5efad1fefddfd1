/-! the model's calls -/
def rE (P : Px) (T : mH) (mk : Nat → Int32) (v : Int32) (s : MS) (hm he fr : Int32) : mR := rV (if MS.dn s = 0 then v else nI 0) (hM P T (if MS.dn s = 0 then nI 0 else nI 1) s mk hm he fr)
theorem mw_congr {w w' : Wr} {s : MS} (h : w (MS.c s, MS.t s) = w' (MS.c s, MS.t s)) : mw w s = mw w' s := by unfold mw; rw [h]
theorem upd_self {f : Nat → Int32} {i : Nat} {v : Int32} (h : f i = v) : upd f i v = f := by
  funext j
  by_cases e : j = i
  · rw [e, pk_us, h]
  · exact pk_un e
theorem w4_2 {c : Nat → Int32} {q : Nat} {x : Int32} (h : c (4 * q + 3) = nI 0) : w4 c q (c (4 * q)) (c (4 * q + 1)) x (nI 0) = upd c (4 * q + 2) x := by
  unfold w4
  rw [upd_self (f := c) rfl, upd_self (f := c) rfl]
  exact upd_self (by rw [pk_un (by omega)]; exact h)
theorem w4_3 {c : Nat → Int32} {q : Nat} {f x : Int32} (h : c (4 * q + 2) = f) : w4 c q (c (4 * q)) (c (4 * q + 1)) f x = upd c (4 * q + 3) x := by
  unfold w4
  rw [upd_self (f := c) rfl, upd_self (f := c) rfl, upd_self (f := c) h]
section MU
variable {Ls : Nat} {xs : Nat → Int32} {P : Px} {T : mH} {cd hm he fr : Int32} {s : MS} {mk : Nat → Int32} {ch : Nat → List Nat} {R : Nat → Prop}
-- make
theorem m_make_down {a d : Int32} (h : ¬ MS.dn s = 0) : mEv Ls xs 51 (0, [some (.ref 6), some (.int a), some (.int d), none, none, none, none], [], (hM P T cd s mk hm he fr)) (rV (nI 0) (hM P T (nI 1) s mk hm he fr)) := by
  refine fEv.brF rfl (decide_eq_false h) ?_
  refine fEv.brF rfl (by decide) ?_
  exact fEv.retV rfl rfl
theorem m_make_bad {a d : Int32} (h : MS.dn s = 0) (hb : badP a) : mEv Ls xs 51 (0, [some (.ref 6), some (.int a), some (.int d), none, none, none, none], [], (hM P T cd s mk hm he fr)) (rV (nI 0) (hM P T (nI 2) s mk hm he fr)) := by
  refine fEv.brT rfl (decide_eq_true h) ?_
  refine fEv.calli rfl (m_bad hb) ?_
  refine fEv.brF rfl (by decide) ?_
  refine fEv.brF rfl (by decide) ?_
  exact fEv.retV rfl rfl
theorem m_make_no {p : Nat} {d : Int32} (h : MS.dn s = 0) (hR : Rc (MS.c s) (MS.t s) ch R) (h32 : R 32) (hp : p < 65536) (ho : okP p = true) (hg : gH (MS.c s) ch p = none) : ∃ hm' he', mEv Ls xs 51 (0, [some (.ref 6), some (.int (nI p)), some (.int d), none, none, none, none], [], (hM P T cd s mk hm he fr)) (rV (nI 0) (hM P T (nI 3) s mk hm' he' fr)) := by
  obtain ⟨hm', he', hh⟩ := m_homeN (Ls := Ls) (xs := xs) (P := P) (T := T) (cd := cd) (hm := hm) (he := he) (fr := fr) (mk := mk) hR h32 hp hg
  refine ⟨hm', he', ?_⟩
  refine fEv.brT rfl (decide_eq_true h) ?_
  refine fEv.calli rfl (m_good hp ho) ?_
  refine fEv.brT rfl (by decide) ?_
  refine fEv.calli rfl hh ?_
  refine fEv.brF rfl (by decide) ?_
  refine fEv.brF rfl (by decide) ?_
  exact fEv.retV rfl rfl
theorem mm_pre {p q : Nat} {d : Int32} {r : mR} (h : MS.dn s = 0) (hR : Rc (MS.c s) (MS.t s) ch R) (h32 : R 32) (hp : p < 65536) (ho : okP p = true) (hg : gH (MS.c s) ch p = some q)
    (k : mEv Ls xs 51 (35, [some (.ref 6), some (.int (nI p)), some (.int d), none, none, none, none], [.ref 6], hM P T cd s mk (fsP (MS.c s) q) (hE q) fr) r) : mEv Ls xs 51 (0, [some (.ref 6), some (.int (nI p)), some (.int d), none, none, none, none], [], (hM P T cd s mk hm he fr)) r := by
  refine fEv.brT rfl (decide_eq_true h) ?_
  refine fEv.calli rfl (m_good hp ho) ?_
  refine fEv.brT rfl (by decide) ?_
  refine fEv.calli rfl (m_homeY hR h32 hp hg).2.2 ?_
  exact fEv.brT rfl (by decide) k
theorem m_make_is {p q : Nat} {d : Int32} (h : MS.dn s = 0) (hR : Rc (MS.c s) (MS.t s) ch R) (h32 : R 32) (hp : p < 65536) (ho : okP p = true) (hg : gH (MS.c s) ch p = some q) (hRq : R q) (hdq : dirP (MS.c s) q = true) (hl : p = 0 ∨ ∃ a, lkO (MS.c s) (p % 16) (ch q) = some a ∧ a < 32) :
    mEv Ls xs 51 (0, [some (.ref 6), some (.int (nI p)), some (.int d), none, none, none, none], [], (hM P T cd s mk hm he fr)) (rV (nI 0) (hM P T (nI 4) s mk (fsP (MS.c s) q) (hE q) fr)) := by
  refine mm_pre h hR h32 hp ho hg ?_
  refine fEv.br rfl (fun h0 => ?_) (fun h0 => ?_)
  · refine fEv.brF rfl (by decide) ?_
    exact fEv.retV rfl rfl
  · rcases hl with hl | ⟨a, hl, ha⟩
    · exact absurd (by rw [hl]; rfl) h0
    · have hen := m_entryIn (Ls := Ls) (xs := xs) (P := P) (T := T) (cd := cd) (hm := fsP (MS.c s) q) (he := hE q) (fr := fr) (s := s) (mk := mk) (nm := nI (p % 16)) ((hR q hRq).2 hdq).1
      rw [lkI_eq, hl, oI_some, ← an15 hp] at hen
      refine fEv.calli rfl hen ?_
      refine fEv.brF rfl (decide_eq_false (nI_pos (by omega))) ?_
      refine fEv.brF rfl (by decide) ?_
      exact fEv.retV rfl rfl
theorem mm_pre2 {p q : Nat} {d : Int32} {r : mR} (h : MS.dn s = 0) (hR : Rc (MS.c s) (MS.t s) ch R) (h32 : R 32) (hp : p < 65536) (hp0 : ¬ p = 0) (ho : okP p = true) (hg : gH (MS.c s) ch p = some q) (hRq : R q) (hdq : dirP (MS.c s) q = true) (hl : lkO (MS.c s) (p % 16) (ch q) = none)
    (k : mEv Ls xs 51 (92, [some (.ref 6), some (.int (nI p)), some (.int d), some (.int (if d = 0 then nI 1 else nI 2)), some (.int (oI (lkO (MS.c s) 0 (ch q)))), none, none], [], hM P T (nI 0) s mk (fsP (MS.c s) q) (hE q) fr) r) : mEv Ls xs 51 (0, [some (.ref 6), some (.int (nI p)), some (.int d), none, none, none, none], [], (hM P T cd s mk hm he fr)) r := by
  refine mm_pre h hR h32 hp ho hg ?_
  refine fEv.brF rfl (decide_eq_false (nI_ne0 (by omega) (by omega))) ?_
  have hen := m_entryIn (Ls := Ls) (xs := xs) (P := P) (T := T) (cd := cd) (hm := fsP (MS.c s) q) (he := hE q) (fr := fr) (s := s) (mk := mk) (nm := nI (p % 16)) ((hR q hRq).2 hdq).1
  rw [lkI_eq, hl, oI_none, ← an15 hp] at hen
  refine fEv.calli rfl hen ?_
  refine fEv.brT rfl (by decide) ?_
  refine fEv.brT rfl (by decide) ?_
  have h4 := m_entryIn (Ls := Ls) (xs := xs) (P := P) (T := T) (cd := nI 0) (hm := fsP (MS.c s) q) (he := hE q) (fr := fr) (s := s) (mk := mk) (nm := nI 0) ((hR q hRq).2 hdq).1
  rw [lkI_eq] at h4
  refine fEv.br rfl (fun h5 => ?_) (fun h5 => ?_)
  · rw [if_pos h5] at k
    refine fEv.calli rfl h4 ?_
    exact fEv.steps 1 rfl k
  · rw [if_neg h5] at k
    refine fEv.calli rfl h4 ?_
    exact fEv.steps 1 rfl k
theorem m_make_full {p q : Nat} {d : Int32} (h : MS.dn s = 0) (hR : Rc (MS.c s) (MS.t s) ch R) (h32 : R 32) (hp : p < 65536) (hp0 : ¬ p = 0) (ho : okP p = true) (hg : gH (MS.c s) ch p = some q) (hRq : R q) (hdq : dirP (MS.c s) q = true) (hl : lkO (MS.c s) (p % 16) (ch q) = none) (he0 : lkO (MS.c s) 0 (ch q) = none) (hf : ∀ i, i < 32 → ¬ MS.t s i = -2) :
    mEv Ls xs 51 (0, [some (.ref 6), some (.int (nI p)), some (.int d), none, none, none, none], [], (hM P T cd s mk hm he fr)) (rV (nI 0) (hM P T (nI 5) s mk (fsP (MS.c s) q) (hE q) fr)) := by
  refine mm_pre2 h hR h32 hp hp0 ho hg hRq hdq hl ?_
  rw [he0, oI_none]
  refine fEv.brT rfl (by decide) ?_
  refine fEv.calli rfl (m_takenN hf) ?_
  refine fEv.brF rfl (by decide) ?_
  exact fEv.retV rfl rfl
theorem mm_end {a : Nat} {p d k x y o6 : Option Value} (s : MS) : mEv Ls xs 51 (184, [some (.ref 6), p, d, k, x, some (.int (nI a)), o6], [], hM P T (nI 0) s mk hm he fr) (rE P T mk (nI a) s hm he fr) := by
  unfold rE
  by_cases hd : MS.dn s = 0
  · rw [if_pos hd, if_pos hd]
    refine fEv.brT rfl (decide_eq_true hd) ?_
    refine fEv.brT rfl (decide_eq_true hd) ?_
    exact fEv.retV rfl rfl
  · rw [if_neg hd, if_neg hd]
    refine fEv.brF rfl (decide_eq_false hd) ?_
    refine fEv.brF rfl (decide_eq_false hd) ?_
    exact fEv.retV rfl rfl
theorem m_make_empty {p q a : Nat} {d : Int32} (h : MS.dn s = 0) (hR : Rc (MS.c s) (MS.t s) ch R) (h32 : R 32) (hp : p < 65536) (hp0 : ¬ p = 0) (ho : okP p = true) (hg : gH (MS.c s) ch p = some q) (hRq : R q) (hdq : dirP (MS.c s) q = true) (hl : lkO (MS.c s) (p % 16) (ch q) = none) (he0 : lkO (MS.c s) 0 (ch q) = some a) (ha : a < 32) :
    mEv Ls xs 51 (0, [some (.ref 6), some (.int (nI p)), some (.int d), none, none, none, none], [], (hM P T cd s mk hm he fr)) (rE P T mk (nI a) (mws [wC a (nI (p % 16)) (if d = 0 then nI 1 else nI 2) (-1) (nI 0)] s) (fsP (MS.c s) q) (hE q) fr) := by
  refine mm_pre2 h hR h32 hp hp0 ho hg hRq hdq hl ?_
  rw [he0, oI_some, ← an15 hp]
  refine fEv.brF rfl (decide_eq_false (nI_pos (by omega))) ?_
  refine fEv.brT rfl (decide_eq_true (nI_pos' (by omega))) ?_
  refine fEv.callm rfl (m_wC ha) (fun s' hs' => ?_)
  refine fEv.brT rfl (decide_eq_true (nI_pos' (by omega))) ?_
  rw [mws, mws, ← hs']
  exact mm_end (y := none) s'
theorem m_make_new1 {p q a b : Nat} {l : List Nat} {d : Int32} (h : MS.dn s = 0) (hR : Rc (MS.c s) (MS.t s) ch R) (h32 : R 32) (hp : p < 65536) (hp0 : ¬ p = 0) (ho : okP p = true) (hg : gH (MS.c s) ch p = some q) (hRq : R q) (hdq : dirP (MS.c s) q = true) (hl : lkO (MS.c s) (p % 16) (ch q) = none) (he0 : lkO (MS.c s) 0 (ch q) = none) (ha : a < 32) (hf : MS.t s a = -2) (hmn : ∀ i, i < a → ¬ MS.t s i = -2)
    (hch : ch q = b :: l) (hal : a ∉ b :: l) (hla : lastI b l < 32) :
    mEv Ls xs 51 (0, [some (.ref 6), some (.int (nI p)), some (.int d), none, none, none, none], [], (hM P T cd s mk hm he fr)) (rE P T mk (nI a) (mws [wC a (nI (p % 16)) (if d = 0 then nI 1 else nI 2) (-1) (nI 0), wT a (-1), wT (lastI b l) (nI a)] s) (fsP (MS.c s) q) (hE q) fr) := by
  have hc0 := ((hR q hRq).2 hdq).1
  rw [hch] at hc0
  refine mm_pre2 h hR h32 hp hp0 ho hg hRq hdq hl ?_
  rw [he0, oI_none, ← an15 hp]
  refine fEv.brT rfl (by decide) ?_
  refine fEv.calli rfl (m_taken ha hf hmn) ?_
  refine fEv.brT rfl (decide_eq_true (nI_pos' (by omega))) ?_
  refine fEv.callm rfl (m_wC ha) (fun s1 hs1 => ?_)
  refine fEv.brF rfl (by decide) ?_
  refine fEv.callm rfl (m_wT ha) (fun s2 hs2 => ?_)
  have hfs : fsP (MS.c s) q = nI b := hc0.1
  rw [hfs]
  refine fEv.brF rfl (decide_eq_false (nI_pos (by have := hc0.2.1; omega))) ?_
  have hc2 : Chain (MS.t s2) (nI b) (b :: l) := by
    rw [hs2]
    refine Chain_mw ?_ hal
    rw [hs1, t_mwC, ← hfs]
    exact hc0
  refine fEv.calli rfl (m_lastOf hc0.2.1 hc2.2.2) ?_
  refine fEv.callm rfl (m_wT hla) (fun s3 hs3 => ?_)
  rw [mws, mws, mws, mws, ← hs1, ← hs2, ← hs3]
  exact fEv.steps 1 rfl (mm_end (y := none) s3)
theorem m_make_new0 {p q a : Nat} {d : Int32} (h : MS.dn s = 0) (hR : Rc (MS.c s) (MS.t s) ch R) (h32 : R 32) (hp : p < 65536) (hp0 : ¬ p = 0) (ho : okP p = true) (hg : gH (MS.c s) ch p = some q) (hRq : R q) (hdq : dirP (MS.c s) q = true) (hl : lkO (MS.c s) (p % 16) (ch q) = none) (he0 : lkO (MS.c s) 0 (ch q) = none) (ha : a < 32) (hf : MS.t s a = -2) (hmn : ∀ i, i < a → ¬ MS.t s i = -2)
    (hq : q < 32) (hq1 : MS.c s (4 * q + 2) = -1) (hq0 : MS.c s (4 * q + 3) = nI 0) (hqa : q ≠ a) :
    mEv Ls xs 51 (0, [some (.ref 6), some (.int (nI p)), some (.int d), none, none, none, none], [], (hM P T cd s mk hm he fr)) (rE P T mk (nI a) (mws [wC a (nI (p % 16)) (if d = 0 then nI 1 else nI 2) (-1) (nI 0), wT a (-1), wK q 2 (nI a)] s) (fsP (MS.c s) q) (hE q) fr) := by
  refine mm_pre2 h hR h32 hp hp0 ho hg hRq hdq hl ?_
  rw [he0, oI_none, ← an15 hp, fsP_lt hq, hE_lt hq, hq1]
  refine fEv.brT rfl (by decide) ?_
  refine fEv.calli rfl (m_taken ha hf hmn) ?_
  refine fEv.brT rfl (decide_eq_true (nI_pos' (by omega))) ?_
  refine fEv.callm rfl (m_wC ha) (fun s1 hs1 => ?_)
  refine fEv.brF rfl (by decide) ?_
  refine fEv.callm rfl (m_wT ha) (fun s2 hs2 => ?_)
  refine fEv.brT rfl (by decide) ?_
  refine fEv.callm rfl (m_wE hq) (fun s3 hs3 => ?_)
  have h3 : MS.c s2 (4 * q + 3) = nI 0 := by
    rw [hs2, c_mwT, hs1, c_mwC hqa (by decide)]
    exact hq0
  have e3 : s3 = mw (wK q 2 (nI a)) s2 := by
    rw [hs3]
    refine mw_congr ?_
    show (w4 (MS.c s2) q _ _ _ _, MS.t s2) = (upd (MS.c s2) (4 * q + 2) (nI a), MS.t s2)
    rw [w4_2 h3]
  rw [mws, mws, mws, mws, ← hs1, ← hs2, ← e3]
  exact mm_end (y := none) s3
-- remove
theorem m_remL {a z : Int32} {hm' he' : Int32} (hl : mEv Ls xs 64 (0, [some (.ref 6), some (.int a)], [], (hM P T cd s mk hm he fr)) (rV z (hM P T cd s mk hm' he' fr))) (hz : ¬ z ≤ 0) : mEv Ls xs 63 (0, [some (.ref 6), some (.int a), none, none], [], (hM P T cd s mk hm he fr)) (rV (nI 0) (hM P T z s mk hm' he' fr)) := by
  refine fEv.calli rfl hl ?_
  refine fEv.brF rfl (decide_eq_false hz) ?_
  exact fEv.retV rfl rfl
theorem m_rem_root (h : MS.dn s = 0) : mEv Ls xs 63 (0, [some (.ref 6), some (.int (nI 0)), none, none], [], (hM P T cd s mk hm he fr)) (rV (nI 0) (hM P T (nI 4) s mk hm he fr)) := by
  refine fEv.calli rfl (m_lack0 h) ?_
  refine fEv.brT rfl (by decide) ?_
  refine fEv.brF rfl (by decide) ?_
  refine fEv.brT rfl (by decide) ?_
  refine fEv.brF rfl (by decide) ?_
  exact fEv.retV rfl rfl
theorem m_rem_names {p q : Nat} (h : MS.dn s = 0) (hR : Rc (MS.c s) (MS.t s) ch R) (h32 : R 32) (hp : p < 65536) (h0 : ¬ p = 0) (ho : okP p = true) (hw : wk (MS.c s) ch p = some q) (hq : q < 32) (hd : dirP (MS.c s) q = true) (hc : Chain (MS.t s) (MS.c s (4 * q + 2)) (ch q)) (hn : ¬ nmsM (MS.c s) (nI 0) (ch q) ≤ 0) :
    ∃ hm' he', mEv Ls xs 63 (0, [some (.ref 6), some (.int (nI p)), none, none], [], (hM P T cd s mk hm he fr)) (rV (nI 0) (hM P T (nI 4) s mk hm' he' fr)) := by
  obtain ⟨z, hg, hz1, hz2, hh⟩ := m_findY (Ls := Ls) (xs := xs) (P := P) (T := T) (fr := fr) (mk := mk) hR h32 hp ho h0 hw
  obtain ⟨z', hg', -, -, hk⟩ := m_lackY (Ls := Ls) (xs := xs) (P := P) (T := T) (fr := fr) (mk := mk) h hR h32 hp ho h0 hw hq
  have e : z' = z := by rw [hg] at hg'; cases hg'; rfl
  subst e
  refine ⟨fsP (MS.c s) z', hE z', ?_⟩
  refine fEv.calli rfl (hk cd hm he) ?_
  refine fEv.brT rfl (by decide) ?_
  refine fEv.brT rfl (decide_eq_true (nI_ne0 (by omega) (by omega))) ?_
  refine fEv.calli rfl (hh (nI 0) _ _) ?_
  refine fEv.brF rfl (decide_eq_false (nI_ne0 (by omega) (by omega))) ?_
  refine fEv.calli rfl (m_isDir hq) ?_
  rw [hd]
  refine fEv.brF rfl (by decide) ?_
  refine fEv.brT rfl (b4i hq (i := 2) (by decide)) ?_
  rw [k4i hq (by decide)]
  refine fEv.calli rfl (m_namesIn hc) ?_
  refine fEv.brF rfl (decide_eq_false hn) ?_
  refine fEv.brF rfl (by decide) ?_
  exact fEv.retV rfl rfl
theorem m_rem {p q : Nat} {l : List Nat} (h : MS.dn s = 0) (hR : Rc (MS.c s) (MS.t s) ch R) (h32 : R 32) (hp : p < 65536) (h0 : ¬ p = 0) (ho : okP p = true) (hw : wk (MS.c s) ch p = some q) (hq : q < 32) (hd : dirP (MS.c s) q = false ∨ nmsM (MS.c s) (nI 0) l ≤ 0) (hc : Chain (MS.t s) (MS.c s (4 * q + 2)) l) (hn : l.Nodup) :
    ∃ hm' he', mEv Ls xs 63 (0, [some (.ref 6), some (.int (nI p)), none, none], [], (hM P T cd s mk hm he fr)) (rE P T mk (nI l.length) (mws (wC q (nI 0) (nI 0) (nI 0) (nI 0) :: wF l) s) hm' he' (nI l.length)) := by
  obtain ⟨z, hg, hz1, hz2, hh⟩ := m_findY (Ls := Ls) (xs := xs) (P := P) (T := T) (fr := fr) (mk := mk) hR h32 hp ho h0 hw
  obtain ⟨z', hg', -, -, hk⟩ := m_lackY (Ls := Ls) (xs := xs) (P := P) (T := T) (fr := fr) (mk := mk) h hR h32 hp ho h0 hw hq
  have e : z' = z := by rw [hg] at hg'; cases hg'; rfl
  subst e
  refine ⟨fsP (MS.c s) z', hE z', ?_⟩
  refine fEv.calli rfl (hk cd hm he) ?_
  refine fEv.brT rfl (by decide) ?_
  refine fEv.brT rfl (decide_eq_true (nI_ne0 (by omega) (by omega))) ?_
  refine fEv.calli rfl (hh (nI 0) _ _) ?_
  refine fEv.brF rfl (decide_eq_false (nI_ne0 (by omega) (by omega))) ?_
  refine fEv.calli rfl (m_isDir hq) ?_
  have fin : mEv Ls xs 63 (66, [some (.ref 6), some (.int (nI p)), some (.int (nI q)), none], [.ref 6], hM P T (nI 0) s mk (fsP (MS.c s) z') (hE z') fr) (rE P T mk (nI l.length) (mws (wC q (nI 0) (nI 0) (nI 0) (nI 0) :: wF l) s) (fsP (MS.c s) z') (hE z') (nI l.length)) := by
    refine fEv.brT rfl (by decide) ?_
    refine fEv.brT rfl (b4i hq (i := 2) (by decide)) ?_
    rw [k4i hq (by decide)]
    refine fEv.callm rfl (m_wC hq) (fun s1 hs1 => ?_)
    refine fEv.calln rfl (m_release (l := l) (by rw [hs1, t_mwC]; exact hc) hn) ?_
    rw [mws, ← hs1]
    generalize mws (wF l) s1 = s2
    unfold rE
    by_cases hd : MS.dn s2 = 0
    · rw [if_pos hd, if_pos hd]
      refine fEv.brT rfl (decide_eq_true hd) ?_
      refine fEv.brT rfl (decide_eq_true hd) ?_
      exact fEv.retV rfl rfl
    · rw [if_neg hd, if_neg hd]
      refine fEv.brF rfl (decide_eq_false hd) ?_
      refine fEv.brF rfl (decide_eq_false hd) ?_
      exact fEv.retV rfl rfl
  cases hdd : dirP (MS.c s) q with
  | false => exact fEv.brT rfl (by decide) fin
  | true =>
    refine fEv.brF rfl (by decide) ?_
    refine fEv.brT rfl (b4i hq (i := 2) (by decide)) ?_
    rw [k4i hq (by decide)]
    refine fEv.calli rfl (m_namesIn hc) ?_
    rcases hd with hd | hd
    · rw [hd] at hdd; cases hdd
    · exact fEv.brT rfl (decide_eq_true hd) fin
end MU
