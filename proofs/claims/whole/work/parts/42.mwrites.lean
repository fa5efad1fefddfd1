/-! the model's writes -/
def mw (w : Wr) (s : MS) : MS := if MS.dn s = 0 then (if MS.lf s = 0 then (MS.c s, MS.t s, MS.lf s, 1) else ((w (MS.c s, MS.t s)).1, (w (MS.c s, MS.t s)).2, spd (MS.lf s), MS.dn s)) else s
def mws : List Wr → MS → MS
  | [], s => s
  | w :: ws, s => mws ws (mw w s)
theorem mws_dn : ∀ (ws : List Wr) (s : MS), ¬ MS.dn s = 0 → mws ws s = s := by
  intro ws
  induction ws with
  | nil => intro s _; rfl
  | cons w ws ih =>
    intro s h
    have : mw w s = s := by unfold mw; rw [if_neg h]
    rw [mws, this]
    exact ih s h
theorem mws_rW : ∀ (ws : List Wr) (c t : Nat → Int32) (lf : Int32), mws ws (c, t, lf, 0) = ((rW ws c t lf).1, (rW ws c t lf).2.1, (rW ws c t lf).2.2.1, bI (rW ws c t lf).2.2.2) := by
  intro ws
  induction ws with
  | nil => intro c t lf; rfl
  | cons w ws ih =>
    intro c t lf
    rw [mws, rW]
    by_cases h : lf = 0
    · have : mw w (c, t, lf, 0) = (c, t, lf, 1) := by unfold mw; rw [if_pos (show MS.dn (c, t, lf, 0) = 0 from rfl)]; exact if_pos h
      rw [this, if_pos h, mws_dn ws (c, t, lf, 1) (show ¬ (1 : Int32) = 0 by decide)]
      rfl
    · have : mw w (c, t, lf, 0) = ((w (c, t)).1, (w (c, t)).2, spd lf, 0) := by unfold mw; rw [if_pos (show MS.dn (c, t, lf, 0) = 0 from rfl)]; exact if_neg h
      rw [this, if_neg h]
      exact ih _ _ _
theorem Chain_mw {s : MS} {a : Nat} {v x : Int32} {l : List Nat} (h : Chain (MS.t s) x l) (ha : a ∉ l) : Chain (MS.t (mw (wT a v) s)) x l := by
  unfold mw
  split
  · split
    · exact h
    · exact Chain_upd h ha
  · exact h
theorem t_mwC {s : MS} {a : Nat} {v0 v1 v2 v3 : Int32} : MS.t (mw (wC a v0 v1 v2 v3) s) = MS.t s := by
  unfold mw
  split
  · split <;> rfl
  · rfl
theorem t_mwK {s : MS} {a i : Nat} {v : Int32} : MS.t (mw (wK a i v) s) = MS.t s := by
  unfold mw
  split
  · split <;> rfl
  · rfl
theorem c_mwT {s : MS} {a : Nat} {v : Int32} : MS.c (mw (wT a v) s) = MS.c s := by
  unfold mw
  split
  · split <;> rfl
  · rfl
theorem c_mwC {s : MS} {a q i : Nat} {v0 v1 v2 v3 : Int32} (h : q ≠ a) (hi : i < 4) : MS.c (mw (wC a v0 v1 v2 v3) s) (4 * q + i) = MS.c s (4 * q + i) := by
  unfold mw
  split
  · split
    · rfl
    · exact w4_at h hi
  · rfl
theorem c_mwK {s : MS} {a q i j : Nat} {v : Int32} (h : q ≠ a) (hi : i < 4) (hj : j < 4) : MS.c (mw (wK a j v) s) (4 * q + i) = MS.c s (4 * q + i) := by
  unfold mw
  split
  · split
    · rfl
    · exact pk_un (by omega)
  · rfl
section MW
variable {Ls : Nat} {xs : Nat → Int32} {P : Px} {T : mH} {cd hm he fr : Int32} {s : MS} {mk : Nat → Int32} {ch : Nat → List Nat} {R : Nat → Prop}
theorem fEv.callm {k pc k' pc' : Nat} {L : List (Option Value)} {S : List Value} {hh : mH} {r : mR} {av S' : List Value} {L' : List (Option Value)} {h : mH} {w : Wr} (hs : fGo Ls xs 300 k pc L S hh = some (.inr (.inr (.inr (.inl (k', av, (pc', L', S', h)))))))
    (hc : mEv Ls xs k' (mEnt k' av h) (rN (hM P T cd (mw w s) mk hm he fr))) (hk : ∀ s', s' = mw w s → mEv Ls xs k (pc', L', S', hM P T cd s' mk hm he fr) r) : mEv Ls xs k (pc, L, S, hh) r := fEv.calln hs hc (hk _ rfl)
theorem m_writesD (h : ¬ MS.dn s = 0) : mEv Ls xs 59 (0, [some (.ref 6)], [], (hM P T cd s mk hm he fr)) (rV 0 (hM P T cd s mk hm he fr)) := by
  refine fEv.brF rfl (decide_eq_false h) ?_
  exact fEv.retV rfl (by decide)
theorem m_writes0 (h : MS.dn s = 0) (hl : MS.lf s = 0) : mEv Ls xs 59 (0, [some (.ref 6)], [], (hM P T cd s mk hm he fr)) (rV 0 (hM P T cd (MS.c s, MS.t s, MS.lf s, 1) mk hm he fr)) := by
  refine fEv.brT rfl (decide_eq_true h) ?_
  refine fEv.brF rfl (decide_eq_false (fun z => z hl)) ?_
  exact fEv.retV rfl (by decide)
theorem m_writes1 (h : MS.dn s = 0) (hl : ¬ MS.lf s = 0) : mEv Ls xs 59 (0, [some (.ref 6)], [], (hM P T cd s mk hm he fr)) (rV 1 (hM P T cd (MS.c s, MS.t s, spd (MS.lf s), MS.dn s) mk hm he fr)) := by
  refine fEv.brT rfl (decide_eq_true h) ?_
  refine fEv.brT rfl (decide_eq_true hl) ?_
  refine fEv.br rfl (fun h1 => ?_) (fun h1 => ?_)
  · have : spd (MS.lf s) = MS.lf s := by unfold spd; rw [if_neg (fun q => Int32.not_le.mpr q h1)]
    rw [this]
    exact fEv.retV rfl (by decide)
  · have : spd (MS.lf s) = MS.lf s - nI 1 := by unfold spd; rw [if_pos (Int32.not_le.mp h1)]; rfl
    rw [this]
    exact fEv.retV rfl (by decide)
theorem m_wT {j : Nat} {v : Int32} (hj : j < 32) : mEv Ls xs 60 (0, [some (.ref 6), some (.int (nI j)), some (.int v)], [], (hM P T cd s mk hm he fr)) (rN (hM P T cd (mw (wT j v) s) mk hm he fr)) := by
  by_cases h : MS.dn s = 0
  · by_cases hl : MS.lf s = 0
    · have e : mw (wT j v) s = (MS.c s, MS.t s, MS.lf s, 1) := by unfold mw; rw [if_pos h, if_pos hl]
      rw [e]
      refine fEv.calli rfl (m_writes0 h hl) ?_
      refine fEv.brT rfl (by decide) ?_
      exact fEv.retV rfl rfl
    · have e : mw (wT j v) s = (MS.c s, upd (MS.t s) j v, spd (MS.lf s), MS.dn s) := by unfold mw; rw [if_pos h, if_neg hl]; rfl
      rw [e]
      refine fEv.calli rfl (m_writes1 h hl) ?_
      refine fEv.brF rfl (by decide) ?_
      refine fEv.brT rfl (bT hj) ?_
      rw [kT hj]
      exact fEv.retV rfl rfl
  · have e : mw (wT j v) s = s := by unfold mw; rw [if_neg h]
    rw [e]
    refine fEv.calli rfl (m_writesD h) ?_
    refine fEv.brT rfl (by decide) ?_
    exact fEv.retV rfl rfl
theorem m_wK {j i : Nat} {v : Int32} (hj : j < 32) (hi : i < 4) : mEv Ls xs 69 (0, [some (.ref 6), some (.int (nI j)), some (.int (nI i)), some (.int v)], [], (hM P T cd s mk hm he fr)) (rN (hM P T cd (mw (wK j i v) s) mk hm he fr)) := by
  by_cases h : MS.dn s = 0
  · by_cases hl : MS.lf s = 0
    · have e : mw (wK j i v) s = (MS.c s, MS.t s, MS.lf s, 1) := by unfold mw; rw [if_pos h, if_pos hl]
      rw [e]
      refine fEv.calli rfl (m_writes0 h hl) ?_
      refine fEv.brT rfl (by decide) ?_
      exact fEv.retV rfl rfl
    · have e : mw (wK j i v) s = (upd (MS.c s) (4 * j + i) v, MS.t s, spd (MS.lf s), MS.dn s) := by unfold mw; rw [if_pos h, if_neg hl]; rfl
      rw [e]
      refine fEv.calli rfl (m_writes1 h hl) ?_
      refine fEv.brF rfl (by decide) ?_
      refine fEv.brT rfl (b4i hj hi) ?_
      rw [k4i hj hi]
      exact fEv.retV rfl rfl
  · have e : mw (wK j i v) s = s := by unfold mw; rw [if_neg h]
    rw [e]
    refine fEv.calli rfl (m_writesD h) ?_
    refine fEv.brT rfl (by decide) ?_
    exact fEv.retV rfl rfl
theorem m_wC {j : Nat} {v0 v1 v2 v3 : Int32} (hj : j < 32) : mEv Ls xs 58 (0, [some (.ref 6), some (.int (nI j)), some (.int v0), some (.int v1), some (.int v2), some (.int v3)], [], (hM P T cd s mk hm he fr)) (rN (hM P T cd (mw (wC j v0 v1 v2 v3) s) mk hm he fr)) := by
  by_cases h : MS.dn s = 0
  · by_cases hl : MS.lf s = 0
    · have e : mw (wC j v0 v1 v2 v3) s = (MS.c s, MS.t s, MS.lf s, 1) := by unfold mw; rw [if_pos h, if_pos hl]
      rw [e]
      refine fEv.calli rfl (m_writes0 h hl) ?_
      refine fEv.brT rfl (by decide) ?_
      exact fEv.retV rfl rfl
    · have e : mw (wC j v0 v1 v2 v3) s = (w4 (MS.c s) j v0 v1 v2 v3, MS.t s, spd (MS.lf s), MS.dn s) := by unfold mw; rw [if_pos h, if_neg hl]; rfl
      have hw : w4 (MS.c s) j v0 v1 v2 v3 = upd (upd (upd (upd (MS.c s) (nI 4 * nI j).toNatClampNeg v0) (nI 4 * nI j + nI 1).toNatClampNeg v1) (nI 4 * nI j + nI 2).toNatClampNeg v2) (nI 4 * nI j + nI 3).toNatClampNeg v3 := by
        rw [k4 hj, k4i hj (by decide), k4i hj (by decide), k4i hj (by decide)]; rfl
      rw [e, hw]
      refine fEv.calli rfl (m_writes1 h hl) ?_
      refine fEv.brF rfl (by decide) ?_
      refine fEv.brT rfl (b4 hj) ?_
      refine fEv.brT rfl (b4i hj (i := 1) (by decide)) ?_
      refine fEv.brT rfl (b4i hj (i := 2) (by decide)) ?_
      refine fEv.brT rfl (b4i hj (i := 3) (by decide)) ?_
      exact fEv.retV rfl rfl
  · have e : mw (wC j v0 v1 v2 v3) s = s := by unfold mw; rw [if_neg h]
    rw [e]
    refine fEv.calli rfl (m_writesD h) ?_
    refine fEv.brT rfl (by decide) ?_
    exact fEv.retV rfl rfl
theorem m_wE {j : Nat} {v2 v3 : Int32} (hj : j < 32) : mEv Ls xs 62 (0, [some (.ref 6), some (.int (nI j)), some (.int v2), some (.int v3)], [], (hM P T cd s mk hm he fr)) (rN (hM P T cd (mw (wC j (MS.c s (4 * j)) (MS.c s (4 * j + 1)) v2 v3) s) mk hm he fr)) := by
  refine fEv.brT rfl (b4 hj) ?_
  rw [k4 hj]
  refine fEv.brT rfl (b4i hj (i := 1) (by decide)) ?_
  rw [k4i hj (by decide)]
  refine fEv.calln rfl (m_wC hj) ?_
  exact fEv.retV rfl rfl
theorem mr_loop {f : Int32} : ∀ (l : List Nat) (x : Int32) (q : Nat) (s : MS) (o : Option Value), oInt o → Chain (MS.t s) x l → l.Nodup → mEv Ls xs 67 (7, [some (.ref 6), some (.int f), some (.int x), o], [], hM P T cd s mk hm he (nI q)) (rN (hM P T cd (mws (wF l) s) mk hm he (nI (q + l.length)))) := by
  intro l
  induction l with
  | nil =>
    intro x q s o ho hx _
    have hx : x = -1 := hx
    subst hx
    refine fEv.brT rfl (by decide) ?_
    exact fEv.retV rfl rfl
  | cons a l ih =>
    intro x q s o ho hx hnd
    obtain ⟨rfl, ha, hc⟩ := hx
    obtain ⟨hal, hnd⟩ := List.nodup_cons.mp hnd
    rcases ho with rfl | ⟨z, rfl⟩ <;>
    · refine fEv.brF rfl (decide_eq_false (nI_pos (by omega))) ?_
      refine fEv.brT rfl (bT ha) ?_
      rw [kT ha]
      refine fEv.callm rfl (m_wT ha) (fun s' hs' => ?_)
      have h2 := ih (MS.t s a) (q + 1) s' (some (.int (MS.t s a))) (Or.inr ⟨_, rfl⟩) (by rw [hs']; exact Chain_mw hc hal) hnd
      rw [show q + 1 + l.length = q + (a :: l).length by simp only [List.length_cons]; omega, ← nI_add, hs'] at h2
      rw [hs']
      exact fEv.steps 9 rfl h2
theorem m_release {x : Int32} {l : List Nat} (hc : Chain (MS.t s) x l) (hn : l.Nodup) : mEv Ls xs 67 (0, [some (.ref 6), some (.int x), none, none], [], (hM P T cd s mk hm he fr)) (rN (hM P T cd (mws (wF l) s) mk hm he (nI l.length))) := by
  have h2 := mr_loop (Ls := Ls) (xs := xs) (P := P) (T := T) (cd := cd) (mk := mk) (hm := hm) (he := he) (f := x) l x 0 s none (Or.inl rfl) hc hn
  rw [Nat.zero_add] at h2
  exact fEv.steps 5 rfl h2
-- the ways again
theorem m_findY {p a : Nat} (hR : Rc (MS.c s) (MS.t s) ch R) (h32 : R 32) (hp : p < 65536) (ho : okP p = true) (h0 : ¬ p = 0) (hw : wk (MS.c s) ch p = some a) :
    ∃ q, gH (MS.c s) ch p = some q ∧ R q ∧ dirP (MS.c s) q = true ∧ ∀ cd hm he, mEv Ls xs 65 (0, [some (.ref 6), some (.int (nI p))], [], (hM P T cd s mk hm he fr)) (rV (nI a) (hM P T cd s mk (fsP (MS.c s) q) (hE q) fr)) := by
  rw [wk_low hp ho h0] at hw
  obtain ⟨q, hg, hl⟩ := Option.bind_eq_some_iff.mp hw
  obtain ⟨hRq, hdq, -⟩ := m_homeY (Ls := Ls) (xs := xs) (P := P) (T := T) (cd := 0) (hm := 0) (he := 0) (fr := fr) (mk := mk) hR h32 hp hg
  refine ⟨q, hg, hRq, hdq, fun cd hm he => ?_⟩
  obtain ⟨-, -, hh⟩ := m_homeY (Ls := Ls) (xs := xs) (P := P) (T := T) (cd := cd) (hm := hm) (he := he) (fr := fr) (mk := mk) hR h32 hp hg
  refine fEv.calli rfl hh ?_
  refine fEv.brF rfl (by decide) ?_
  have hen := m_entryIn (Ls := Ls) (xs := xs) (P := P) (T := T) (cd := cd) (hm := fsP (MS.c s) q) (he := hE q) (fr := fr) (s := s) (mk := mk) (nm := nI (p % 16)) ((hR q hRq).2 hdq).1
  rw [lkI_eq, hl, oI_some, ← an15 hp] at hen
  refine fEv.calli rfl hen ?_
  exact fEv.retV rfl rfl
theorem m_findN {p : Nat} (hR : Rc (MS.c s) (MS.t s) ch R) (h32 : R 32) (hp : p < 65536) (ho : okP p = true) (h0 : ¬ p = 0) (hw : wk (MS.c s) ch p = none) :
    ∃ hm' he', mEv Ls xs 65 (0, [some (.ref 6), some (.int (nI p))], [], (hM P T cd s mk hm he fr)) (rV (-1) (hM P T cd s mk hm' he' fr)) := by
  rw [wk_low hp ho h0] at hw
  cases hg : gH (MS.c s) ch p with
  | none =>
    obtain ⟨hm', he', hh⟩ := m_homeN (Ls := Ls) (xs := xs) (P := P) (T := T) (cd := cd) (hm := hm) (he := he) (fr := fr) (mk := mk) hR h32 hp hg
    refine ⟨hm', he', ?_⟩
    refine fEv.calli rfl hh ?_
    refine fEv.brT rfl (by decide) ?_
    exact fEv.retV rfl rfl
  | some q =>
    rw [hg, Option.bind_some] at hw
    obtain ⟨hRq, hdq, hh⟩ := m_homeY (Ls := Ls) (xs := xs) (P := P) (T := T) (cd := cd) (hm := hm) (he := he) (fr := fr) (mk := mk) hR h32 hp hg
    refine ⟨fsP (MS.c s) q, hE q, ?_⟩
    refine fEv.calli rfl hh ?_
    refine fEv.brF rfl (by decide) ?_
    have hen := m_entryIn (Ls := Ls) (xs := xs) (P := P) (T := T) (cd := cd) (hm := fsP (MS.c s) q) (he := hE q) (fr := fr) (s := s) (mk := mk) (nm := nI (p % 16)) ((hR q hRq).2 hdq).1
    rw [lkI_eq, hw, oI_none, ← an15 hp] at hen
    refine fEv.calli rfl hen ?_
    exact fEv.retV rfl rfl
theorem m_lackD {a : Int32} (h : ¬ MS.dn s = 0) : mEv Ls xs 64 (0, [some (.ref 6), some (.int a)], [], (hM P T cd s mk hm he fr)) (rV (nI 1) (hM P T cd s mk hm he fr)) := by
  refine fEv.brF rfl (decide_eq_false h) ?_
  exact fEv.retV rfl rfl
theorem m_lackB {a : Int32} (h : MS.dn s = 0) (hb : badP a) : mEv Ls xs 64 (0, [some (.ref 6), some (.int a)], [], (hM P T cd s mk hm he fr)) (rV (nI 2) (hM P T cd s mk hm he fr)) := by
  refine fEv.brT rfl (decide_eq_true h) ?_
  refine fEv.calli rfl (m_bad hb) ?_
  refine fEv.brF rfl (by decide) ?_
  exact fEv.retV rfl rfl
theorem wk_0 {c : Nat → Int32} {ch : Nat → List Nat} : wk c ch 0 = some 32 := rfl
theorem m_lackN {p : Nat} (h : MS.dn s = 0) (hR : Rc (MS.c s) (MS.t s) ch R) (h32 : R 32) (hp : p < 65536) (ho : okP p = true) (hw : wk (MS.c s) ch p = none) :
    ∃ hm' he', mEv Ls xs 64 (0, [some (.ref 6), some (.int (nI p))], [], (hM P T cd s mk hm he fr)) (rV (nI 3) (hM P T cd s mk hm' he' fr)) := by
  have h0 : ¬ p = 0 := by intro z; rw [z, wk_0] at hw; cases hw
  obtain ⟨hm', he', hh⟩ := m_findN (Ls := Ls) (xs := xs) (P := P) (T := T) (cd := cd) (hm := hm) (he := he) (fr := fr) (mk := mk) hR h32 hp ho h0 hw
  refine ⟨hm', he', ?_⟩
  refine fEv.brT rfl (decide_eq_true h) ?_
  refine fEv.calli rfl (m_good hp ho) ?_
  refine fEv.brT rfl (by decide) ?_
  refine fEv.brF rfl (decide_eq_false (nI_ne0 (by omega) (by omega))) ?_
  refine fEv.calli rfl hh ?_
  refine fEv.brF rfl (by decide) ?_
  exact fEv.retV rfl rfl
theorem m_lack0 (h : MS.dn s = 0) : mEv Ls xs 64 (0, [some (.ref 6), some (.int (nI 0))], [], (hM P T cd s mk hm he fr)) (rV (nI 0) (hM P T cd s mk hm he fr)) := by
  refine fEv.brT rfl (decide_eq_true h) ?_
  refine fEv.calli rfl (m_good (by decide) (by decide)) ?_
  refine fEv.brT rfl (by decide) ?_
  refine fEv.brT rfl (by decide) ?_
  exact fEv.retV rfl rfl
theorem m_lackY {p a : Nat} (h : MS.dn s = 0) (hR : Rc (MS.c s) (MS.t s) ch R) (h32 : R 32) (hp : p < 65536) (ho : okP p = true) (h0 : ¬ p = 0) (hw : wk (MS.c s) ch p = some a) (ha : a < 32) :
    ∃ q, gH (MS.c s) ch p = some q ∧ R q ∧ dirP (MS.c s) q = true ∧ ∀ cd hm he, mEv Ls xs 64 (0, [some (.ref 6), some (.int (nI p))], [], (hM P T cd s mk hm he fr)) (rV (nI 0) (hM P T cd s mk (fsP (MS.c s) q) (hE q) fr)) := by
  obtain ⟨q, h1, h2, h3, hh⟩ := m_findY (Ls := Ls) (xs := xs) (P := P) (T := T) (fr := fr) (mk := mk) hR h32 hp ho h0 hw
  refine ⟨q, h1, h2, h3, fun cd hm he => ?_⟩
  refine fEv.brT rfl (decide_eq_true h) ?_
  refine fEv.calli rfl (m_good hp ho) ?_
  refine fEv.brT rfl (by decide) ?_
  refine fEv.brF rfl (decide_eq_false (nI_ne0 (by omega) (by omega))) ?_
  refine fEv.calli rfl (hh cd hm he) ?_
  refine fEv.brT rfl (decide_eq_true (nI_pos' (by omega))) ?_
  exact fEv.retV rfl rfl
end MW
