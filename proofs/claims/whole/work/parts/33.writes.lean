/-! writes in a row, up to the loss of power -/
abbrev Wr : Type := (Nat → Int32) × (Nat → Int32) → (Nat → Int32) × (Nat → Int32)
def wT (a : Nat) (v : Int32) : Wr := fun s => (s.1, upd s.2 a v)
def wC (j : Nat) (v0 v1 v2 v3 : Int32) : Wr := fun s => (w4 s.1 j v0 v1 v2 v3, s.2)
def wK (j i : Nat) (v : Int32) : Wr := fun s => (upd s.1 (4 * j + i) v, s.2)
def rW : List Wr → (Nat → Int32) → (Nat → Int32) → Int32 → (Nat → Int32) × (Nat → Int32) × Int32 × Bool
  | [], c, t, lf => (c, t, lf, false)
  | w :: ws, c, t, lf => if lf = 0 then (c, t, lf, true) else rW ws (w (c, t)).1 (w (c, t)).2 (spd lf)
def rn : List Wr → (Nat → Int32) → (Nat → Int32) → (Nat → Int32) × (Nat → Int32)
  | [], c, t => (c, t)
  | w :: ws, c, t => rn ws (w (c, t)).1 (w (c, t)).2
def rsC (re en : Nat → Int32) (n : Int32) (M : mH) (v : Option Value) (ws : List Wr) (c t : Nat → Int32) (lf : Int32) : mR :=
  match rW ws c t lf with
  | (c', t', lf', true) => rX 0 (hV c' t' lf' 1 re en n M)
  | (c', t', lf', false) => (.inl v, hV c' t' lf' 0 re en n M, 0, 0)
theorem rW_app : ∀ (w1 w2 : List Wr) (c t : Nat → Int32) (lf : Int32), (∃ c' t' lf', rW w1 c t lf = (c', t', lf', true) ∧ rW (w1 ++ w2) c t lf = (c', t', lf', true)) ∨ (∃ lf', rW w1 c t lf = ((rn w1 c t).1, (rn w1 c t).2, lf', false) ∧ rW (w1 ++ w2) c t lf = rW w2 (rn w1 c t).1 (rn w1 c t).2 lf') := by
  intro w1
  induction w1 with
  | nil => intro w2 c t lf; exact Or.inr ⟨lf, rfl, rfl⟩
  | cons w ws ih =>
    intro w2 c t lf
    simp only [List.cons_append, rW, rn]
    by_cases h : lf = 0
    · rw [if_pos h, if_pos h]; exact Or.inl ⟨c, t, lf, rfl, rfl⟩
    · rw [if_neg h, if_neg h]; exact ih w2 _ _ _
section KW
variable {Ls : Nat} {xs : Nat → Int32} {c t re en : Nat → Int32} {lf dn n : Int32} {M : mH}
/-- a call that writes and answers nothing -/
theorem fEv.callw {k pc k' pc' : Nat} {L : List (Option Value)} {S : List Value} {hh : mH} {av S' : List Value} {L' : List (Option Value)} {h : mH} {w1 : List Wr} (w2 : List Wr) {v : Option Value} (hs : fGo Ls xs 300 k pc L S hh = some (.inr (.inr (.inr (.inl (k', av, (pc', L', S', h)))))))
    (hc : mEv Ls xs k' (mEnt k' av h) (rsC re en n M none w1 c t lf)) (hn : mHH k = []) (he : ∀ lf', mEv Ls xs k (pc', L', S', hV (rn w1 c t).1 (rn w1 c t).2 lf' 0 re en n M) (rsC re en n M v w2 (rn w1 c t).1 (rn w1 c t).2 lf')) :
    mEv Ls xs k (pc, L, S, hh) (rsC re en n M v (w1 ++ w2) c t lf) := by
  unfold rsC at hc ⊢
  rcases rW_app w1 w2 c t lf with ⟨c', t', lf', e1, e2⟩ | ⟨lf', e1, e2⟩
  · rw [e1] at hc
    rw [e2]
    exact fEv.thr hs hc hn
  · rw [e1] at hc
    rw [e2]
    exact fEv.calln hs hc (he lf')
/-- the last writing call -/
theorem fEv.callwE {k pc k' pc' : Nat} {L : List (Option Value)} {S : List Value} {hh : mH} {av S' : List Value} {L' : List (Option Value)} {h : mH} {w1 : List Wr} {v : Option Value} (hs : fGo Ls xs 300 k pc L S hh = some (.inr (.inr (.inr (.inl (k', av, (pc', L', S', h)))))))
    (hc : mEv Ls xs k' (mEnt k' av h) (rsC re en n M none w1 c t lf)) (hn : mHH k = []) (he : ∀ lf', mEv Ls xs k (pc', L', S', hV (rn w1 c t).1 (rn w1 c t).2 lf' 0 re en n M) (.inl v, hV (rn w1 c t).1 (rn w1 c t).2 lf' 0 re en n M, 0, 0)) :
    mEv Ls xs k (pc, L, S, hh) (rsC re en n M v w1 c t lf) := by
  have h2 := fEv.callw (v := v) [] hs hc hn he
  rwa [List.append_nil] at h2
/-- the next write of several -/
theorem fEv.callwc {k pc k' pc' : Nat} {L : List (Option Value)} {S : List Value} {hh : mH} {av S' : List Value} {L' : List (Option Value)} {h : mH} {w : Wr} {w2 : List Wr} {v : Option Value} (hs : fGo Ls xs 300 k pc L S hh = some (.inr (.inr (.inr (.inl (k', av, (pc', L', S', h)))))))
    (hc : mEv Ls xs k' (mEnt k' av h) (rsC re en n M none [w] c t lf)) (hn : mHH k = []) (he : ∀ lf', mEv Ls xs k (pc', L', S', hV (w (c, t)).1 (w (c, t)).2 lf' 0 re en n M) (rsC re en n M v w2 (w (c, t)).1 (w (c, t)).2 lf')) :
    mEv Ls xs k (pc, L, S, hh) (rsC re en n M v (w :: w2) c t lf) := fEv.callw w2 hs hc hn he
/-- a call that writes and answers an int -/
theorem fEv.callwi {k pc k' pc' : Nat} {L : List (Option Value)} {S : List Value} {hh : mH} {av S' : List Value} {L' : List (Option Value)} {h : mH} {w1 : List Wr} (w2 : List Wr) {v : Option Value} {z : Int32} (hs : fGo Ls xs 300 k pc L S hh = some (.inr (.inr (.inr (.inl (k', av, (pc', L', S', h)))))))
    (hc : mEv Ls xs k' (mEnt k' av h) (rsC re en n M (some (.int z)) w1 c t lf)) (hn : mHH k = []) (he : ∀ lf', mEv Ls xs k (pc', L', .int z :: S', hV (rn w1 c t).1 (rn w1 c t).2 lf' 0 re en n M) (rsC re en n M v w2 (rn w1 c t).1 (rn w1 c t).2 lf')) :
    mEv Ls xs k (pc, L, S, hh) (rsC re en n M v (w1 ++ w2) c t lf) := by
  unfold rsC at hc ⊢
  rcases rW_app w1 w2 c t lf with ⟨c', t', lf', e1, e2⟩ | ⟨lf', e1, e2⟩
  · rw [e1] at hc
    rw [e2]
    exact fEv.thr hs hc hn
  · rw [e1] at hc
    rw [e2]
    exact fEv.calli hs hc (he lf')
/-- the last writing call, with an answer -/
theorem fEv.callwiE {k pc k' pc' : Nat} {L : List (Option Value)} {S : List Value} {hh : mH} {av S' : List Value} {L' : List (Option Value)} {h : mH} {w1 : List Wr} {v : Option Value} {z : Int32} (hs : fGo Ls xs 300 k pc L S hh = some (.inr (.inr (.inr (.inl (k', av, (pc', L', S', h)))))))
    (hc : mEv Ls xs k' (mEnt k' av h) (rsC re en n M (some (.int z)) w1 c t lf)) (hn : mHH k = []) (he : ∀ lf', mEv Ls xs k (pc', L', .int z :: S', hV (rn w1 c t).1 (rn w1 c t).2 lf' 0 re en n M) (.inl v, hV (rn w1 c t).1 (rn w1 c t).2 lf' 0 re en n M, 0, 0)) :
    mEv Ls xs k (pc, L, S, hh) (rsC re en n M v w1 c t lf) := by
  have h2 := fEv.callwi (v := v) [] hs hc hn he
  rwa [List.append_nil] at h2
theorem e_wT {j : Nat} {v : Int32} (hj : j < 32) : mEv Ls xs 45 (0, [some (.ref 1), some (.int (nI j)), some (.int v)], [], (hV c t lf 0 re en n M)) (rsC re en n M none [wT j v] c t lf) := by
  unfold rsC rW
  by_cases h : lf = 0
  · rw [if_pos h]; exact e_writeTable0 h
  · rw [if_neg h]; exact e_writeTable1 h hj
theorem e_wC {j : Nat} {v0 v1 v2 v3 : Int32} (hj : j < 32) : mEv Ls xs 47 (0, [some (.ref 1), some (.int (nI j)), some (.int v0), some (.int v1), some (.int v2), some (.int v3), none], [], (hV c t lf 0 re en n M)) (rsC re en n M none [wC j v0 v1 v2 v3] c t lf) := by
  unfold rsC rW
  by_cases h : lf = 0
  · rw [if_pos h]; exact e_writeCluster0 h
  · rw [if_neg h]; exact e_writeCluster1 h hj
theorem e_wK {j i : Nat} {v : Int32} (hj : j < 32) (hi : i < 4) : mEv Ls xs 48 (0, [some (.ref 1), some (.int (nI j)), some (.int (nI i)), some (.int v)], [], (hV c t lf 0 re en n M)) (rsC re en n M none [wK j i v] c t lf) := by
  unfold rsC rW
  by_cases h : lf = 0
  · rw [if_pos h]; exact e_writeCell0 h
  · rw [if_neg h]; exact e_writeCell1 h hj hi
theorem e_writeExtent {e : Nat} {f l : Int32} (he : e < 32) : mEv Ls xs 30 (0, [some (.ref 0), some (.int (nI e)), some (.int f), some (.int l)], [], (hV c t lf 0 re en n M)) (rsC re en n M none [wC e (c (4 * e)) (c (4 * e + 1)) f l] c t lf) := by
  refine fEv.calli rfl e_cellAt ?_
  rw [cellA_nI he (by decide), Nat.add_zero]
  refine fEv.calli rfl e_cellAt ?_
  rw [cellA_nI he (by decide)]
  refine fEv.callwE rfl (e_wC he) rfl (fun lf' => ?_)
  exact fEv.retV rfl rfl
theorem Chain_upd {t : Nat → Int32} {a : Nat} {v : Int32} : ∀ {l : List Nat} {x : Int32}, Chain t x l → a ∉ l → Chain (upd t a v) x l := by
  intro l
  induction l with
  | nil => intro x h _; exact h
  | cons b l ih =>
    intro x h ha
    refine ⟨h.1, h.2.1, ?_⟩
    have : upd t a v b = t b := pk_un (fun q => ha (by rw [q]; exact List.mem_cons_self))
    rw [this]
    exact ih h.2.2 (fun q => ha (List.mem_cons_of_mem _ q))
def wF (l : List Nat) : List Wr := l.map fun a => wT a (-2)
theorem fc_loop {x0 : Int32} : ∀ (l : List Nat) (x : Int32) (q : Nat) (t : Nat → Int32) (lf : Int32) (o : Option Value), (o = none ∨ ∃ z, o = some (.int z)) → Chain t x l → l.Nodup → q + l.length ≤ 32 → mEv Ls xs 25 (4, [some (.ref 0), some (.int x0), some (.int (nI q)), some (.int x), o], [], hV c t lf 0 re en n M) (rsC re en n M (some (.int (nI (q + l.length)))) (wF l) c t lf) := by
  intro l
  induction l with
  | nil =>
    intro x q t lf o ho hx _ hs
    have hx : x = -1 := hx
    subst hx
    show mEv Ls xs 25 _ (rV (nI q) (hV c t lf 0 re en n M))
    rcases ho with rfl | ⟨z, rfl⟩ <;>
    · refine fEv.br rfl (fun h1 => ?_) (fun h1 => ?_)
      · exact fEv.retV rfl rfl
      · refine fEv.calli rfl e_isC ?_
        rw [isC_m1]
        refine fEv.brT rfl (by decide) ?_
        exact fEv.retV rfl rfl
  | cons a l ih =>
    intro x q t lf o ho hx hnd hs
    obtain ⟨rfl, ha, hc⟩ := hx
    obtain ⟨hal, hnd⟩ := List.nodup_cons.mp hnd
    simp only [List.length_cons] at hs
    show mEv Ls xs 25 _ (rsC re en n M (some (.int (nI (q + (l.length + 1))))) (wT a (-2) :: wF l) c t lf)
    rcases ho with rfl | ⟨z, rfl⟩ <;>
    · refine fEv.brF rfl (decide_eq_false (nI_ge (a := q) (b := 32) (by omega) (by decide))) ?_
      refine fEv.calli rfl e_isC ?_
      rw [isC_nI ha]
      refine fEv.brF rfl (by decide) ?_
      refine fEv.calli rfl e_nextAfter ?_
      rw [nextA_nI ha]
      refine fEv.callwc rfl (e_wT ha) rfl (fun lf' => ?_)
      have h2 := ih (t a) (q + 1) (upd t a (-2)) lf' (some (.int (t a))) (Or.inr ⟨_, rfl⟩) (Chain_upd hc hal) hnd (by omega)
      rw [show q + 1 + l.length = q + (l.length + 1) by omega, ← nI_add] at h2
      exact fEv.steps 4 rfl h2
theorem e_freeChain {x : Int32} {l : List Nat} (hc : Chain t x l) (hn : l.Nodup) (hl : l.length ≤ 32) : mEv Ls xs 25 (0, [some (.ref 0), some (.int x), none, none, none], [], (hV c t lf 0 re en n M)) (rsC re en n M (some (.int (nI l.length))) (wF l) c t lf) := by
  have h2 := fc_loop (Ls := Ls) (xs := xs) (c := c) (re := re) (en := en) (n := n) (M := M) (x0 := x) l x 0 t lf none (Or.inl rfl) hc hn (by omega)
  rw [Nat.zero_add] at h2
  exact fEv.steps 4 rfl h2
theorem e_freeBehind0 {a : Nat} (ha : a < 32) (h : t a = -1) : mEv Ls xs 35 (0, [some (.ref 0), some (.int (nI a)), none], [], (hV c t lf 0 re en n M)) (rsC re en n M (some (.int (nI 0))) [] c t lf) := by
  refine fEv.calli rfl e_nextAfter ?_
  rw [nextA_nI ha, h]
  refine fEv.calli rfl e_isC ?_
  rw [isC_m1]
  refine fEv.brF rfl (by decide) ?_
  exact fEv.retV rfl rfl
theorem e_freeBehind1 {a b : Nat} {l : List Nat} (ha : a < 32) (h : t a = nI b) (hb : b < 32) (hc : Chain t (t b) l) (hn : (b :: l).Nodup) (hal : a ∉ b :: l) (hl : l.length < 32) : mEv Ls xs 35 (0, [some (.ref 0), some (.int (nI a)), none], [], (hV c t lf 0 re en n M)) (rsC re en n M (some (.int (nI (l.length + 1)))) (wT a (-1) :: wF (b :: l)) c t lf) := by
  refine fEv.calli rfl e_nextAfter ?_
  rw [nextA_nI ha, h]
  refine fEv.calli rfl e_isC ?_
  rw [isC_nI hb]
  refine fEv.brT rfl (by decide) ?_
  refine fEv.callwc rfl (e_wT ha) rfl (fun lf' => ?_)
  have hch : Chain (upd t a (-1)) (nI b) (b :: l) := Chain_upd (t := t) (x := nI b) (l := b :: l) ⟨rfl, hb, hc⟩ hal
  have h2 := e_freeChain (Ls := Ls) (xs := xs) (c := c) (t := upd t a (-1)) (lf := lf') (re := re) (en := en) (n := n) (M := M) hch hn (by simp only [List.length_cons]; omega)
  refine fEv.callwiE rfl h2 rfl (fun lf'' => ?_)
  exact fEv.retV rfl rfl
theorem e_link0 {p a : Nat} (hp : p < 32) (hf : c (4 * p + 2) = -1) : mEv Ls xs 21 (0, [some (.ref 0), some (.int (nI p)), some (.int (nI a)), none], [], (hV c t lf 0 re en n M)) (rsC re en n M none [wK p 2 (nI a)] c t lf) := by
  refine fEv.calli rfl e_firstOf ?_
  have e1 : fstC c (nI p) = -1 := by
    unfold fstC
    rw [if_neg (nI_ne3 hp), cellA_nI hp (by decide), hf]
  rw [e1]
  refine fEv.brF rfl (by decide) ?_
  refine fEv.callwE rfl (e_wK hp (by decide)) rfl (fun lf' => ?_)
  exact fEv.retV rfl rfl
theorem e_link1 {e : Int32} {a b : Nat} {l : List Nat} (hf : fstC c e = nI b) (hb : b < 32) (hc : Chain t (t b) l) (hl : l.length ≤ 32) (hla : lastI b l < 32) : mEv Ls xs 21 (0, [some (.ref 0), some (.int e), some (.int (nI a)), none], [], (hV c t lf 0 re en n M)) (rsC re en n M none [wT (lastI b l) (nI a)] c t lf) := by
  refine fEv.calli rfl e_firstOf ?_
  rw [hf]
  refine fEv.brT rfl (decide_eq_true (nI_ne1 hb)) ?_
  refine fEv.calli rfl (e_lastOfChain hb hc hl) ?_
  refine fEv.callwE rfl (e_wT hla) rfl (fun lf' => ?_)
  exact fEv.retV rfl rfl
end KW
