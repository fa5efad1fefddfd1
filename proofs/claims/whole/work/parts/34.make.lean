/-! the class's calls -/
section KU
variable {Ls : Nat} {xs : Nat → Int32} {c t re en : Nat → Int32} {lf dn n : Int32} {M : mH} {ch : Nat → List Nat} {R : Nat → Prop}
def badP (a : Int32) : Prop := (a < 0 ∨ nI 65535 < a) ∨ ∃ p : Nat, p < 65536 ∧ a = nI p ∧ okP p = false
theorem e_bad {a : Int32} {h : mH} (hb : badP a) : mEv Ls xs 17 (0, [some (.int a), none, none, none], [], h) (rX 1 h) := by
  rcases hb with hb | ⟨p, hp, rfl, ho⟩
  · exact e_pathX hb
  · have := e_path (Ls := Ls) (xs := xs) (h := h) hp
    rwa [if_neg (by rw [ho]; decide)] at this
theorem e_good {p : Nat} {h : mH} (hp : p < 65536) (ho : okP p = true) : mEv Ls xs 17 (0, [some (.int (nI p)), none, none, none], [], h) (rN h) := by
  have := e_path (Ls := Ls) (xs := xs) (h := h) hp
  rwa [if_pos ho] at this
theorem e_at {p q : Nat} (hR : Rc c t ch R) (h32 : R 32) (hp : p < 65536) (hw : wk c ch p = some q) : mEv Ls xs 18 (0, [some (.ref 0), some (.int (nI p)), none, none, none], [], (hV c t lf dn re en n M)) (rV (eC q) (hV c t lf dn re en n M)) := by
  have := e_entryAt (Ls := Ls) (xs := xs) (lf := lf) (dn := dn) (re := re) (en := en) (n := n) (M := M) hR h32 hp
  rwa [hw] at this
theorem e_atN {p : Nat} (hR : Rc c t ch R) (h32 : R 32) (hp : p < 65536) (hw : wk c ch p = none) : mEv Ls xs 18 (0, [some (.ref 0), some (.int (nI p)), none, none, none], [], (hV c t lf dn re en n M)) (rX 2 (hV c t lf dn re en n M)) := by
  have := e_entryAt (Ls := Ls) (xs := xs) (lf := lf) (dn := dn) (re := re) (en := en) (n := n) (M := M) hR h32 hp
  rwa [hw] at this
theorem wk_R {p q : Nat} (hR : Rc c t ch R) (h32 : R 32) (hw : wk c ch p = some q) : R q := by
  have key : ∀ a d b, R a → d < 16 → stp c ch a d = some b → R b := by
    intro a d b ha hd hs
    unfold stp at hs
    split at hs
    · cases hs; exact ha
    · rename_i hd0
      split at hs
      · rename_i hdir
        obtain ⟨h1, h2⟩ := lkO_some hs
        exact (((hR a ha).2 hdir).2.2 b h1 (by rw [h2]; intro z; exact hd0 ((nI_eq (by omega) (by decide)).mp z))).1
      · cases hs
  unfold wk at hw
  obtain ⟨a1, e1, hw⟩ := Option.bind_eq_some_iff.mp hw
  obtain ⟨a2, e2, hw⟩ := Option.bind_eq_some_iff.mp hw
  obtain ⟨a3, e3, hw⟩ := Option.bind_eq_some_iff.mp hw
  exact key _ _ _ (key _ _ _ (key _ _ _ (key _ _ _ h32 (dg_lt _ _) e1) (dg_lt _ _) e2) (dg_lt _ _) e3) (dg_lt _ _) hw
theorem sh16 {p : Nat} (hp : p < 65536) : nI p >>> (nI 4 &&& 31) = nI (p / 16) := pk_shrN (by omega) _ 4 (by decide)
theorem an15 {p : Nat} (hp : p < 65536) : nI p &&& nI 15 = nI (p % 16) := pk_andN (by omega) 4 (by decide)
theorem e_named {q d : Nat} (hR : Rc c t ch R) (hq : R q) (hd : dirP c q = true) : mEv Ls xs 19 (0, [some (.ref 0), some (.int (eC q)), some (.int (nI d)), none, none], [], (hV c t lf dn re en n M)) (rV (oI (lkO c d (ch q))) (hV c t lf dn re en n M)) := by
  obtain ⟨h1, h2⟩ := hR q hq
  obtain ⟨h3, h4, -⟩ := h2 hd
  rw [← lkI_eq]
  exact e_entryNamed (by rw [dirC_e h1]; exact hd) (by rw [fstC_e h1]; exact h3) h4
theorem e_dir {q : Nat} (hR : Rc c t ch R) (hq : R q) : mEv Ls xs 7 (0, [some (.ref 0), some (.int (eC q))], [], (hV c t lf dn re en n M)) (rV (bI (dirP c q)) (hV c t lf dn re en n M)) := by
  rw [← dirC_e (hR q hq).1]
  exact e_isDir
theorem e_fst {q : Nat} (hR : Rc c t ch R) (hq : R q) : mEv Ls xs 11 (0, [some (.ref 0), some (.int (eC q))], [], (hV c t lf dn re en n M)) (rV (fsP c q) (hV c t lf dn re en n M)) := by
  rw [← fstC_e (hR q hq).1]
  exact e_firstOf
-- make
theorem e_make_down {a d : Int32} : mEv Ls xs 15 (0, [some (.ref 0), some (.int a), some (.int d), none, none, none, none, none], [], (hV c t lf 1 re en n M)) (rX 0 (hV c t lf 1 re en n M)) := fEv.thr rfl e_down rfl
theorem e_make_bad {a d : Int32} (hb : badP a) : mEv Ls xs 15 (0, [some (.ref 0), some (.int a), some (.int d), none, none, none, none, none], [], (hV c t lf 0 re en n M)) (rX 1 (hV c t lf 0 re en n M)) := by
  refine fEv.calln rfl e_up ?_
  exact fEv.thr rfl (e_bad hb) rfl
theorem e_make_no {p : Nat} {d : Int32} (hp : p < 65536) (ho : okP p = true) (hR : Rc c t ch R) (h32 : R 32) (hw : wk c ch (p / 16) = none) : mEv Ls xs 15 (0, [some (.ref 0), some (.int (nI p)), some (.int d), none, none, none, none, none], [], (hV c t lf 0 re en n M)) (rX 2 (hV c t lf 0 re en n M)) := by
  refine fEv.calln rfl e_up ?_
  refine fEv.calln rfl (e_good hp ho) ?_
  have h2 := e_atN (Ls := Ls) (xs := xs) (lf := lf) (dn := 0) (re := re) (en := en) (n := n) (M := M) hR h32 (p := p / 16) (by omega) hw
  rw [← sh16 hp] at h2
  exact fEv.thr rfl h2 rfl
theorem e_make_file {p q : Nat} {d : Int32} (hp : p < 65536) (ho : okP p = true) (hR : Rc c t ch R) (h32 : R 32) (hw : wk c ch (p / 16) = some q) (hd : dirP c q = false) : mEv Ls xs 15 (0, [some (.ref 0), some (.int (nI p)), some (.int d), none, none, none, none, none], [], (hV c t lf 0 re en n M)) (rX 2 (hV c t lf 0 re en n M)) := by
  refine fEv.calln rfl e_up ?_
  refine fEv.calln rfl (e_good hp ho) ?_
  have h2 := e_at (Ls := Ls) (xs := xs) (lf := lf) (dn := 0) (re := re) (en := en) (n := n) (M := M) hR h32 (p := p / 16) (by omega) hw
  rw [← sh16 hp] at h2
  refine fEv.calli rfl h2 ?_
  refine fEv.calli rfl (e_dir hR (wk_R hR h32 hw)) ?_
  rw [hd]
  refine fEv.brF rfl (by decide) ?_
  exact fEv.retX rfl rfl
theorem e_make_is {p q : Nat} {d : Int32} (hp : p < 65536) (ho : okP p = true) (hR : Rc c t ch R) (h32 : R 32) (hw : wk c ch (p / 16) = some q) (hd : dirP c q = true) (hl : p = 0 ∨ ∃ a, lkO c (p % 16) (ch q) = some a ∧ a < 32) : mEv Ls xs 15 (0, [some (.ref 0), some (.int (nI p)), some (.int d), none, none, none, none, none], [], (hV c t lf 0 re en n M)) (rX 3 (hV c t lf 0 re en n M)) := by
  have hq := wk_R hR h32 hw
  refine fEv.calln rfl e_up ?_
  refine fEv.calln rfl (e_good hp ho) ?_
  have h2 := e_at (Ls := Ls) (xs := xs) (lf := lf) (dn := 0) (re := re) (en := en) (n := n) (M := M) hR h32 (p := p / 16) (by omega) hw
  rw [← sh16 hp] at h2
  refine fEv.calli rfl h2 ?_
  refine fEv.calli rfl (e_dir hR hq) ?_
  rw [hd]
  refine fEv.brT rfl (by decide) ?_
  refine fEv.br rfl (fun h0 => ?_) (fun h0 => ?_)
  · exact fEv.retX rfl rfl
  · rcases hl with hl | ⟨a, hl, ha⟩
    · exact absurd (by rw [hl]; rfl) h0
    · have h3 := e_named (Ls := Ls) (xs := xs) (lf := lf) (dn := 0) (re := re) (en := en) (n := n) (M := M) (d := p % 16) hR hq hd
      rw [← an15 hp, hl] at h3
      refine fEv.calli rfl h3 ?_
      refine fEv.brF rfl (decide_eq_false (nI_ne1 ha)) ?_
      exact fEv.retX rfl rfl
/-- up to the choice of a place -/
theorem mk_pre {p q : Nat} {d : Int32} {r : mR} (hp : p < 65536) (hp0 : ¬ p = 0) (ho : okP p = true) (hR : Rc c t ch R) (h32 : R 32) (hw : wk c ch (p / 16) = some q) (hd : dirP c q = true) (hl : lkO c (p % 16) (ch q) = none)
    (k : mEv Ls xs 15 (84, [some (.ref 0), some (.int (nI p)), some (.int d), some (.int (eC q)), some (.int (nI p &&& nI 15)), some (.int (if d = 0 then nI 1 else nI 2)), some (.int (oI (lkO c 0 (ch q)))), none], [], hV c t lf 0 re en n M) r) :
    mEv Ls xs 15 (0, [some (.ref 0), some (.int (nI p)), some (.int d), none, none, none, none, none], [], (hV c t lf 0 re en n M)) r := by
  have hq := wk_R hR h32 hw
  refine fEv.calln rfl e_up ?_
  refine fEv.calln rfl (e_good hp ho) ?_
  have h2 := e_at (Ls := Ls) (xs := xs) (lf := lf) (dn := 0) (re := re) (en := en) (n := n) (M := M) hR h32 (p := p / 16) (by omega) hw
  rw [← sh16 hp] at h2
  refine fEv.calli rfl h2 ?_
  refine fEv.calli rfl (e_dir hR hq) ?_
  rw [hd]
  refine fEv.brT rfl (by decide) ?_
  refine fEv.brF rfl (decide_eq_false (nI_ne0 (by omega) (by omega))) ?_
  have h3 := e_named (Ls := Ls) (xs := xs) (lf := lf) (dn := 0) (re := re) (en := en) (n := n) (M := M) (d := p % 16) hR hq hd
  rw [← an15 hp, hl] at h3
  refine fEv.calli rfl h3 ?_
  refine fEv.brT rfl (by decide) ?_
  have h4 := e_named (Ls := Ls) (xs := xs) (lf := lf) (dn := 0) (re := re) (en := en) (n := n) (M := M) (d := 0) hR hq hd
  refine fEv.br rfl (fun h5 => ?_) (fun h5 => ?_)
  · rw [if_pos h5] at k
    refine fEv.calli rfl h4 ?_
    exact fEv.steps 1 rfl k
  · rw [if_neg h5] at k
    refine fEv.calli rfl h4 ?_
    exact fEv.steps 1 rfl k
theorem e_make_empty {p q a : Nat} {d : Int32} (hp : p < 65536) (hp0 : ¬ p = 0) (ho : okP p = true) (hR : Rc c t ch R) (h32 : R 32) (hw : wk c ch (p / 16) = some q) (hd : dirP c q = true) (hl : lkO c (p % 16) (ch q) = none) (he : lkO c 0 (ch q) = some a) (ha : a < 32) :
    mEv Ls xs 15 (0, [some (.ref 0), some (.int (nI p)), some (.int d), none, none, none, none, none], [], (hV c t lf 0 re en n M)) (rsC re en n M (some (.int (nI a))) [wC a (nI (p % 16)) (if d = 0 then nI 1 else nI 2) (-1) (nI 0)] c t lf) := by
  refine mk_pre hp hp0 ho hR h32 hw hd hl ?_
  rw [he, an15 hp]
  refine fEv.brF rfl (decide_eq_false (nI_ne1 ha)) ?_
  refine fEv.callwE rfl (e_wC ha) rfl (fun lf' => ?_)
  exact fEv.retV rfl rfl
theorem e_make_full {p q : Nat} {d : Int32} (hp : p < 65536) (hp0 : ¬ p = 0) (ho : okP p = true) (hR : Rc c t ch R) (h32 : R 32) (hw : wk c ch (p / 16) = some q) (hd : dirP c q = true) (hl : lkO c (p % 16) (ch q) = none) (he : lkO c 0 (ch q) = none) (hf : ∀ i, i < 32 → ¬ t i = -2) :
    mEv Ls xs 15 (0, [some (.ref 0), some (.int (nI p)), some (.int d), none, none, none, none, none], [], (hV c t lf 0 re en n M)) (rX 4 (hV c t lf 0 re en n M)) := by
  refine mk_pre hp hp0 ho hR h32 hw hd hl ?_
  rw [he]
  refine fEv.brT rfl (by decide) ?_
  exact fEv.thr rfl (e_takeN hf) rfl
theorem w4_at {c : Nat → Int32} {j : Nat} {v0 v1 v2 v3 : Int32} {p i : Nat} (h : p ≠ j) (hi : i < 4) : w4 c j v0 v1 v2 v3 (4 * p + i) = c (4 * p + i) := by
  unfold w4
  rw [pk_un (by omega), pk_un (by omega), pk_un (by omega), pk_un (by omega)]
/-- a new cluster for a directory without clusters -/
theorem e_make_new0 {p q a : Nat} {d : Int32} (hp : p < 65536) (hp0 : ¬ p = 0) (ho : okP p = true) (hR : Rc c t ch R) (h32 : R 32) (hw : wk c ch (p / 16) = some q) (hd : dirP c q = true) (hl : lkO c (p % 16) (ch q) = none) (he : lkO c 0 (ch q) = none) (ha : a < 32) (hf : t a = -2) (hm : ∀ i, i < a → ¬ t i = -2) (hq : q < 32) (hq1 : c (4 * q + 2) = -1) (hqa : q ≠ a) :
    mEv Ls xs 15 (0, [some (.ref 0), some (.int (nI p)), some (.int d), none, none, none, none, none], [], (hV c t lf 0 re en n M)) (rsC re en n M (some (.int (nI a))) [wC a (nI (p % 16)) (if d = 0 then nI 1 else nI 2) (-1) (nI 0), wT a (-1), wK q 2 (nI a)] c t lf) := by
  refine mk_pre hp hp0 ho hR h32 hw hd hl ?_
  rw [he, an15 hp]
  refine fEv.brT rfl (by decide) ?_
  refine fEv.calli rfl (e_take ha hf hm) ?_
  refine fEv.callwc rfl (e_wC ha) rfl (fun lf1 => ?_)
  refine fEv.callwc rfl (e_wT ha) rfl (fun lf2 => ?_)
  have e1 : eC q = nI q := by unfold eC; rw [if_neg (by omega)]
  rw [e1]
  refine fEv.callwE rfl (e_link0 hq (by show w4 _ _ _ _ _ _ (4 * q + 2) = -1; rw [w4_at hqa (by decide)]; exact hq1)) rfl (fun lf3 => ?_)
  exact fEv.retV rfl rfl
/-- a new cluster behind the others -/
theorem e_make_new1 {p q a b : Nat} {l : List Nat} {d : Int32} (hp : p < 65536) (hp0 : ¬ p = 0) (ho : okP p = true) (hR : Rc c t ch R) (h32 : R 32) (hw : wk c ch (p / 16) = some q) (hd : dirP c q = true) (hl : lkO c (p % 16) (ch q) = none) (he : lkO c 0 (ch q) = none) (ha : a < 32) (hf : t a = -2) (hm : ∀ i, i < a → ¬ t i = -2)
    (hch : ch q = b :: l) (hal : a ∉ b :: l) (hqa : q ≠ a) : mEv Ls xs 15 (0, [some (.ref 0), some (.int (nI p)), some (.int d), none, none, none, none, none], [], (hV c t lf 0 re en n M)) (rsC re en n M (some (.int (nI a))) [wC a (nI (p % 16)) (if d = 0 then nI 1 else nI 2) (-1) (nI 0), wT a (-1), wT (lastI b l) (nI a)] c t lf) := by
  obtain ⟨h1, h2⟩ := hR q (wk_R hR h32 hw)
  obtain ⟨h3, h4, -⟩ := h2 hd
  rw [hch] at h3 h4
  refine mk_pre hp hp0 ho hR h32 hw hd hl ?_
  rw [he, an15 hp]
  refine fEv.brT rfl (by decide) ?_
  refine fEv.calli rfl (e_take ha hf hm) ?_
  refine fEv.callwc rfl (e_wC ha) rfl (fun lf1 => ?_)
  refine fEv.callwc rfl (e_wT ha) rfl (fun lf2 => ?_)
  have hlast : ∀ (l : List Nat) (b : Nat), (∀ z ∈ b :: l, z < 32) → lastI b l < 32 := by
    intro l
    induction l with
    | nil => intro b h; exact h b List.mem_cons_self
    | cons z l ih => intro b h; exact ih z (fun y hy => h y (List.mem_cons_of_mem _ hy))
  have hc3 : Chain (upd t a (-1)) (nI b) (b :: l) := Chain_upd (t := t) ⟨rfl, h3.2.1, h3.2.2⟩ hal
  refine fEv.callwE rfl (e_link1 (b := b) (l := l) ?_ h3.2.1 hc3.2.2 (by simp only [List.length_cons] at h4; omega) (hlast l b (Chain.lt h3))) rfl (fun lf3 => ?_)
  · rw [fstC_e h1]
    show fsP (w4 _ _ _ _ _ _) q = nI b
    have : fsP c q = nI b := h3.1
    unfold fsP at this ⊢
    by_cases hq : q = 32
    · rw [if_pos hq] at this ⊢; exact this
    · rw [if_neg hq] at this ⊢; rw [w4_at hqa (by decide)]; exact this
  · exact fEv.retV rfl rfl
end KU
