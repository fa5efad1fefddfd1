/-! the class's other calls -/
section KV
variable {Ls : Nat} {xs : Nat → Int32} {c t re en : Nat → Int32} {lf dn n : Int32} {M : mH} {ch : Nat → List Nat} {R : Nat → Prop}
theorem eC_lt {q : Nat} (h : q < 32) : eC q = nI q := by unfold eC; rw [if_neg (by omega)]
theorem e_nms {q : Nat} (hR : Rc c t ch R) (hq : R q) (hd : dirP c q = true) : mEv Ls xs 24 (0, [some (.ref 0), some (.int (eC q)), none, none, none], [], (hV c t lf dn re en n M)) (rV (nmsI c (nI 0) (ch q) &&& (-2)) (hV c t lf dn re en n M)) := by
  obtain ⟨h1, h2⟩ := hR q hq
  obtain ⟨h3, h4, -⟩ := h2 hd
  exact e_namesIn (by rw [fstC_e h1]; exact h3) h4
-- remove
theorem e_rem_down {a : Int32} : mEv Ls xs 23 (0, [some (.ref 0), some (.int a), none, none], [], (hV c t lf 1 re en n M)) (rX 0 (hV c t lf 1 re en n M)) := fEv.thr rfl e_down rfl
theorem e_rem_bad {a : Int32} (hb : badP a) : mEv Ls xs 23 (0, [some (.ref 0), some (.int a), none, none], [], (hV c t lf 0 re en n M)) (rX 1 (hV c t lf 0 re en n M)) := by
  refine fEv.calln rfl e_up ?_
  exact fEv.thr rfl (e_bad hb) rfl
theorem e_rem_no {p : Nat} (hp : p < 65536) (ho : okP p = true) (hR : Rc c t ch R) (h32 : R 32) (hw : wk c ch p = none) : mEv Ls xs 23 (0, [some (.ref 0), some (.int (nI p)), none, none], [], (hV c t lf 0 re en n M)) (rX 2 (hV c t lf 0 re en n M)) := by
  refine fEv.calln rfl e_up ?_
  refine fEv.calln rfl (e_good hp ho) ?_
  exact fEv.thr rfl (e_atN hR h32 hp hw) rfl
theorem e_rem_root {p : Nat} (hp : p < 65536) (ho : okP p = true) (hR : Rc c t ch R) (h32 : R 32) (hw : wk c ch p = some 32) : mEv Ls xs 23 (0, [some (.ref 0), some (.int (nI p)), none, none], [], (hV c t lf 0 re en n M)) (rX 3 (hV c t lf 0 re en n M)) := by
  refine fEv.calln rfl e_up ?_
  refine fEv.calln rfl (e_good hp ho) ?_
  refine fEv.calli rfl (e_at hR h32 hp hw) ?_
  refine fEv.brF rfl (by decide) ?_
  exact fEv.retX rfl rfl
theorem e_rem_names {p q : Nat} (hp : p < 65536) (ho : okP p = true) (hR : Rc c t ch R) (h32 : R 32) (hw : wk c ch p = some q) (hq : q < 32) (hd : dirP c q = true) (hn : ¬ nmsI c (nI 0) (ch q) &&& (-2) = 0) : mEv Ls xs 23 (0, [some (.ref 0), some (.int (nI p)), none, none], [], (hV c t lf 0 re en n M)) (rX 3 (hV c t lf 0 re en n M)) := by
  have hRq := wk_R hR h32 hw
  refine fEv.calln rfl e_up ?_
  refine fEv.calln rfl (e_good hp ho) ?_
  refine fEv.calli rfl (e_at hR h32 hp hw) ?_
  refine fEv.brT rfl (decide_eq_true (by rw [eC_lt hq]; exact nI_ne3 hq)) ?_
  refine fEv.calli rfl (e_dir hR hRq) ?_
  rw [hd]
  refine fEv.brF rfl (by decide) ?_
  refine fEv.calli rfl (e_nms hR hRq hd) ?_
  refine fEv.brF rfl (decide_eq_false hn) ?_
  exact fEv.retX rfl rfl
/-- a chain, with what is behind the walk's entry zeroed -/
theorem e_rem {p q : Nat} {l : List Nat} (hp : p < 65536) (ho : okP p = true) (hR : Rc c t ch R) (h32 : R 32) (hw : wk c ch p = some q) (hq : q < 32) (hd : dirP c q = false ∨ nmsI c (nI 0) (ch q) &&& (-2) = 0) (hc : Chain t (fsP c q) l) (hn : l.Nodup) (hl : l.length ≤ 32) :
    mEv Ls xs 23 (0, [some (.ref 0), some (.int (nI p)), none, none], [], (hV c t lf 0 re en n M)) (rsC re en n M (some (.int (nI l.length))) (wC q (nI 0) (nI 0) (nI 0) (nI 0) :: wF l) c t lf) := by
  have hRq := wk_R hR h32 hw
  refine fEv.calln rfl e_up ?_
  refine fEv.calln rfl (e_good hp ho) ?_
  refine fEv.calli rfl (e_at hR h32 hp hw) ?_
  refine fEv.brT rfl (decide_eq_true (by rw [eC_lt hq]; exact nI_ne3 hq)) ?_
  refine fEv.calli rfl (e_dir hR hRq) ?_
  have fin : mEv Ls xs 23 (56, [some (.ref 0), some (.int (nI p)), some (.int (eC q)), none], [], hV c t lf 0 re en n M) (rsC re en n M (some (.int (nI l.length))) (wC q (nI 0) (nI 0) (nI 0) (nI 0) :: wF l) c t lf) := by
    refine fEv.calli rfl (e_fst hR hRq) ?_
    rw [eC_lt hq]
    refine fEv.callwc rfl (e_wC hq) rfl (fun lf1 => ?_)
    refine fEv.callwiE rfl (e_freeChain hc hn hl) rfl (fun lf2 => ?_)
    exact fEv.retV rfl rfl
  cases hdd : dirP c q with
  | false => exact fEv.brT rfl (by decide) fin
  | true =>
    refine fEv.brF rfl (by decide) ?_
    refine fEv.calli rfl (e_nms hR hRq hdd) ?_
    rcases hd with hd | hd
    · rw [hd] at hdd; cases hdd
    · exact fEv.brT rfl (decide_eq_true hd) fin
-- rename
theorem e_ren_down {a b : Int32} : mEv Ls xs 26 (0, [some (.ref 0), some (.int a), some (.int b), none, none], [], (hV c t lf 1 re en n M)) (rX 0 (hV c t lf 1 re en n M)) := fEv.thr rfl e_down rfl
theorem e_ren_bad {a b : Int32} (hb : badP a) : mEv Ls xs 26 (0, [some (.ref 0), some (.int a), some (.int b), none, none], [], (hV c t lf 0 re en n M)) (rX 1 (hV c t lf 0 re en n M)) := by
  refine fEv.calln rfl e_up ?_
  exact fEv.thr rfl (e_bad hb) rfl
theorem e_ren_name {p : Nat} {b : Int32} (hp : p < 65536) (ho : okP p = true) (hb : b < nI 1 ∨ nI 15 < b) : mEv Ls xs 26 (0, [some (.ref 0), some (.int (nI p)), some (.int b), none, none], [], (hV c t lf 0 re en n M)) (rX 1 (hV c t lf 0 re en n M)) := by
  refine fEv.calln rfl e_up ?_
  refine fEv.calln rfl (e_good hp ho) ?_
  refine fEv.br rfl (fun h1 => ?_) (fun h1 => ?_)
  · exact fEv.retX rfl rfl
  · rcases hb with hb | hb
    · exact absurd hb h1
    · refine fEv.brF rfl (decide_eq_false (Int32.not_le.mpr hb)) ?_
      exact fEv.retX rfl rfl
theorem rn_pre {p b : Nat} {r : mR} (hp : p < 65536) (ho : okP p = true) (hb1 : 1 ≤ b) (hb2 : b ≤ 15)
    (k : mEv Ls xs 26 (29, [some (.ref 0), some (.int (nI p)), some (.int (nI b)), none, none], [], hV c t lf 0 re en n M) r) : mEv Ls xs 26 (0, [some (.ref 0), some (.int (nI p)), some (.int (nI b)), none, none], [], (hV c t lf 0 re en n M)) r := by
  refine fEv.calln rfl e_up ?_
  refine fEv.calln rfl (e_good hp ho) ?_
  refine fEv.brF rfl (decide_eq_false (nI_nlt hb1 (by omega))) ?_
  exact fEv.brT rfl (decide_eq_true (nI_le hb2 (by decide))) k
theorem e_ren_no {p b : Nat} (hp : p < 65536) (ho : okP p = true) (hb1 : 1 ≤ b) (hb2 : b ≤ 15) (hR : Rc c t ch R) (h32 : R 32) (hw : wk c ch p = none) : mEv Ls xs 26 (0, [some (.ref 0), some (.int (nI p)), some (.int (nI b)), none, none], [], (hV c t lf 0 re en n M)) (rX 2 (hV c t lf 0 re en n M)) := by
  refine rn_pre hp ho hb1 hb2 ?_
  exact fEv.thr rfl (e_atN hR h32 hp hw) rfl
theorem e_ren_root {p b : Nat} (hp : p < 65536) (ho : okP p = true) (hb1 : 1 ≤ b) (hb2 : b ≤ 15) (hR : Rc c t ch R) (h32 : R 32) (hw : wk c ch p = some 32) : mEv Ls xs 26 (0, [some (.ref 0), some (.int (nI p)), some (.int (nI b)), none, none], [], (hV c t lf 0 re en n M)) (rX 3 (hV c t lf 0 re en n M)) := by
  refine rn_pre hp ho hb1 hb2 ?_
  refine fEv.calli rfl (e_at hR h32 hp hw) ?_
  refine fEv.brF rfl (by decide) ?_
  exact fEv.retX rfl rfl
theorem rn_pre2 {p b q q' : Nat} {r : mR} (hp : p < 65536) (ho : okP p = true) (hb1 : 1 ≤ b) (hb2 : b ≤ 15) (hR : Rc c t ch R) (h32 : R 32) (hw : wk c ch p = some q) (hq : q < 32) (hw' : wk c ch (p / 16) = some q') (hd : dirP c q' = true)
    (k : mEv Ls xs 26 (67, [some (.ref 0), some (.int (nI p)), some (.int (nI b)), some (.int (eC q)), some (.int (nI p >>> (nI 4 &&& 31)))], [.int (oI (lkO c b (ch q')))], hV c t lf 0 re en n M) r) : mEv Ls xs 26 (0, [some (.ref 0), some (.int (nI p)), some (.int (nI b)), none, none], [], (hV c t lf 0 re en n M)) r := by
  refine rn_pre hp ho hb1 hb2 ?_
  refine fEv.calli rfl (e_at hR h32 hp hw) ?_
  refine fEv.brT rfl (decide_eq_true (by rw [eC_lt hq]; exact nI_ne3 hq)) ?_
  have h2 := e_at (Ls := Ls) (xs := xs) (lf := lf) (dn := 0) (re := re) (en := en) (n := n) (M := M) hR h32 (p := p / 16) (by omega) hw'
  rw [← sh16 hp] at h2
  refine fEv.calli rfl h2 ?_
  exact fEv.calli rfl (e_named hR (wk_R hR h32 hw') hd) k
theorem e_ren_is {p b q q' a : Nat} (hp : p < 65536) (ho : okP p = true) (hb1 : 1 ≤ b) (hb2 : b ≤ 15) (hR : Rc c t ch R) (h32 : R 32) (hw : wk c ch p = some q) (hq : q < 32) (hw' : wk c ch (p / 16) = some q') (hd : dirP c q' = true) (hl : lkO c b (ch q') = some a) (ha : a < 32) : mEv Ls xs 26 (0, [some (.ref 0), some (.int (nI p)), some (.int (nI b)), none, none], [], (hV c t lf 0 re en n M)) (rX 3 (hV c t lf 0 re en n M)) := by
  refine rn_pre2 hp ho hb1 hb2 hR h32 hw hq hw' hd ?_
  rw [hl]
  refine fEv.brF rfl (decide_eq_false (nI_ne1 ha)) ?_
  exact fEv.retX rfl rfl
theorem e_ren {p b q q' : Nat} (hp : p < 65536) (ho : okP p = true) (hb1 : 1 ≤ b) (hb2 : b ≤ 15) (hR : Rc c t ch R) (h32 : R 32) (hw : wk c ch p = some q) (hq : q < 32) (hw' : wk c ch (p / 16) = some q') (hd : dirP c q' = true) (hl : lkO c b (ch q') = none) :
    mEv Ls xs 26 (0, [some (.ref 0), some (.int (nI p)), some (.int (nI b)), none, none], [], (hV c t lf 0 re en n M)) (rsC re en n M (some (.int ((nI (p / 16) <<< (nI 4 &&& 31)) ||| nI b))) [wK q 0 (nI b)] c t lf) := by
  refine rn_pre2 hp ho hb1 hb2 hR h32 hw hq hw' hd ?_
  rw [hl, eC_lt hq, ← sh16 hp]
  refine fEv.brT rfl (by decide) ?_
  refine fEv.callwE rfl (e_wK (i := 0) hq (by decide)) rfl (fun lf' => ?_)
  exact fEv.retV rfl rfl
-- files
theorem e_file {p q : Nat} (hp : p < 65536) (hR : Rc c t ch R) (h32 : R 32) (hw : wk c ch p = some q) (hd : dirP c q = false) : mEv Ls xs 28 (0, [some (.ref 0), some (.int (nI p)), none], [], (hV c t lf dn re en n M)) (rV (eC q) (hV c t lf dn re en n M)) := by
  refine fEv.calli rfl (e_at hR h32 hp hw) ?_
  refine fEv.calli rfl (e_dir hR (wk_R hR h32 hw)) ?_
  rw [hd]
  refine fEv.brT rfl (by decide) ?_
  exact fEv.retV rfl rfl
theorem e_fileN {p : Nat} (hp : p < 65536) (hR : Rc c t ch R) (h32 : R 32) (hw : wk c ch p = none) : mEv Ls xs 28 (0, [some (.ref 0), some (.int (nI p)), none], [], (hV c t lf dn re en n M)) (rX 2 (hV c t lf dn re en n M)) := fEv.thr rfl (e_atN hR h32 hp hw) rfl
theorem e_fileD {p q : Nat} (hp : p < 65536) (hR : Rc c t ch R) (h32 : R 32) (hw : wk c ch p = some q) (hd : dirP c q = true) : mEv Ls xs 28 (0, [some (.ref 0), some (.int (nI p)), none], [], (hV c t lf dn re en n M)) (rX 3 (hV c t lf dn re en n M)) := by
  refine fEv.calli rfl (e_at hR h32 hp hw) ?_
  refine fEv.calli rfl (e_dir hR (wk_R hR h32 hw)) ?_
  rw [hd]
  refine fEv.brF rfl (by decide) ?_
  exact fEv.retX rfl rfl
theorem e_len {q : Nat} (hq : q < 32) : mEv Ls xs 9 (0, [some (.ref 0), some (.int (eC q))], [], (hV c t lf dn re en n M)) (rV (c (4 * q + 3)) (hV c t lf dn re en n M)) := by
  have h := e_lengthOf (Ls := Ls) (xs := xs) (c := c) (t := t) (lf := lf) (dn := dn) (re := re) (en := en) (n := n) (M := M) (e := nI q)
  rw [cellA_nI hq (by decide)] at h
  rw [eC_lt hq]
  exact h
theorem getD_mem {l : List Nat} {i : Nat} (h : i < l.length) : l.getD i 0 ∈ l := by
  induction l generalizing i with
  | nil => cases h
  | cons a l ih =>
    cases i with
    | zero => exact List.mem_cons_self
    | succ i => exact List.mem_cons_of_mem _ (ih (Nat.lt_of_succ_lt_succ h))
theorem e_place {q : Nat} {i : Int32} {len : Nat} (hq : q < 32) (hl : c (4 * q + 3) = nI len) (hi : 0 ≤ i ∧ i < nI len) : mEv Ls xs 32 (0, [some (.ref 0), some (.int (eC q)), some (.int i)], [], (hV c t lf dn re en n M)) (rN (hV c t lf dn re en n M)) := by
  refine fEv.brF rfl (decide_eq_false (Int32.not_lt.mpr hi.1)) ?_
  refine fEv.calli rfl (e_len hq) ?_
  rw [hl]
  refine fEv.brT rfl (decide_eq_true hi.2) ?_
  exact fEv.retV rfl rfl
theorem e_placeX {q : Nat} {i : Int32} {len : Nat} (hq : q < 32) (hl : c (4 * q + 3) = nI len) (hi : i < 0 ∨ nI len ≤ i) : mEv Ls xs 32 (0, [some (.ref 0), some (.int (eC q)), some (.int i)], [], (hV c t lf dn re en n M)) (rX 5 (hV c t lf dn re en n M)) := by
  refine fEv.br rfl (fun h1 => ?_) (fun h1 => ?_)
  · exact fEv.retX rfl rfl
  · rcases hi with hi | hi
    · exact absurd hi h1
    · refine fEv.calli rfl (e_len hq) ?_
      rw [hl]
      refine fEv.brF rfl (decide_eq_false (Int32.not_lt.mpr hi)) ?_
      exact fEv.retX rfl rfl
theorem rem4 {i : Nat} (hi : i < 1000) : nI i - nI i / nI 4 * nI 4 = nI (i % 4) := pk_rem (by omega) (by decide) (by decide)
-- get
theorem e_get_down {a i : Int32} : mEv Ls xs 31 (0, [some (.ref 0), some (.int a), some (.int i), none], [], (hV c t lf 1 re en n M)) (rX 0 (hV c t lf 1 re en n M)) := fEv.thr rfl e_down rfl
theorem e_get_bad {a i : Int32} (hb : badP a) : mEv Ls xs 31 (0, [some (.ref 0), some (.int a), some (.int i), none], [], (hV c t lf 0 re en n M)) (rX 1 (hV c t lf 0 re en n M)) := by
  refine fEv.calln rfl e_up ?_
  exact fEv.thr rfl (e_bad hb) rfl
theorem e_get_no {p : Nat} {i : Int32} (hp : p < 65536) (ho : okP p = true) (hR : Rc c t ch R) (h32 : R 32) (hw : wk c ch p = none) : mEv Ls xs 31 (0, [some (.ref 0), some (.int (nI p)), some (.int i), none], [], (hV c t lf 0 re en n M)) (rX 2 (hV c t lf 0 re en n M)) := by
  refine fEv.calln rfl e_up ?_
  refine fEv.calln rfl (e_good hp ho) ?_
  exact fEv.thr rfl (e_fileN hp hR h32 hw) rfl
theorem e_get_dir {p q : Nat} {i : Int32} (hp : p < 65536) (ho : okP p = true) (hR : Rc c t ch R) (h32 : R 32) (hw : wk c ch p = some q) (hd : dirP c q = true) : mEv Ls xs 31 (0, [some (.ref 0), some (.int (nI p)), some (.int i), none], [], (hV c t lf 0 re en n M)) (rX 3 (hV c t lf 0 re en n M)) := by
  refine fEv.calln rfl e_up ?_
  refine fEv.calln rfl (e_good hp ho) ?_
  exact fEv.thr rfl (e_fileD hp hR h32 hw hd) rfl
theorem e_get_ix {p q len : Nat} {i : Int32} (hp : p < 65536) (ho : okP p = true) (hR : Rc c t ch R) (h32 : R 32) (hw : wk c ch p = some q) (hq : q < 32) (hd : dirP c q = false) (hl : c (4 * q + 3) = nI len) (hi : i < 0 ∨ nI len ≤ i) : mEv Ls xs 31 (0, [some (.ref 0), some (.int (nI p)), some (.int i), none], [], (hV c t lf 0 re en n M)) (rX 5 (hV c t lf 0 re en n M)) := by
  refine fEv.calln rfl e_up ?_
  refine fEv.calln rfl (e_good hp ho) ?_
  refine fEv.calli rfl (e_file hp hR h32 hw hd) ?_
  exact fEv.thr rfl (e_placeX hq hl hi) rfl
theorem e_get {p q len i : Nat} {l : List Nat} (hp : p < 65536) (ho : okP p = true) (hR : Rc c t ch R) (h32 : R 32) (hw : wk c ch p = some q) (hq : q < 32) (hd : dirP c q = false) (hl : c (4 * q + 3) = nI len) (hlen : len ≤ 128) (hi : i < len) (hc : Chain t (c (4 * q + 2)) l) (hn : i / 4 < l.length) :
    mEv Ls xs 31 (0, [some (.ref 0), some (.int (nI p)), some (.int (nI i)), none], [], (hV c t lf 0 re en n M)) (rV (c (4 * l.getD (i / 4) 0 + i % 4)) (hV c t lf 0 re en n M)) := by
  have hlt : l.getD (i / 4) 0 < 32 := hc.lt _ (getD_mem hn)
  refine fEv.calln rfl e_up ?_
  refine fEv.calln rfl (e_good hp ho) ?_
  refine fEv.calli rfl (e_file hp hR h32 hw hd) ?_
  refine fEv.calln rfl (e_place hq hl ⟨nI_pos' (by omega), nI_lt hi (by omega)⟩) ?_
  refine fEv.calli rfl (e_clusterOfPlace (l := l) (by omega) (by rw [eC_lt hq]; unfold fstC; rw [if_neg (nI_ne3 hq), cellA_nI hq (by decide)]; exact hc) hn) ?_
  have h2 := e_cellAt (Ls := Ls) (xs := xs) (c := c) (t := t) (lf := lf) (dn := 0) (re := re) (en := en) (n := n) (M := M) (a := nI (l.getD (i / 4) 0)) (i := nI (i % 4))
  rw [cellA_nI hlt (by omega), ← rem4 (by omega)] at h2
  refine fEv.calli rfl h2 ?_
  exact fEv.retV rfl rfl
-- put
theorem e_put_down {a i v : Int32} : mEv Ls xs 33 (0, [some (.ref 0), some (.int a), some (.int i), some (.int v), none, none, none], [], (hV c t lf 1 re en n M)) (rX 0 (hV c t lf 1 re en n M)) := fEv.thr rfl e_down rfl
theorem e_put_bad {a i v : Int32} (hb : badP a) : mEv Ls xs 33 (0, [some (.ref 0), some (.int a), some (.int i), some (.int v), none, none, none], [], (hV c t lf 0 re en n M)) (rX 1 (hV c t lf 0 re en n M)) := by
  refine fEv.calln rfl e_up ?_
  exact fEv.thr rfl (e_bad hb) rfl
theorem e_put_no {p : Nat} {i v : Int32} (hp : p < 65536) (ho : okP p = true) (hR : Rc c t ch R) (h32 : R 32) (hw : wk c ch p = none) : mEv Ls xs 33 (0, [some (.ref 0), some (.int (nI p)), some (.int i), some (.int v), none, none, none], [], (hV c t lf 0 re en n M)) (rX 2 (hV c t lf 0 re en n M)) := by
  refine fEv.calln rfl e_up ?_
  refine fEv.calln rfl (e_good hp ho) ?_
  exact fEv.thr rfl (e_fileN hp hR h32 hw) rfl
theorem e_put_dir {p q : Nat} {i v : Int32} (hp : p < 65536) (ho : okP p = true) (hR : Rc c t ch R) (h32 : R 32) (hw : wk c ch p = some q) (hd : dirP c q = true) : mEv Ls xs 33 (0, [some (.ref 0), some (.int (nI p)), some (.int i), some (.int v), none, none, none], [], (hV c t lf 0 re en n M)) (rX 3 (hV c t lf 0 re en n M)) := by
  refine fEv.calln rfl e_up ?_
  refine fEv.calln rfl (e_good hp ho) ?_
  exact fEv.thr rfl (e_fileD hp hR h32 hw hd) rfl
theorem e_put_ix {p q len : Nat} {i v : Int32} (hp : p < 65536) (ho : okP p = true) (hR : Rc c t ch R) (h32 : R 32) (hw : wk c ch p = some q) (hq : q < 32) (hd : dirP c q = false) (hl : c (4 * q + 3) = nI len) (hi : i < 0 ∨ nI len ≤ i) : mEv Ls xs 33 (0, [some (.ref 0), some (.int (nI p)), some (.int i), some (.int v), none, none, none], [], (hV c t lf 0 re en n M)) (rX 5 (hV c t lf 0 re en n M)) := by
  refine fEv.calln rfl e_up ?_
  refine fEv.calln rfl (e_good hp ho) ?_
  refine fEv.calli rfl (e_file hp hR h32 hw hd) ?_
  exact fEv.thr rfl (e_placeX hq hl hi) rfl
theorem e_put {p q len i : Nat} {v : Int32} {l : List Nat} (hp : p < 65536) (ho : okP p = true) (hR : Rc c t ch R) (h32 : R 32) (hw : wk c ch p = some q) (hq : q < 32) (hd : dirP c q = false) (hl : c (4 * q + 3) = nI len) (hlen : len ≤ 128) (hi : i < len) (hc : Chain t (c (4 * q + 2)) l) (hn : i / 4 < l.length) :
    mEv Ls xs 33 (0, [some (.ref 0), some (.int (nI p)), some (.int (nI i)), some (.int v), none, none, none], [], (hV c t lf 0 re en n M)) (rsC re en n M (some (.int (c (4 * l.getD (i / 4) 0 + i % 4)))) [wK (l.getD (i / 4) 0) (i % 4) v] c t lf) := by
  have hlt : l.getD (i / 4) 0 < 32 := hc.lt _ (getD_mem hn)
  refine fEv.calln rfl e_up ?_
  refine fEv.calln rfl (e_good hp ho) ?_
  refine fEv.calli rfl (e_file hp hR h32 hw hd) ?_
  refine fEv.calln rfl (e_place hq hl ⟨nI_pos' (by omega), nI_lt hi (by omega)⟩) ?_
  refine fEv.calli rfl (e_clusterOfPlace (l := l) (by omega) (by rw [eC_lt hq]; unfold fstC; rw [if_neg (nI_ne3 hq), cellA_nI hq (by decide)]; exact hc) hn) ?_
  have h2 := e_cellAt (Ls := Ls) (xs := xs) (c := c) (t := t) (lf := lf) (dn := 0) (re := re) (en := en) (n := n) (M := M) (a := nI (l.getD (i / 4) 0)) (i := nI (i % 4))
  rw [cellA_nI hlt (by omega), ← rem4 (by omega)] at h2
  refine fEv.calli rfl h2 ?_
  have h3 := e_wK (Ls := Ls) (xs := xs) (c := c) (t := t) (lf := lf) (re := re) (en := en) (n := n) (M := M) (v := v) hlt (show i % 4 < 4 by omega)
  rw [← rem4 (by omega)] at h3
  refine fEv.callwE rfl h3 rfl (fun lf' => ?_)
  exact fEv.retV rfl rfl
end KV
