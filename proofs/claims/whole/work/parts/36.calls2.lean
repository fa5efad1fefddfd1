/-! the class's append, shorten, length, names, free, and the small ones -/
section KX
variable {Ls : Nat} {xs : Nat → Int32} {c t re en : Nat → Int32} {lf dn n : Int32} {M : mH} {ch : Nat → List Nat} {R : Nat → Prop}
theorem e_app_down {a v : Int32} : mEv Ls xs 27 (0, [some (.ref 0), some (.int a), some (.int v), none, none, none], [], (hV c t lf 1 re en n M)) (rX 0 (hV c t lf 1 re en n M)) := fEv.thr rfl e_down rfl
theorem e_app_bad {a v : Int32} (hb : badP a) : mEv Ls xs 27 (0, [some (.ref 0), some (.int a), some (.int v), none, none, none], [], (hV c t lf 0 re en n M)) (rX 1 (hV c t lf 0 re en n M)) := by
  refine fEv.calln rfl e_up ?_
  exact fEv.thr rfl (e_bad hb) rfl
theorem e_app_no {p : Nat} {v : Int32} (hp : p < 65536) (ho : okP p = true) (hR : Rc c t ch R) (h32 : R 32) (hw : wk c ch p = none) : mEv Ls xs 27 (0, [some (.ref 0), some (.int (nI p)), some (.int v), none, none, none], [], (hV c t lf 0 re en n M)) (rX 2 (hV c t lf 0 re en n M)) := by
  refine fEv.calln rfl e_up ?_
  refine fEv.calln rfl (e_good hp ho) ?_
  exact fEv.thr rfl (e_fileN hp hR h32 hw) rfl
theorem e_app_dir {p q : Nat} {v : Int32} (hp : p < 65536) (ho : okP p = true) (hR : Rc c t ch R) (h32 : R 32) (hw : wk c ch p = some q) (hd : dirP c q = true) : mEv Ls xs 27 (0, [some (.ref 0), some (.int (nI p)), some (.int v), none, none, none], [], (hV c t lf 0 re en n M)) (rX 3 (hV c t lf 0 re en n M)) := by
  refine fEv.calln rfl e_up ?_
  refine fEv.calln rfl (e_good hp ho) ?_
  exact fEv.thr rfl (e_fileD hp hR h32 hw hd) rfl
theorem ap_pre {p q len : Nat} {v : Int32} {r : mR} (hp : p < 65536) (ho : okP p = true) (hR : Rc c t ch R) (h32 : R 32) (hw : wk c ch p = some q) (hq : q < 32) (hd : dirP c q = false) (hl : c (4 * q + 3) = nI len) (hlen : len ≤ 128)
    (k : mEv Ls xs 27 (21, [some (.ref 0), some (.int (nI p)), some (.int v), some (.int (nI q)), some (.int (nI len)), none], [], hV c t lf 0 re en n M) r) : mEv Ls xs 27 (0, [some (.ref 0), some (.int (nI p)), some (.int v), none, none, none], [], (hV c t lf 0 re en n M)) r := by
  refine fEv.calln rfl e_up ?_
  refine fEv.calln rfl (e_good hp ho) ?_
  refine fEv.calli rfl (e_file hp hR h32 hw hd) ?_
  refine fEv.calli rfl (e_len hq) ?_
  rw [hl, eC_lt hq]
  exact fEv.steps 1 rfl k
theorem e_lenN {q : Nat} (hq : q < 32) : mEv Ls xs 9 (0, [some (.ref 0), some (.int (nI q))], [], (hV c t lf dn re en n M)) (rV (c (4 * q + 3)) (hV c t lf dn re en n M)) := by
  have h := e_len (Ls := Ls) (xs := xs) (c := c) (t := t) (lf := lf) (dn := dn) (re := re) (en := en) (n := n) (M := M) hq
  rwa [eC_lt hq] at h
theorem e_fstN {q : Nat} (hq : q < 32) : mEv Ls xs 11 (0, [some (.ref 0), some (.int (nI q))], [], (hV c t lf dn re en n M)) (rV (c (4 * q + 2)) (hV c t lf dn re en n M)) := by
  have h := e_firstOf (Ls := Ls) (xs := xs) (c := c) (t := t) (lf := lf) (dn := dn) (re := re) (en := en) (n := n) (M := M) (e := nI q)
  have e1 : fstC c (nI q) = c (4 * q + 2) := by unfold fstC; rw [if_neg (nI_ne3 hq), cellA_nI hq (by decide)]
  rwa [e1] at h
theorem e_app_full {p q len : Nat} {v : Int32} (hp : p < 65536) (ho : okP p = true) (hR : Rc c t ch R) (h32 : R 32) (hw : wk c ch p = some q) (hq : q < 32) (hd : dirP c q = false) (hl : c (4 * q + 3) = nI len) (hlen : len ≤ 128) (h4 : len % 4 = 0) (hf : ∀ i, i < 32 → ¬ t i = -2) :
    mEv Ls xs 27 (0, [some (.ref 0), some (.int (nI p)), some (.int v), none, none, none], [], (hV c t lf 0 re en n M)) (rX 4 (hV c t lf 0 re en n M)) := by
  refine ap_pre hp ho hR h32 hw hq hd hl hlen ?_
  refine fEv.brF rfl (decide_eq_false (fun z => z (by show nI len - nI len / nI 4 * nI 4 = 0; rw [rem4 (by omega), h4]; rfl))) ?_
  refine fEv.thr rfl ?_ rfl
  refine fEv.calli rfl (e_lenN hq) ?_
  refine fEv.calli rfl (e_fstN hq) ?_
  exact fEv.thr rfl (e_takeN hf) rfl
theorem e_app_in {p q len b : Nat} {v : Int32} {l : List Nat} (hp : p < 65536) (ho : okP p = true) (hR : Rc c t ch R) (h32 : R 32) (hw : wk c ch p = some q) (hq : q < 32) (hd : dirP c q = false) (hl : c (4 * q + 3) = nI len) (hlen : len ≤ 128) (h4 : ¬ len % 4 = 0) (hb : c (4 * q + 2) = nI b) (hb3 : b < 32) (hc : Chain t (t b) l) (hll : l.length ≤ 32) (hla : lastI b l < 32) :
    mEv Ls xs 27 (0, [some (.ref 0), some (.int (nI p)), some (.int v), none, none, none], [], (hV c t lf 0 re en n M)) (rsC re en n M (some (.int (nI (len + 1)))) [wK (lastI b l) (len % 4) v, wK q 3 (nI (len + 1))] c t lf) := by
  refine ap_pre hp ho hR h32 hw hq hd hl hlen ?_
  refine fEv.brT rfl (decide_eq_true (by show ¬ nI len - nI len / nI 4 * nI 4 = 0; rw [rem4 (by omega)]; exact nI_ne0 (by omega) (by omega))) ?_
  refine fEv.calli rfl (e_fstN hq) ?_
  rw [hb]
  refine fEv.calli rfl (e_lastOfChain hb3 hc hll) ?_
  have h3 := e_wK (Ls := Ls) (xs := xs) (c := c) (t := t) (lf := lf) (re := re) (en := en) (n := n) (M := M) (v := v) hla (show len % 4 < 4 by omega)
  rw [← rem4 (by omega)] at h3
  refine fEv.callwc rfl h3 rfl (fun lf1 => ?_)
  rw [← nI_add]
  refine fEv.callwE rfl (e_wK (i := 3) hq (by decide)) rfl (fun lf2 => ?_)
  exact fEv.retV rfl rfl
theorem e_app_new0 {p q a : Nat} {v : Int32} (hp : p < 65536) (ho : okP p = true) (hR : Rc c t ch R) (h32 : R 32) (hw : wk c ch p = some q) (hq : q < 32) (hd : dirP c q = false) (hl : c (4 * q + 3) = nI 0) (ha : a < 32) (hf : t a = -2) (hm : ∀ i, i < a → ¬ t i = -2) (hqa : q ≠ a) :
    mEv Ls xs 27 (0, [some (.ref 0), some (.int (nI p)), some (.int v), none, none, none], [], (hV c t lf 0 re en n M)) (rsC re en n M (some (.int (nI (0 + 1)))) [wC a v (nI 0) (nI 0) (nI 0), wT a (-1), wC q (c (4 * q)) (c (4 * q + 1)) (nI a) (nI 1)] c t lf) := by
  refine ap_pre hp ho hR h32 hw hq hd hl (by decide) ?_
  refine fEv.brF rfl (by decide) ?_
  refine fEv.callwE rfl ?_ rfl (fun lf1 => fEv.retV rfl rfl)
  refine fEv.calli rfl (e_lenN hq) ?_
  rw [hl]
  refine fEv.calli rfl (e_fstN hq) ?_
  refine fEv.calli rfl (e_take ha hf hm) ?_
  refine fEv.callwc rfl (e_wC ha) rfl (fun lf1 => ?_)
  refine fEv.callwc rfl (e_wT ha) rfl (fun lf2 => ?_)
  refine fEv.brF rfl (by decide) ?_
  have h5 := e_writeExtent (Ls := Ls) (xs := xs) (c := w4 c a v (nI 0) (nI 0) (nI 0)) (t := upd t a (-1)) (lf := lf2) (re := re) (en := en) (n := n) (M := M) (f := nI a) (l := nI 1) hq
  rw [w4_at hqa (by decide), show w4 c a v (nI 0) (nI 0) (nI 0) (4 * q) = c (4 * q) from w4_at (i := 0) hqa (by decide)] at h5
  exact fEv.callwE rfl h5 rfl (fun lf3 => fEv.retV rfl rfl)
theorem e_app_new1 {p q a b len : Nat} {v : Int32} {l : List Nat} (hp : p < 65536) (ho : okP p = true) (hR : Rc c t ch R) (h32 : R 32) (hw : wk c ch p = some q) (hq : q < 32) (hd : dirP c q = false) (hl : c (4 * q + 3) = nI len) (hlen : len ≤ 128) (h4 : len % 4 = 0) (h0 : ¬ len = 0) (ha : a < 32) (hf : t a = -2) (hm : ∀ i, i < a → ¬ t i = -2) (hqa : q ≠ a)
    (hb : c (4 * q + 2) = nI b) (hb3 : b < 32) (hc : Chain t (t b) l) (hll : l.length ≤ 32) (hla : lastI b l < 32) (hal : a ∉ b :: l) :
    mEv Ls xs 27 (0, [some (.ref 0), some (.int (nI p)), some (.int v), none, none, none], [], (hV c t lf 0 re en n M)) (rsC re en n M (some (.int (nI (len + 1)))) [wC a v (nI 0) (nI 0) (nI 0), wT a (-1), wT (lastI b l) (nI a), wC q (c (4 * q)) (c (4 * q + 1)) (nI b) (nI (len + 1))] c t lf) := by
  refine ap_pre hp ho hR h32 hw hq hd hl hlen ?_
  refine fEv.brF rfl (decide_eq_false (fun z => z (by show nI len - nI len / nI 4 * nI 4 = 0; rw [rem4 (by omega), h4]; rfl))) ?_
  rw [← nI_add]
  refine fEv.callwE rfl ?_ rfl (fun lf1 => fEv.retV rfl rfl)
  refine fEv.calli rfl (e_lenN hq) ?_
  rw [hl]
  refine fEv.calli rfl (e_fstN hq) ?_
  rw [hb]
  refine fEv.calli rfl (e_take ha hf hm) ?_
  refine fEv.callwc rfl (e_wC ha) rfl (fun lf1 => ?_)
  refine fEv.callwc rfl (e_wT ha) rfl (fun lf2 => ?_)
  refine fEv.brT rfl (decide_eq_true (nI_ne0 (by omega) (by omega))) ?_
  have hc3 : Chain (upd t a (-1)) (nI b) (b :: l) := Chain_upd (t := t) ⟨rfl, hb3, hc⟩ hal
  refine fEv.calli rfl (e_lastOfChain hb3 hc3.2.2 hll) ?_
  refine fEv.callwc rfl (e_wT hla) rfl (fun lf3 => ?_)
  have h5 := e_writeExtent (Ls := Ls) (xs := xs) (c := w4 c a v (nI 0) (nI 0) (nI 0)) (t := upd (upd t a (-1)) (lastI b l) (nI a)) (lf := lf3) (re := re) (en := en) (n := n) (M := M) (f := nI b) (l := nI len + nI 1) hq
  rw [w4_at hqa (by decide), show w4 c a v (nI 0) (nI 0) (nI 0) (4 * q) = c (4 * q) from w4_at (i := 0) hqa (by decide)] at h5
  exact fEv.callwE rfl h5 rfl (fun lf4 => fEv.retV rfl rfl)
-- shorten
theorem e_sho_down {a v : Int32} : mEv Ls xs 34 (0, [some (.ref 0), some (.int a), some (.int v), none, none, none], [], (hV c t lf 1 re en n M)) (rX 0 (hV c t lf 1 re en n M)) := fEv.thr rfl e_down rfl
theorem e_sho_bad {a v : Int32} (hb : badP a) : mEv Ls xs 34 (0, [some (.ref 0), some (.int a), some (.int v), none, none, none], [], (hV c t lf 0 re en n M)) (rX 1 (hV c t lf 0 re en n M)) := by
  refine fEv.calln rfl e_up ?_
  exact fEv.thr rfl (e_bad hb) rfl
theorem e_sho_no {p : Nat} {v : Int32} (hp : p < 65536) (ho : okP p = true) (hR : Rc c t ch R) (h32 : R 32) (hw : wk c ch p = none) : mEv Ls xs 34 (0, [some (.ref 0), some (.int (nI p)), some (.int v), none, none, none], [], (hV c t lf 0 re en n M)) (rX 2 (hV c t lf 0 re en n M)) := by
  refine fEv.calln rfl e_up ?_
  refine fEv.calln rfl (e_good hp ho) ?_
  exact fEv.thr rfl (e_fileN hp hR h32 hw) rfl
theorem e_sho_dir {p q : Nat} {v : Int32} (hp : p < 65536) (ho : okP p = true) (hR : Rc c t ch R) (h32 : R 32) (hw : wk c ch p = some q) (hd : dirP c q = true) : mEv Ls xs 34 (0, [some (.ref 0), some (.int (nI p)), some (.int v), none, none, none], [], (hV c t lf 0 re en n M)) (rX 3 (hV c t lf 0 re en n M)) := by
  refine fEv.calln rfl e_up ?_
  refine fEv.calln rfl (e_good hp ho) ?_
  exact fEv.thr rfl (e_fileD hp hR h32 hw hd) rfl
theorem e_sho_ix {p q len : Nat} {v : Int32} (hp : p < 65536) (ho : okP p = true) (hR : Rc c t ch R) (h32 : R 32) (hw : wk c ch p = some q) (hq : q < 32) (hd : dirP c q = false) (hl : c (4 * q + 3) = nI len) (hi : v < 0 ∨ nI len < v) : mEv Ls xs 34 (0, [some (.ref 0), some (.int (nI p)), some (.int v), none, none, none], [], (hV c t lf 0 re en n M)) (rX 5 (hV c t lf 0 re en n M)) := by
  refine fEv.calln rfl e_up ?_
  refine fEv.calln rfl (e_good hp ho) ?_
  refine fEv.calli rfl (e_file hp hR h32 hw hd) ?_
  refine fEv.br rfl (fun h1 => ?_) (fun h1 => ?_)
  · exact fEv.retX rfl rfl
  · rcases hi with hi | hi
    · exact absurd hi h1
    · refine fEv.calli rfl (e_len hq) ?_
      rw [hl]
      refine fEv.brF rfl (decide_eq_false (Int32.not_le.mpr hi)) ?_
      exact fEv.retX rfl rfl
theorem sh_pre {p q len m : Nat} {r : mR} (hp : p < 65536) (ho : okP p = true) (hR : Rc c t ch R) (h32 : R 32) (hw : wk c ch p = some q) (hq : q < 32) (hd : dirP c q = false) (hl : c (4 * q + 3) = nI len) (hlen : len ≤ 128) (hi : m ≤ len)
    (k : mEv Ls xs 34 (37, [some (.ref 0), some (.int (nI p)), some (.int (nI m)), some (.int (nI q)), none, none], [], hV c t lf 0 re en n M) r) : mEv Ls xs 34 (0, [some (.ref 0), some (.int (nI p)), some (.int (nI m)), none, none, none], [], (hV c t lf 0 re en n M)) r := by
  refine fEv.calln rfl e_up ?_
  refine fEv.calln rfl (e_good hp ho) ?_
  refine fEv.calli rfl (e_file hp hR h32 hw hd) ?_
  refine fEv.brF rfl (decide_eq_false (nI_pos (by omega))) ?_
  refine fEv.calli rfl (e_len hq) ?_
  rw [hl, eC_lt hq]
  exact fEv.brT rfl (decide_eq_true (nI_le hi (by omega))) k
theorem e_sho_same {p q len : Nat} (hp : p < 65536) (ho : okP p = true) (hR : Rc c t ch R) (h32 : R 32) (hw : wk c ch p = some q) (hq : q < 32) (hd : dirP c q = false) (hl : c (4 * q + 3) = nI len) (hlen : len ≤ 128) :
    mEv Ls xs 34 (0, [some (.ref 0), some (.int (nI p)), some (.int (nI len)), none, none, none], [], (hV c t lf 0 re en n M)) (rV (nI 0) (hV c t lf 0 re en n M)) := by
  refine sh_pre hp ho hR h32 hw hq hd hl hlen (Nat.le_refl _) ?_
  refine fEv.calli rfl (e_lenN hq) ?_
  rw [hl]
  refine fEv.brF rfl (decide_eq_false (fun z => z rfl)) ?_
  exact fEv.retV rfl rfl
theorem nI_neq {a b : Nat} (h : ¬ a = b) (ha : a < 2 ^ 31) (hb : b < 2 ^ 31) : ¬ nI a = nI b := fun z => h ((nI_eq ha hb).mp z)
theorem e_sho_all {p q len : Nat} {l : List Nat} (hp : p < 65536) (ho : okP p = true) (hR : Rc c t ch R) (h32 : R 32) (hw : wk c ch p = some q) (hq : q < 32) (hd : dirP c q = false) (hl : c (4 * q + 3) = nI len) (hlen : len ≤ 128) (h0 : ¬ len = 0) (hc : Chain t (c (4 * q + 2)) l) (hn : l.Nodup) (hll : l.length ≤ 32) :
    mEv Ls xs 34 (0, [some (.ref 0), some (.int (nI p)), some (.int (nI 0)), none, none, none], [], (hV c t lf 0 re en n M)) (rsC re en n M (some (.int (nI l.length))) (wC q (c (4 * q)) (c (4 * q + 1)) (-1) (nI 0) :: wF l) c t lf) := by
  refine sh_pre hp ho hR h32 hw hq hd hl hlen (by omega) ?_
  refine fEv.calli rfl (e_lenN hq) ?_
  rw [hl]
  refine fEv.brT rfl (decide_eq_true (nI_neq (by omega) (by omega) (by omega))) ?_
  refine fEv.calli rfl (e_fstN hq) ?_
  refine fEv.brF rfl (by decide) ?_
  refine fEv.callwc rfl (e_writeExtent hq) rfl (fun lf1 => ?_)
  refine fEv.callwiE rfl (e_freeChain hc hn hll) rfl (fun lf2 => ?_)
  exact fEv.retV rfl rfl
theorem sh_pre2 {p q len m : Nat} {l : List Nat} {r : mR} (hp : p < 65536) (ho : okP p = true) (hR : Rc c t ch R) (h32 : R 32) (hw : wk c ch p = some q) (hq : q < 32) (hd : dirP c q = false) (hl : c (4 * q + 3) = nI len) (hlen : len ≤ 128) (hm0 : 0 < m) (hi : m < len) (hc : Chain t (c (4 * q + 2)) l) (hml : (m - 1) / 4 < l.length)
    (k : mEv Ls xs 34 (83, [some (.ref 0), some (.int (nI p)), some (.int (nI m)), some (.int (nI q)), some (.int (c (4 * q + 2))), some (.int (nI (l.getD ((m - 1) / 4) 0)))], [], hV c t lf 0 re en n M) r) : mEv Ls xs 34 (0, [some (.ref 0), some (.int (nI p)), some (.int (nI m)), none, none, none], [], (hV c t lf 0 re en n M)) r := by
  refine sh_pre hp ho hR h32 hw hq hd hl hlen (by omega) ?_
  refine fEv.calli rfl (e_lenN hq) ?_
  rw [hl]
  refine fEv.brT rfl (decide_eq_true (nI_neq (by omega) (by omega) (by omega))) ?_
  refine fEv.calli rfl (e_fstN hq) ?_
  refine fEv.brT rfl (decide_eq_true (nI_ne0 (by omega) (by omega))) ?_
  have h6 := e_clusterOfPlace (Ls := Ls) (xs := xs) (c := c) (t := t) (lf := lf) (dn := 0) (re := re) (en := en) (n := n) (M := M) (e := nI q) (i := m - 1) (l := l) (by omega) (by unfold fstC; rw [if_neg (nI_ne3 hq), cellA_nI hq (by decide)]; exact hc) hml
  have e1 : nI m - nI 1 = nI (m - 1) := pk_sub (by omega)
  rw [← e1] at h6
  refine fEv.calli rfl h6 ?_
  exact fEv.steps 1 rfl k
/-- cut inside the last cluster -/
theorem e_sho_in {p q len m : Nat} {l : List Nat} (hp : p < 65536) (ho : okP p = true) (hR : Rc c t ch R) (h32 : R 32) (hw : wk c ch p = some q) (hq : q < 32) (hd : dirP c q = false) (hl : c (4 * q + 3) = nI len) (hlen : len ≤ 128) (hm0 : 0 < m) (hi : m < len) (hc : Chain t (c (4 * q + 2)) l) (hml : (m - 1) / 4 < l.length) (hlt : l.getD ((m - 1) / 4) 0 < 32) (he : t (l.getD ((m - 1) / 4) 0) = -1) :
    mEv Ls xs 34 (0, [some (.ref 0), some (.int (nI p)), some (.int (nI m)), none, none, none], [], (hV c t lf 0 re en n M)) (rsC re en n M (some (.int (nI 0))) [wC q (c (4 * q)) (c (4 * q + 1)) (c (4 * q + 2)) (nI m)] c t lf) := by
  refine sh_pre2 hp ho hR h32 hw hq hd hl hlen hm0 hi hc hml ?_
  refine fEv.callwc rfl (e_writeExtent hq) rfl (fun lf1 => ?_)
  refine fEv.callwiE rfl (e_freeBehind0 hlt he) rfl (fun lf2 => ?_)
  exact fEv.retV rfl rfl
theorem e_sho_cut {p q len m b : Nat} {l l2 : List Nat} (hp : p < 65536) (ho : okP p = true) (hR : Rc c t ch R) (h32 : R 32) (hw : wk c ch p = some q) (hq : q < 32) (hd : dirP c q = false) (hl : c (4 * q + 3) = nI len) (hlen : len ≤ 128) (hm0 : 0 < m) (hi : m < len) (hc : Chain t (c (4 * q + 2)) l) (hml : (m - 1) / 4 < l.length) (hlt : l.getD ((m - 1) / 4) 0 < 32) (he : t (l.getD ((m - 1) / 4) 0) = nI b) (hb : b < 32)
    (hc2 : Chain t (t b) l2) (hn : (b :: l2).Nodup) (hal : l.getD ((m - 1) / 4) 0 ∉ b :: l2) (hll : l2.length < 32) :
    mEv Ls xs 34 (0, [some (.ref 0), some (.int (nI p)), some (.int (nI m)), none, none, none], [], (hV c t lf 0 re en n M)) (rsC re en n M (some (.int (nI (l2.length + 1)))) (wC q (c (4 * q)) (c (4 * q + 1)) (c (4 * q + 2)) (nI m) :: wT (l.getD ((m - 1) / 4) 0) (-1) :: wF (b :: l2)) c t lf) := by
  refine sh_pre2 hp ho hR h32 hw hq hd hl hlen hm0 hi hc hml ?_
  refine fEv.callwc rfl (e_writeExtent hq) rfl (fun lf1 => ?_)
  refine fEv.callwiE rfl (e_freeBehind1 hlt he hb hc2 hn hal hll) rfl (fun lf2 => ?_)
  exact fEv.retV rfl rfl
-- names
theorem e_nam_down {a : Int32} : mEv Ls xs 37 (0, [some (.ref 0), some (.int a), none], [], (hV c t lf 1 re en n M)) (rX 0 (hV c t lf 1 re en n M)) := fEv.thr rfl e_down rfl
theorem e_nam_bad {a : Int32} (hb : badP a) : mEv Ls xs 37 (0, [some (.ref 0), some (.int a), none], [], (hV c t lf 0 re en n M)) (rX 1 (hV c t lf 0 re en n M)) := by
  refine fEv.calln rfl e_up ?_
  exact fEv.thr rfl (e_bad hb) rfl
theorem e_nam_no {p : Nat} (hp : p < 65536) (ho : okP p = true) (hR : Rc c t ch R) (h32 : R 32) (hw : wk c ch p = none) : mEv Ls xs 37 (0, [some (.ref 0), some (.int (nI p)), none], [], (hV c t lf 0 re en n M)) (rX 2 (hV c t lf 0 re en n M)) := by
  refine fEv.calln rfl e_up ?_
  refine fEv.calln rfl (e_good hp ho) ?_
  exact fEv.thr rfl (e_atN hR h32 hp hw) rfl
theorem e_nam_file {p q : Nat} (hp : p < 65536) (ho : okP p = true) (hR : Rc c t ch R) (h32 : R 32) (hw : wk c ch p = some q) (hd : dirP c q = false) : mEv Ls xs 37 (0, [some (.ref 0), some (.int (nI p)), none], [], (hV c t lf 0 re en n M)) (rX 3 (hV c t lf 0 re en n M)) := by
  refine fEv.calln rfl e_up ?_
  refine fEv.calln rfl (e_good hp ho) ?_
  refine fEv.calli rfl (e_at hR h32 hp hw) ?_
  refine fEv.calli rfl (e_dir hR (wk_R hR h32 hw)) ?_
  rw [hd]
  refine fEv.brF rfl (by decide) ?_
  exact fEv.retX rfl rfl
theorem e_nam {p q : Nat} (hp : p < 65536) (ho : okP p = true) (hR : Rc c t ch R) (h32 : R 32) (hw : wk c ch p = some q) (hd : dirP c q = true) : mEv Ls xs 37 (0, [some (.ref 0), some (.int (nI p)), none], [], (hV c t lf 0 re en n M)) (rV (nmsI c (nI 0) (ch q) &&& (-2)) (hV c t lf 0 re en n M)) := by
  have hRq := wk_R hR h32 hw
  refine fEv.calln rfl e_up ?_
  refine fEv.calln rfl (e_good hp ho) ?_
  refine fEv.calli rfl (e_at hR h32 hp hw) ?_
  refine fEv.calli rfl (e_dir hR hRq) ?_
  rw [hd]
  refine fEv.brT rfl (by decide) ?_
  refine fEv.calli rfl (e_nms hR hRq hd) ?_
  exact fEv.retV rfl rfl
-- length
theorem e_lgt_down {a : Int32} : mEv Ls xs 36 (0, [some (.ref 0), some (.int a), none], [], (hV c t lf 1 re en n M)) (rX 0 (hV c t lf 1 re en n M)) := fEv.thr rfl e_down rfl
theorem e_lgt_bad {a : Int32} (hb : badP a) : mEv Ls xs 36 (0, [some (.ref 0), some (.int a), none], [], (hV c t lf 0 re en n M)) (rX 1 (hV c t lf 0 re en n M)) := by
  refine fEv.calln rfl e_up ?_
  exact fEv.thr rfl (e_bad hb) rfl
theorem e_lgt_no {p : Nat} (hp : p < 65536) (ho : okP p = true) (hR : Rc c t ch R) (h32 : R 32) (hw : wk c ch p = none) : mEv Ls xs 36 (0, [some (.ref 0), some (.int (nI p)), none], [], (hV c t lf 0 re en n M)) (rX 2 (hV c t lf 0 re en n M)) := by
  refine fEv.calln rfl e_up ?_
  refine fEv.calln rfl (e_good hp ho) ?_
  exact fEv.thr rfl (e_atN hR h32 hp hw) rfl
theorem e_lgt_file {p q : Nat} (hp : p < 65536) (ho : okP p = true) (hR : Rc c t ch R) (h32 : R 32) (hw : wk c ch p = some q) (hq : q < 32) (hd : dirP c q = false) : mEv Ls xs 36 (0, [some (.ref 0), some (.int (nI p)), none], [], (hV c t lf 0 re en n M)) (rV (c (4 * q + 3)) (hV c t lf 0 re en n M)) := by
  refine fEv.calln rfl e_up ?_
  refine fEv.calln rfl (e_good hp ho) ?_
  refine fEv.calli rfl (e_at hR h32 hp hw) ?_
  refine fEv.calli rfl (e_dir hR (wk_R hR h32 hw)) ?_
  rw [hd]
  refine fEv.brT rfl (by decide) ?_
  refine fEv.calli rfl (e_len hq) ?_
  exact fEv.retV rfl rfl
theorem e_lgt_dir {p q : Nat} {z : Int32} (hp : p < 65536) (ho : okP p = true) (hR : Rc c t ch R) (h32 : R 32) (hw : wk c ch p = some q) (hd : dirP c q = true)
    (hb : mEv Ls xs 98 (0, [some (.int (nmsI c (nI 0) (ch q) &&& (-2)))], [], (hV c t lf 0 re en n M)) (rV z (hV c t lf 0 re en n M))) : mEv Ls xs 36 (0, [some (.ref 0), some (.int (nI p)), none], [], (hV c t lf 0 re en n M)) (rV (-1 - z) (hV c t lf 0 re en n M)) := by
  have hRq := wk_R hR h32 hw
  refine fEv.calln rfl e_up ?_
  refine fEv.calln rfl (e_good hp ho) ?_
  refine fEv.calli rfl (e_at hR h32 hp hw) ?_
  refine fEv.calli rfl (e_dir hR hRq) ?_
  rw [hd]
  refine fEv.brF rfl (by decide) ?_
  refine fEv.calli rfl (e_nms hR hRq hd) ?_
  refine fEv.calli rfl hb ?_
  exact fEv.retV rfl rfl
-- free
def cntF (t : Nat → Int32) : Nat → Nat
  | 0 => 0
  | i + 1 => cntF t i + (if t i = -2 then 1 else 0)
theorem e_fre_down : mEv Ls xs 38 (0, [some (.ref 0), none, none], [], (hV c t lf 1 re en n M)) (rX 0 (hV c t lf 1 re en n M)) := fEv.thr rfl e_down rfl
theorem fr_loop : ∀ (m i : Nat), i + m = 32 → mEv Ls xs 38 (8, [some (.ref 0), some (.int (nI (cntF t i))), some (.int (nI i))], [], hV c t lf dn re en n M) (rV (nI (cntF t 32)) (hV c t lf dn re en n M)) := by
  intro m
  induction m with
  | zero =>
    intro i hi
    have hi : i = 32 := hi
    subst hi
    refine fEv.brT rfl (by decide) ?_
    exact fEv.retV rfl rfl
  | succ m ih =>
    intro i hi
    refine fEv.brF rfl (decide_eq_false (nI_ge (a := i) (b := 32) (by omega) (by decide))) ?_
    refine fEv.calli rfl e_nextAfter ?_
    rw [nextA_nI (by omega)]
    have h2 := ih (i + 1) (by omega)
    rw [cntF] at h2
    refine fEv.br rfl (fun h1 => ?_) (fun h1 => ?_)
    · rw [if_neg h1, Nat.add_zero, ← nI_add] at h2
      exact fEv.steps 2 rfl h2
    · rw [if_pos (Decidable.of_not_not h1), ← nI_add, ← nI_add] at h2
      exact fEv.steps 3 rfl h2
theorem e_fre : mEv Ls xs 38 (0, [some (.ref 0), none, none], [], (hV c t lf 0 re en n M)) (rV (nI (cntF t 32)) (hV c t lf 0 re en n M)) := by
  refine fEv.calln rfl e_up ?_
  exact fEv.steps 4 rfl (fr_loop 32 0 (by omega))
-- the small ones
def armV (v : Int32) : Int32 := if 0 ≤ v then v else -1
theorem e_arm {v : Int32} : mEv Ls xs 1 (0, [some (.ref 0), some (.int v)], [], (hV c t lf dn re en n M)) (rN (hV c t (armV v) dn re en n M)) := by
  have h1 : mEv Ls xs 40 (0, [some (.ref 1), some (.int v)], [], (hV c t lf dn re en n M)) (rN (hV c t (armV v) dn re en n M)) := by
    refine fEv.br rfl (fun h => ?_) (fun h => ?_)
    · have e : armV v = v := if_pos h
      rw [e]
      exact fEv.retV rfl rfl
    · have e : armV v = -1 := if_neg h
      rw [e]
      exact fEv.retV rfl rfl
  refine fEv.calln rfl h1 ?_
  exact fEv.retV rfl rfl
theorem e_isDown (hd : dn = 0 ∨ dn = 1) : mEv Ls xs 2 (0, [some (.ref 0)], [], (hV c t lf dn re en n M)) (rV dn (hV c t lf dn re en n M)) := by
  refine fEv.calli rfl (e_lost hd) ?_
  refine fEv.retV rfl ?_
  rcases hd with rfl | rfl <;> decide
theorem e_cell {a i : Int32} : mEv Ls xs 13 (0, [some (.ref 0), some (.int a), some (.int i)], [], (hV c t lf dn re en n M)) (rV (cellA c a i) (hV c t lf dn re en n M)) := by
  refine fEv.calli rfl e_cellAt ?_
  exact fEv.retV rfl rfl
def tabA (t : Nat → Int32) (a : Int32) : Int32 := if isC a = true then t a.toNatClampNeg else nI 0
theorem e_table {a : Int32} : mEv Ls xs 14 (0, [some (.ref 0), some (.int a)], [], (hV c t lf dn re en n M)) (rV (tabA t a) (hV c t lf dn re en n M)) := by
  refine fEv.calli rfl e_isC ?_
  cases h : isC a with
  | true =>
    refine fEv.brF rfl (by decide) ?_
    refine fEv.calli rfl e_nextAfter ?_
    have e : nextA t a = tabA t a := by unfold nextA tabA; rw [if_pos h, if_pos h]
    rw [e]
    exact fEv.retV rfl rfl
  | false =>
    refine fEv.brT rfl (by decide) ?_
    have e : tabA t a = nI 0 := by unfold tabA; rw [if_neg (by rw [h]; decide)]
    rw [e]
    exact fEv.retV rfl rfl
end KX
