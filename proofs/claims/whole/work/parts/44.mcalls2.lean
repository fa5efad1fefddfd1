/-! the model's other calls -/
def FK (Ls : Nat) (xs : Nat → Int32) (P : Px) (T : mH) (s : MS) (mk : Nat → Int32) (p q : Nat) (X Y : Int32) : Prop :=
  (∀ cd hm he fr, mEv Ls xs 65 (0, [some (.ref 6), some (.int (nI p))], [], (hM P T cd s mk hm he fr)) (rV (nI q) (hM P T cd s mk X Y fr))) ∧
  (∀ cd hm he fr, mEv Ls xs 64 (0, [some (.ref 6), some (.int (nI p))], [], (hM P T cd s mk hm he fr)) (rV (nI 0) (hM P T cd s mk X Y fr)))
section MX
variable {Ls : Nat} {xs : Nat → Int32} {P : Px} {T : mH} {cd hm he fr : Int32} {s : MS} {mk : Nat → Int32} {ch : Nat → List Nat} {R : Nat → Prop} {p q : Nat} {X Y : Int32}
theorem m_FK (h : MS.dn s = 0) (hR : Rc (MS.c s) (MS.t s) ch R) (h32 : R 32) (hp : p < 65536) (h0 : ¬ p = 0) (ho : okP p = true) (hw : wk (MS.c s) ch p = some q) (hq : q < 32) :
    ∃ z, gH (MS.c s) ch p = some z ∧ R z ∧ dirP (MS.c s) z = true ∧ FK Ls xs P T s mk p q (fsP (MS.c s) z) (hE z) := by
  obtain ⟨z, hg, hz1, hz2, -⟩ := m_findY (Ls := Ls) (xs := xs) (P := P) (T := T) (fr := 0) (mk := mk) hR h32 hp ho h0 hw
  refine ⟨z, hg, hz1, hz2, fun cd hm he fr => ?_, fun cd hm he fr => ?_⟩
  · obtain ⟨z', hg', -, -, hh⟩ := m_findY (Ls := Ls) (xs := xs) (P := P) (T := T) (fr := fr) (mk := mk) hR h32 hp ho h0 hw
    have e : z' = z := by rw [hg] at hg'; cases hg'; rfl
    subst e
    exact hh cd hm he
  · obtain ⟨z', hg', -, -, hh⟩ := m_lackY (Ls := Ls) (xs := xs) (P := P) (T := T) (fr := fr) (mk := mk) h hR h32 hp ho h0 hw hq
    have e : z' = z := by rw [hg] at hg'; cases hg'; rfl
    subst e
    exact hh cd hm he
-- rename
theorem m_ren_down {a b : Int32} (h : ¬ MS.dn s = 0) : mEv Ls xs 68 (0, [some (.ref 6), some (.int a), some (.int b), none], [], (hM P T cd s mk hm he fr)) (rV (nI 0) (hM P T (nI 1) s mk hm he fr)) := by
  refine fEv.brF rfl (decide_eq_false h) ?_
  refine fEv.brF rfl (by decide) ?_
  exact fEv.retV rfl rfl
theorem m_ren_bad {a b : Int32} (h : MS.dn s = 0) (hb : badP a) : mEv Ls xs 68 (0, [some (.ref 6), some (.int a), some (.int b), none], [], (hM P T cd s mk hm he fr)) (rV (nI 0) (hM P T (nI 2) s mk hm he fr)) := by
  refine fEv.brT rfl (decide_eq_true h) ?_
  refine fEv.calli rfl (m_bad hb) ?_
  refine fEv.brT rfl (by decide) ?_
  refine fEv.brF rfl (by decide) ?_
  exact fEv.retV rfl rfl
theorem m_ren_name {b : Int32} (h : MS.dn s = 0) (hp : p < 65536) (ho : okP p = true) (hb : b < nI 1 ∨ nI 15 < b) : mEv Ls xs 68 (0, [some (.ref 6), some (.int (nI p)), some (.int b), none], [], (hM P T cd s mk hm he fr)) (rV (nI 0) (hM P T (nI 2) s mk hm he fr)) := by
  refine fEv.brT rfl (decide_eq_true h) ?_
  refine fEv.calli rfl (m_good hp ho) ?_
  refine fEv.brF rfl (by decide) ?_
  refine fEv.calli rfl m_within ?_
  rw [decide_eq_false (by
    rintro ⟨h1, h2⟩
    rcases hb with hb | hb
    · exact Int32.not_lt.mpr h1 hb
    · exact Int32.not_lt.mpr h2 hb : ¬ (nI 1 ≤ b ∧ b ≤ nI 15))]
  refine fEv.brF rfl (by decide) ?_
  refine fEv.brF rfl (by decide) ?_
  exact fEv.retV rfl rfl
theorem mn_pre {b : Nat} {r : mR} (h : MS.dn s = 0) (hp : p < 65536) (ho : okP p = true) (hb1 : 1 ≤ b) (hb2 : b ≤ 15)
    (k : mEv Ls xs 68 (33, [some (.ref 6), some (.int (nI p)), some (.int (nI b)), none], [.ref 6], hM P T cd s mk hm he fr) r) : mEv Ls xs 68 (0, [some (.ref 6), some (.int (nI p)), some (.int (nI b)), none], [], (hM P T cd s mk hm he fr)) r := by
  refine fEv.brT rfl (decide_eq_true h) ?_
  refine fEv.calli rfl (m_good hp ho) ?_
  refine fEv.brF rfl (by decide) ?_
  refine fEv.calli rfl m_within ?_
  rw [decide_eq_true (⟨nI_le hb1 (by omega), nI_le hb2 (by decide)⟩ : nI 1 ≤ nI b ∧ nI b ≤ nI 15)]
  exact fEv.brT rfl (by decide) k
theorem m_ren_no {b : Nat} (h : MS.dn s = 0) (hR : Rc (MS.c s) (MS.t s) ch R) (h32 : R 32) (hp : p < 65536) (ho : okP p = true) (hb1 : 1 ≤ b) (hb2 : b ≤ 15) (hw : wk (MS.c s) ch p = none) :
    ∃ hm' he', mEv Ls xs 68 (0, [some (.ref 6), some (.int (nI p)), some (.int (nI b)), none], [], (hM P T cd s mk hm he fr)) (rV (nI 0) (hM P T (nI 3) s mk hm' he' fr)) := by
  obtain ⟨hm', he', hh⟩ := m_lackN (Ls := Ls) (xs := xs) (P := P) (T := T) (cd := cd) (hm := hm) (he := he) (fr := fr) (mk := mk) h hR h32 hp ho hw
  refine ⟨hm', he', mn_pre h hp ho hb1 hb2 ?_⟩
  refine fEv.calli rfl hh ?_
  refine fEv.brF rfl (by decide) ?_
  exact fEv.retV rfl rfl
theorem m_ren_root {b : Nat} (h : MS.dn s = 0) (hb1 : 1 ≤ b) (hb2 : b ≤ 15) : mEv Ls xs 68 (0, [some (.ref 6), some (.int (nI 0)), some (.int (nI b)), none], [], (hM P T cd s mk hm he fr)) (rV (nI 0) (hM P T (nI 4) s mk hm he fr)) := by
  refine mn_pre h (by decide) (by decide) hb1 hb2 ?_
  refine fEv.calli rfl (m_lack0 h) ?_
  refine fEv.brT rfl (by decide) ?_
  refine fEv.brF rfl (by decide) ?_
  refine fEv.brT rfl (by decide) ?_
  refine fEv.brF rfl (by decide) ?_
  exact fEv.retV rfl rfl
theorem m_ren_is {b a : Nat} {l : List Nat} (h : MS.dn s = 0) (hF : FK Ls xs P T s mk p q X Y) (hp : p < 65536) (h0 : ¬ p = 0) (ho : okP p = true) (hb1 : 1 ≤ b) (hb2 : b ≤ 15) (hc : Chain (MS.t s) X l) (hl : lkO (MS.c s) b l = some a) (ha : a < 32) :
    mEv Ls xs 68 (0, [some (.ref 6), some (.int (nI p)), some (.int (nI b)), none], [], (hM P T cd s mk hm he fr)) (rV (nI 0) (hM P T (nI 4) s mk X Y fr)) := by
  refine mn_pre h hp ho hb1 hb2 ?_
  refine fEv.calli rfl (hF.2 _ _ _ _) ?_
  refine fEv.brT rfl (by decide) ?_
  refine fEv.brT rfl (decide_eq_true (nI_ne0 (by omega) (by omega))) ?_
  refine fEv.calli rfl (hF.1 _ _ _ _) ?_
  refine fEv.brF rfl (decide_eq_false (nI_ne0 (by omega) (by omega))) ?_
  have hen := m_entryIn (Ls := Ls) (xs := xs) (P := P) (T := T) (cd := nI 0) (hm := X) (he := Y) (fr := fr) (s := s) (mk := mk) (nm := nI b) hc
  rw [lkI_eq, hl, oI_some] at hen
  refine fEv.calli rfl hen ?_
  refine fEv.brF rfl (decide_eq_false (nI_pos (by omega))) ?_
  refine fEv.brF rfl (by decide) ?_
  exact fEv.retV rfl rfl
theorem m_ren {b : Nat} {l : List Nat} (h : MS.dn s = 0) (hF : FK Ls xs P T s mk p q X Y) (hq : q < 32) (hp : p < 65536) (h0 : ¬ p = 0) (ho : okP p = true) (hb1 : 1 ≤ b) (hb2 : b ≤ 15) (hc : Chain (MS.t s) X l) (hl : lkO (MS.c s) b l = none) :
    mEv Ls xs 68 (0, [some (.ref 6), some (.int (nI p)), some (.int (nI b)), none], [], (hM P T cd s mk hm he fr)) (rE P T mk (nI p - (nI p &&& nI 15) + nI b) (mws [wK q 0 (nI b)] s) X Y fr) := by
  refine mn_pre h hp ho hb1 hb2 ?_
  refine fEv.calli rfl (hF.2 _ _ _ _) ?_
  refine fEv.brT rfl (by decide) ?_
  refine fEv.brT rfl (decide_eq_true (nI_ne0 (by omega) (by omega))) ?_
  refine fEv.calli rfl (hF.1 _ _ _ _) ?_
  refine fEv.brF rfl (decide_eq_false (nI_ne0 (by omega) (by omega))) ?_
  have hen := m_entryIn (Ls := Ls) (xs := xs) (P := P) (T := T) (cd := nI 0) (hm := X) (he := Y) (fr := fr) (s := s) (mk := mk) (nm := nI b) hc
  rw [lkI_eq, hl, oI_none] at hen
  refine fEv.calli rfl hen ?_
  refine fEv.brT rfl (by decide) ?_
  refine fEv.brT rfl (by decide) ?_
  refine fEv.callm rfl (m_wK (i := 0) hq (by decide)) (fun s1 hs1 => ?_)
  rw [mws, mws, ← hs1]
  unfold rE
  by_cases hd : MS.dn s1 = 0
  · rw [if_pos hd, if_pos hd]
    refine fEv.brT rfl (decide_eq_true hd) ?_
    refine fEv.brT rfl (decide_eq_true hd) ?_
    exact fEv.retV rfl rfl
  · rw [if_neg hd, if_neg hd]
    refine fEv.brF rfl (decide_eq_false hd) ?_
    refine fEv.brF rfl (decide_eq_false hd) ?_
    exact fEv.retV rfl rfl
-- files
theorem m_lofL {a z : Int32} {hm' he' : Int32} (hl : mEv Ls xs 64 (0, [some (.ref 6), some (.int a)], [], (hM P T cd s mk hm he fr)) (rV z (hM P T cd s mk hm' he' fr))) (hz : ¬ z ≤ 0) : mEv Ls xs 71 (0, [some (.ref 6), some (.int a), none], [], (hM P T cd s mk hm he fr)) (rV z (hM P T cd s mk hm' he' fr)) := by
  refine fEv.calli rfl hl ?_
  refine fEv.brF rfl (decide_eq_false hz) ?_
  exact fEv.retV rfl rfl
theorem m_lof0 (h : MS.dn s = 0) : mEv Ls xs 71 (0, [some (.ref 6), some (.int (nI 0)), none], [], (hM P T cd s mk hm he fr)) (rV (nI 4) (hM P T cd s mk hm he fr)) := by
  refine fEv.calli rfl (m_lack0 h) ?_
  refine fEv.brT rfl (by decide) ?_
  refine fEv.brT rfl (by decide) ?_
  exact fEv.retV rfl rfl
theorem m_lofD (hF : FK Ls xs P T s mk p q X Y) (hp : p < 65536) (h0 : ¬ p = 0) (hq : q < 32) (hd : dirP (MS.c s) q = true) : mEv Ls xs 71 (0, [some (.ref 6), some (.int (nI p)), none], [], (hM P T cd s mk hm he fr)) (rV (nI 4) (hM P T cd s mk X Y fr)) := by
  refine fEv.calli rfl (hF.2 _ _ _ _) ?_
  refine fEv.brT rfl (by decide) ?_
  refine fEv.brF rfl (decide_eq_false (nI_ne0 (by omega) (by omega))) ?_
  refine fEv.calli rfl (hF.1 _ _ _ _) ?_
  refine fEv.calli rfl (m_isDir hq) ?_
  rw [hd]
  refine fEv.brF rfl (by decide) ?_
  exact fEv.retV rfl rfl
theorem m_lofY (hF : FK Ls xs P T s mk p q X Y) (hp : p < 65536) (h0 : ¬ p = 0) (hq : q < 32) (hd : dirP (MS.c s) q = false) : mEv Ls xs 71 (0, [some (.ref 6), some (.int (nI p)), none], [], (hM P T cd s mk hm he fr)) (rV (nI 0) (hM P T cd s mk X Y fr)) := by
  refine fEv.calli rfl (hF.2 _ _ _ _) ?_
  refine fEv.brT rfl (by decide) ?_
  refine fEv.brF rfl (decide_eq_false (nI_ne0 (by omega) (by omega))) ?_
  refine fEv.calli rfl (hF.1 _ _ _ _) ?_
  refine fEv.calli rfl (m_isDir hq) ?_
  rw [hd]
  refine fEv.brT rfl (by decide) ?_
  exact fEv.retV rfl rfl
theorem m_locL {a i z : Int32} {hm' he' : Int32} (hl : mEv Ls xs 71 (0, [some (.ref 6), some (.int a), none], [], (hM P T cd s mk hm he fr)) (rV z (hM P T cd s mk hm' he' fr))) (hz : ¬ z ≤ 0) : mEv Ls xs 73 (0, [some (.ref 6), some (.int a), some (.int i), none], [], (hM P T cd s mk hm he fr)) (rV z (hM P T cd s mk hm' he' fr)) := by
  refine fEv.calli rfl hl ?_
  refine fEv.brF rfl (decide_eq_false hz) ?_
  exact fEv.retV rfl rfl
theorem m_loc {len : Nat} {i : Int32} (hF : FK Ls xs P T s mk p q X Y) (hp : p < 65536) (h0 : ¬ p = 0) (hq : q < 32) (hd : dirP (MS.c s) q = false) (hl : MS.c s (4 * q + 3) = nI len) : mEv Ls xs 73 (0, [some (.ref 6), some (.int (nI p)), some (.int i), none], [], (hM P T cd s mk hm he fr)) (rV (if nI 0 ≤ i ∧ i ≤ nI len - nI 1 then nI 0 else nI 5) (hM P T cd s mk X Y fr)) := by
  refine fEv.calli rfl (m_lofY hF hp h0 hq hd) ?_
  refine fEv.brT rfl (by decide) ?_
  refine fEv.calli rfl (hF.1 _ _ _ _) ?_
  refine fEv.brT rfl (b4i hq (i := 3) (by decide)) ?_
  rw [k4i hq (by decide), hl]
  refine fEv.calli rfl m_within ?_
  by_cases hi : nI 0 ≤ i ∧ i ≤ nI len - nI 1
  · rw [decide_eq_true hi, if_pos hi]
    refine fEv.brF rfl (by decide) ?_
    exact fEv.retV rfl rfl
  · rw [decide_eq_false hi, if_neg hi]
    refine fEv.brT rfl (by decide) ?_
    exact fEv.retV rfl rfl
-- get
theorem m_getL {a i z : Int32} {hm' he' : Int32} (hl : mEv Ls xs 73 (0, [some (.ref 6), some (.int a), some (.int i), none], [], (hM P T cd s mk hm he fr)) (rV z (hM P T cd s mk hm' he' fr))) (hz : ¬ z ≤ 0) : mEv Ls xs 72 (0, [some (.ref 6), some (.int a), some (.int i), none], [], (hM P T cd s mk hm he fr)) (rV (nI 0) (hM P T z s mk hm' he' fr)) := by
  refine fEv.calli rfl hl ?_
  refine fEv.brF rfl (decide_eq_false hz) ?_
  exact fEv.retV rfl rfl
theorem m_get {i : Nat} {l : List Nat} (hl : mEv Ls xs 73 (0, [some (.ref 6), some (.int (nI p)), some (.int (nI i)), none], [], (hM P T cd s mk hm he fr)) (rV (nI 0) (hM P T cd s mk X Y fr))) (hF : FK Ls xs P T s mk p q X Y) (hq : q < 32) (hi : i < 1000) (hc : Chain (MS.t s) (MS.c s (4 * q + 2)) l) (hn : i / 4 < l.length) :
    mEv Ls xs 72 (0, [some (.ref 6), some (.int (nI p)), some (.int (nI i)), none], [], (hM P T cd s mk hm he fr)) (rV (MS.c s (4 * l.getD (i / 4) 0 + i % 4)) (hM P T (nI 0) s mk X Y fr)) := by
  have hlt : l.getD (i / 4) 0 < 32 := hc.lt _ (getD_mem hn)
  refine fEv.calli rfl hl ?_
  refine fEv.brT rfl (by decide) ?_
  refine fEv.calli rfl (hF.1 _ _ _ _) ?_
  refine fEv.brT rfl (b4i hq (i := 2) (by decide)) ?_
  rw [k4i hq (by decide)]
  have h2 := m_clusterOf (Ls := Ls) (xs := xs) (P := P) (T := T) (cd := nI 0) (hm := X) (he := Y) (fr := fr) (mk := mk) (q := i / 4) (by omega) hc hn
  rw [← pk_div (d := 4) (by omega) (by decide) (by decide)] at h2
  refine fEv.calli rfl h2 ?_
  have e := rem4 (i := i) (by omega)
  refine fEv.brT rfl (by show mInb (nI 4 * nI _ + (nI i - nI i / nI 4 * nI 4)) 128 = true; rw [e]; exact b4i hlt (by omega)) ?_
  have e2 : (nI 4 * nI (l.getD (i / 4) 0) + (nI i - nI i / nI 4 * nI 4)).toNatClampNeg = 4 * l.getD (i / 4) 0 + i % 4 := by rw [e]; exact k4i hlt (by omega)
  rw [← e2]
  exact fEv.retV rfl rfl
-- put
theorem m_putL {a i v z : Int32} {hm' he' : Int32} (hl : mEv Ls xs 73 (0, [some (.ref 6), some (.int a), some (.int i), none], [], (hM P T cd s mk hm he fr)) (rV z (hM P T cd s mk hm' he' fr))) (hz : ¬ z ≤ 0) : mEv Ls xs 75 (0, [some (.ref 6), some (.int a), some (.int i), some (.int v), none, none], [], (hM P T cd s mk hm he fr)) (rV (nI 0) (hM P T z s mk hm' he' fr)) := by
  refine fEv.calli rfl hl ?_
  refine fEv.brF rfl (decide_eq_false hz) ?_
  exact fEv.retV rfl rfl
theorem m_put {i : Nat} {v : Int32} {l : List Nat} (hl : mEv Ls xs 73 (0, [some (.ref 6), some (.int (nI p)), some (.int (nI i)), none], [], (hM P T cd s mk hm he fr)) (rV (nI 0) (hM P T cd s mk X Y fr))) (hF : FK Ls xs P T s mk p q X Y) (hq : q < 32) (hi : i < 1000) (hc : Chain (MS.t s) (MS.c s (4 * q + 2)) l) (hn : i / 4 < l.length) :
    mEv Ls xs 75 (0, [some (.ref 6), some (.int (nI p)), some (.int (nI i)), some (.int v), none, none], [], (hM P T cd s mk hm he fr)) (rE P T mk (MS.c s (4 * l.getD (i / 4) 0 + i % 4)) (mws [wK (l.getD (i / 4) 0) (i % 4) v] s) X Y fr) := by
  have hlt : l.getD (i / 4) 0 < 32 := hc.lt _ (getD_mem hn)
  refine fEv.calli rfl hl ?_
  refine fEv.brT rfl (by decide) ?_
  refine fEv.calli rfl (hF.1 _ _ _ _) ?_
  refine fEv.brT rfl (b4i hq (i := 2) (by decide)) ?_
  rw [k4i hq (by decide)]
  have h2 := m_clusterOf (Ls := Ls) (xs := xs) (P := P) (T := T) (cd := nI 0) (hm := X) (he := Y) (fr := fr) (mk := mk) (q := i / 4) (by omega) hc hn
  rw [← pk_div (d := 4) (by omega) (by decide) (by decide)] at h2
  refine fEv.calli rfl h2 ?_
  have e := rem4 (i := i) (by omega)
  refine fEv.brT rfl (by show mInb (nI 4 * nI _ + (nI i - nI i / nI 4 * nI 4)) 128 = true; rw [e]; exact b4i hlt (by omega)) ?_
  have e2 : (nI 4 * nI (l.getD (i / 4) 0) + (nI i - nI i / nI 4 * nI 4)).toNatClampNeg = 4 * l.getD (i / 4) 0 + i % 4 := by rw [e]; exact k4i hlt (by omega)
  rw [← e2]
  have h3 := m_wK (Ls := Ls) (xs := xs) (P := P) (T := T) (cd := nI 0) (hm := X) (he := Y) (fr := fr) (mk := mk) (s := s) (v := v) hlt (show i % 4 < 4 by omega)
  rw [← e] at h3
  refine fEv.callm rfl h3 (fun s1 hs1 => ?_)
  rw [mws, mws, ← hs1]
  unfold rE
  by_cases hd : MS.dn s1 = 0
  · rw [if_pos hd, if_pos hd]
    refine fEv.brT rfl (decide_eq_true hd) ?_
    refine fEv.brT rfl (decide_eq_true hd) ?_
    exact fEv.retV rfl rfl
  · rw [if_neg hd, if_neg hd]
    refine fEv.brF rfl (decide_eq_false hd) ?_
    refine fEv.brF rfl (decide_eq_false hd) ?_
    exact fEv.retV rfl rfl
end MX
