/-! the model's append, shorten, length, names, free, small ones -/
def cntN (c : Nat → Int32) (k : Nat) (l : List Nat) : Nat :=
  match l with
  | [] => k
  | a :: l => cntN c (if c (4 * a) ≤ 0 then k else k + 1) l
section MY
variable {Ls : Nat} {xs : Nat → Int32} {P : Px} {T : mH} {cd hm he fr : Int32} {s : MS} {mk : Nat → Int32} {ch : Nat → List Nat} {R : Nat → Prop} {p q : Nat} {X Y : Int32}
theorem m_appL {a v z : Int32} {hm' he' : Int32} (hl : mEv Ls xs 71 (0, [some (.ref 6), some (.int a), none], [], (hM P T cd s mk hm he fr)) (rV z (hM P T cd s mk hm' he' fr))) (hz : ¬ z ≤ 0) : mEv Ls xs 70 (0, [some (.ref 6), some (.int a), some (.int v), none, none, none, none, none], [], (hM P T cd s mk hm he fr)) (rV (nI 0) (hM P T z s mk hm' he' fr)) := by
  refine fEv.calli rfl hl ?_
  refine fEv.brF rfl (decide_eq_false hz) ?_
  exact fEv.retV rfl rfl
theorem ma_pre {len : Nat} {v f la : Int32} {r : mR} (hF : FK Ls xs P T s mk p q X Y) (hp : p < 65536) (h0 : ¬ p = 0) (hq : q < 32) (hd : dirP (MS.c s) q = false) (hl : MS.c s (4 * q + 3) = nI len) (hf : MS.c s (4 * q + 2) = f) (hla : mEv Ls xs 61 (0, [some (.ref 6), some (.int f), none], [], (hM P T (nI 0) s mk X Y fr)) (rV la (hM P T (nI 0) s mk X Y fr)))
    (k : mEv Ls xs 70 (56, [some (.ref 6), some (.int (nI p)), some (.int v), some (.int (nI q)), some (.int f), some (.int (nI len)), some (.int la), none], [], hM P T (nI 0) s mk X Y fr) r) : mEv Ls xs 70 (0, [some (.ref 6), some (.int (nI p)), some (.int v), none, none, none, none, none], [], (hM P T cd s mk hm he fr)) r := by
  refine fEv.calli rfl (m_lofY hF hp h0 hq hd) ?_
  refine fEv.brT rfl (by decide) ?_
  refine fEv.calli rfl (hF.1 _ _ _ _) ?_
  refine fEv.brT rfl (b4i hq (i := 2) (by decide)) ?_
  rw [k4i hq (by decide), hf]
  refine fEv.brT rfl (b4i hq (i := 3) (by decide)) ?_
  rw [k4i hq (by decide), hl]
  refine fEv.calli rfl hla ?_
  exact fEv.steps 1 rfl k
theorem ma_end {len : Nat} {p v f la o7 : Option Value} {q : Option Value} (s : MS) : mEv Ls xs 70 (157, [some (.ref 6), p, v, q, f, some (.int (nI len)), la, o7], [], hM P T (nI 0) s mk hm he fr) (rE P T mk (nI (len + 1)) s hm he fr) := by
  unfold rE
  rw [← nI_add]
  by_cases hd : MS.dn s = 0
  · rw [if_pos hd, if_pos hd]
    refine fEv.brT rfl (decide_eq_true hd) ?_
    refine fEv.brT rfl (decide_eq_true hd) ?_
    exact fEv.retV rfl rfl
  · rw [if_neg hd, if_neg hd]
    refine fEv.brF rfl (decide_eq_false hd) ?_
    refine fEv.brF rfl (decide_eq_false hd) ?_
    exact fEv.retV rfl rfl
theorem m_app_in {len b : Nat} {v : Int32} {l : List Nat} (hF : FK Ls xs P T s mk p q X Y) (hp : p < 65536) (h0 : ¬ p = 0) (hq : q < 32) (hd : dirP (MS.c s) q = false) (hl : MS.c s (4 * q + 3) = nI len) (hlen : len ≤ 128) (h4 : ¬ len % 4 = 0) (hb : MS.c s (4 * q + 2) = nI b) (hb3 : b < 32) (hc : Chain (MS.t s) (MS.t s b) l) (hla : lastI b l < 32) (hql : q ≠ lastI b l) :
    mEv Ls xs 70 (0, [some (.ref 6), some (.int (nI p)), some (.int v), none, none, none, none, none], [], (hM P T cd s mk hm he fr)) (rE P T mk (nI (len + 1)) (mws [wK (lastI b l) (len % 4) v, wK q 3 (nI (len + 1))] s) X Y fr) := by
  refine ma_pre hF hp h0 hq hd hl hb (m_lastOf hb3 hc) ?_
  have e := rem4 (i := len) (by omega)
  refine fEv.brF rfl (decide_eq_false (by show ¬ nI len - nI len / nI 4 * nI 4 = 0; rw [e]; exact nI_ne0 (by omega) (by omega))) ?_
  have h3 := m_wK (Ls := Ls) (xs := xs) (P := P) (T := T) (cd := nI 0) (hm := X) (he := Y) (fr := fr) (mk := mk) (s := s) (v := v) hla (show len % 4 < 4 by omega)
  rw [← e] at h3
  refine fEv.callm rfl h3 (fun s1 hs1 => ?_)
  refine fEv.callm rfl (m_wE hq) (fun s2 hs2 => ?_)
  have e3 : s2 = mw (wK q 3 (nI (len + 1))) s1 := by
    rw [hs2]
    refine mw_congr ?_
    show (w4 (MS.c s1) q _ _ _ _, MS.t s1) = (upd (MS.c s1) (4 * q + 3) (nI (len + 1)), MS.t s1)
    rw [w4_3 (by rw [hs1, c_mwK hql (by decide) (by omega)]; exact hb), ← nI_add]
  rw [mws, mws, mws, ← hs1, ← e3]
  exact fEv.steps 1 rfl (ma_end s2)
theorem m_app_full {len : Nat} {v f la : Int32} (hF : FK Ls xs P T s mk p q X Y) (hp : p < 65536) (h0 : ¬ p = 0) (hq : q < 32) (hd : dirP (MS.c s) q = false) (hl : MS.c s (4 * q + 3) = nI len) (hlen : len ≤ 128) (h4 : len % 4 = 0) (hf : MS.c s (4 * q + 2) = f) (hla : mEv Ls xs 61 (0, [some (.ref 6), some (.int f), none], [], (hM P T (nI 0) s mk X Y fr)) (rV la (hM P T (nI 0) s mk X Y fr))) (hfu : ∀ i, i < 32 → ¬ MS.t s i = -2) :
    mEv Ls xs 70 (0, [some (.ref 6), some (.int (nI p)), some (.int v), none, none, none, none, none], [], (hM P T cd s mk hm he fr)) (rV (nI 0) (hM P T (nI 5) s mk X Y fr)) := by
  refine ma_pre hF hp h0 hq hd hl hf hla ?_
  have e := rem4 (i := len) (by omega)
  refine fEv.brT rfl (decide_eq_true (by show nI len - nI len / nI 4 * nI 4 = 0; rw [e, h4]; rfl)) ?_
  refine fEv.calli rfl (m_takenN hfu) ?_
  refine fEv.brF rfl (by decide) ?_
  exact fEv.retV rfl rfl
theorem m_app_new0 {a : Nat} {v : Int32} (hF : FK Ls xs P T s mk p q X Y) (hp : p < 65536) (h0 : ¬ p = 0) (hq : q < 32) (hd : dirP (MS.c s) q = false) (hl : MS.c s (4 * q + 3) = nI 0) (hf : MS.c s (4 * q + 2) = -1) (ha : a < 32) (hfa : MS.t s a = -2) (hmn : ∀ i, i < a → ¬ MS.t s i = -2) (hqa : q ≠ a) :
    mEv Ls xs 70 (0, [some (.ref 6), some (.int (nI p)), some (.int v), none, none, none, none, none], [], (hM P T cd s mk hm he fr)) (rE P T mk (nI (0 + 1)) (mws [wC a v (nI 0) (nI 0) (nI 0), wT a (-1), wC q (MS.c s (4 * q)) (MS.c s (4 * q + 1)) (nI a) (nI 1)] s) X Y fr) := by
  refine ma_pre hF hp h0 hq hd hl hf m_lastOfN ?_
  refine fEv.brT rfl (by decide) ?_
  refine fEv.calli rfl (m_taken ha hfa hmn) ?_
  refine fEv.brT rfl (decide_eq_true (nI_pos' (by omega))) ?_
  refine fEv.callm rfl (m_wC ha) (fun s1 hs1 => ?_)
  refine fEv.callm rfl (m_wT ha) (fun s2 hs2 => ?_)
  refine fEv.brT rfl (by decide) ?_
  refine fEv.brF rfl (by decide) ?_
  refine fEv.callm rfl (m_wE hq) (fun s3 hs3 => ?_)
  have c0 : MS.c s2 (4 * q) = MS.c s (4 * q) := by rw [hs2, c_mwT, hs1]; exact c_mwC (i := 0) hqa (by decide)
  have c1 : MS.c s2 (4 * q + 1) = MS.c s (4 * q + 1) := by rw [hs2, c_mwT, hs1]; exact c_mwC hqa (by decide)
  rw [c0, c1] at hs3
  have hs3 : s3 = mw (wC q (MS.c s (4 * q)) (MS.c s (4 * q + 1)) (nI a) (nI 1)) s2 := hs3
  rw [mws, mws, mws, mws, ← hs1, ← hs2, ← hs3]
  exact ma_end s3
theorem m_app_new1 {a b len : Nat} {v : Int32} {l : List Nat} (hF : FK Ls xs P T s mk p q X Y) (hp : p < 65536) (h0 : ¬ p = 0) (hq : q < 32) (hd : dirP (MS.c s) q = false) (hl : MS.c s (4 * q + 3) = nI len) (hlen : len ≤ 128) (h4 : len % 4 = 0) (hl0 : ¬ len = 0) (hb : MS.c s (4 * q + 2) = nI b) (hb3 : b < 32) (hc : Chain (MS.t s) (MS.t s b) l) (hla : lastI b l < 32) (ha : a < 32) (hfa : MS.t s a = -2) (hmn : ∀ i, i < a → ¬ MS.t s i = -2) (hqa : q ≠ a) :
    mEv Ls xs 70 (0, [some (.ref 6), some (.int (nI p)), some (.int v), none, none, none, none, none], [], (hM P T cd s mk hm he fr)) (rE P T mk (nI (len + 1)) (mws [wC a v (nI 0) (nI 0) (nI 0), wT a (-1), wT (lastI b l) (nI a), wC q (MS.c s (4 * q)) (MS.c s (4 * q + 1)) (nI b) (nI (len + 1))] s) X Y fr) := by
  refine ma_pre hF hp h0 hq hd hl hb (m_lastOf hb3 hc) ?_
  have e := rem4 (i := len) (by omega)
  refine fEv.brT rfl (decide_eq_true (by show nI len - nI len / nI 4 * nI 4 = 0; rw [e, h4]; rfl)) ?_
  refine fEv.calli rfl (m_taken ha hfa hmn) ?_
  refine fEv.brT rfl (decide_eq_true (nI_pos' (by omega))) ?_
  refine fEv.callm rfl (m_wC ha) (fun s1 hs1 => ?_)
  refine fEv.callm rfl (m_wT ha) (fun s2 hs2 => ?_)
  refine fEv.brF rfl (decide_eq_false (nI_ne0 (by omega) (by omega))) ?_
  refine fEv.callm rfl (m_wT hla) (fun s3 hs3 => ?_)
  refine fEv.brT rfl (decide_eq_true (nI_ne0 (by omega) (by omega))) ?_
  refine fEv.callm rfl (m_wE hq) (fun s4 hs4 => ?_)
  have c0 : MS.c s3 (4 * q) = MS.c s (4 * q) := by rw [hs3, c_mwT, hs2, c_mwT, hs1]; exact c_mwC (i := 0) hqa (by decide)
  have c1 : MS.c s3 (4 * q + 1) = MS.c s (4 * q + 1) := by rw [hs3, c_mwT, hs2, c_mwT, hs1]; exact c_mwC hqa (by decide)
  have hs4 : s4 = mw (wC q (MS.c s3 (4 * q)) (MS.c s3 (4 * q + 1)) (nI b) (nI len + nI 1)) s3 := hs4
  rw [c0, c1, nI_add] at hs4
  rw [mws, mws, mws, mws, mws, ← hs1, ← hs2, ← hs3, ← hs4]
  exact ma_end s4
-- shorten
theorem m_shoL {a v z : Int32} {hm' he' : Int32} (hl : mEv Ls xs 71 (0, [some (.ref 6), some (.int a), none], [], (hM P T cd s mk hm he fr)) (rV z (hM P T cd s mk hm' he' fr))) (hz : ¬ z ≤ 0) : mEv Ls xs 76 (0, [some (.ref 6), some (.int a), some (.int v), none, none, none, none, none, none, none], [], (hM P T cd s mk hm he fr)) (rV (nI 0) (hM P T z s mk hm' he' fr)) := by
  refine fEv.calli rfl hl ?_
  refine fEv.brF rfl (decide_eq_false hz) ?_
  exact fEv.retV rfl rfl
theorem ms_pre {len : Nat} {v : Int32} {r : mR} (hF : FK Ls xs P T s mk p q X Y) (hp : p < 65536) (h0 : ¬ p = 0) (hq : q < 32) (hd : dirP (MS.c s) q = false) (hl : MS.c s (4 * q + 3) = nI len)
    (k : mEv Ls xs 76 (44, [some (.ref 6), some (.int (nI p)), some (.int v), some (.int (nI q)), some (.int (nI len)), none, none, none, none, none], [.int (bI (decide (nI 0 ≤ v ∧ v ≤ nI len))), .ref 6], hM P T (nI 0) s mk X Y fr) r) : mEv Ls xs 76 (0, [some (.ref 6), some (.int (nI p)), some (.int v), none, none, none, none, none, none, none], [], (hM P T cd s mk hm he fr)) r := by
  refine fEv.calli rfl (m_lofY hF hp h0 hq hd) ?_
  refine fEv.brT rfl (by decide) ?_
  refine fEv.calli rfl (hF.1 _ _ _ _) ?_
  refine fEv.brT rfl (b4i hq (i := 3) (by decide)) ?_
  rw [k4i hq (by decide), hl]
  exact fEv.calli rfl m_within k
theorem m_sho_ix {len : Nat} {v : Int32} (hF : FK Ls xs P T s mk p q X Y) (hp : p < 65536) (h0 : ¬ p = 0) (hq : q < 32) (hd : dirP (MS.c s) q = false) (hl : MS.c s (4 * q + 3) = nI len) (hi : v < 0 ∨ nI len < v) :
    mEv Ls xs 76 (0, [some (.ref 6), some (.int (nI p)), some (.int v), none, none, none, none, none, none, none], [], (hM P T cd s mk hm he fr)) (rV (nI 0) (hM P T (nI 5) s mk X Y fr)) := by
  refine ms_pre hF hp h0 hq hd hl ?_
  rw [decide_eq_false (by
    rintro ⟨h1, h2⟩
    rcases hi with hi | hi
    · exact Int32.not_lt.mpr h1 hi
    · exact Int32.not_lt.mpr h2 hi : ¬ (nI 0 ≤ v ∧ v ≤ nI len))]
  refine fEv.brT rfl (by decide) ?_
  refine fEv.brT rfl (by decide) ?_
  exact fEv.retV rfl rfl
theorem m_sho_same {len : Nat} (hF : FK Ls xs P T s mk p q X Y) (hp : p < 65536) (h0 : ¬ p = 0) (hq : q < 32) (hd : dirP (MS.c s) q = false) (hl : MS.c s (4 * q + 3) = nI len) (hlen : len ≤ 128) :
    mEv Ls xs 76 (0, [some (.ref 6), some (.int (nI p)), some (.int (nI len)), none, none, none, none, none, none, none], [], (hM P T cd s mk hm he fr)) (rV (nI 0) (hM P T (nI 0) s mk X Y fr)) := by
  refine ms_pre hF hp h0 hq hd hl ?_
  rw [decide_eq_true (⟨nI_pos' (by omega), Int32.le_refl _⟩ : nI 0 ≤ nI len ∧ nI len ≤ nI len)]
  refine fEv.brF rfl (by decide) ?_
  refine fEv.brF rfl (by decide) ?_
  refine fEv.brF rfl (decide_eq_false (fun z => z rfl)) ?_
  exact fEv.retV rfl rfl
theorem ms_pre2 {len m : Nat} {r : mR} (hF : FK Ls xs P T s mk p q X Y) (hp : p < 65536) (h0 : ¬ p = 0) (hq : q < 32) (hd : dirP (MS.c s) q = false) (hl : MS.c s (4 * q + 3) = nI len) (hlen : len ≤ 128) (hm0 : m < len)
    (k : mEv Ls xs 76 (97, [some (.ref 6), some (.int (nI p)), some (.int (nI m)), some (.int (nI q)), some (.int (nI len)), some (.int (MS.c s (4 * q + 2))), some (.int (nI ((m + 3) / 4))), some (.int (nI ((len + 3) / 4))), none, none], [], hM P T (nI 0) s mk X Y fr) r) : mEv Ls xs 76 (0, [some (.ref 6), some (.int (nI p)), some (.int (nI m)), none, none, none, none, none, none, none], [], (hM P T cd s mk hm he fr)) r := by
  refine ms_pre hF hp h0 hq hd hl ?_
  rw [decide_eq_true (⟨nI_pos' (by omega), nI_le (by omega) (by omega)⟩ : nI 0 ≤ nI m ∧ nI m ≤ nI len)]
  refine fEv.brF rfl (by decide) ?_
  refine fEv.brF rfl (by decide) ?_
  refine fEv.brT rfl (decide_eq_true (nI_neq (by omega) (by omega) (by omega))) ?_
  refine fEv.brT rfl (b4i hq (i := 2) (by decide)) ?_
  rw [k4i hq (by decide)]
  rw [← pk_div (a := m + 3) (d := 4) (by omega) (by decide) (by decide), ← pk_div (a := len + 3) (d := 4) (by omega) (by decide) (by decide), ← nI_add, ← nI_add] at k
  exact fEv.steps 13 rfl k
theorem ms_end {p v q len f a b x y : Option Value} {z : Int32} (s : MS) : mEv Ls xs 76 (177, [some (.ref 6), p, v, q, len, f, a, b, x, y], [], hM P T (nI 0) s mk hm he z) (rE P T mk z s hm he z) := by
  unfold rE
  by_cases hd : MS.dn s = 0
  · rw [if_pos hd, if_pos hd]
    refine fEv.brT rfl (decide_eq_true hd) ?_
    refine fEv.brT rfl (decide_eq_true hd) ?_
    exact fEv.retV rfl rfl
  · rw [if_neg hd, if_neg hd]
    refine fEv.brF rfl (decide_eq_false hd) ?_
    refine fEv.brF rfl (decide_eq_false hd) ?_
    exact fEv.retV rfl rfl
theorem m_sho_all {len : Nat} {l : List Nat} (hF : FK Ls xs P T s mk p q X Y) (hp : p < 65536) (h0 : ¬ p = 0) (hq : q < 32) (hd : dirP (MS.c s) q = false) (hl : MS.c s (4 * q + 3) = nI len) (hlen : len ≤ 128) (hl0 : ¬ len = 0) (hc : Chain (MS.t s) (MS.c s (4 * q + 2)) l) (hn : l.Nodup) (hll : 0 < l.length) :
    mEv Ls xs 76 (0, [some (.ref 6), some (.int (nI p)), some (.int (nI 0)), none, none, none, none, none, none, none], [], (hM P T cd s mk hm he fr)) (rE P T mk (nI l.length) (mws (wC q (MS.c s (4 * q)) (MS.c s (4 * q + 1)) (-1) (nI 0) :: wF l) s) X Y (nI l.length)) := by
  refine ms_pre2 hF hp h0 hq hd hl hlen (by omega) ?_
  refine fEv.brF rfl (decide_eq_false (nI_ge (a := (0 + 3) / 4) (by omega) (by omega))) ?_
  refine fEv.calli rfl (m_clusterOf (q := (0 + 3) / 4) (by omega) hc hll) ?_
  refine fEv.brT rfl (by decide) ?_
  refine fEv.brF rfl (by decide) ?_
  refine fEv.callm rfl (m_wE hq) (fun s1 hs1 => ?_)
  have hlt : l.getD ((0 + 3) / 4) 0 < 32 := hc.lt _ (getD_mem hll)
  refine fEv.brF rfl (decide_eq_false (nI_pos (by omega))) ?_
  refine fEv.brT rfl (by decide) ?_
  have hc1 : Chain (MS.t s1) (nI (l.getD ((0 + 3) / 4) 0)) l := by
    rw [hs1, t_mwC]
    cases l with
    | nil => cases hll
    | cons a l => have := hc.1; rw [this] at hc; exact hc
  refine fEv.calln rfl (m_release hc1 hn) ?_
  rw [mws, ← hs1]
  exact ms_end _
theorem m_sho_in {len m : Nat} {l : List Nat} (hF : FK Ls xs P T s mk p q X Y) (hp : p < 65536) (h0 : ¬ p = 0) (hq : q < 32) (hd : dirP (MS.c s) q = false) (hl : MS.c s (4 * q + 3) = nI len) (hlen : len ≤ 128) (hm0 : 0 < m) (hml : m < len) (hc : Chain (MS.t s) (MS.c s (4 * q + 2)) l) (hk : (m + 3) / 4 = (len + 3) / 4) (hll : (len + 3) / 4 = l.length) :
    mEv Ls xs 76 (0, [some (.ref 6), some (.int (nI p)), some (.int (nI m)), none, none, none, none, none, none, none], [], (hM P T cd s mk hm he fr)) (rE P T mk (nI 0) (mws [wC q (MS.c s (4 * q)) (MS.c s (4 * q + 1)) (MS.c s (4 * q + 2)) (nI m)] s) X Y (nI 0)) := by
  refine ms_pre2 hF hp h0 hq hd hl hlen hml ?_
  rw [hk]
  refine fEv.brT rfl (decide_eq_true (Int32.le_refl _)) ?_
  refine fEv.brF rfl (decide_eq_false (nI_nle (by omega) (by omega))) ?_
  have h2 := m_clusterOf (Ls := Ls) (xs := xs) (P := P) (T := T) (cd := nI 0) (hm := X) (he := Y) (fr := fr) (mk := mk) (q := (len + 3) / 4 - 1) (by omega) hc (by omega)
  rw [← pk_sub (b := 1) (by omega)] at h2
  refine fEv.calli rfl h2 ?_
  refine fEv.brT rfl (decide_eq_true (nI_ne0 (by omega) (by omega))) ?_
  refine fEv.callm rfl (m_wE hq) (fun s1 hs1 => ?_)
  refine fEv.brT rfl (by decide) ?_
  refine fEv.calln rfl (m_release (l := []) rfl List.nodup_nil) ?_
  rw [mws, mws, ← hs1]
  exact ms_end s1
theorem m_sho_cut {len m b : Nat} {l l2 : List Nat} (hF : FK Ls xs P T s mk p q X Y) (hp : p < 65536) (h0 : ¬ p = 0) (hq : q < 32) (hd : dirP (MS.c s) q = false) (hl : MS.c s (4 * q + 3) = nI len) (hlen : len ≤ 128) (hm0 : 0 < m) (hml : m < len) (hc : Chain (MS.t s) (MS.c s (4 * q + 2)) l) (hk : (m + 3) / 4 < (len + 3) / 4) (hll : (len + 3) / 4 = l.length)
    (hb : l.getD ((m + 3) / 4) 0 = b) (hb3 : b < 32) (hc2 : Chain (MS.t s) (MS.t s b) l2) (hn : (b :: l2).Nodup) (hal : l.getD ((m - 1) / 4) 0 ∉ b :: l2) :
    mEv Ls xs 76 (0, [some (.ref 6), some (.int (nI p)), some (.int (nI m)), none, none, none, none, none, none, none], [], (hM P T cd s mk hm he fr)) (rE P T mk (nI (l2.length + 1)) (mws (wC q (MS.c s (4 * q)) (MS.c s (4 * q + 1)) (MS.c s (4 * q + 2)) (nI m) :: wT (l.getD ((m - 1) / 4) 0) (-1) :: wF (b :: l2)) s) X Y (nI (l2.length + 1))) := by
  have hkm : (m + 3) / 4 - 1 = (m - 1) / 4 := by omega
  have hlt : l.getD ((m - 1) / 4) 0 < 32 := hc.lt _ (getD_mem (by omega))
  refine ms_pre2 hF hp h0 hq hd hl hlen hml ?_
  refine fEv.brF rfl (decide_eq_false (nI_ge hk (by omega))) ?_
  refine fEv.calli rfl (m_clusterOf (q := (m + 3) / 4) (by omega) hc (by omega)) ?_
  rw [hb]
  refine fEv.brF rfl (decide_eq_false (nI_nle (by omega) (by omega))) ?_
  have h2 := m_clusterOf (Ls := Ls) (xs := xs) (P := P) (T := T) (cd := nI 0) (hm := X) (he := Y) (fr := fr) (mk := mk) (q := (m + 3) / 4 - 1) (by omega) hc (by omega)
  rw [← pk_sub (b := 1) (by omega), hkm] at h2
  refine fEv.calli rfl h2 ?_
  refine fEv.brT rfl (decide_eq_true (nI_ne0 (by omega) (by omega))) ?_
  refine fEv.callm rfl (m_wE hq) (fun s1 hs1 => ?_)
  refine fEv.brF rfl (decide_eq_false (nI_pos (by omega))) ?_
  refine fEv.brF rfl (decide_eq_false (nI_ne0 (by omega) (by omega))) ?_
  refine fEv.callm rfl (m_wT hlt) (fun s2 hs2 => ?_)
  have hc3 : Chain (MS.t s2) (nI b) (b :: l2) := by
    rw [hs2]
    refine Chain_mw ?_ hal
    rw [hs1, t_mwC]
    exact ⟨rfl, hb3, hc2⟩
  refine fEv.calln rfl (m_release hc3 hn) ?_
  rw [mws, mws, ← hs1, ← hs2]
  exact ms_end _
-- length
theorem m_lgtL {a z : Int32} {hm' he' : Int32} (hl : mEv Ls xs 64 (0, [some (.ref 6), some (.int a)], [], (hM P T cd s mk hm he fr)) (rV z (hM P T cd s mk hm' he' fr))) (hz : ¬ z ≤ 0) : mEv Ls xs 77 (0, [some (.ref 6), some (.int a), none, none, none], [], (hM P T cd s mk hm he fr)) (rV (nI 0) (hM P T z s mk hm' he' fr)) := by
  refine fEv.calli rfl hl ?_
  refine fEv.brF rfl (decide_eq_false hz) ?_
  exact fEv.retV rfl rfl
theorem mg_loop {pv e : Int32} : ∀ (l : List Nat) (x : Int32) (k : Nat), Chain (MS.t s) x l → mEv Ls xs 77 (73, [some (.ref 6), some (.int pv), some (.int e), some (.int (nI k)), some (.int x)], [], hM P T cd s mk hm he fr) (rV (-1 - nI (cntN (MS.c s) k l)) (hM P T cd s mk hm he fr)) := by
  intro l
  induction l with
  | nil =>
    intro x k hx
    have hx : x = -1 := hx
    subst hx
    refine fEv.brT rfl (by decide) ?_
    exact fEv.retV rfl rfl
  | cons a l ih =>
    intro x k hx
    obtain ⟨rfl, ha, hc⟩ := hx
    refine fEv.brF rfl (decide_eq_false (nI_pos (by omega))) ?_
    refine fEv.brT rfl (b4 ha) ?_
    rw [k4 ha]
    have h2 := ih (MS.t s a) (if MS.c s (4 * a) ≤ 0 then k else k + 1) hc
    rw [cntN]
    refine fEv.br rfl (fun h1 => ?_) (fun h1 => ?_)
    · rw [if_pos h1] at h2 ⊢
      refine fEv.brT rfl (bT ha) ?_
      rw [kT ha]
      exact fEv.steps 2 rfl h2
    · rw [if_neg h1] at h2 ⊢
      refine fEv.brT rfl (bT ha) ?_
      rw [kT ha]
      rw [← nI_add k 1] at h2
      exact fEv.steps 2 rfl h2
theorem m_lgt_file (hF : FK Ls xs P T s mk p q X Y) (hp : p < 65536) (h0 : ¬ p = 0) (hq : q < 32) (hd : dirP (MS.c s) q = false) : mEv Ls xs 77 (0, [some (.ref 6), some (.int (nI p)), none, none, none], [], (hM P T cd s mk hm he fr)) (rV (MS.c s (4 * q + 3)) (hM P T (nI 0) s mk X Y fr)) := by
  refine fEv.calli rfl (hF.2 _ _ _ _) ?_
  refine fEv.brT rfl (by decide) ?_
  refine fEv.brT rfl (decide_eq_true (nI_ne0 (by omega) (by omega))) ?_
  refine fEv.calli rfl (hF.1 _ _ _ _) ?_
  refine fEv.calli rfl (m_isDir hq) ?_
  rw [hd]
  refine fEv.brF rfl (by decide) ?_
  refine fEv.brT rfl (b4i hq (i := 3) (by decide)) ?_
  rw [k4i hq (by decide)]
  exact fEv.retV rfl rfl
theorem m_lgt_dir {l : List Nat} (hF : FK Ls xs P T s mk p q X Y) (hp : p < 65536) (h0 : ¬ p = 0) (hq : q < 32) (hd : dirP (MS.c s) q = true) (hc : Chain (MS.t s) (MS.c s (4 * q + 2)) l) : mEv Ls xs 77 (0, [some (.ref 6), some (.int (nI p)), none, none, none], [], (hM P T cd s mk hm he fr)) (rV (-1 - nI (cntN (MS.c s) 0 l)) (hM P T (nI 0) s mk X Y fr)) := by
  refine fEv.calli rfl (hF.2 _ _ _ _) ?_
  refine fEv.brT rfl (by decide) ?_
  refine fEv.brT rfl (decide_eq_true (nI_ne0 (by omega) (by omega))) ?_
  refine fEv.calli rfl (hF.1 _ _ _ _) ?_
  refine fEv.calli rfl (m_isDir hq) ?_
  rw [hd]
  refine fEv.brT rfl (by decide) ?_
  refine fEv.brT rfl (decide_eq_true (nI_pos' (by omega))) ?_
  refine fEv.brT rfl (b4i hq (i := 2) (by decide)) ?_
  rw [k4i hq (by decide)]
  exact fEv.steps 1 rfl (mg_loop l _ 0 hc)
theorem m_lgt_root {l : List Nat} (h : MS.dn s = 0) (hc : Chain (MS.t s) (nI 0) l) : mEv Ls xs 77 (0, [some (.ref 6), some (.int (nI 0)), none, none, none], [], (hM P T cd s mk hm he fr)) (rV (-1 - nI (cntN (MS.c s) 0 l)) (hM P T (nI 0) s mk hm he fr)) := by
  refine fEv.calli rfl (m_lack0 h) ?_
  refine fEv.brT rfl (by decide) ?_
  refine fEv.brF rfl (by decide) ?_
  refine fEv.calli rfl m_isDirR ?_
  refine fEv.brT rfl (by decide) ?_
  refine fEv.brF rfl (by decide) ?_
  exact fEv.steps 3 rfl (mg_loop l _ 0 hc)
-- names
theorem m_namL {a z : Int32} {hm' he' : Int32} (hl : mEv Ls xs 64 (0, [some (.ref 6), some (.int a)], [], (hM P T cd s mk hm he fr)) (rV z (hM P T cd s mk hm' he' fr))) (hz : ¬ z ≤ 0) : mEv Ls xs 78 (0, [some (.ref 6), some (.int a), none], [], (hM P T cd s mk hm he fr)) (rV (nI 0) (hM P T z s mk hm' he' fr)) := by
  refine fEv.calli rfl hl ?_
  refine fEv.brF rfl (decide_eq_false hz) ?_
  exact fEv.retV rfl rfl
theorem m_nam_file (hF : FK Ls xs P T s mk p q X Y) (hp : p < 65536) (h0 : ¬ p = 0) (hq : q < 32) (hd : dirP (MS.c s) q = false) : mEv Ls xs 78 (0, [some (.ref 6), some (.int (nI p)), none], [], (hM P T cd s mk hm he fr)) (rV (nI 0) (hM P T (nI 4) s mk X Y fr)) := by
  refine fEv.calli rfl (hF.2 _ _ _ _) ?_
  refine fEv.brT rfl (by decide) ?_
  refine fEv.brT rfl (decide_eq_true (nI_ne0 (by omega) (by omega))) ?_
  refine fEv.calli rfl (hF.1 _ _ _ _) ?_
  refine fEv.calli rfl (m_isDir hq) ?_
  rw [hd]
  refine fEv.brT rfl (by decide) ?_
  refine fEv.brF rfl (by decide) ?_
  exact fEv.retV rfl rfl
theorem m_nam_dir {l : List Nat} (hF : FK Ls xs P T s mk p q X Y) (hp : p < 65536) (h0 : ¬ p = 0) (hq : q < 32) (hd : dirP (MS.c s) q = true) (hc : Chain (MS.t s) (MS.c s (4 * q + 2)) l) : mEv Ls xs 78 (0, [some (.ref 6), some (.int (nI p)), none], [], (hM P T cd s mk hm he fr)) (rV (nmsM (MS.c s) (nI 0) l) (hM P T (nI 0) s mk X Y fr)) := by
  refine fEv.calli rfl (hF.2 _ _ _ _) ?_
  refine fEv.brT rfl (by decide) ?_
  refine fEv.brT rfl (decide_eq_true (nI_ne0 (by omega) (by omega))) ?_
  refine fEv.calli rfl (hF.1 _ _ _ _) ?_
  refine fEv.calli rfl (m_isDir hq) ?_
  rw [hd]
  refine fEv.brF rfl (by decide) ?_
  refine fEv.brT rfl (by decide) ?_
  refine fEv.brT rfl (decide_eq_true (nI_pos' (by omega))) ?_
  refine fEv.brT rfl (b4i hq (i := 2) (by decide)) ?_
  rw [k4i hq (by decide)]
  refine fEv.calli rfl (m_namesIn hc) ?_
  exact fEv.retV rfl rfl
theorem m_nam_root {l : List Nat} (h : MS.dn s = 0) (hc : Chain (MS.t s) (nI 0) l) : mEv Ls xs 78 (0, [some (.ref 6), some (.int (nI 0)), none], [], (hM P T cd s mk hm he fr)) (rV (nmsM (MS.c s) (nI 0) l) (hM P T (nI 0) s mk hm he fr)) := by
  refine fEv.calli rfl (m_lack0 h) ?_
  refine fEv.brT rfl (by decide) ?_
  refine fEv.brF rfl (by decide) ?_
  refine fEv.calli rfl m_isDirR ?_
  refine fEv.brF rfl (by decide) ?_
  refine fEv.brT rfl (by decide) ?_
  refine fEv.brF rfl (by decide) ?_
  refine fEv.calli rfl (m_namesIn hc) ?_
  exact fEv.retV rfl rfl
-- free
theorem mf_loop : ∀ (m i : Nat), i + m = 32 → mEv Ls xs 79 (20, [some (.ref 6), some (.int (nI (cntF (MS.t s) i))), some (.int (nI i))], [], hM P T cd s mk hm he fr) (rV (if MS.dn s = 0 then nI (cntF (MS.t s) 32) else nI 0) (hM P T cd s mk hm he fr)) := by
  intro m
  induction m with
  | zero =>
    intro i hi
    have hi : i = 32 := hi
    subst hi
    refine fEv.brT rfl (by decide) ?_
    by_cases hd : MS.dn s = 0
    · rw [if_pos hd]
      refine fEv.brT rfl (decide_eq_true hd) ?_
      exact fEv.retV rfl rfl
    · rw [if_neg hd]
      refine fEv.brF rfl (decide_eq_false hd) ?_
      exact fEv.retV rfl rfl
  | succ m ih =>
    intro i hi
    refine fEv.brF rfl (decide_eq_false (nI_ge (a := i) (b := 32) (by omega) (by decide))) ?_
    refine fEv.brT rfl (bT (a := i) (by omega)) ?_
    rw [kT (by omega)]
    have h2 := ih (i + 1) (by omega)
    rw [cntF] at h2
    refine fEv.br rfl (fun h1 => ?_) (fun h1 => ?_)
    · rw [if_neg h1, Nat.add_zero, ← nI_add i 1] at h2
      exact fEv.steps 4 rfl h2
    · rw [if_pos (Decidable.of_not_not h1), ← nI_add i 1, ← nI_add] at h2
      exact fEv.steps 7 rfl h2
theorem m_fre : mEv Ls xs 79 (0, [some (.ref 6), none, none], [], (hM P T cd s mk hm he fr)) (rV (if MS.dn s = 0 then nI (cntF (MS.t s) 32) else nI 0) (hM P T (if MS.dn s = 0 then nI 0 else nI 1) s mk hm he fr)) := by
  have h2 := fun cd => mf_loop (Ls := Ls) (xs := xs) (P := P) (T := T) (cd := cd) (mk := mk) (hm := hm) (he := he) (fr := fr) (s := s) 32 0 (by omega)
  by_cases hd : MS.dn s = 0
  · rw [if_pos hd, if_pos hd]
    have h3 := h2 (nI 0)
    rw [if_pos hd] at h3
    refine fEv.brT rfl (decide_eq_true hd) ?_
    exact fEv.steps 6 rfl h3
  · rw [if_neg hd, if_neg hd]
    have h3 := h2 (nI 1)
    rw [if_neg hd] at h3
    refine fEv.brF rfl (decide_eq_false hd) ?_
    exact fEv.steps 7 rfl h3
-- the small ones
theorem m_arm {v : Int32} : mEv Ls xs 80 (0, [some (.ref 6), some (.int v)], [], (hM P T cd s mk hm he fr)) (rN (hM P T (nI 0) (MS.c s, MS.t s, armV v, MS.dn s) mk hm he fr)) := by
  refine fEv.br rfl (fun h => ?_) (fun h => ?_)
  · have e : armV v = v := if_pos h
    rw [e]
    exact fEv.retV rfl rfl
  · have e : armV v = -1 := if_neg h
    rw [e]
    exact fEv.retV rfl rfl
theorem m_isDown (hd : MS.dn s = 0 ∨ MS.dn s = 1) : mEv Ls xs 81 (0, [some (.ref 6)], [], (hM P T cd s mk hm he fr)) (rV (MS.dn s) (hM P T (nI 0) s mk hm he fr)) := by
  refine fEv.retV rfl ?_
  rcases hd with e | e <;> rw [e] <;> decide
theorem m_thrown : mEv Ls xs 50 (0, [some (.ref 6)], [], (hM P T cd s mk hm he fr)) (rV cd (hM P T cd s mk hm he fr)) := fEv.retV rfl rfl
theorem w31 {a : Int32} : (nI 0 ≤ a ∧ a ≤ nI 31) ↔ isC a = true := by
  rw [isC_iff]
  constructor
  · rintro ⟨h1, h2⟩
    obtain ⟨j, hj, rfl⟩ := nI_of (Int32.not_lt.mpr h1)
    refine ⟨j, ?_, rfl⟩
    have := (nI_ltI (a := 31) (b := j) (by decide) hj)
    by_cases h : j < 32
    · exact h
    · exact absurd (this.mpr (by omega)) (Int32.not_lt.mpr h2)
  · rintro ⟨j, hj, rfl⟩
    exact ⟨nI_pos' (by omega), nI_le (by omega) (by decide)⟩
theorem w3 {a : Int32} : (nI 0 ≤ a ∧ a ≤ nI 3) ↔ (0 ≤ a ∧ a < nI 4) := by
  constructor
  · rintro ⟨h1, h2⟩
    obtain ⟨j, hj, rfl⟩ := nI_of (Int32.not_lt.mpr h1)
    refine ⟨h1, ?_⟩
    by_cases h : j < 4
    · exact nI_lt h (by decide)
    · exact absurd ((nI_ltI (a := 3) (b := j) (by decide) hj).mpr (by omega)) (Int32.not_lt.mpr h2)
  · rintro ⟨h1, h2⟩
    obtain ⟨j, hj, rfl⟩ := nI_of (Int32.not_lt.mpr h1)
    have : j < 4 := (nI_ltI (b := 4) hj (by decide)).mp h2
    exact ⟨h1, nI_le (by omega) (by decide)⟩
theorem m_table {a : Int32} : mEv Ls xs 87 (0, [some (.ref 6), some (.int a)], [], (hM P T cd s mk hm he fr)) (rV (tabA (MS.t s) a) (hM P T (nI 0) s mk hm he fr)) := by
  refine fEv.calli rfl m_within ?_
  by_cases h : isC a = true
  · rw [decide_eq_true (w31.mpr h)]
    refine fEv.brF rfl (by decide) ?_
    obtain ⟨j, hj, rfl⟩ := isC_iff.mp h
    refine fEv.brT rfl (bT hj) ?_
    have e : tabA (MS.t s) (nI j) = MS.t s (nI j).toNatClampNeg := if_pos h
    rw [e]
    exact fEv.retV rfl rfl
  · rw [decide_eq_false (fun z => h (w31.mp z))]
    refine fEv.brT rfl (by decide) ?_
    have e : tabA (MS.t s) a = nI 0 := if_neg h
    rw [e]
    exact fEv.retV rfl rfl
theorem m_cell {a i : Int32} : mEv Ls xs 86 (0, [some (.ref 6), some (.int a), some (.int i)], [], (hM P T cd s mk hm he fr)) (rV (cellA (MS.c s) a i) (hM P T (nI 0) s mk hm he fr)) := by
  refine fEv.calli rfl m_within ?_
  by_cases h : isC a = true
  · rw [decide_eq_true (w31.mpr h)]
    refine fEv.brF rfl (by decide) ?_
    refine fEv.calli rfl m_within ?_
    by_cases h2 : 0 ≤ i ∧ i < nI 4
    · rw [decide_eq_true (w3.mpr h2)]
      refine fEv.brF rfl (by decide) ?_
      obtain ⟨j, hj, rfl⟩ := isC_iff.mp h
      obtain ⟨y, hy, rfl⟩ := nI_of (Int32.not_lt.mpr h2.1)
      have hy4 : y < 4 := (nI_ltI (b := 4) hy (by decide)).mp h2.2
      refine fEv.brT rfl (b4i hj hy4) ?_
      have e : cellA (MS.c s) (nI j) (nI y) = MS.c s (nI 4 * nI j + nI y).toNatClampNeg := by rw [cellA_nI hj hy4, k4i hj hy4]
      rw [e]
      exact fEv.retV rfl rfl
    · rw [decide_eq_false (fun z => h2 (w3.mp z))]
      refine fEv.brT rfl (by decide) ?_
      have e : cellA (MS.c s) a i = nI 0 := by unfold cellA; rw [if_neg (fun z => h2 z.2)]; rfl
      rw [e]
      exact fEv.retV rfl rfl
  · rw [decide_eq_false (fun z => h (w31.mp z))]
    refine fEv.brT rfl (by decide) ?_
    have e : cellA (MS.c s) a i = nI 0 := by unfold cellA; rw [if_neg (fun z => h z.1)]; rfl
    rw [e]
    exact fEv.retV rfl rfl
end MY
