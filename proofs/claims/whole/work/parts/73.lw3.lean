/-! the law's other calls -/
section LD
variable {Ls : Nat} {xs : Nat → Int32} {h : mH} {q A B : Nat} {o5 o6 : Option Value}
theorem l_make (hq : 4 * q + 4 ≤ Ls) (hL : Ls ≤ 2048) (h5 : oInt o5) (h6 : oInt o6) (hg : Lg h) (k : Gk Ls xs q A B) : Gd Ls xs 112 (nI (4 * q)) (A + 1) (B + 6) o5 o6 h := by
  obtain ⟨c, t, lf, dn, re, en, n, cd, mk, hm, he, fr, o, hs, rfl⟩ := hg
  by_cases hx : xs (4 * q + 2) = 0
  · obtain ⟨c', t', lf', dn', j, v, hs', hj, hcl, hmo⟩ := op_make (Ls := Ls) (xs := xs) (lf := lf) (a := xs (4 * q + 1)) (d := nI 0) hs
    obtain ⟨z, w, o', hz, hw, ho, hh⟩ := h_make (re := re) (en := en) (n := n) (cd := cd) (s := (c, t, lf, dn)) (mk := mk) (hm := hm) (he := he) (fr := fr) (o := o) hj hcl
    obtain ⟨w', hm', he', fr', hv, hmm⟩ := hmo (Pc c' t' lf' dn' re en n) [.inl (2, 1, .inr (.inl o'))] cd mk hm he fr
    rw [Fx_M, Fx_M] at hmm
    obtain ⟨h', kc, ks, hE, hkc, hks⟩ := k (Fx c' t' lf' dn' re en n (nI j) (c', t', lf', dn') mk hm' he' fr' o') (some (.int (nI j))) (some (.int w')) ⟨c', t', lf', dn', re, en, n, nI j, mk, hm', he', fr', o', hs', rfl⟩ (Or.inr ⟨_, rfl⟩) (Or.inr ⟨_, rfl⟩)
    have hj5 : j ≤ 5 := hj
    refine ⟨h', z + kc, w + ks, ?_, by omega, by omega⟩
    show mEv Ls xs 99 _ (mAdd z w (.inl (some (.int 1)), h', kc, ks))
    rcases h5 with rfl | ⟨y5, rfl⟩ <;> rcases h6 with rfl | ⟨y6, rfl⟩ <;>
    · refine fEv.brT rfl (iB (d := 1) (by omega) hL) ?_
      rw [iC (d := 1) (by omega)]
      refine fEv.brT rfl (iB (d := 2) (by omega) hL) ?_
      rw [iC (d := 2) (by omega)]
      refine fEv.brT rfl (decide_eq_true hx) ?_
      refine fEv.callc rfl hh ?_
      refine fEv.brT rfl (iB (d := 1) (by omega) hL) ?_
      rw [iC (d := 1) (by omega)]
      refine fEv.brT rfl (iB (d := 2) (by omega) hL) ?_
      rw [iC (d := 2) (by omega)]
      refine fEv.brT rfl (decide_eq_true hx) ?_
      refine fEv.calli rfl hmm ?_
      refine fEv.calli rfl f_thrown ?_
      refine fEv.brT rfl (decide_eq_true rfl) ?_
      by_cases hj0 : j = 0
      · subst hj0
        refine fEv.brF rfl (by decide) ?_
        refine fEv.brT rfl (by decide) ?_
        rw [kT (show 0 < 32 by decide), ho rfl, hv rfl]
        rw [hv rfl] at hE
        refine fEv.brT rfl (decide_eq_true (cmp_self _)) ?_
        exact fEv.steps 1 rfl hE
      · refine fEv.brT rfl (decide_eq_true (nI_ne0 (by omega) (by omega))) ?_
        exact fEv.steps 1 rfl hE
  · obtain ⟨c', t', lf', dn', j, v, hs', hj, hcl, hmo⟩ := op_make (Ls := Ls) (xs := xs) (lf := lf) (a := xs (4 * q + 1)) (d := nI 1) hs
    obtain ⟨z, w, o', hz, hw, ho, hh⟩ := h_make (re := re) (en := en) (n := n) (cd := cd) (s := (c, t, lf, dn)) (mk := mk) (hm := hm) (he := he) (fr := fr) (o := o) hj hcl
    obtain ⟨w', hm', he', fr', hv, hmm⟩ := hmo (Pc c' t' lf' dn' re en n) [.inl (2, 1, .inr (.inl o'))] cd mk hm he fr
    rw [Fx_M, Fx_M] at hmm
    obtain ⟨h', kc, ks, hE, hkc, hks⟩ := k (Fx c' t' lf' dn' re en n (nI j) (c', t', lf', dn') mk hm' he' fr' o') (some (.int (nI j))) (some (.int w')) ⟨c', t', lf', dn', re, en, n, nI j, mk, hm', he', fr', o', hs', rfl⟩ (Or.inr ⟨_, rfl⟩) (Or.inr ⟨_, rfl⟩)
    have hj5 : j ≤ 5 := hj
    refine ⟨h', z + kc, w + ks, ?_, by omega, by omega⟩
    show mEv Ls xs 99 _ (mAdd z w (.inl (some (.int 1)), h', kc, ks))
    rcases h5 with rfl | ⟨y5, rfl⟩ <;> rcases h6 with rfl | ⟨y6, rfl⟩ <;>
    · refine fEv.brT rfl (iB (d := 1) (by omega) hL) ?_
      rw [iC (d := 1) (by omega)]
      refine fEv.brT rfl (iB (d := 2) (by omega) hL) ?_
      rw [iC (d := 2) (by omega)]
      refine fEv.brF rfl (decide_eq_false hx) ?_
      refine fEv.callc rfl hh ?_
      refine fEv.brT rfl (iB (d := 1) (by omega) hL) ?_
      rw [iC (d := 1) (by omega)]
      refine fEv.brT rfl (iB (d := 2) (by omega) hL) ?_
      rw [iC (d := 2) (by omega)]
      refine fEv.brF rfl (decide_eq_false hx) ?_
      refine fEv.calli rfl hmm ?_
      refine fEv.calli rfl f_thrown ?_
      refine fEv.brT rfl (decide_eq_true rfl) ?_
      by_cases hj0 : j = 0
      · subst hj0
        refine fEv.brF rfl (by decide) ?_
        refine fEv.brT rfl (by decide) ?_
        rw [kT (show 0 < 32 by decide), ho rfl, hv rfl]
        rw [hv rfl] at hE
        refine fEv.brT rfl (decide_eq_true (cmp_self _)) ?_
        exact fEv.steps 1 rfl hE
      · refine fEv.brT rfl (decide_eq_true (nI_ne0 (by omega) (by omega))) ?_
        exact fEv.steps 1 rfl hE
theorem St.dn {c t : Nat → Int32} {dn : Int32} (h : St c t dn) : dn = 0 ∨ dn = 1 := by
  rcases h with ⟨h, -⟩ | ⟨h, -⟩
  · exact Or.inl h
  · exact Or.inr h
theorem St.I {c t : Nat → Int32} {dn : Int32} (h : St c t dn) : I1 c t := by
  rcases h with ⟨-, ch, R, lv, h⟩ | ⟨-, h⟩
  · exact ⟨ch, R, lv, h.weak⟩
  · exact h
theorem l_arm (hq : 4 * q + 4 ≤ Ls) (hL : Ls ≤ 2048) (h5 : oInt o5) (h6 : oInt o6) (hg : Lg h) (k : Gk Ls xs q A B) : Gd Ls xs 760 (nI (4 * q)) A B o5 o6 h := by
  obtain ⟨c, t, lf, dn, re, en, n, cd, mk, hm, he, fr, o, hs, rfl⟩ := hg
  have h1 := e_arm (Ls := Ls) (xs := xs) (c := c) (t := t) (lf := lf) (dn := dn) (re := re) (en := en) (n := n) (M := hMt cd (c, t, lf, dn) mk hm he fr o) (v := xs (4 * q + 1))
  have h2 := m_arm (Ls := Ls) (xs := xs) (P := Pc c t (armV (xs (4 * q + 1))) dn re en n) (T := [.inl (2, 1, .inr (.inl o))]) (cd := cd) (s := (c, t, lf, dn)) (mk := mk) (hm := hm) (he := he) (fr := fr) (v := xs (4 * q + 1))
  rw [Fx_M, Fx_M] at h2
  obtain ⟨h', kc, ks, hE, hkc, hks⟩ := k (Fx c t (armV (xs (4 * q + 1))) dn re en n (nI 0) (c, t, armV (xs (4 * q + 1)), dn) mk hm he fr o) o5 o6 ⟨c, t, _, dn, re, en, n, nI 0, mk, hm, he, fr, o, hs, rfl⟩ h5 h6
  refine ⟨h', kc, ks, ?_, hkc, hks⟩
  rcases h5 with rfl | ⟨y5, rfl⟩ <;> rcases h6 with rfl | ⟨y6, rfl⟩ <;>
  · refine fEv.brT rfl (iB (d := 1) (by omega) hL) ?_
    rw [iC (d := 1) (by omega)]
    refine fEv.calln rfl h1 ?_
    refine fEv.brT rfl (iB (d := 1) (by omega) hL) ?_
    rw [iC (d := 1) (by omega)]
    refine fEv.calln rfl h2 ?_
    exact fEv.steps 1 rfl hE
theorem l_isDown (h5 : oInt o5) (h6 : oInt o6) (hg : Lg h) (k : Gk Ls xs q A B) : Gd Ls xs 783 (nI (4 * q)) A B o5 o6 h := by
  obtain ⟨c, t, lf, dn, re, en, n, cd, mk, hm, he, fr, o, hs, rfl⟩ := hg
  have h1 := e_isDown (Ls := Ls) (xs := xs) (c := c) (t := t) (lf := lf) (dn := dn) (re := re) (en := en) (n := n) (M := hMt cd (c, t, lf, dn) mk hm he fr o) hs.dn
  have h2 := m_isDown (Ls := Ls) (xs := xs) (P := Pc c t lf dn re en n) (T := [.inl (2, 1, .inr (.inl o))]) (cd := cd) (s := (c, t, lf, dn)) (mk := mk) (hm := hm) (he := he) (fr := fr) hs.dn
  rw [Fx_M, Fx_M] at h2
  obtain ⟨h', kc, ks, hE, hkc, hks⟩ := k (Fx c t lf dn re en n (nI 0) (c, t, lf, dn) mk hm he fr o) o5 o6 ⟨c, t, lf, dn, re, en, n, nI 0, mk, hm, he, fr, o, hs, rfl⟩ h5 h6
  refine ⟨h', kc, ks, ?_, hkc, hks⟩
  rcases h5 with rfl | ⟨y5, rfl⟩ <;> rcases h6 with rfl | ⟨y6, rfl⟩ <;>
  · refine fEv.calli rfl h1 ?_
    refine fEv.calli rfl h2 ?_
    refine fEv.brT rfl (decide_eq_true rfl) ?_
    exact hE
theorem l_mount (h5 : oInt o5) (h6 : oInt o6) (hg : Lg h) (k : Gk Ls xs q A B) : Gd Ls xs 796 (nI (4 * q)) A B o5 o6 h := by
  obtain ⟨c, t, lf, dn, re, en, n, cd, mk, hm, he, fr, o, hs, rfl⟩ := hg
  obtain ⟨t', v, hJ, hc, hm2⟩ := op_mount (Ls := Ls) (xs := xs) hs.I
  obtain ⟨re', en', n', h1⟩ := hc lf dn re en n (hMt cd (c, t, lf, dn) mk hm he fr o)
  obtain ⟨mk', h2⟩ := hm2 (Pc c t' (-1) 0 re' en' n') [.inl (2, 1, .inr (.inl o))] cd lf dn mk hm he fr
  rw [Fx_M, Fx_M] at h2
  obtain ⟨h', kc, ks, hE, hkc, hks⟩ := k (Fx c t' (-1) 0 re' en' n' (nI 0) (c, t', -1, 0) mk' hm he fr o) o5 o6 ⟨c, t', -1, 0, re', en', n', nI 0, mk', hm, he, fr, o, Or.inl ⟨rfl, hJ⟩, rfl⟩ h5 h6
  refine ⟨h', kc, ks, ?_, hkc, hks⟩
  rcases h5 with rfl | ⟨y5, rfl⟩ <;> rcases h6 with rfl | ⟨y6, rfl⟩ <;>
  · refine fEv.calli rfl h1 ?_
    refine fEv.calli rfl h2 ?_
    refine fEv.brT rfl (decide_eq_true rfl) ?_
    exact hE
theorem l_cell (hq : 4 * q + 4 ≤ Ls) (hL : Ls ≤ 2048) (h5 : oInt o5) (h6 : oInt o6) (hg : Lg h) (k : Gk Ls xs q A B) : Gd Ls xs 809 (nI (4 * q)) A B o5 o6 h := by
  obtain ⟨c, t, lf, dn, re, en, n, cd, mk, hm, he, fr, o, hs, rfl⟩ := hg
  have h1 := e_cell (Ls := Ls) (xs := xs) (c := c) (t := t) (lf := lf) (dn := dn) (re := re) (en := en) (n := n) (M := hMt cd (c, t, lf, dn) mk hm he fr o) (a := xs (4 * q + 1)) (i := xs (4 * q + 2))
  have h2 := m_cell (Ls := Ls) (xs := xs) (P := Pc c t lf dn re en n) (T := [.inl (2, 1, .inr (.inl o))]) (cd := cd) (s := (c, t, lf, dn)) (mk := mk) (hm := hm) (he := he) (fr := fr) (a := xs (4 * q + 1)) (i := xs (4 * q + 2))
  rw [Fx_M, Fx_M] at h2
  obtain ⟨h', kc, ks, hE, hkc, hks⟩ := k (Fx c t lf dn re en n (nI 0) (c, t, lf, dn) mk hm he fr o) o5 o6 ⟨c, t, lf, dn, re, en, n, nI 0, mk, hm, he, fr, o, hs, rfl⟩ h5 h6
  refine ⟨h', kc, ks, ?_, hkc, hks⟩
  rcases h5 with rfl | ⟨y5, rfl⟩ <;> rcases h6 with rfl | ⟨y6, rfl⟩ <;>
  · refine fEv.brT rfl (iB (d := 1) (by omega) hL) ?_
    rw [iC (d := 1) (by omega)]
    refine fEv.brT rfl (iB (d := 2) (by omega) hL) ?_
    rw [iC (d := 2) (by omega)]
    refine fEv.calli rfl h1 ?_
    refine fEv.brT rfl (iB (d := 1) (by omega) hL) ?_
    rw [iC (d := 1) (by omega)]
    refine fEv.brT rfl (iB (d := 2) (by omega) hL) ?_
    rw [iC (d := 2) (by omega)]
    refine fEv.calli rfl h2 ?_
    refine fEv.brT rfl (decide_eq_true rfl) ?_
    exact hE
theorem l_table (hq : 4 * q + 4 ≤ Ls) (hL : Ls ≤ 2048) (h5 : oInt o5) (h6 : oInt o6) (hg : Lg h) (k : Gk Ls xs q A B) : Gd Ls xs 846 (nI (4 * q)) A B o5 o6 h := by
  obtain ⟨c, t, lf, dn, re, en, n, cd, mk, hm, he, fr, o, hs, rfl⟩ := hg
  have h1 := e_table (Ls := Ls) (xs := xs) (c := c) (t := t) (lf := lf) (dn := dn) (re := re) (en := en) (n := n) (M := hMt cd (c, t, lf, dn) mk hm he fr o) (a := xs (4 * q + 1))
  have h2 := m_table (Ls := Ls) (xs := xs) (P := Pc c t lf dn re en n) (T := [.inl (2, 1, .inr (.inl o))]) (cd := cd) (s := (c, t, lf, dn)) (mk := mk) (hm := hm) (he := he) (fr := fr) (a := xs (4 * q + 1))
  rw [Fx_M, Fx_M] at h2
  obtain ⟨h', kc, ks, hE, hkc, hks⟩ := k (Fx c t lf dn re en n (nI 0) (c, t, lf, dn) mk hm he fr o) o5 o6 ⟨c, t, lf, dn, re, en, n, nI 0, mk, hm, he, fr, o, hs, rfl⟩ h5 h6
  refine ⟨h', kc, ks, ?_, hkc, hks⟩
  rcases h5 with rfl | ⟨y5, rfl⟩ <;> rcases h6 with rfl | ⟨y6, rfl⟩ <;>
  · refine fEv.brT rfl (iB (d := 1) (by omega) hL) ?_
    rw [iC (d := 1) (by omega)]
    refine fEv.calli rfl h1 ?_
    refine fEv.brT rfl (iB (d := 1) (by omega) hL) ?_
    rw [iC (d := 1) (by omega)]
    refine fEv.calli rfl h2 ?_
    refine fEv.brT rfl (decide_eq_true rfl) ?_
    exact hE
end LD
