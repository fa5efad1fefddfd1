/-! the law's calls -/
def Lg (h : mH) : Prop := ∃ (c t : Nat → Int32) (lf dn : Int32) (re en : Nat → Int32) (n cd : Int32) (mk : Nat → Int32) (hm he fr : Int32) (o : Nat → Int64), St c t dn ∧ h = Fx c t lf dn re en n cd (c, t, lf, dn) mk hm he fr o
def Gd (Ls : Nat) (xs : Nat → Int32) (pc : Nat) (i : Int32) (A B : Nat) (o5 o6 : Option Value) (h : mH) : Prop := ∃ h' kc ks, mEv Ls xs 99 (pc, [some (.ref mSC), some (.ref 0), some (.ref 6), some (.ref 10), some (.int i), o5, o6], [], h) (.inl (some (.int 1)), h', kc, ks) ∧ kc ≤ A ∧ ks ≤ B
def Gk (Ls : Nat) (xs : Nat → Int32) (q A B : Nat) : Prop := ∀ h' o5' o6', Lg h' → oInt o5' → oInt o6' → Gd Ls xs 871 (nI (4 * q)) A B o5' o6' h'
theorem fEv.callc {Ls : Nat} {xs : Nat → Int32} {k pc k' pc' c s : Nat} {L : List (Option Value)} {S : List Value} {hh : mH} {r : mR} {av S' : List Value} {L' : List (Option Value)} {h h' : mH} {v : Int32} (hs : fGo Ls xs 300 k pc L S hh = some (.inr (.inr (.inr (.inl (k', av, (pc', L', S', h))))))) (hc : mEv Ls xs k' (mEnt k' av h) (.inl (some (.int v)), h', c, s))
    (he : mEv Ls xs k (pc', L', .int v :: S', h') r) : mEv Ls xs k (pc, L, S, hh) (mAdd c s r) := fEv.call hs hc he
section LC
variable {Ls : Nat} {xs : Nat → Int32} {h : mH} {q A B : Nat} {o5 o6 : Option Value}
theorem iC {q d : Nat} (h : 4 * q + d < 2 ^ 31) : (nI (4 * q) + nI d).toNatClampNeg = 4 * q + d := by rw [nI_add, nI_clamp h]
theorem iB {Ls q d : Nat} (h : 4 * q + d < Ls) (hL : Ls ≤ 2048) : mInb (nI (4 * q) + nI d) Ls = true := inb_of (nI_add _ _) h (by omega)
theorem l_remove (hq : 4 * q + 4 ≤ Ls) (hL : Ls ≤ 2048) (h5 : oInt o5) (h6 : oInt o6) (hg : Lg h) (k : Gk Ls xs q A B) : Gd Ls xs 196 (nI (4 * q)) (A + 1) (B + 6) o5 o6 h := by
  obtain ⟨c, t, lf, dn, re, en, n, cd, mk, hm, he, fr, o, hs, rfl⟩ := hg
  obtain ⟨c', t', lf', dn', j, v, hs', hj, hcl, hmo⟩ := op_remove (Ls := Ls) (xs := xs) (lf := lf) (a := xs (4 * q + 1)) hs
  obtain ⟨z, w, o', hz, hw, ho, hh⟩ := h_remove (re := re) (en := en) (n := n) (cd := cd) (s := (c, t, lf, dn)) (mk := mk) (hm := hm) (he := he) (fr := fr) (o := o) hj hcl
  obtain ⟨w', hm', he', fr', hv, hmm⟩ := hmo (Pc c' t' lf' dn' re en n) [.inl (2, 1, .inr (.inl o'))] cd mk hm he fr
  rw [Fx_M, Fx_M] at hmm
  obtain ⟨h', kc, ks, hE, hkc, hks⟩ := k (Fx c' t' lf' dn' re en n (nI j) (c', t', lf', dn') mk hm' he' fr' o') (some (.int (nI j))) (some (.int w')) ⟨c', t', lf', dn', re, en, n, nI j, mk, hm', he', fr', o', hs', rfl⟩ (Or.inr ⟨_, rfl⟩) (Or.inr ⟨_, rfl⟩)
  have hj5 : j ≤ 5 := by
    have : jmx 23 0 ≤ 5 := by decide
    omega
  refine ⟨h', z + kc, w + ks, ?_, by omega, by omega⟩
  show mEv Ls xs 99 _ (mAdd z w (.inl (some (.int 1)), h', kc, ks))
  rcases h5 with rfl | ⟨y5, rfl⟩ <;> rcases h6 with rfl | ⟨y6, rfl⟩ <;>
  · skip
    refine fEv.brT rfl (iB (d := 1) (by omega) hL) ?_
    rw [iC (d := 1) (by omega)]
    refine fEv.callc rfl hh ?_
    refine fEv.brT rfl (iB (d := 1) (by omega) hL) ?_
    rw [iC (d := 1) (by omega)]
    refine fEv.calli rfl hmm ?_
    refine fEv.calli rfl f_thrown ?_
    refine fEv.brT rfl (decide_eq_true rfl) ?_
    by_cases hj0 : j = 0
    · subst hj0
      refine fEv.brF rfl (by decide) ?_
      refine fEv.brT rfl (by decide) ?_
      rw [kT (show 0 < 32 by decide), ho rfl, hv rfl]
      rw [hv rfl] at hE
      refine fEv.brT rfl (decide_eq_true (cmp_self _)) ?_
      exact fEv.steps 1 rfl hE
    · refine fEv.brT rfl (decide_eq_true (nI_ne0 (by omega) (by omega))) ?_
      exact fEv.steps 1 rfl hE
theorem l_rename (hq : 4 * q + 4 ≤ Ls) (hL : Ls ≤ 2048) (h5 : oInt o5) (h6 : oInt o6) (hg : Lg h) (k : Gk Ls xs q A B) : Gd Ls xs 252 (nI (4 * q)) (A + 1) (B + 6) o5 o6 h := by
  obtain ⟨c, t, lf, dn, re, en, n, cd, mk, hm, he, fr, o, hs, rfl⟩ := hg
  obtain ⟨c', t', lf', dn', j, v, hs', hj, hcl, hmo⟩ := op_rename (Ls := Ls) (xs := xs) (lf := lf) (a := xs (4 * q + 1)) (b := xs (4 * q + 2)) hs
  obtain ⟨z, w, o', hz, hw, ho, hh⟩ := h_rename (re := re) (en := en) (n := n) (cd := cd) (s := (c, t, lf, dn)) (mk := mk) (hm := hm) (he := he) (fr := fr) (o := o) hj hcl
  obtain ⟨w', hm', he', fr', hv, hmm⟩ := hmo (Pc c' t' lf' dn' re en n) [.inl (2, 1, .inr (.inl o'))] cd mk hm he fr
  rw [Fx_M, Fx_M] at hmm
  obtain ⟨h', kc, ks, hE, hkc, hks⟩ := k (Fx c' t' lf' dn' re en n (nI j) (c', t', lf', dn') mk hm' he' fr' o') (some (.int (nI j))) (some (.int w')) ⟨c', t', lf', dn', re, en, n, nI j, mk, hm', he', fr', o', hs', rfl⟩ (Or.inr ⟨_, rfl⟩) (Or.inr ⟨_, rfl⟩)
  have hj5 : j ≤ 5 := by
    have : jmx 26 0 ≤ 5 := by decide
    omega
  refine ⟨h', z + kc, w + ks, ?_, by omega, by omega⟩
  show mEv Ls xs 99 _ (mAdd z w (.inl (some (.int 1)), h', kc, ks))
  rcases h5 with rfl | ⟨y5, rfl⟩ <;> rcases h6 with rfl | ⟨y6, rfl⟩ <;>
  · skip
    refine fEv.brT rfl (iB (d := 1) (by omega) hL) ?_
    rw [iC (d := 1) (by omega)]
    refine fEv.brT rfl (iB (d := 2) (by omega) hL) ?_
    rw [iC (d := 2) (by omega)]
    refine fEv.callc rfl hh ?_
    refine fEv.brT rfl (iB (d := 1) (by omega) hL) ?_
    rw [iC (d := 1) (by omega)]
    refine fEv.brT rfl (iB (d := 2) (by omega) hL) ?_
    rw [iC (d := 2) (by omega)]
    refine fEv.calli rfl hmm ?_
    refine fEv.calli rfl f_thrown ?_
    refine fEv.brT rfl (decide_eq_true rfl) ?_
    by_cases hj0 : j = 0
    · subst hj0
      refine fEv.brF rfl (by decide) ?_
      refine fEv.brT rfl (by decide) ?_
      rw [kT (show 0 < 32 by decide), ho rfl, hv rfl]
      rw [hv rfl] at hE
      refine fEv.brT rfl (decide_eq_true (cmp_self _)) ?_
      exact fEv.steps 1 rfl hE
    · refine fEv.brT rfl (decide_eq_true (nI_ne0 (by omega) (by omega))) ?_
      exact fEv.steps 1 rfl hE
theorem l_append (hq : 4 * q + 4 ≤ Ls) (hL : Ls ≤ 2048) (h5 : oInt o5) (h6 : oInt o6) (hg : Lg h) (k : Gk Ls xs q A B) : Gd Ls xs 320 (nI (4 * q)) (A + 1) (B + 6) o5 o6 h := by
  obtain ⟨c, t, lf, dn, re, en, n, cd, mk, hm, he, fr, o, hs, rfl⟩ := hg
  obtain ⟨c', t', lf', dn', j, v, hs', hj, hcl, hmo⟩ := op_append (Ls := Ls) (xs := xs) (lf := lf) (a := xs (4 * q + 1)) (v := xs (4 * q + 2)) hs
  obtain ⟨z, w, o', hz, hw, ho, hh⟩ := h_append (re := re) (en := en) (n := n) (cd := cd) (s := (c, t, lf, dn)) (mk := mk) (hm := hm) (he := he) (fr := fr) (o := o) hj hcl
  obtain ⟨w', hm', he', fr', hv, hmm⟩ := hmo (Pc c' t' lf' dn' re en n) [.inl (2, 1, .inr (.inl o'))] cd mk hm he fr
  rw [Fx_M, Fx_M] at hmm
  obtain ⟨h', kc, ks, hE, hkc, hks⟩ := k (Fx c' t' lf' dn' re en n (nI j) (c', t', lf', dn') mk hm' he' fr' o') (some (.int (nI j))) (some (.int w')) ⟨c', t', lf', dn', re, en, n, nI j, mk, hm', he', fr', o', hs', rfl⟩ (Or.inr ⟨_, rfl⟩) (Or.inr ⟨_, rfl⟩)
  have hj5 : j ≤ 5 := by
    have : jmx 27 4 ≤ 5 := by decide
    omega
  refine ⟨h', z + kc, w + ks, ?_, by omega, by omega⟩
  show mEv Ls xs 99 _ (mAdd z w (.inl (some (.int 1)), h', kc, ks))
  rcases h5 with rfl | ⟨y5, rfl⟩ <;> rcases h6 with rfl | ⟨y6, rfl⟩ <;>
  · skip
    refine fEv.brT rfl (iB (d := 1) (by omega) hL) ?_
    rw [iC (d := 1) (by omega)]
    refine fEv.brT rfl (iB (d := 2) (by omega) hL) ?_
    rw [iC (d := 2) (by omega)]
    refine fEv.callc rfl hh ?_
    refine fEv.brT rfl (iB (d := 1) (by omega) hL) ?_
    rw [iC (d := 1) (by omega)]
    refine fEv.brT rfl (iB (d := 2) (by omega) hL) ?_
    rw [iC (d := 2) (by omega)]
    refine fEv.calli rfl hmm ?_
    refine fEv.calli rfl f_thrown ?_
    refine fEv.brT rfl (decide_eq_true rfl) ?_
    by_cases hj0 : j = 0
    · subst hj0
      refine fEv.brF rfl (by decide) ?_
      refine fEv.brT rfl (by decide) ?_
      rw [kT (show 0 < 32 by decide), ho rfl, hv rfl]
      rw [hv rfl] at hE
      refine fEv.brT rfl (decide_eq_true (cmp_self _)) ?_
      exact fEv.steps 1 rfl hE
    · refine fEv.brT rfl (decide_eq_true (nI_ne0 (by omega) (by omega))) ?_
      exact fEv.steps 1 rfl hE
theorem l_get (hq : 4 * q + 4 ≤ Ls) (hL : Ls ≤ 2048) (h5 : oInt o5) (h6 : oInt o6) (hg : Lg h) (k : Gk Ls xs q A B) : Gd Ls xs 388 (nI (4 * q)) (A + 1) (B + 6) o5 o6 h := by
  obtain ⟨c, t, lf, dn, re, en, n, cd, mk, hm, he, fr, o, hs, rfl⟩ := hg
  obtain ⟨c', t', lf', dn', j, v, hs', hj, hcl, hmo⟩ := op_get (Ls := Ls) (xs := xs) (lf := lf) (a := xs (4 * q + 1)) (i := xs (4 * q + 2)) hs
  obtain ⟨z, w, o', hz, hw, ho, hh⟩ := h_get (re := re) (en := en) (n := n) (cd := cd) (s := (c, t, lf, dn)) (mk := mk) (hm := hm) (he := he) (fr := fr) (o := o) hj hcl
  obtain ⟨w', hm', he', fr', hv, hmm⟩ := hmo (Pc c' t' lf' dn' re en n) [.inl (2, 1, .inr (.inl o'))] cd mk hm he fr
  rw [Fx_M, Fx_M] at hmm
  obtain ⟨h', kc, ks, hE, hkc, hks⟩ := k (Fx c' t' lf' dn' re en n (nI j) (c', t', lf', dn') mk hm' he' fr' o') (some (.int (nI j))) (some (.int w')) ⟨c', t', lf', dn', re, en, n, nI j, mk, hm', he', fr', o', hs', rfl⟩ (Or.inr ⟨_, rfl⟩) (Or.inr ⟨_, rfl⟩)
  have hj5 : j ≤ 5 := by
    have : jmx 31 5 ≤ 5 := by decide
    omega
  refine ⟨h', z + kc, w + ks, ?_, by omega, by omega⟩
  show mEv Ls xs 99 _ (mAdd z w (.inl (some (.int 1)), h', kc, ks))
  rcases h5 with rfl | ⟨y5, rfl⟩ <;> rcases h6 with rfl | ⟨y6, rfl⟩ <;>
  · skip
    refine fEv.brT rfl (iB (d := 1) (by omega) hL) ?_
    rw [iC (d := 1) (by omega)]
    refine fEv.brT rfl (iB (d := 2) (by omega) hL) ?_
    rw [iC (d := 2) (by omega)]
    refine fEv.callc rfl hh ?_
    refine fEv.brT rfl (iB (d := 1) (by omega) hL) ?_
    rw [iC (d := 1) (by omega)]
    refine fEv.brT rfl (iB (d := 2) (by omega) hL) ?_
    rw [iC (d := 2) (by omega)]
    refine fEv.calli rfl hmm ?_
    refine fEv.calli rfl f_thrown ?_
    refine fEv.brT rfl (decide_eq_true rfl) ?_
    by_cases hj0 : j = 0
    · subst hj0
      refine fEv.brF rfl (by decide) ?_
      refine fEv.brT rfl (by decide) ?_
      rw [kT (show 0 < 32 by decide), ho rfl, hv rfl]
      rw [hv rfl] at hE
      refine fEv.brT rfl (decide_eq_true (cmp_self _)) ?_
      exact fEv.steps 1 rfl hE
    · refine fEv.brT rfl (decide_eq_true (nI_ne0 (by omega) (by omega))) ?_
      exact fEv.steps 1 rfl hE
theorem l_put (hq : 4 * q + 4 ≤ Ls) (hL : Ls ≤ 2048) (h5 : oInt o5) (h6 : oInt o6) (hg : Lg h) (k : Gk Ls xs q A B) : Gd Ls xs 456 (nI (4 * q)) (A + 1) (B + 6) o5 o6 h := by
  obtain ⟨c, t, lf, dn, re, en, n, cd, mk, hm, he, fr, o, hs, rfl⟩ := hg
  obtain ⟨c', t', lf', dn', j, v, hs', hj, hcl, hmo⟩ := op_put (Ls := Ls) (xs := xs) (lf := lf) (a := xs (4 * q + 1)) (i := xs (4 * q + 2)) (v := xs (4 * q + 3)) hs
  obtain ⟨z, w, o', hz, hw, ho, hh⟩ := h_put (re := re) (en := en) (n := n) (cd := cd) (s := (c, t, lf, dn)) (mk := mk) (hm := hm) (he := he) (fr := fr) (o := o) hj hcl
  obtain ⟨w', hm', he', fr', hv, hmm⟩ := hmo (Pc c' t' lf' dn' re en n) [.inl (2, 1, .inr (.inl o'))] cd mk hm he fr
  rw [Fx_M, Fx_M] at hmm
  obtain ⟨h', kc, ks, hE, hkc, hks⟩ := k (Fx c' t' lf' dn' re en n (nI j) (c', t', lf', dn') mk hm' he' fr' o') (some (.int (nI j))) (some (.int w')) ⟨c', t', lf', dn', re, en, n, nI j, mk, hm', he', fr', o', hs', rfl⟩ (Or.inr ⟨_, rfl⟩) (Or.inr ⟨_, rfl⟩)
  have hj5 : j ≤ 5 := by
    have : jmx 33 5 ≤ 5 := by decide
    omega
  refine ⟨h', z + kc, w + ks, ?_, by omega, by omega⟩
  show mEv Ls xs 99 _ (mAdd z w (.inl (some (.int 1)), h', kc, ks))
  rcases h5 with rfl | ⟨y5, rfl⟩ <;> rcases h6 with rfl | ⟨y6, rfl⟩ <;>
  · skip
    refine fEv.brT rfl (iB (d := 1) (by omega) hL) ?_
    rw [iC (d := 1) (by omega)]
    refine fEv.brT rfl (iB (d := 2) (by omega) hL) ?_
    rw [iC (d := 2) (by omega)]
    refine fEv.brT rfl (iB (d := 3) (by omega) hL) ?_
    rw [iC (d := 3) (by omega)]
    refine fEv.callc rfl hh ?_
    refine fEv.brT rfl (iB (d := 1) (by omega) hL) ?_
    rw [iC (d := 1) (by omega)]
    refine fEv.brT rfl (iB (d := 2) (by omega) hL) ?_
    rw [iC (d := 2) (by omega)]
    refine fEv.brT rfl (iB (d := 3) (by omega) hL) ?_
    rw [iC (d := 3) (by omega)]
    refine fEv.calli rfl hmm ?_
    refine fEv.calli rfl f_thrown ?_
    refine fEv.brT rfl (decide_eq_true rfl) ?_
    by_cases hj0 : j = 0
    · subst hj0
      refine fEv.brF rfl (by decide) ?_
      refine fEv.brT rfl (by decide) ?_
      rw [kT (show 0 < 32 by decide), ho rfl, hv rfl]
      rw [hv rfl] at hE
      refine fEv.brT rfl (decide_eq_true (cmp_self _)) ?_
      exact fEv.steps 1 rfl hE
    · refine fEv.brT rfl (decide_eq_true (nI_ne0 (by omega) (by omega))) ?_
      exact fEv.steps 1 rfl hE
theorem l_shorten (hq : 4 * q + 4 ≤ Ls) (hL : Ls ≤ 2048) (h5 : oInt o5) (h6 : oInt o6) (hg : Lg h) (k : Gk Ls xs q A B) : Gd Ls xs 536 (nI (4 * q)) (A + 1) (B + 6) o5 o6 h := by
  obtain ⟨c, t, lf, dn, re, en, n, cd, mk, hm, he, fr, o, hs, rfl⟩ := hg
  obtain ⟨c', t', lf', dn', j, v, hs', hj, hcl, hmo⟩ := op_shorten (Ls := Ls) (xs := xs) (lf := lf) (a := xs (4 * q + 1)) (v := xs (4 * q + 2)) hs
  obtain ⟨z, w, o', hz, hw, ho, hh⟩ := h_shorten (re := re) (en := en) (n := n) (cd := cd) (s := (c, t, lf, dn)) (mk := mk) (hm := hm) (he := he) (fr := fr) (o := o) hj hcl
  obtain ⟨w', hm', he', fr', hv, hmm⟩ := hmo (Pc c' t' lf' dn' re en n) [.inl (2, 1, .inr (.inl o'))] cd mk hm he fr
  rw [Fx_M, Fx_M] at hmm
  obtain ⟨h', kc, ks, hE, hkc, hks⟩ := k (Fx c' t' lf' dn' re en n (nI j) (c', t', lf', dn') mk hm' he' fr' o') (some (.int (nI j))) (some (.int w')) ⟨c', t', lf', dn', re, en, n, nI j, mk, hm', he', fr', o', hs', rfl⟩ (Or.inr ⟨_, rfl⟩) (Or.inr ⟨_, rfl⟩)
  have hj5 : j ≤ 5 := by
    have : jmx 34 5 ≤ 5 := by decide
    omega
  refine ⟨h', z + kc, w + ks, ?_, by omega, by omega⟩
  show mEv Ls xs 99 _ (mAdd z w (.inl (some (.int 1)), h', kc, ks))
  rcases h5 with rfl | ⟨y5, rfl⟩ <;> rcases h6 with rfl | ⟨y6, rfl⟩ <;>
  · skip
    refine fEv.brT rfl (iB (d := 1) (by omega) hL) ?_
    rw [iC (d := 1) (by omega)]
    refine fEv.brT rfl (iB (d := 2) (by omega) hL) ?_
    rw [iC (d := 2) (by omega)]
    refine fEv.callc rfl hh ?_
    refine fEv.brT rfl (iB (d := 1) (by omega) hL) ?_
    rw [iC (d := 1) (by omega)]
    refine fEv.brT rfl (iB (d := 2) (by omega) hL) ?_
    rw [iC (d := 2) (by omega)]
    refine fEv.calli rfl hmm ?_
    refine fEv.calli rfl f_thrown ?_
    refine fEv.brT rfl (decide_eq_true rfl) ?_
    by_cases hj0 : j = 0
    · subst hj0
      refine fEv.brF rfl (by decide) ?_
      refine fEv.brT rfl (by decide) ?_
      rw [kT (show 0 < 32 by decide), ho rfl, hv rfl]
      rw [hv rfl] at hE
      refine fEv.brT rfl (decide_eq_true (cmp_self _)) ?_
      exact fEv.steps 1 rfl hE
    · refine fEv.brT rfl (decide_eq_true (nI_ne0 (by omega) (by omega))) ?_
      exact fEv.steps 1 rfl hE
theorem l_length (hq : 4 * q + 4 ≤ Ls) (hL : Ls ≤ 2048) (h5 : oInt o5) (h6 : oInt o6) (hg : Lg h) (k : Gk Ls xs q A B) : Gd Ls xs 604 (nI (4 * q)) (A + 1) (B + 6) o5 o6 h := by
  obtain ⟨c, t, lf, dn, re, en, n, cd, mk, hm, he, fr, o, hs, rfl⟩ := hg
  obtain ⟨c', t', lf', dn', j, v, hs', hj, hcl, hmo⟩ := op_length (Ls := Ls) (xs := xs) (lf := lf) (a := xs (4 * q + 1)) hs
  obtain ⟨z, w, o', hz, hw, ho, hh⟩ := h_length (re := re) (en := en) (n := n) (cd := cd) (s := (c, t, lf, dn)) (mk := mk) (hm := hm) (he := he) (fr := fr) (o := o) hj hcl
  obtain ⟨w', hm', he', fr', hv, hmm⟩ := hmo (Pc c' t' lf' dn' re en n) [.inl (2, 1, .inr (.inl o'))] cd mk hm he fr
  rw [Fx_M, Fx_M] at hmm
  obtain ⟨h', kc, ks, hE, hkc, hks⟩ := k (Fx c' t' lf' dn' re en n (nI j) (c', t', lf', dn') mk hm' he' fr' o') (some (.int (nI j))) (some (.int w')) ⟨c', t', lf', dn', re, en, n, nI j, mk, hm', he', fr', o', hs', rfl⟩ (Or.inr ⟨_, rfl⟩) (Or.inr ⟨_, rfl⟩)
  have hj5 : j ≤ 5 := by
    have : jmx 36 0 ≤ 5 := by decide
    omega
  refine ⟨h', z + kc, w + ks, ?_, by omega, by omega⟩
  show mEv Ls xs 99 _ (mAdd z w (.inl (some (.int 1)), h', kc, ks))
  rcases h5 with rfl | ⟨y5, rfl⟩ <;> rcases h6 with rfl | ⟨y6, rfl⟩ <;>
  · skip
    refine fEv.brT rfl (iB (d := 1) (by omega) hL) ?_
    rw [iC (d := 1) (by omega)]
    refine fEv.callc rfl hh ?_
    refine fEv.brT rfl (iB (d := 1) (by omega) hL) ?_
    rw [iC (d := 1) (by omega)]
    refine fEv.calli rfl hmm ?_
    refine fEv.calli rfl f_thrown ?_
    refine fEv.brT rfl (decide_eq_true rfl) ?_
    by_cases hj0 : j = 0
    · subst hj0
      refine fEv.brF rfl (by decide) ?_
      refine fEv.brT rfl (by decide) ?_
      rw [kT (show 0 < 32 by decide), ho rfl, hv rfl]
      rw [hv rfl] at hE
      refine fEv.brT rfl (decide_eq_true (cmp_self _)) ?_
      exact fEv.steps 1 rfl hE
    · refine fEv.brT rfl (decide_eq_true (nI_ne0 (by omega) (by omega))) ?_
      exact fEv.steps 1 rfl hE
theorem l_names (hq : 4 * q + 4 ≤ Ls) (hL : Ls ≤ 2048) (h5 : oInt o5) (h6 : oInt o6) (hg : Lg h) (k : Gk Ls xs q A B) : Gd Ls xs 660 (nI (4 * q)) (A + 1) (B + 6) o5 o6 h := by
  obtain ⟨c, t, lf, dn, re, en, n, cd, mk, hm, he, fr, o, hs, rfl⟩ := hg
  obtain ⟨c', t', lf', dn', j, v, hs', hj, hcl, hmo⟩ := op_names (Ls := Ls) (xs := xs) (lf := lf) (a := xs (4 * q + 1)) hs
  obtain ⟨z, w, o', hz, hw, ho, hh⟩ := h_names (re := re) (en := en) (n := n) (cd := cd) (s := (c, t, lf, dn)) (mk := mk) (hm := hm) (he := he) (fr := fr) (o := o) hj hcl
  obtain ⟨w', hm', he', fr', hv, hmm⟩ := hmo (Pc c' t' lf' dn' re en n) [.inl (2, 1, .inr (.inl o'))] cd mk hm he fr
  rw [Fx_M, Fx_M] at hmm
  obtain ⟨h', kc, ks, hE, hkc, hks⟩ := k (Fx c' t' lf' dn' re en n (nI j) (c', t', lf', dn') mk hm' he' fr' o') (some (.int (nI j))) (some (.int w')) ⟨c', t', lf', dn', re, en, n, nI j, mk, hm', he', fr', o', hs', rfl⟩ (Or.inr ⟨_, rfl⟩) (Or.inr ⟨_, rfl⟩)
  have hj5 : j ≤ 5 := by
    have : jmx 37 0 ≤ 5 := by decide
    omega
  refine ⟨h', z + kc, w + ks, ?_, by omega, by omega⟩
  show mEv Ls xs 99 _ (mAdd z w (.inl (some (.int 1)), h', kc, ks))
  rcases h5 with rfl | ⟨y5, rfl⟩ <;> rcases h6 with rfl | ⟨y6, rfl⟩ <;>
  · skip
    refine fEv.brT rfl (iB (d := 1) (by omega) hL) ?_
    rw [iC (d := 1) (by omega)]
    refine fEv.callc rfl hh ?_
    refine fEv.brT rfl (iB (d := 1) (by omega) hL) ?_
    rw [iC (d := 1) (by omega)]
    refine fEv.calli rfl hmm ?_
    refine fEv.calli rfl f_thrown ?_
    refine fEv.brT rfl (decide_eq_true rfl) ?_
    by_cases hj0 : j = 0
    · subst hj0
      refine fEv.brF rfl (by decide) ?_
      refine fEv.brT rfl (by decide) ?_
      rw [kT (show 0 < 32 by decide), ho rfl, hv rfl]
      rw [hv rfl] at hE
      refine fEv.brT rfl (decide_eq_true (cmp_self _)) ?_
      exact fEv.steps 1 rfl hE
    · refine fEv.brT rfl (decide_eq_true (nI_ne0 (by omega) (by omega))) ?_
      exact fEv.steps 1 rfl hE
theorem l_free (hq : 4 * q + 4 ≤ Ls) (hL : Ls ≤ 2048) (h5 : oInt o5) (h6 : oInt o6) (hg : Lg h) (k : Gk Ls xs q A B) : Gd Ls xs 716 (nI (4 * q)) (A + 1) (B + 6) o5 o6 h := by
  obtain ⟨c, t, lf, dn, re, en, n, cd, mk, hm, he, fr, o, hs, rfl⟩ := hg
  obtain ⟨c', t', lf', dn', j, v, hs', hj, hcl, hmo⟩ := op_free (Ls := Ls) (xs := xs) (lf := lf)  hs
  obtain ⟨z, w, o', hz, hw, ho, hh⟩ := h_free (re := re) (en := en) (n := n) (cd := cd) (s := (c, t, lf, dn)) (mk := mk) (hm := hm) (he := he) (fr := fr) (o := o) hj hcl
  obtain ⟨w', hm', he', fr', hv, hmm⟩ := hmo (Pc c' t' lf' dn' re en n) [.inl (2, 1, .inr (.inl o'))] cd mk hm he fr
  rw [Fx_M, Fx_M] at hmm
  obtain ⟨h', kc, ks, hE, hkc, hks⟩ := k (Fx c' t' lf' dn' re en n (nI j) (c', t', lf', dn') mk hm' he' fr' o') (some (.int (nI j))) (some (.int w')) ⟨c', t', lf', dn', re, en, n, nI j, mk, hm', he', fr', o', hs', rfl⟩ (Or.inr ⟨_, rfl⟩) (Or.inr ⟨_, rfl⟩)
  have hj5 : j ≤ 5 := by
    have : jmx 38 0 ≤ 5 := by decide
    omega
  refine ⟨h', z + kc, w + ks, ?_, by omega, by omega⟩
  show mEv Ls xs 99 _ (mAdd z w (.inl (some (.int 1)), h', kc, ks))
  rcases h5 with rfl | ⟨y5, rfl⟩ <;> rcases h6 with rfl | ⟨y6, rfl⟩ <;>
  · skip
    refine fEv.callc rfl hh ?_
    refine fEv.calli rfl hmm ?_
    refine fEv.calli rfl f_thrown ?_
    refine fEv.brT rfl (decide_eq_true rfl) ?_
    by_cases hj0 : j = 0
    · subst hj0
      refine fEv.brF rfl (by decide) ?_
      refine fEv.brT rfl (by decide) ?_
      rw [kT (show 0 < 32 by decide), ho rfl, hv rfl]
      rw [hv rfl] at hE
      refine fEv.brT rfl (decide_eq_true (cmp_self _)) ?_
      exact fEv.steps 1 rfl hE
    · refine fEv.brT rfl (decide_eq_true (nI_ne0 (by omega) (by omega))) ?_
      exact fEv.steps 1 rfl hE
end LC
