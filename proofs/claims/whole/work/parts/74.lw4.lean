/-! the law's loop -/
theorem and15 (v : Int32) : ∃ k, k < 16 ∧ v &&& nI 15 = nI k := by
  refine ⟨v.toBitVec.toNat % 16, Nat.mod_lt _ (by decide), ?_⟩
  apply i32_ext
  have h := Nat.and_two_pow_sub_one_eq_mod v.toBitVec.toNat 4
  have h2 : v.toBitVec.toNat % 16 < 16 := Nat.mod_lt _ (by decide)
  rw [Int32.toBitVec_and, BitVec.toNat_and, pk_tn (by decide), pk_tn (by omega)]
  exact h
section LE
variable {Ls : Nat} {xs : Nat → Int32} {h : mH} {q A B : Nat} {o5 o6 : Option Value}
theorem Gd.more {pc : Nat} {i : Int32} (hg : Gd Ls xs pc i A B o5 o6 h) : Gd Ls xs pc i (A + 1) (B + 6) o5 o6 h := by
  obtain ⟨h', kc, ks, h1, h2, h3⟩ := hg
  exact ⟨h', kc, ks, h1, by omega, by omega⟩
theorem l_switch (hq : 4 * q + 4 ≤ Ls) (hL : Ls ≤ 2048) (h5 : oInt o5) (h6 : oInt o6) (hg : Lg h) (k : Gk Ls xs q A B) : ∃ h' kc ks, mEv Ls xs 99 (39, [some (.ref mSC), some (.ref 0), some (.ref 6), some (.ref 10), some (.int (nI (4 * q))), o5, o6], [.int (xs (4 * q) &&& nI 15)], h) (.inl (some (.int 1)), h', kc, ks) ∧ kc ≤ A + 1 ∧ ks ≤ B + 6 := by
  obtain ⟨j, hj, e⟩ := and15 (xs (4 * q))
  rw [e]
  have go : ∀ pc, mSw 39 0 14 832 [73, 157, 213, 281, 349, 417, 497, 565, 621, 677, 721, 744, 757, 770, 807] (nI j).toInt = pc → Gd Ls xs pc (nI (4 * q)) (A + 1) (B + 6) o5 o6 h → ∃ h' kc ks, mEv Ls xs 99 (39, [some (.ref mSC), some (.ref 0), some (.ref 6), some (.ref 10), some (.int (nI (4 * q))), o5, o6], [.int (nI j)], h) (.inl (some (.int 1)), h', kc, ks) ∧ kc ≤ A + 1 ∧ ks ≤ B + 6 := by
    intro pc hpc hgd
    subst hpc
    obtain ⟨h', kc, ks, h1, h2, h3⟩ := hgd
    exact ⟨h', kc, ks, fEv.steps 1 rfl h1, h2, h3⟩
  match j, hj with
  | 0, _ => exact go 112 (by decide) (l_make hq hL h5 h6 hg k)
  | 1, _ => exact go 196 (by decide) (l_remove hq hL h5 h6 hg k)
  | 2, _ => exact go 252 (by decide) (l_rename hq hL h5 h6 hg k)
  | 3, _ => exact go 320 (by decide) (l_append hq hL h5 h6 hg k)
  | 4, _ => exact go 388 (by decide) (l_get hq hL h5 h6 hg k)
  | 5, _ => exact go 456 (by decide) (l_put hq hL h5 h6 hg k)
  | 6, _ => exact go 536 (by decide) (l_shorten hq hL h5 h6 hg k)
  | 7, _ => exact go 604 (by decide) (l_length hq hL h5 h6 hg k)
  | 8, _ => exact go 660 (by decide) (l_names hq hL h5 h6 hg k)
  | 9, _ => exact go 716 (by decide) (l_free hq hL h5 h6 hg k)
  | 10, _ => exact go 760 (by decide) (l_arm hq hL h5 h6 hg k).more
  | 11, _ => exact go 783 (by decide) (l_isDown h5 h6 hg k).more
  | 12, _ => exact go 796 (by decide) (l_mount h5 h6 hg k).more
  | 13, _ => exact go 809 (by decide) (l_cell hq hL h5 h6 hg k).more
  | 14, _ => exact go 846 (by decide) (l_table hq hL h5 h6 hg k).more
  | 15, _ => exact go 871 (by decide) (k h o5 o6 hg h5 h6).more
  | n + 16, hj => exact absurd hj (by omega)
theorem l_loop (hL : Ls ≤ 2048) : ∀ (m q : Nat) (o5 o6 : Option Value) (h : mH), oInt o5 → oInt o6 → Lg h → Ls < 4 * (q + m) + 4 → q ≤ 600 → Gd Ls xs 23 (nI (4 * q)) m (6 * m) o5 o6 h := by
  intro m
  induction m with
  | zero =>
    intro q o5 o6 h h5 h6 hg hm hq
    refine ⟨h, 0, 0, ?_, by omega, by omega⟩
    refine fEv.brT rfl (decide_eq_true ?_) ?_
    · show nI Ls - nI 4 < nI (4 * q)
      by_cases h4 : 4 ≤ Ls
      · rw [pk_sub h4]
        exact nI_lt (by omega) (by omega)
      · have h0 : (0 : Int32) ≤ nI (4 * q) := nI_pos' (by omega)
        have h1 : nI Ls - nI 4 < 0 := by
          match Ls, h4 with
          | 0, _ => decide
          | 1, _ => decide
          | 2, _ => decide
          | 3, _ => decide
          | n + 4, h => exact absurd (by omega) h
        exact Int32.lt_of_lt_of_le h1 h0
    · exact fEv.retV rfl rfl
  | succ m ih =>
    intro q o5 o6 h h5 h6 hg hm hq
    by_cases hin : 4 * q + 4 ≤ Ls
    · have k : Gk Ls xs q m (6 * m) := by
        intro h' o5' o6' hg' h5' h6'
        obtain ⟨h'', kc, ks, h1, h2, h3⟩ := ih (q + 1) o5' o6' h' h5' h6' hg' (by omega) (by omega)
        refine ⟨h'', kc, ks, ?_, h2, h3⟩
        rw [show 4 * (q + 1) = 4 * q + 4 by omega, ← nI_add] at h1
        exact fEv.steps 2 rfl h1
      obtain ⟨h', kc, ks, h1, h2, h3⟩ := l_switch hin hL h5 h6 hg k
      refine ⟨h', kc, ks, ?_, h2, by omega⟩
      refine fEv.brF rfl (decide_eq_false ?_) ?_
      · show ¬ nI Ls - nI 4 < nI (4 * q)
        rw [pk_sub (by omega)]
        exact nI_nlt (by omega) (by omega)
      · refine fEv.brT rfl (inb_of rfl (show 4 * q < Ls by omega) (by omega)) ?_
        rw [nI_clamp (by omega)]
        exact fEv.steps 2 rfl h1
    · refine ⟨h, 0, 0, ?_, by omega, by omega⟩
      refine fEv.brT rfl (decide_eq_true ?_) ?_
      · show nI Ls - nI 4 < nI (4 * q)
        by_cases h4 : 4 ≤ Ls
        · rw [pk_sub h4]
          exact nI_lt (by omega) (by omega)
        · have h0 : (0 : Int32) ≤ nI (4 * q) := nI_pos' (by omega)
          have h1 : nI Ls - nI 4 < 0 := by
            match Ls, h4 with
            | 0, _ => decide
            | 1, _ => decide
            | 2, _ => decide
            | 3, _ => decide
            | n + 4, h => exact absurd (by omega) h
          exact Int32.lt_of_lt_of_le h1 h0
      · exact fEv.retV rfl rfl
end LE
