/-! the class's disk -/
abbrev rV (v : Int32) (h : mH) : mR := (.inl (some (.int v)), h, 0, 0)
abbrev rN (h : mH) : mR := (.inl none, h, 0, 0)
abbrev rX (j : Nat) (h : mH) : mR := (.inr j, h, 1, 6)
def hV (c t : Nat → Int32) (lf dn : Int32) (re en : Nat → Int32) (n : Int32) (M : mH) : mH := .inr (0, [.ref 1, .ref 4, .ref 5, .int n]) :: .inr (1, [.ref 2, .ref 3, .int lf, .int dn]) :: .inl (0, 128, .inl c) :: .inl (0, 32, .inl t) :: .inl (1, 32, .inl re) :: .inl (0, 32, .inl en) :: M
def isC (a : Int32) : Bool := decide (0 ≤ a ∧ a < nI 32)
def bI (b : Bool) : Int32 := if b then 1 else 0
def cellA (c : Nat → Int32) (a i : Int32) : Int32 := if isC a = true ∧ 0 ≤ i ∧ i < nI 4 then c (a * nI 4 + i).toNatClampNeg else 0
def nextA (t : Nat → Int32) (a : Int32) : Int32 := if isC a = true then t a.toNatClampNeg else -1
theorem isC_iff {a : Int32} : isC a = true ↔ ∃ j : Nat, j < 32 ∧ a = nI j := by
  unfold isC
  rw [decide_eq_true_eq]
  constructor
  · rintro ⟨h1, h2⟩
    obtain ⟨j, hj, rfl⟩ := nI_of (Int32.not_lt.mpr h1)
    exact ⟨j, (nI_ltI (b := 32) hj (by decide)).mp h2, rfl⟩
  · rintro ⟨j, hj, rfl⟩
    exact ⟨nI_pos' (by omega), nI_lt (b := 32) hj (by decide)⟩
theorem isC_nI {j : Nat} (h : j < 32) : isC (nI j) = true := isC_iff.mpr ⟨j, h, rfl⟩
theorem isC_m1 : isC (-1) = false := by decide
theorem isC_m2 : isC (-2) = false := by decide
theorem isC_m3 : isC (-3) = false := by decide
theorem nextA_nI {t : Nat → Int32} {j : Nat} (h : j < 32) : nextA t (nI j) = t j := by
  unfold nextA
  rw [if_pos (isC_nI h), nI_clamp (by omega)]
theorem cellA_nI {c : Nat → Int32} {j i : Nat} (h : j < 32) (hi : i < 4) : cellA c (nI j) (nI i) = c (4 * j + i) := by
  unfold cellA
  rw [if_pos ⟨isC_nI h, nI_pos' (by omega), nI_lt (b := 4) hi (by decide)⟩]
  have : nI j * nI 4 + nI i = nI (4 * j + i) := by
    rw [pk_mul, nI_add, Nat.mul_comm]
  rw [this, nI_clamp (by omega)]
section KD
variable {Ls : Nat} {xs : Nat → Int32} {c t re en : Nat → Int32} {lf dn n : Int32} {M : mH}
theorem e_isC {a : Int32} {h : mH} : mEv Ls xs 6 (0, [some (.int a)], [], h) (rV (bI (isC a)) h) := by
  refine fEv.br rfl (fun h1 => ?_) (fun h1 => ?_)
  · have : isC a = false := by unfold isC; rw [decide_eq_false_iff_not]; exact fun q => Int32.not_lt.mpr q.1 h1
    rw [this]
    exact fEv.retV rfl (by decide)
  · refine fEv.br rfl (fun h2 => ?_) (fun h2 => ?_)
    · have h2 : nI 32 ≤ a := h2
      have : isC a = false := by unfold isC; rw [decide_eq_false_iff_not]; exact fun q => Int32.not_lt.mpr h2 q.2
      rw [this]
      exact fEv.retV rfl (by decide)
    · have h2 : ¬ nI 32 ≤ a := h2
      have : isC a = true := by unfold isC; rw [decide_eq_true_eq]; exact ⟨Int32.not_lt.mp h1, Int32.not_le.mp h2⟩
      rw [this]
      exact fEv.retV rfl (by decide)
theorem inb_of {i : Int32} {N j : Nat} (e : i = nI j) (h : j < N) (hN : N < 2 ^ 31) : mInb i N = true := by
  subst e
  unfold mInb
  exact decide_eq_true (nI_in h hN)
theorem e_cellAt {a i : Int32} : mEv Ls xs 44 (0, [some (.ref 1), some (.int a), some (.int i)], [], (hV c t lf dn re en n M)) (rV (cellA c a i) (hV c t lf dn re en n M)) := by
  refine fEv.calli rfl e_isC ?_
  by_cases hc : isC a = true
  · rw [hc]
    refine fEv.brF rfl (by decide) ?_
    refine fEv.br rfl (fun h1 => ?_) (fun h1 => ?_)
    · have : cellA c a i = 0 := by unfold cellA; rw [if_neg (fun q => Int32.not_lt.mpr q.2.1 h1)]
      rw [this]
      exact fEv.retV rfl rfl
    · refine fEv.br rfl (fun h2 => ?_) (fun h2 => ?_)
      · have h2 : nI 4 ≤ i := h2
        have : cellA c a i = 0 := by unfold cellA; rw [if_neg (fun q => Int32.not_lt.mpr h2 q.2.2)]
        rw [this]
        exact fEv.retV rfl rfl
      · have h2 : ¬ nI 4 ≤ i := h2
        obtain ⟨j, hj, rfl⟩ := isC_iff.mp hc
        obtain ⟨q, hq, rfl⟩ := nI_of h1
        have hq4 : q < 4 := (nI_ltI (b := 4) hq (by decide)).mp (Int32.not_le.mp h2)
        have e : nI j * nI 4 + nI q = nI (4 * j + q) := by
          rw [pk_mul, nI_add, Nat.mul_comm]
        refine fEv.brT rfl (inb_of e (by omega) (by decide)) ?_
        have : cellA c (nI j) (nI q) = c (nI j * nI 4 + nI q).toNatClampNeg := by unfold cellA; rw [if_pos ⟨hc, Int32.not_lt.mp h1, Int32.not_le.mp h2⟩]
        rw [this]
        exact fEv.retV rfl rfl
  · rw [Bool.not_eq_true] at hc
    rw [hc]
    refine fEv.brT rfl (by decide) ?_
    have : cellA c a i = 0 := by unfold cellA; rw [if_neg (fun q => by rw [hc] at q; cases q.1)]
    rw [this]
    exact fEv.retV rfl rfl
theorem e_nextAfter {a : Int32} : mEv Ls xs 43 (0, [some (.ref 1), some (.int a)], [], (hV c t lf dn re en n M)) (rV (nextA t a) (hV c t lf dn re en n M)) := by
  refine fEv.calli rfl e_isC ?_
  by_cases hc : isC a = true
  · rw [hc]
    refine fEv.brF rfl (by decide) ?_
    obtain ⟨j, hj, rfl⟩ := isC_iff.mp hc
    refine fEv.brT rfl (inb_of rfl hj (by decide)) ?_
    have : nextA t (nI j) = t (nI j).toNatClampNeg := by unfold nextA; rw [if_pos hc]
    rw [this]
    exact fEv.retV rfl rfl
  · rw [Bool.not_eq_true] at hc
    rw [hc]
    refine fEv.brT rfl (by decide) ?_
    have : nextA t a = -1 := by unfold nextA; rw [if_neg (fun q => by rw [hc] at q; cases q)]
    rw [this]
    exact fEv.retV rfl rfl
/-- a write: what is left behind it -/
def spd (lf : Int32) : Int32 := if 0 < lf then lf - 1 else lf
theorem e_spend0 (hl : lf = 0) : mEv Ls xs 46 (0, [some (.ref 1)], [], (hV c t lf dn re en n M)) (rX 0 (hV c t lf 1 re en n M)) := by
  refine fEv.brF rfl (decide_eq_false (fun z => z hl)) ?_
  exact fEv.retX rfl rfl
theorem e_spend1 (hl : ¬ lf = 0) : mEv Ls xs 46 (0, [some (.ref 1)], [], (hV c t lf dn re en n M)) (rN (hV c t (spd lf) dn re en n M)) := by
  refine fEv.brT rfl (decide_eq_true hl) ?_
  refine fEv.br rfl (fun h1 => ?_) (fun h1 => ?_)
  · have : spd lf = lf := by unfold spd; rw [if_neg (fun q => Int32.not_le.mpr q h1)]
    rw [this]
    exact fEv.retV rfl rfl
  · have : spd lf = lf - 1 := by unfold spd; rw [if_pos (Int32.not_le.mp h1)]
    rw [this]
    exact fEv.retV rfl rfl
theorem e_writeTable0 {a v : Int32} (hl : lf = 0) : mEv Ls xs 45 (0, [some (.ref 1), some (.int a), some (.int v)], [], (hV c t lf dn re en n M)) (rX 0 (hV c t lf 1 re en n M)) := fEv.thr rfl (e_spend0 hl) rfl
theorem e_writeTable1 {j : Nat} {v : Int32} (hl : ¬ lf = 0) (hj : j < 32) : mEv Ls xs 45 (0, [some (.ref 1), some (.int (nI j)), some (.int v)], [], (hV c t lf dn re en n M)) (rN (hV c (upd t j v) (spd lf) dn re en n M)) := by
  refine fEv.calln rfl (e_spend1 hl) ?_
  refine fEv.calli rfl e_isC ?_
  rw [isC_nI hj]
  refine fEv.brF rfl (by decide) ?_
  refine fEv.brT rfl (inb_of rfl hj (by decide)) ?_
  have e : (nI j).toNatClampNeg = j := nI_clamp (by omega)
  rw [e]
  exact fEv.retV rfl rfl
def w4 (c : Nat → Int32) (j : Nat) (v0 v1 v2 v3 : Int32) : Nat → Int32 := upd (upd (upd (upd c (4 * j) v0) (4 * j + 1) v1) (4 * j + 2) v2) (4 * j + 3) v3
theorem e_writeCluster0 {a v0 v1 v2 v3 : Int32} (hl : lf = 0) : mEv Ls xs 47 (0, [some (.ref 1), some (.int a), some (.int v0), some (.int v1), some (.int v2), some (.int v3), none], [], (hV c t lf dn re en n M)) (rX 0 (hV c t lf 1 re en n M)) := fEv.thr rfl (e_spend0 hl) rfl
theorem e_writeCluster1 {j : Nat} {v0 v1 v2 v3 : Int32} (hl : ¬ lf = 0) (hj : j < 32) : mEv Ls xs 47 (0, [some (.ref 1), some (.int (nI j)), some (.int v0), some (.int v1), some (.int v2), some (.int v3), none], [], (hV c t lf dn re en n M)) (rN (hV (w4 c j v0 v1 v2 v3) t (spd lf) dn re en n M)) := by
  refine fEv.calln rfl (e_spend1 hl) ?_
  refine fEv.calli rfl e_isC ?_
  rw [isC_nI hj]
  have e0 : nI j * nI 4 = nI (4 * j) := by rw [pk_mul, Nat.mul_comm]
  refine fEv.brF rfl (by decide) ?_
  refine fEv.brT rfl (inb_of e0 (by omega) (by decide)) ?_
  refine fEv.brT rfl (inb_of (j := 4 * j + 1) (by show nI j * nI 4 + nI 1 = _; rw [e0, nI_add]) (by omega) (by decide)) ?_
  refine fEv.brT rfl (inb_of (j := 4 * j + 2) (by show nI j * nI 4 + nI 2 = _; rw [e0, nI_add]) (by omega) (by decide)) ?_
  refine fEv.brT rfl (inb_of (j := 4 * j + 3) (by show nI j * nI 4 + nI 3 = _; rw [e0, nI_add]) (by omega) (by decide)) ?_
  have f0 : (nI j * nI 4).toNatClampNeg = 4 * j := by rw [e0, nI_clamp (by omega)]
  have f1 : (nI j * nI 4 + nI 1).toNatClampNeg = 4 * j + 1 := by rw [e0, nI_add, nI_clamp (by omega)]
  have f2 : (nI j * nI 4 + nI 2).toNatClampNeg = 4 * j + 2 := by rw [e0, nI_add, nI_clamp (by omega)]
  have f3 : (nI j * nI 4 + nI 3).toNatClampNeg = 4 * j + 3 := by rw [e0, nI_add, nI_clamp (by omega)]
  have hw : w4 c j v0 v1 v2 v3 = upd (upd (upd (upd c (nI j * nI 4).toNatClampNeg v0) (nI j * nI 4 + nI 1).toNatClampNeg v1) (nI j * nI 4 + nI 2).toNatClampNeg v2) (nI j * nI 4 + nI 3).toNatClampNeg v3 := by
    rw [f0, f1, f2, f3]; rfl
  rw [hw]
  exact fEv.retV rfl rfl
theorem e_writeCell0 {a i v : Int32} (hl : lf = 0) : mEv Ls xs 48 (0, [some (.ref 1), some (.int a), some (.int i), some (.int v)], [], (hV c t lf dn re en n M)) (rX 0 (hV c t lf 1 re en n M)) := fEv.thr rfl (e_spend0 hl) rfl
theorem e_writeCell1 {j i : Nat} {v : Int32} (hl : ¬ lf = 0) (hj : j < 32) (hi : i < 4) : mEv Ls xs 48 (0, [some (.ref 1), some (.int (nI j)), some (.int (nI i)), some (.int v)], [], (hV c t lf dn re en n M)) (rN (hV (upd c (4 * j + i) v) t (spd lf) dn re en n M)) := by
  refine fEv.calln rfl (e_spend1 hl) ?_
  refine fEv.calli rfl e_isC ?_
  rw [isC_nI hj]
  have e0 : nI j * nI 4 + nI i = nI (4 * j + i) := by rw [pk_mul, nI_add, Nat.mul_comm]
  refine fEv.brF rfl (by decide) ?_
  refine fEv.brF rfl (decide_eq_false (nI_pos (by omega))) ?_
  refine fEv.brF rfl (decide_eq_false (nI_ge (b := 4) hi (by decide))) ?_
  refine fEv.brT rfl (inb_of e0 (by omega) (by decide)) ?_
  have f0 : (nI j * nI 4 + nI i).toNatClampNeg = 4 * j + i := by rw [e0, nI_clamp (by omega)]
  have hw : upd c (4 * j + i) v = upd c (nI j * nI 4 + nI i).toNatClampNeg v := by rw [f0]
  rw [hw]
  exact fEv.retV rfl rfl
end KD
