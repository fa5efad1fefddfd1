/-! the constructors, the law's start -/
def tI : Nat → Nat → Int32
  | 0 => fun _ => 0
  | i + 1 => upd (tI i) i (if i = 0 then -1 else -2)
def z0 : Nat → Int32 := fun _ => 0
def vN : mC := .inr (0, [.null, .null, .null, .int 0])
theorem fEv.callz {Ls : Nat} {xs : Nat → Int32} {k pc k' pc' c s : Nat} {L : List (Option Value)} {S : List Value} {hh : mH} {r : mR} {av S' : List Value} {L' : List (Option Value)} {h h' : mH} (hs : fGo Ls xs 300 k pc L S hh = some (.inr (.inr (.inr (.inl (k', av, (pc', L', S', h))))))) (hc : mEv Ls xs k' (mEnt k' av h) (.inl none, h', c, s))
    (he : mEv Ls xs k (pc', L', S', h') r) : mEv Ls xs k (pc, L, S, hh) (mAdd c s r) := fEv.call hs hc he
section LF
variable {Ls : Nat} {xs : Nat → Int32}
theorem dk_loop : ∀ (m i : Nat), i + m = 32 → mEv Ls xs 39 (23, [some (.ref 1), some (.int (nI i))], [], [vN, .inr (1, [.ref 2, .ref 3, .int 0, .int 0]), .inl (0, 128, .inl z0), .inl (0, 32, .inl (tI i))]) (.inl none, [vN, .inr (1, [.ref 2, .ref 3, .int (-1), .int 0]), .inl (0, 128, .inl z0), .inl (0, 32, .inl (tI 32))], 0, 0) := by
  intro m
  induction m with
  | zero =>
    intro i hi
    have hi : i = 32 := hi
    subst hi
    refine fEv.brT rfl (by decide) ?_
    exact fEv.retV rfl rfl
  | succ m ih =>
    intro i hi
    have hi3 : i < 32 := by omega
    have h2 := ih (i + 1) (by omega)
    rw [← nI_add, tI] at h2
    refine fEv.brF rfl (decide_eq_false (nI_ge (a := i) (b := 32) hi3 (by decide))) ?_
    by_cases h0 : i = 0
    · rw [if_pos h0] at h2
      refine fEv.brF rfl (decide_eq_false (fun z => z (by rw [h0]; rfl))) ?_
      refine fEv.brT rfl (bT hi3) ?_
      rw [kT hi3]
      exact fEv.steps 2 rfl h2
    · rw [if_neg h0] at h2
      refine fEv.brT rfl (decide_eq_true (nI_ne0 (by omega) (by omega))) ?_
      refine fEv.brT rfl (bT hi3) ?_
      rw [kT hi3]
      exact fEv.steps 2 rfl h2
theorem i_disk : mEv Ls xs 39 (0, [some (.ref 1), none], [], [vN, .inr (1, [.null, .null, .int 0, .int 0])]) (.inl none, [vN, .inr (1, [.ref 2, .ref 3, .int (-1), .int 0]), .inl (0, 128, .inl z0), .inl (0, 32, .inl (tI 32))], 2, 160) := by
  show mEv Ls xs 39 _ (mAdd 1 128 (mAdd 1 32 (.inl none, [vN, .inr (1, [.ref 2, .ref 3, .int (-1), .int 0]), .inl (0, 128, .inl z0), .inl (0, 32, .inl (tI 32))], 0, 0)))
  refine fEv.mk rfl ?_
  show mEv Ls xs 39 (8 + 2, [some (.ref 1), none], [.ref 2, .ref 1], [vN, .inr (1, [.null, .null, .int 0, .int 0]), .inl (0, 128, .inl z0)]) _
  refine fEv.mk rfl ?_
  show mEv Ls xs 39 (16 + 2, [some (.ref 1), none], [.ref 3, .ref 1], [vN, .inr (1, [.ref 2, .null, .int 0, .int 0]), .inl (0, 128, .inl z0), .inl (0, 32, .inl (tI 0))]) _
  exact fEv.steps 3 rfl (dk_loop 32 0 (by omega))
def hV0 : mH := hV z0 (tI 32) (-1) 0 z0 z0 0 []
theorem i_vol : mEv Ls xs 0 (0, [some (.ref 0)], [], [vN]) (.inl none, hV0, 5, 228) := by
  show mEv Ls xs 0 _ (mAdd 1 4 (mAdd 2 160 (mAdd 1 32 (mAdd 1 32 (.inl none, hV0, 0, 0)))))
  refine fEv.mk rfl ?_
  show mEv Ls xs 0 (5 + 3, [some (.ref 0)], [.ref 1, .ref 0], [vN, .inr (1, [.null, .null, .int 0, .int 0])]) _
  refine fEv.callz rfl i_disk ?_
  refine fEv.mk rfl ?_
  show mEv Ls xs 0 (18 + 2, [some (.ref 0)], [.ref 4, .ref 0], [.inr (0, [.ref 1, .null, .null, .int 0]), .inr (1, [.ref 2, .ref 3, .int (-1), .int 0]), .inl (0, 128, .inl z0), .inl (0, 32, .inl (tI 32)), .inl (1, 32, .inl z0)]) _
  refine fEv.mk rfl ?_
  show mEv Ls xs 0 (26 + 2, [some (.ref 0)], [.ref 5, .ref 0], [.inr (0, [.ref 1, .ref 4, .null, .int 0]), .inr (1, [.ref 2, .ref 3, .int (-1), .int 0]), .inl (0, 128, .inl z0), .inl (0, 32, .inl (tI 32)), .inl (1, 32, .inl z0), .inl (0, 32, .inl z0)]) _
  exact fEv.retV rfl rfl
def mdN : mC := .inr (2, [.int 0, .null, .null, .int 0, .int 0, .null, .int 0, .int 0, .int 0])
theorem i_mod : mEv Ls xs 49 (0, [some (.ref 6)], [], [.inr (0, [.ref 1, .ref 4, .ref 5, .int 0]), .inr (1, [.ref 2, .ref 3, .int (-1), .int 0]), .inl (0, 128, .inl z0), .inl (0, 32, .inl (tI 32)), .inl (1, 32, .inl z0), .inl (0, 32, .inl z0), mdN]) (.inl none, [.inr (0, [.ref 1, .ref 4, .ref 5, .int 0]), .inr (1, [.ref 2, .ref 3, .int (-1), .int 0]), .inl (0, 128, .inl z0), .inl (0, 32, .inl (tI 32)), .inl (1, 32, .inl z0), .inl (0, 32, .inl z0), .inr (2, [.int 0, .ref 7, .ref 8, .int 0, .int (-1), .ref 9, .int 0, .int 0, .int 0]), .inl (0, 32, .inl (tI 32)), .inl (0, 128, .inl z0), .inl (1, 32, .inl z0)], 3, 192) := by
  show mEv Ls xs 49 _ (mAdd 1 32 (mAdd 1 128 (mAdd 1 32 (.inl none, [.inr (0, [.ref 1, .ref 4, .ref 5, .int 0]), .inr (1, [.ref 2, .ref 3, .int (-1), .int 0]), .inl (0, 128, .inl z0), .inl (0, 32, .inl (tI 32)), .inl (1, 32, .inl z0), .inl (0, 32, .inl z0), .inr (2, [.int 0, .ref 7, .ref 8, .int 0, .int (-1), .ref 9, .int 0, .int 0, .int 0]), .inl (0, 32, .inl (tI 32)), .inl (0, 128, .inl z0), .inl (1, 32, .inl z0)], 0, 0))))
  refine fEv.mk rfl ?_
  show mEv Ls xs 49 (7 + 2, [some (.ref 6)], [.ref 7, .ref 6], [.inr (0, [.ref 1, .ref 4, .ref 5, .int 0]), .inr (1, [.ref 2, .ref 3, .int (-1), .int 0]), .inl (0, 128, .inl z0), .inl (0, 32, .inl (tI 32)), .inl (1, 32, .inl z0), .inl (0, 32, .inl z0), mdN, .inl (0, 32, .inl (tI 0))]) _
  refine fEv.brT rfl (bT (a := 0) (by decide)) ?_
  rw [kT (a := 0) (by decide)]
  show mEv Ls xs 49 (12 + 1, [some (.ref 6)], [.ref 7, .ref 6], [.inr (0, [.ref 1, .ref 4, .ref 5, .int 0]), .inr (1, [.ref 2, .ref 3, .int (-1), .int 0]), .inl (0, 128, .inl z0), .inl (0, 32, .inl (tI 32)), .inl (1, 32, .inl z0), .inl (0, 32, .inl z0), mdN, .inl (0, 32, .inl (tI 1))]) _
  refine fEv.brT rfl (bT (a := 1) (by decide)) ?_
  rw [kT (a := 1) (by decide)]
  show mEv Ls xs 49 (17 + 1, [some (.ref 6)], [.ref 7, .ref 6], [.inr (0, [.ref 1, .ref 4, .ref 5, .int 0]), .inr (1, [.ref 2, .ref 3, .int (-1), .int 0]), .inl (0, 128, .inl z0), .inl (0, 32, .inl (tI 32)), .inl (1, 32, .inl z0), .inl (0, 32, .inl z0), mdN, .inl (0, 32, .inl (tI 2))]) _
  refine fEv.brT rfl (bT (a := 2) (by decide)) ?_
  rw [kT (a := 2) (by decide)]
  show mEv Ls xs 49 (22 + 1, [some (.ref 6)], [.ref 7, .ref 6], [.inr (0, [.ref 1, .ref 4, .ref 5, .int 0]), .inr (1, [.ref 2, .ref 3, .int (-1), .int 0]), .inl (0, 128, .inl z0), .inl (0, 32, .inl (tI 32)), .inl (1, 32, .inl z0), .inl (0, 32, .inl z0), mdN, .inl (0, 32, .inl (tI 3))]) _
  refine fEv.brT rfl (bT (a := 3) (by decide)) ?_
  rw [kT (a := 3) (by decide)]
  show mEv Ls xs 49 (27 + 1, [some (.ref 6)], [.ref 7, .ref 6], [.inr (0, [.ref 1, .ref 4, .ref 5, .int 0]), .inr (1, [.ref 2, .ref 3, .int (-1), .int 0]), .inl (0, 128, .inl z0), .inl (0, 32, .inl (tI 32)), .inl (1, 32, .inl z0), .inl (0, 32, .inl z0), mdN, .inl (0, 32, .inl (tI 4))]) _
  refine fEv.brT rfl (bT (a := 4) (by decide)) ?_
  rw [kT (a := 4) (by decide)]
  show mEv Ls xs 49 (32 + 1, [some (.ref 6)], [.ref 7, .ref 6], [.inr (0, [.ref 1, .ref 4, .ref 5, .int 0]), .inr (1, [.ref 2, .ref 3, .int (-1), .int 0]), .inl (0, 128, .inl z0), .inl (0, 32, .inl (tI 32)), .inl (1, 32, .inl z0), .inl (0, 32, .inl z0), mdN, .inl (0, 32, .inl (tI 5))]) _
  refine fEv.brT rfl (bT (a := 5) (by decide)) ?_
  rw [kT (a := 5) (by decide)]
  show mEv Ls xs 49 (37 + 1, [some (.ref 6)], [.ref 7, .ref 6], [.inr (0, [.ref 1, .ref 4, .ref 5, .int 0]), .inr (1, [.ref 2, .ref 3, .int (-1), .int 0]), .inl (0, 128, .inl z0), .inl (0, 32, .inl (tI 32)), .inl (1, 32, .inl z0), .inl (0, 32, .inl z0), mdN, .inl (0, 32, .inl (tI 6))]) _
  refine fEv.brT rfl (bT (a := 6) (by decide)) ?_
  rw [kT (a := 6) (by decide)]
  show mEv Ls xs 49 (43 + 1, [some (.ref 6)], [.ref 7, .ref 6], [.inr (0, [.ref 1, .ref 4, .ref 5, .int 0]), .inr (1, [.ref 2, .ref 3, .int (-1), .int 0]), .inl (0, 128, .inl z0), .inl (0, 32, .inl (tI 32)), .inl (1, 32, .inl z0), .inl (0, 32, .inl z0), mdN, .inl (0, 32, .inl (tI 7))]) _
  refine fEv.brT rfl (bT (a := 7) (by decide)) ?_
  rw [kT (a := 7) (by decide)]
  show mEv Ls xs 49 (49 + 1, [some (.ref 6)], [.ref 7, .ref 6], [.inr (0, [.ref 1, .ref 4, .ref 5, .int 0]), .inr (1, [.ref 2, .ref 3, .int (-1), .int 0]), .inl (0, 128, .inl z0), .inl (0, 32, .inl (tI 32)), .inl (1, 32, .inl z0), .inl (0, 32, .inl z0), mdN, .inl (0, 32, .inl (tI 8))]) _
  refine fEv.brT rfl (bT (a := 8) (by decide)) ?_
  rw [kT (a := 8) (by decide)]
  show mEv Ls xs 49 (55 + 1, [some (.ref 6)], [.ref 7, .ref 6], [.inr (0, [.ref 1, .ref 4, .ref 5, .int 0]), .inr (1, [.ref 2, .ref 3, .int (-1), .int 0]), .inl (0, 128, .inl z0), .inl (0, 32, .inl (tI 32)), .inl (1, 32, .inl z0), .inl (0, 32, .inl z0), mdN, .inl (0, 32, .inl (tI 9))]) _
  refine fEv.brT rfl (bT (a := 9) (by decide)) ?_
  rw [kT (a := 9) (by decide)]
  show mEv Ls xs 49 (61 + 1, [some (.ref 6)], [.ref 7, .ref 6], [.inr (0, [.ref 1, .ref 4, .ref 5, .int 0]), .inr (1, [.ref 2, .ref 3, .int (-1), .int 0]), .inl (0, 128, .inl z0), .inl (0, 32, .inl (tI 32)), .inl (1, 32, .inl z0), .inl (0, 32, .inl z0), mdN, .inl (0, 32, .inl (tI 10))]) _
  refine fEv.brT rfl (bT (a := 10) (by decide)) ?_
  rw [kT (a := 10) (by decide)]
  show mEv Ls xs 49 (67 + 1, [some (.ref 6)], [.ref 7, .ref 6], [.inr (0, [.ref 1, .ref 4, .ref 5, .int 0]), .inr (1, [.ref 2, .ref 3, .int (-1), .int 0]), .inl (0, 128, .inl z0), .inl (0, 32, .inl (tI 32)), .inl (1, 32, .inl z0), .inl (0, 32, .inl z0), mdN, .inl (0, 32, .inl (tI 11))]) _
  refine fEv.brT rfl (bT (a := 11) (by decide)) ?_
  rw [kT (a := 11) (by decide)]
  show mEv Ls xs 49 (73 + 1, [some (.ref 6)], [.ref 7, .ref 6], [.inr (0, [.ref 1, .ref 4, .ref 5, .int 0]), .inr (1, [.ref 2, .ref 3, .int (-1), .int 0]), .inl (0, 128, .inl z0), .inl (0, 32, .inl (tI 32)), .inl (1, 32, .inl z0), .inl (0, 32, .inl z0), mdN, .inl (0, 32, .inl (tI 12))]) _
  refine fEv.brT rfl (bT (a := 12) (by decide)) ?_
  rw [kT (a := 12) (by decide)]
  show mEv Ls xs 49 (79 + 1, [some (.ref 6)], [.ref 7, .ref 6], [.inr (0, [.ref 1, .ref 4, .ref 5, .int 0]), .inr (1, [.ref 2, .ref 3, .int (-1), .int 0]), .inl (0, 128, .inl z0), .inl (0, 32, .inl (tI 32)), .inl (1, 32, .inl z0), .inl (0, 32, .inl z0), mdN, .inl (0, 32, .inl (tI 13))]) _
  refine fEv.brT rfl (bT (a := 13) (by decide)) ?_
  rw [kT (a := 13) (by decide)]
  show mEv Ls xs 49 (85 + 1, [some (.ref 6)], [.ref 7, .ref 6], [.inr (0, [.ref 1, .ref 4, .ref 5, .int 0]), .inr (1, [.ref 2, .ref 3, .int (-1), .int 0]), .inl (0, 128, .inl z0), .inl (0, 32, .inl (tI 32)), .inl (1, 32, .inl z0), .inl (0, 32, .inl z0), mdN, .inl (0, 32, .inl (tI 14))]) _
  refine fEv.brT rfl (bT (a := 14) (by decide)) ?_
  rw [kT (a := 14) (by decide)]
  show mEv Ls xs 49 (91 + 1, [some (.ref 6)], [.ref 7, .ref 6], [.inr (0, [.ref 1, .ref 4, .ref 5, .int 0]), .inr (1, [.ref 2, .ref 3, .int (-1), .int 0]), .inl (0, 128, .inl z0), .inl (0, 32, .inl (tI 32)), .inl (1, 32, .inl z0), .inl (0, 32, .inl z0), mdN, .inl (0, 32, .inl (tI 15))]) _
  refine fEv.brT rfl (bT (a := 15) (by decide)) ?_
  rw [kT (a := 15) (by decide)]
  show mEv Ls xs 49 (97 + 1, [some (.ref 6)], [.ref 7, .ref 6], [.inr (0, [.ref 1, .ref 4, .ref 5, .int 0]), .inr (1, [.ref 2, .ref 3, .int (-1), .int 0]), .inl (0, 128, .inl z0), .inl (0, 32, .inl (tI 32)), .inl (1, 32, .inl z0), .inl (0, 32, .inl z0), mdN, .inl (0, 32, .inl (tI 16))]) _
  refine fEv.brT rfl (bT (a := 16) (by decide)) ?_
  rw [kT (a := 16) (by decide)]
  show mEv Ls xs 49 (103 + 1, [some (.ref 6)], [.ref 7, .ref 6], [.inr (0, [.ref 1, .ref 4, .ref 5, .int 0]), .inr (1, [.ref 2, .ref 3, .int (-1), .int 0]), .inl (0, 128, .inl z0), .inl (0, 32, .inl (tI 32)), .inl (1, 32, .inl z0), .inl (0, 32, .inl z0), mdN, .inl (0, 32, .inl (tI 17))]) _
  refine fEv.brT rfl (bT (a := 17) (by decide)) ?_
  rw [kT (a := 17) (by decide)]
  show mEv Ls xs 49 (109 + 1, [some (.ref 6)], [.ref 7, .ref 6], [.inr (0, [.ref 1, .ref 4, .ref 5, .int 0]), .inr (1, [.ref 2, .ref 3, .int (-1), .int 0]), .inl (0, 128, .inl z0), .inl (0, 32, .inl (tI 32)), .inl (1, 32, .inl z0), .inl (0, 32, .inl z0), mdN, .inl (0, 32, .inl (tI 18))]) _
  refine fEv.brT rfl (bT (a := 18) (by decide)) ?_
  rw [kT (a := 18) (by decide)]
  show mEv Ls xs 49 (115 + 1, [some (.ref 6)], [.ref 7, .ref 6], [.inr (0, [.ref 1, .ref 4, .ref 5, .int 0]), .inr (1, [.ref 2, .ref 3, .int (-1), .int 0]), .inl (0, 128, .inl z0), .inl (0, 32, .inl (tI 32)), .inl (1, 32, .inl z0), .inl (0, 32, .inl z0), mdN, .inl (0, 32, .inl (tI 19))]) _
  refine fEv.brT rfl (bT (a := 19) (by decide)) ?_
  rw [kT (a := 19) (by decide)]
  show mEv Ls xs 49 (121 + 1, [some (.ref 6)], [.ref 7, .ref 6], [.inr (0, [.ref 1, .ref 4, .ref 5, .int 0]), .inr (1, [.ref 2, .ref 3, .int (-1), .int 0]), .inl (0, 128, .inl z0), .inl (0, 32, .inl (tI 32)), .inl (1, 32, .inl z0), .inl (0, 32, .inl z0), mdN, .inl (0, 32, .inl (tI 20))]) _
  refine fEv.brT rfl (bT (a := 20) (by decide)) ?_
  rw [kT (a := 20) (by decide)]
  show mEv Ls xs 49 (127 + 1, [some (.ref 6)], [.ref 7, .ref 6], [.inr (0, [.ref 1, .ref 4, .ref 5, .int 0]), .inr (1, [.ref 2, .ref 3, .int (-1), .int 0]), .inl (0, 128, .inl z0), .inl (0, 32, .inl (tI 32)), .inl (1, 32, .inl z0), .inl (0, 32, .inl z0), mdN, .inl (0, 32, .inl (tI 21))]) _
  refine fEv.brT rfl (bT (a := 21) (by decide)) ?_
  rw [kT (a := 21) (by decide)]
  show mEv Ls xs 49 (133 + 1, [some (.ref 6)], [.ref 7, .ref 6], [.inr (0, [.ref 1, .ref 4, .ref 5, .int 0]), .inr (1, [.ref 2, .ref 3, .int (-1), .int 0]), .inl (0, 128, .inl z0), .inl (0, 32, .inl (tI 32)), .inl (1, 32, .inl z0), .inl (0, 32, .inl z0), mdN, .inl (0, 32, .inl (tI 22))]) _
  refine fEv.brT rfl (bT (a := 22) (by decide)) ?_
  rw [kT (a := 22) (by decide)]
  show mEv Ls xs 49 (139 + 1, [some (.ref 6)], [.ref 7, .ref 6], [.inr (0, [.ref 1, .ref 4, .ref 5, .int 0]), .inr (1, [.ref 2, .ref 3, .int (-1), .int 0]), .inl (0, 128, .inl z0), .inl (0, 32, .inl (tI 32)), .inl (1, 32, .inl z0), .inl (0, 32, .inl z0), mdN, .inl (0, 32, .inl (tI 23))]) _
  refine fEv.brT rfl (bT (a := 23) (by decide)) ?_
  rw [kT (a := 23) (by decide)]
  show mEv Ls xs 49 (145 + 1, [some (.ref 6)], [.ref 7, .ref 6], [.inr (0, [.ref 1, .ref 4, .ref 5, .int 0]), .inr (1, [.ref 2, .ref 3, .int (-1), .int 0]), .inl (0, 128, .inl z0), .inl (0, 32, .inl (tI 32)), .inl (1, 32, .inl z0), .inl (0, 32, .inl z0), mdN, .inl (0, 32, .inl (tI 24))]) _
  refine fEv.brT rfl (bT (a := 24) (by decide)) ?_
  rw [kT (a := 24) (by decide)]
  show mEv Ls xs 49 (151 + 1, [some (.ref 6)], [.ref 7, .ref 6], [.inr (0, [.ref 1, .ref 4, .ref 5, .int 0]), .inr (1, [.ref 2, .ref 3, .int (-1), .int 0]), .inl (0, 128, .inl z0), .inl (0, 32, .inl (tI 32)), .inl (1, 32, .inl z0), .inl (0, 32, .inl z0), mdN, .inl (0, 32, .inl (tI 25))]) _
  refine fEv.brT rfl (bT (a := 25) (by decide)) ?_
  rw [kT (a := 25) (by decide)]
  show mEv Ls xs 49 (157 + 1, [some (.ref 6)], [.ref 7, .ref 6], [.inr (0, [.ref 1, .ref 4, .ref 5, .int 0]), .inr (1, [.ref 2, .ref 3, .int (-1), .int 0]), .inl (0, 128, .inl z0), .inl (0, 32, .inl (tI 32)), .inl (1, 32, .inl z0), .inl (0, 32, .inl z0), mdN, .inl (0, 32, .inl (tI 26))]) _
  refine fEv.brT rfl (bT (a := 26) (by decide)) ?_
  rw [kT (a := 26) (by decide)]
  show mEv Ls xs 49 (163 + 1, [some (.ref 6)], [.ref 7, .ref 6], [.inr (0, [.ref 1, .ref 4, .ref 5, .int 0]), .inr (1, [.ref 2, .ref 3, .int (-1), .int 0]), .inl (0, 128, .inl z0), .inl (0, 32, .inl (tI 32)), .inl (1, 32, .inl z0), .inl (0, 32, .inl z0), mdN, .inl (0, 32, .inl (tI 27))]) _
  refine fEv.brT rfl (bT (a := 27) (by decide)) ?_
  rw [kT (a := 27) (by decide)]
  show mEv Ls xs 49 (169 + 1, [some (.ref 6)], [.ref 7, .ref 6], [.inr (0, [.ref 1, .ref 4, .ref 5, .int 0]), .inr (1, [.ref 2, .ref 3, .int (-1), .int 0]), .inl (0, 128, .inl z0), .inl (0, 32, .inl (tI 32)), .inl (1, 32, .inl z0), .inl (0, 32, .inl z0), mdN, .inl (0, 32, .inl (tI 28))]) _
  refine fEv.brT rfl (bT (a := 28) (by decide)) ?_
  rw [kT (a := 28) (by decide)]
  show mEv Ls xs 49 (175 + 1, [some (.ref 6)], [.ref 7, .ref 6], [.inr (0, [.ref 1, .ref 4, .ref 5, .int 0]), .inr (1, [.ref 2, .ref 3, .int (-1), .int 0]), .inl (0, 128, .inl z0), .inl (0, 32, .inl (tI 32)), .inl (1, 32, .inl z0), .inl (0, 32, .inl z0), mdN, .inl (0, 32, .inl (tI 29))]) _
  refine fEv.brT rfl (bT (a := 29) (by decide)) ?_
  rw [kT (a := 29) (by decide)]
  show mEv Ls xs 49 (181 + 1, [some (.ref 6)], [.ref 7, .ref 6], [.inr (0, [.ref 1, .ref 4, .ref 5, .int 0]), .inr (1, [.ref 2, .ref 3, .int (-1), .int 0]), .inl (0, 128, .inl z0), .inl (0, 32, .inl (tI 32)), .inl (1, 32, .inl z0), .inl (0, 32, .inl z0), mdN, .inl (0, 32, .inl (tI 30))]) _
  refine fEv.brT rfl (bT (a := 30) (by decide)) ?_
  rw [kT (a := 30) (by decide)]
  show mEv Ls xs 49 (187 + 1, [some (.ref 6)], [.ref 7, .ref 6], [.inr (0, [.ref 1, .ref 4, .ref 5, .int 0]), .inr (1, [.ref 2, .ref 3, .int (-1), .int 0]), .inl (0, 128, .inl z0), .inl (0, 32, .inl (tI 32)), .inl (1, 32, .inl z0), .inl (0, 32, .inl z0), mdN, .inl (0, 32, .inl (tI 31))]) _
  refine fEv.brT rfl (bT (a := 31) (by decide)) ?_
  rw [kT (a := 31) (by decide)]
  show mEv Ls xs 49 (193 + 1, [some (.ref 6)], [.ref 7, .ref 6], [.inr (0, [.ref 1, .ref 4, .ref 5, .int 0]), .inr (1, [.ref 2, .ref 3, .int (-1), .int 0]), .inl (0, 128, .inl z0), .inl (0, 32, .inl (tI 32)), .inl (1, 32, .inl z0), .inl (0, 32, .inl z0), mdN, .inl (0, 32, .inl (tI 32))]) _
  refine fEv.mk rfl ?_
  show mEv Ls xs 49 (201 + 2, [some (.ref 6)], [.ref 8, .ref 6], [.inr (0, [.ref 1, .ref 4, .ref 5, .int 0]), .inr (1, [.ref 2, .ref 3, .int (-1), .int 0]), .inl (0, 128, .inl z0), .inl (0, 32, .inl (tI 32)), .inl (1, 32, .inl z0), .inl (0, 32, .inl z0), .inr (2, [.int 0, .ref 7, .null, .int 0, .int 0, .null, .int 0, .int 0, .int 0]), .inl (0, 32, .inl (tI 32)), .inl (0, 128, .inl z0)]) _
  refine fEv.mk rfl ?_
  show mEv Ls xs 49 (214 + 2, [some (.ref 6)], [.ref 9, .ref 6], [.inr (0, [.ref 1, .ref 4, .ref 5, .int 0]), .inr (1, [.ref 2, .ref 3, .int (-1), .int 0]), .inl (0, 128, .inl z0), .inl (0, 32, .inl (tI 32)), .inl (1, 32, .inl z0), .inl (0, 32, .inl z0), .inr (2, [.int 0, .ref 7, .ref 8, .int 0, .int (-1), .null, .int 0, .int 0, .int 0]), .inl (0, 32, .inl (tI 32)), .inl (0, 128, .inl z0), .inl (1, 32, .inl z0)]) _
  exact fEv.retV rfl rfl
end LF
theorem tI_at : ∀ (n a : Nat), tI n a = if a < n then (if a = 0 then -1 else -2) else 0 := by
  intro n
  induction n with
  | zero => intro a; rw [if_neg (by omega)]; rfl
  | succ n ih =>
    intro a
    rw [tI]
    by_cases e : a = n
    · subst e
      rw [pk_us, if_pos (show a < a + 1 by omega)]
    · rw [pk_un e, ih a]
      by_cases e2 : a < n
      · rw [if_pos e2, if_pos (show a < n + 1 by omega)]
      · rw [if_neg e2, if_neg (show ¬ a < n + 1 by omega)]
/-- the new volume -/
theorem J1_0 : J1 z0 (tI 32) := by
  have d32 : ∀ p, p = 32 → dirP z0 p = true := fun p hp => by rw [hp]; exact dirP_32
  refine ⟨fun x => if x = 32 then [0] else [], fun x => x = 32, fun _ => 0, ⟨rfl, rfl⟩, ?_, ?_, ?_, ?_⟩
  · rintro p rfl
    refine ⟨Nat.zero_le _, ?_, Or.inl rfl⟩
    show (if 32 = 32 then [0] else [] : List Nat).Nodup
    rw [if_pos rfl]; exact nodup_one
  · intro p q hp hq hne
    exact absurd (hp.trans hq.symm) hne
  · rintro p rfl _
    have ec : (fun x => if x = 32 then [0] else [] : Nat → List Nat) 32 = [0] := rfl
    unfold iD
    rw [ec]
    refine ⟨⟨rfl, by decide, ?_⟩, fun z => absurd z (by decide), fun a ha => ?_, fun a ha b hb _ _ => ?_, fun z => absurd z (by decide)⟩
    · show tI 32 0 = -1
      rw [tI_at]; rfl
    · exact Or.inl rfl
    · have h1 : a = 0 := by simpa using ha
      have h2 : b = 0 := by simpa using hb
      rw [h1, h2]
  · intro p hp hd
    rw [d32 p hp] at hd; cases hd
theorem lawOk : mLawOk := by
  intro L xs hL
  have hg : Lg (Fx z0 (tI 32) (-1) 0 z0 z0 0 0 (z0, tI 32, -1, 0) z0 0 0 0 (fun _ => 0)) := ⟨z0, tI 32, -1, 0, z0, z0, 0, 0, z0, 0, 0, 0, fun _ => 0, Or.inl ⟨rfl, J1_0⟩, rfl⟩
  obtain ⟨h', kc, ks, h1, h2, h3⟩ := l_loop (xs := xs) hL 512 0 none none _ (Or.inl rfl) (Or.inl rfl) hg (by omega) (by omega)
  refine ⟨h', 1 + (5 + (1 + (3 + (1 + kc)))), 4 + (228 + (9 + (192 + (1 + ks)))), ?_, by omega, by omega⟩
  show mEv L xs 99 _ (mAdd 1 4 (mAdd 5 228 (mAdd 1 9 (mAdd 3 192 (mAdd 1 1 (.inl (some (.int 1)), h', kc, ks))))))
  refine fEv.mk rfl ?_
  show mEv L xs 99 (0 + 3, [some (.ref mSC), none, none, none, none, none, none], [.ref 0], [vN]) _
  refine fEv.callz rfl i_vol ?_
  refine fEv.mk rfl ?_
  show mEv L xs 99 (8 + 3, [some (.ref mSC), some (.ref 0), none, none, none, none, none], [.ref 6], [.inr (0, [.ref 1, .ref 4, .ref 5, .int 0]), .inr (1, [.ref 2, .ref 3, .int (-1), .int 0]), .inl (0, 128, .inl z0), .inl (0, 32, .inl (tI 32)), .inl (1, 32, .inl z0), .inl (0, 32, .inl z0), mdN]) _
  refine fEv.callz rfl i_mod ?_
  refine fEv.mk rfl ?_
  show mEv L xs 99 (17 + 2, [some (.ref mSC), some (.ref 0), some (.ref 6), none, none, none, none], [.ref 10], Fx z0 (tI 32) (-1) 0 z0 z0 0 0 (z0, tI 32, -1, 0) z0 0 0 0 (fun _ => 0)) _
  exact fEv.steps 3 rfl h1
