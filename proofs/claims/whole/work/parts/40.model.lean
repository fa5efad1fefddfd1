/-! the model's reads -/
/-- cells, table, writes left, down -/
abbrev MS : Type := (Nat → Int32) × (Nat → Int32) × Int32 × Int32
def MS.c (s : MS) : Nat → Int32 := s.1
def MS.t (s : MS) : Nat → Int32 := s.2.1
def MS.lf (s : MS) : Int32 := s.2.2.1
def MS.dn (s : MS) : Int32 := s.2.2.2
abbrev Px : Type := Nat → mC
def hM (P : Px) (T : mH) (cd : Int32) (s : MS) (mk : Nat → Int32) (hm he fr : Int32) : mH := P 0 :: P 1 :: P 2 :: P 3 :: P 4 :: P 5 :: .inr (2, [.int cd, .ref 7, .ref 8, .int (MS.dn s), .int (MS.lf s), .ref 9, .int hm, .int he, .int fr]) :: .inl (0, 32, .inl (MS.t s)) :: .inl (0, 128, .inl (MS.c s)) :: .inl (1, 32, .inl mk) :: T
theorem k4 {a : Nat} (h : a < 32) : (nI 4 * nI a).toNatClampNeg = 4 * a := by rw [pk_mul, nI_clamp (by omega)]
theorem k4i {a i : Nat} (h : a < 32) (hi : i < 4) : (nI 4 * nI a + nI i).toNatClampNeg = 4 * a + i := by rw [pk_mul, nI_add, nI_clamp (by omega)]
theorem b4 {a : Nat} (h : a < 32) : mInb (nI 4 * nI a) 128 = true := inb_of (pk_mul 4 a) (by omega) (by decide)
theorem b4i {a i : Nat} (h : a < 32) (hi : i < 4) : mInb (nI 4 * nI a + nI i) 128 = true := inb_of (j := 4 * a + i) (by rw [pk_mul, nI_add]) (by omega) (by decide)
theorem bT {a : Nat} (h : a < 32) : mInb (nI a) 32 = true := inb_of rfl h (by decide)
theorem kT {a : Nat} (h : a < 32) : (nI a).toNatClampNeg = a := nI_clamp (by omega)
def okM : Nat → Nat → Bool
  | 0, _ => true
  | k + 1, y => if y = 0 then true else if y % 16 = 0 then false else okM k (y / 16)
theorem okM_k {a b d e : Nat} (ha : a < 16) (hb : b < 16) (hd : d < 16) (he : e < 16) : okM 4 (4096 * a + 256 * b + 16 * d + e) = chkD false [a, b, d, e] := by
  have m0 : (4096 * a + 256 * b + 16 * d + e) % 16 = e := by omega
  have q0 : (4096 * a + 256 * b + 16 * d + e) / 16 = 256 * a + 16 * b + d := by omega
  have m1 : (256 * a + 16 * b + d) % 16 = d := by omega
  have q1 : (256 * a + 16 * b + d) / 16 = 16 * a + b := by omega
  have m2 : (16 * a + b) % 16 = b := by omega
  have q2 : (16 * a + b) / 16 = a := by omega
  have m3 : a % 16 = a := by omega
  simp only [okM, chkD, m0, q0, m1, q1, m2, q2, m3]
  by_cases a0 : a = 0 <;> by_cases a1 : b = 0 <;> by_cases a2 : d = 0 <;> by_cases a3 : e = 0 <;> simp [a0, a1, a2, a3] <;> omega
theorem okM_eq {p : Nat} (hp : p < 65536) : okM 4 p = okP p := by
  have h := okM_k (dg_lt p 12) (dg_lt p 8) (dg_lt p 4) (dg_lt p 0)
  have e : 4096 * dg p 12 + 256 * dg p 8 + 16 * dg p 4 + dg p 0 = p := by unfold dg; omega
  rw [e] at h
  exact h
section MR
variable {Ls : Nat} {xs : Nat → Int32} {P : Px} {T : mH} {cd hm he fr : Int32} {s : MS} {mk : Nat → Int32}
theorem m_within {a x y : Int32} {h : mH} : mEv Ls xs 53 (0, [some (.int a), some (.int x), some (.int y)], [], h) (rV (bI (decide (x ≤ a ∧ a ≤ y))) h) := by
  refine fEv.br rfl (fun h1 => ?_) (fun h1 => ?_)
  · rw [decide_eq_false (fun q => Int32.not_le.mpr h1 q.1)]
    exact fEv.retV rfl (by decide)
  · refine fEv.br rfl (fun h2 => ?_) (fun h2 => ?_)
    · rw [decide_eq_false (fun q => Int32.not_le.mpr h2 q.2)]
      exact fEv.retV rfl (by decide)
    · rw [decide_eq_true ⟨Int32.not_lt.mp h1, Int32.not_lt.mp h2⟩]
      exact fEv.retV rfl (by decide)
theorem me_loop {f nm : Int32} : ∀ (l : List Nat) (x : Int32), Chain (MS.t s) x l → mEv Ls xs 55 (2, [some (.ref 6), some (.int f), some (.int nm), some (.int x)], [], hM P T cd s mk hm he fr) (rV (lkI (MS.c s) nm l) (hM P T cd s mk hm he fr)) := by
  intro l
  induction l with
  | nil =>
    intro x hx
    have hx : x = -1 := hx
    subst hx
    refine fEv.brT rfl (by decide) ?_
    refine fEv.brF rfl (by decide) ?_
    exact fEv.retV rfl rfl
  | cons a l ih =>
    intro x hx
    obtain ⟨rfl, ha, hc⟩ := hx
    refine fEv.brF rfl (decide_eq_false (nI_pos (by omega))) ?_
    refine fEv.brT rfl (b4 ha) ?_
    rw [k4 ha]
    refine fEv.br rfl (fun h1 => ?_) (fun h1 => ?_)
    · have : lkI (MS.c s) nm (a :: l) = nI a := by rw [lkI, if_pos h1]
      rw [this]
      refine fEv.brT rfl (decide_eq_true (nI_pos' (by omega))) ?_
      exact fEv.retV rfl rfl
    · have : lkI (MS.c s) nm (a :: l) = lkI (MS.c s) nm l := by rw [lkI, if_neg h1]
      rw [this]
      refine fEv.brT rfl (bT ha) ?_
      rw [kT ha]
      exact fEv.steps 2 rfl (ih ((MS.t s) a) hc)
theorem m_entryIn {x nm : Int32} {l : List Nat} (hc : Chain (MS.t s) x l) : mEv Ls xs 55 (0, [some (.ref 6), some (.int x), some (.int nm), none], [], (hM P T cd s mk hm he fr)) (rV (lkI (MS.c s) nm l) (hM P T cd s mk hm he fr)) := fEv.steps 2 rfl (me_loop l x hc)
theorem m_isDir {a : Nat} (ha : a < 32) : mEv Ls xs 56 (0, [some (.ref 6), some (.int (nI a))], [], (hM P T cd s mk hm he fr)) (rV (bI (dirP (MS.c s) a)) (hM P T cd s mk hm he fr)) := by
  refine fEv.brF rfl (decide_eq_false (nI_ne1 ha)) ?_
  refine fEv.brT rfl (b4i ha (i := 1) (by decide)) ?_
  rw [k4i ha (by decide)]
  refine fEv.br rfl (fun h1 => ?_) (fun h1 => ?_)
  · have : dirP (MS.c s) a = false := by unfold dirP; rw [decide_eq_false (by omega), decide_eq_false h1]; rfl
    rw [this]
    exact fEv.retV rfl (by decide)
  · have : dirP (MS.c s) a = true := by unfold dirP; rw [decide_eq_true (Decidable.of_not_not h1)]; simp
    rw [this]
    exact fEv.retV rfl (by decide)
theorem m_isDirR : mEv Ls xs 56 (0, [some (.ref 6), some (.int (-1))], [], (hM P T cd s mk hm he fr)) (rV 1 (hM P T cd s mk hm he fr)) := by
  refine fEv.brT rfl (by decide) ?_
  exact fEv.retV rfl (by decide)
theorem mt_loop {j : Nat} (hj : j < 32) (hf : (MS.t s) j = -2) (hmn : ∀ i, i < j → ¬ (MS.t s) i = -2) : ∀ (m i : Nat), i + m = j → mEv Ls xs 57 (2, [some (.ref 6), some (.int (nI i))], [], hM P T cd s mk hm he fr) (rV (nI j) (hM P T cd s mk hm he fr)) := by
  intro m
  induction m with
  | zero =>
    intro i hi
    have hi : i = j := hi
    subst hi
    refine fEv.brF rfl (decide_eq_false (nI_ge (b := 32) hj (by decide))) ?_
    refine fEv.brT rfl (bT hj) ?_
    rw [kT hj, hf]
    refine fEv.brT rfl (by decide) ?_
    refine fEv.brT rfl (decide_eq_true (nI_neq (b := 32) (by omega) (by omega) (by decide))) ?_
    exact fEv.retV rfl rfl
  | succ m ih =>
    intro i hi
    refine fEv.brF rfl (decide_eq_false (nI_ge (a := i) (b := 32) (by omega) (by decide))) ?_
    refine fEv.brT rfl (bT (a := i) (by omega)) ?_
    rw [kT (by omega)]
    refine fEv.brF rfl (decide_eq_false (hmn i (by omega))) ?_
    have h2 := ih (i + 1) (by omega)
    rw [← nI_add] at h2
    exact fEv.steps 2 rfl h2
theorem m_taken {j : Nat} (hj : j < 32) (hf : (MS.t s) j = -2) (hmn : ∀ i, i < j → ¬ (MS.t s) i = -2) : mEv Ls xs 57 (0, [some (.ref 6), none], [], (hM P T cd s mk hm he fr)) (rV (nI j) (hM P T cd s mk hm he fr)) := fEv.steps 2 rfl (mt_loop hj hf hmn j 0 (by omega))
theorem mtn_loop (hmn : ∀ i, i < 32 → ¬ (MS.t s) i = -2) : ∀ (m i : Nat), i + m = 32 → mEv Ls xs 57 (2, [some (.ref 6), some (.int (nI i))], [], hM P T cd s mk hm he fr) (rV (-1) (hM P T cd s mk hm he fr)) := by
  intro m
  induction m with
  | zero =>
    intro i hi
    have hi : i = 32 := hi
    subst hi
    refine fEv.brT rfl (by decide) ?_
    refine fEv.brF rfl (by decide) ?_
    exact fEv.retV rfl rfl
  | succ m ih =>
    intro i hi
    refine fEv.brF rfl (decide_eq_false (nI_ge (a := i) (b := 32) (by omega) (by decide))) ?_
    refine fEv.brT rfl (bT (a := i) (by omega)) ?_
    rw [kT (by omega)]
    refine fEv.brF rfl (decide_eq_false (hmn i (by omega))) ?_
    have h2 := ih (i + 1) (by omega)
    rw [← nI_add] at h2
    exact fEv.steps 2 rfl h2
theorem m_takenN (hmn : ∀ i, i < 32 → ¬ (MS.t s) i = -2) : mEv Ls xs 57 (0, [some (.ref 6), none], [], (hM P T cd s mk hm he fr)) (rV (-1) (hM P T cd s mk hm he fr)) := fEv.steps 2 rfl (mtn_loop hmn 32 0 (by omega))
theorem ml_loop {f : Int32} : ∀ (l : List Nat) (a : Nat), a < 32 → Chain (MS.t s) ((MS.t s) a) l → mEv Ls xs 61 (2, [some (.ref 6), some (.int f), some (.int (nI a))], [], hM P T cd s mk hm he fr) (rV (nI (lastI a l)) (hM P T cd s mk hm he fr)) := by
  intro l
  induction l with
  | nil =>
    intro a ha hx
    have hx : (MS.t s) a = -1 := hx
    refine fEv.brF rfl (decide_eq_false (nI_pos (by omega))) ?_
    refine fEv.brT rfl (bT ha) ?_
    rw [kT ha, hx]
    refine fEv.brT rfl (by decide) ?_
    exact fEv.retV rfl rfl
  | cons b l ih =>
    intro a ha hx
    obtain ⟨h0, hb, hc⟩ := hx
    refine fEv.brF rfl (decide_eq_false (nI_pos (by omega))) ?_
    refine fEv.brT rfl (bT ha) ?_
    rw [kT ha, h0]
    refine fEv.brF rfl (decide_eq_false (nI_pos (by omega))) ?_
    refine fEv.brT rfl (bT ha) ?_
    rw [kT ha, h0]
    exact fEv.steps 2 rfl (ih b hb hc)
theorem m_lastOf {a : Nat} {l : List Nat} (ha : a < 32) (hc : Chain (MS.t s) ((MS.t s) a) l) : mEv Ls xs 61 (0, [some (.ref 6), some (.int (nI a)), none], [], (hM P T cd s mk hm he fr)) (rV (nI (lastI a l)) (hM P T cd s mk hm he fr)) := fEv.steps 2 rfl (ml_loop l a ha hc)
theorem m_lastOfN : mEv Ls xs 61 (0, [some (.ref 6), some (.int (-1)), none], [], (hM P T cd s mk hm he fr)) (rV (-1) (hM P T cd s mk hm he fr)) := by
  refine fEv.brT rfl (by decide) ?_
  exact fEv.retV rfl rfl
/-- the model's names: named ones alone, added -/
def nmsM (c : Nat → Int32) (z : Int32) (l : List Nat) : Int32 :=
  match l with
  | [] => z
  | a :: l => nmsM c (if c (4 * a) ≤ 0 then z else z + (nI 1 <<< (c (4 * a) &&& 31))) l
theorem mn_loop {f : Int32} : ∀ (l : List Nat) (x z : Int32), Chain (MS.t s) x l → mEv Ls xs 66 (4, [some (.ref 6), some (.int f), some (.int z), some (.int x)], [], hM P T cd s mk hm he fr) (rV (nmsM (MS.c s) z l) (hM P T cd s mk hm he fr)) := by
  intro l
  induction l with
  | nil =>
    intro x z hx
    have hx : x = -1 := hx
    subst hx
    refine fEv.brT rfl (by decide) ?_
    exact fEv.retV rfl rfl
  | cons a l ih =>
    intro x z hx
    obtain ⟨rfl, ha, hc⟩ := hx
    refine fEv.brF rfl (decide_eq_false (nI_pos (by omega))) ?_
    refine fEv.brT rfl (b4 ha) ?_
    rw [k4 ha]
    have h2 := ih ((MS.t s) a) (if (MS.c s) (4 * a) ≤ 0 then z else z + (nI 1 <<< ((MS.c s) (4 * a) &&& 31))) hc
    rw [nmsM]
    refine fEv.br rfl (fun h1 => ?_) (fun h1 => ?_)
    · rw [if_pos h1] at h2 ⊢
      refine fEv.brT rfl (bT ha) ?_
      rw [kT ha]
      exact fEv.steps 2 rfl h2
    · rw [if_neg h1] at h2 ⊢
      refine fEv.brT rfl (b4 ha) ?_
      rw [k4 ha]
      refine fEv.brT rfl (bT ha) ?_
      rw [kT ha]
      exact fEv.steps 2 rfl h2
theorem m_namesIn {x : Int32} {l : List Nat} (hc : Chain (MS.t s) x l) : mEv Ls xs 66 (0, [some (.ref 6), some (.int x), none, none], [], (hM P T cd s mk hm he fr)) (rV (nmsM (MS.c s) (nI 0) l) (hM P T cd s mk hm he fr)) := fEv.steps 4 rfl (mn_loop l x _ hc)
theorem mc_loop {f : Int32} {q : Nat} (hq : q < 1000) : ∀ (m i : Nat) (x : Int32) (l : List Nat), i + m = q → Chain (MS.t s) x l → m < l.length → mEv Ls xs 74 (5, [some (.ref 6), some (.int f), some (.int (nI q)), some (.int x), some (.int (nI i))], [], hM P T cd s mk hm he fr) (rV (nI (l.getD m 0)) (hM P T cd s mk hm he fr)) := by
  intro m
  induction m with
  | zero =>
    intro i x l hi hc hl
    have hi : i = q := hi
    subst hi
    cases l with
    | nil => cases hl
    | cons a l =>
      obtain ⟨rfl, ha, hc⟩ := hc
      refine fEv.brT rfl (decide_eq_true (Int32.le_refl _)) ?_
      exact fEv.retV rfl rfl
  | succ m ih =>
    intro i x l hi hc hl
    cases l with
    | nil => cases hl
    | cons a l =>
      obtain ⟨rfl, ha, hc⟩ := hc
      refine fEv.brF rfl (decide_eq_false (nI_ge (by omega) (by omega))) ?_
      refine fEv.brT rfl (bT ha) ?_
      rw [kT ha]
      have h2 := ih (i + 1) ((MS.t s) a) l (by omega) hc (by simpa using hl)
      rw [← nI_add] at h2
      exact fEv.steps 3 rfl h2
theorem m_clusterOf {x : Int32} {q : Nat} {l : List Nat} (hq : q < 1000) (hc : Chain (MS.t s) x l) (hl : q < l.length) : mEv Ls xs 74 (0, [some (.ref 6), some (.int x), some (.int (nI q)), none, none], [], (hM P T cd s mk hm he fr)) (rV (nI (l.getD q 0)) (hM P T cd s mk hm he fr)) := fEv.steps 4 rfl (mc_loop hq q 0 x l (by omega) hc hl)
theorem mi_loop {f : Int32} {h : mH} : ∀ (k y : Nat), y < 16 ^ k → y < 65536 → mEv Ls xs 52 (10, [some (.int f), some (.int (nI 1)), some (.int (nI y))], [], h) (rV (bI (okM k y)) h) := by
  intro k
  induction k with
  | zero =>
    intro y hy _
    have : y = 0 := by simpa using hy
    subst this
    refine fEv.brT rfl (by decide) ?_
    exact fEv.retV rfl (by decide)
  | succ k ih =>
    intro y hy hy2
    unfold okM
    by_cases h0 : y = 0
    · subst h0
      rw [if_pos rfl]
      refine fEv.brT rfl (by decide) ?_
      exact fEv.retV rfl (by decide)
    · rw [if_neg h0]
      refine fEv.brF rfl (decide_eq_false (nI_nle (by omega) (by omega))) ?_
      refine fEv.brF rfl (by decide) ?_
      have e1 : nI y >>> (nI 4 &&& 31) = nI (y / 16) := sh16 hy2
      have e2 := an15 hy2
      by_cases h1 : y % 16 = 0
      · rw [if_pos h1]
        refine fEv.brT rfl (decide_eq_true (by show nI y &&& nI 15 = 0; rw [e2, h1]; rfl)) ?_
        refine fEv.br rfl (fun h => ?_) (fun h => ?_)
        · exact fEv.retV rfl (by decide)
        · refine fEv.brT rfl (by decide) ?_
          exact fEv.retV rfl (by decide)
      · rw [if_neg h1]
        refine fEv.brF rfl (decide_eq_false (by show ¬ nI y &&& nI 15 = 0; rw [e2]; exact nI_ne0 (by omega) (by omega))) ?_
        have h3 := ih (y / 16) (by rw [Nat.pow_succ] at hy; omega) (by omega)
        rw [← e1] at h3
        exact fEv.steps 8 rfl h3
theorem m_isPath {p : Nat} {h : mH} (hp : p < 65536) : mEv Ls xs 52 (0, [some (.int (nI p)), none, none], [], h) (rV (bI (okP p)) h) := by
  refine fEv.calli rfl m_within ?_
  rw [decide_eq_true (⟨nI_pos' (by omega), nI_le (b := 65535) (by omega) (by decide)⟩ : nI 0 ≤ nI p ∧ nI p ≤ nI 65535), ← okM_eq hp]
  exact fEv.steps 3 rfl (mi_loop 4 p hp hp)
theorem m_isPathX {a : Int32} {h : mH} (ha : a < 0 ∨ nI 65535 < a) : mEv Ls xs 52 (0, [some (.int a), none, none], [], h) (rV 0 h) := by
  refine fEv.calli rfl m_within ?_
  rw [decide_eq_false (by
    rintro ⟨h1, h2⟩
    rcases ha with ha | ha
    · exact Int32.not_lt.mpr h1 ha
    · exact Int32.not_lt.mpr h2 ha : ¬ (nI 0 ≤ a ∧ a ≤ nI 65535))]
  refine fEv.br rfl (fun h => ?_) (fun h => ?_)
  · exact fEv.retV rfl (by decide)
  · refine fEv.brT rfl (by decide) ?_
    exact fEv.retV rfl (by decide)
theorem m_bad {a : Int32} {h : mH} (hb : badP a) : mEv Ls xs 52 (0, [some (.int a), none, none], [], h) (rV 0 h) := by
  rcases hb with hb | ⟨p, hp, rfl, ho⟩
  · exact m_isPathX hb
  · have := m_isPath (Ls := Ls) (xs := xs) (h := h) hp
    rwa [ho] at this
theorem m_good {p : Nat} {h : mH} (hp : p < 65536) (ho : okP p = true) : mEv Ls xs 52 (0, [some (.int (nI p)), none, none], [], h) (rV 1 h) := by
  have := m_isPath (Ls := Ls) (xs := xs) (h := h) hp
  rwa [ho] at this
end MR
