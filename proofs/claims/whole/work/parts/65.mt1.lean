/-! the check after a loss of power: mathematics -/
def lastL : List Nat → List Nat
  | [] => []
  | [a] => [a]
  | _ :: b :: l => lastL (b :: l)
def tL (t : Nat → Int32) (C : List Nat) : Nat → Int32 := fun a => if a ∈ C then -1 else t a
def mL (m : Nat → Int32) (C : List Nat) : Nat → Int32 := fun a => if a ∈ C then 1 else m a
theorem tL_nil {t : Nat → Int32} : tL t [] = t := by
  funext a; unfold tL; rw [if_neg (by intro h; cases h)]
theorem mL_nil {t : Nat → Int32} : mL t [] = t := by
  funext a; unfold mL; rw [if_neg (by intro h; cases h)]
theorem tL_app {t : Nat → Int32} {C D : List Nat} : tL (tL t C) D = tL t (C ++ D) := by
  funext a
  unfold tL
  by_cases h1 : a ∈ D
  · rw [if_pos h1, if_pos (List.mem_append.mpr (Or.inr h1))]
  · rw [if_neg h1]
    by_cases h2 : a ∈ C
    · rw [if_pos h2, if_pos (List.mem_append.mpr (Or.inl h2))]
    · rw [if_neg h2, if_neg (fun h => (List.mem_append.mp h).elim h2 h1)]
theorem mL_app {t : Nat → Int32} {C D : List Nat} : mL (mL t C) D = mL t (C ++ D) := by
  funext a
  unfold mL
  by_cases h1 : a ∈ D
  · rw [if_pos h1, if_pos (List.mem_append.mpr (Or.inr h1))]
  · rw [if_neg h1]
    by_cases h2 : a ∈ C
    · rw [if_pos h2, if_pos (List.mem_append.mpr (Or.inl h2))]
    · rw [if_neg h2, if_neg (fun h => (List.mem_append.mp h).elim h2 h1)]
theorem tL_one {t : Nat → Int32} {a : Nat} : upd t a (-1) = tL t [a] := by
  funext x
  unfold tL
  by_cases h : x = a
  · subst h; rw [pk_us, if_pos List.mem_cons_self]
  · rw [pk_un h, if_neg (by simpa using h)]
theorem mL_one {t : Nat → Int32} {a : Nat} : upd t a 1 = mL t [a] := by
  funext x
  unfold mL
  by_cases h : x = a
  · subst h; rw [pk_us, if_pos List.mem_cons_self]
  · rw [pk_un h, if_neg (by simpa using h)]
theorem tL_in {t : Nat → Int32} {C : List Nat} {a : Nat} (h : a ∈ C) : tL t C a = -1 := if_pos h
theorem tL_out {t : Nat → Int32} {C : List Nat} {a : Nat} (h : a ∉ C) : tL t C a = t a := if_neg h
theorem lastL_sub : ∀ (l : List Nat), ∀ a ∈ lastL l, a ∈ l
  | [], a, h => h
  | [_], a, h => h
  | _ :: b :: l, a, h => List.mem_cons_of_mem _ (lastL_sub (b :: l) a h)
theorem lastL_take : ∀ (l : List Nat) (k : Nat), k < l.length → lastL (l.take (k + 1)) = [l.getD k 0] := by
  intro l
  induction l with
  | nil => intro k h; cases h
  | cons a l ih =>
    intro k h
    cases k with
    | zero => rfl
    | succ k =>
      cases l with
      | nil => simp at h
      | cons b l =>
        have := ih k (by simpa using h)
        exact this
/-- a chain's beginning -/
def Pf (t : Nat → Int32) : Int32 → List Nat → Prop
  | _, [] => True
  | x, a :: l => x = nI a ∧ a < 32 ∧ Pf t (t a) l
theorem Pf_take {t : Nat → Int32} : ∀ (k : Nat) (l : List Nat) (x : Int32), Chain t x l → Pf t x (l.take k) := by
  intro k
  induction k with
  | zero => intro l x _; exact trivial
  | succ k ih =>
    intro l x h
    cases l with
    | nil => exact trivial
    | cons a l => exact ⟨h.1, h.2.1, ih l _ h.2.2⟩
theorem Pf_tL {t : Nat → Int32} {C : List Nat} : ∀ (K : List Nat) (x : Int32), Pf t x K → K.Nodup → (∀ a ∈ K, a ∈ C → a ∈ lastL K) → Pf (tL t C) x K
  | [], _, _, _, _ => trivial
  | [a], _, h, _, _ => ⟨h.1, h.2.1, trivial⟩
  | a :: b :: K, x, h, hn, hc => by
    obtain ⟨n1, n2⟩ := List.nodup_cons.mp hn
    have ha : a ∉ C := fun z => n1 (lastL_sub (b :: K) a (hc a List.mem_cons_self z))
    refine ⟨h.1, h.2.1, ?_⟩
    rw [tL_out ha]
    exact Pf_tL (b :: K) _ h.2.2 n2 (fun y hy hy2 => hc y (List.mem_cons_of_mem _ hy) hy2)
theorem take_nodup {l : List Nat} {k : Nat} (h : l.Nodup) : (l.take k).Nodup := by
  have h2 : (l.take k ++ l.drop k).Nodup := by rw [List.take_append_drop]; exact h
  exact (List.nodup_append.mp h2).1
section MM
variable (c : Nat → Int32) (ch : Nat → List Nat)
def lnF (x : Nat) : Nat := (c (4 * x + 3)).toNatClampNeg
abbrev fiF (x : Nat) : Prop := ¬ c (4 * x) = nI 0 ∧ c (4 * x + 1) = nI 1
def kF (x : Nat) : List Nat := if fiF c x then (ch x).take ((lnF c x + 3) / 4) else []
def cF (x : Nat) : List Nat := lastL (kF c ch x)
abbrev diF (x : Nat) : Prop := ¬ c (4 * x) = nI 0 ∧ c (4 * x + 1) = nI 2
def bF (x : Nat) : List Nat := if diF c x then ch x else []
def cov (N : List Nat) : List Nat := N.flatMap fun x => x :: kF c ch x
def cut (N : List Nat) : List Nat := N.flatMap (cF c ch)
def vis : Nat → Nat → List Nat
  | 0, x => [x]
  | d + 1, x => x :: (bF c ch x).flatMap (vis d)
end MM
def Vx (c : Nat → Int32) (ch : Nat → List Nat) (R : Nat → Prop) (x : Nat) : Prop := ∃ p, R p ∧ dirP c p = true ∧ x ∈ ch p
section MV
variable {u : Prop} {c t : Nat → Int32} {ch : Nat → List Nat} {R : Nat → Prop} {lv : Nat → Nat}
theorem dirP_lt {x : Nat} (hx : x < 32) : dirP c x = decide (c (4 * x + 1) = nI 2) := by
  unfold dirP
  rw [decide_eq_false (show ¬ x = 32 by omega)]
  rfl
theorem Vx.lt (h : Inv u c t ch R lv) {x : Nat} (hx : Vx c ch R x) : x < 32 := by
  obtain ⟨p, h1, _, h3⟩ := hx
  exact h.lt h1 h3
/-- an entry's place: empty, a file, a directory -/
theorem Vx.cases (h : Inv u c t ch R lv) {x : Nat} (hx : Vx c ch R x) : c (4 * x) = nI 0 ∨ (∃ d, 1 ≤ d ∧ d ≤ 15 ∧ c (4 * x) = nI d ∧ R x ∧ ((c (4 * x + 1) = nI 1 ∧ dirP c x = false ∧ fiF c x ∧ ¬ diF c x) ∨ (c (4 * x + 1) = nI 2 ∧ dirP c x = true ∧ diF c x ∧ ¬ fiF c x))) := by
  have hx3 := hx.lt h
  obtain ⟨p, h1, h2, h3⟩ := hx
  rcases (h.2.2.2.1 p h1 h2).2.2.1 x h3 with e | ⟨⟨d, d1, d2, d3⟩, e1, e2, e3⟩
  · exact Or.inl e
  · refine Or.inr ⟨d, d1, d2, d3, e1, ?_⟩
    have n0 : ¬ c (4 * x) = nI 0 := by
      rw [d3]; intro z; have := (nI_eq (by omega) (by decide)).mp z; omega
    rcases e3 with e3 | e3
    · refine Or.inl ⟨e3, ?_, ⟨n0, e3⟩, fun z => ?_⟩
      · rw [dirP_lt hx3, e3]; decide
      · exact absurd (e3.symm.trans z.2) (by decide)
    · refine Or.inr ⟨e3, ?_, ⟨n0, e3⟩, fun z => ?_⟩
      · rw [dirP_lt hx3, e3]; decide
      · exact absurd (e3.symm.trans z.2) (by decide)
theorem fi_R (h : Inv u c t ch R lv) {x : Nat} (hx : Vx c ch R x) (hf : fiF c x) : R x ∧ dirP c x = false := by
  rcases hx.cases h with e | ⟨d, -, -, -, e1, e | e⟩
  · exact absurd e hf.1
  · exact ⟨e1, e.2.1⟩
  · exact absurd hf e.2.2.2
theorem di_R (h : Inv u c t ch R lv) {x : Nat} (hx : Vx c ch R x) (hf : diF c x) : R x ∧ dirP c x = true := by
  rcases hx.cases h with e | ⟨d, -, -, -, e1, e | e⟩
  · exact absurd e hf.1
  · exact absurd hf e.2.2.2
  · exact ⟨e1, e.2.1⟩
/-- a file's facts -/
theorem fi_all (h : Inv u c t ch R lv) {x : Nat} (hx : R x) (hd : dirP c x = false) : c (4 * x + 3) = nI (lnF c x) ∧ lnF c x ≤ 128 ∧ (lnF c x + 3) / 4 ≤ (ch x).length ∧ (lnF c x = 0 → ch x = []) ∧ Chain t (c (4 * x + 2)) (ch x) ∧ (ch x).Nodup := by
  obtain ⟨h1, len, h2, h3, h4, -⟩ := h.2.2.2.2 x hx hd
  have hl := h.len hx
  have e : lnF c x = len := by unfold lnF; rw [h2, nI_clamp (by omega)]
  rw [e]
  exact ⟨h2, by omega, by omega, h4, h1, (h.2.1 x hx).2.1⟩
theorem kF_sub (h : Inv u c t ch R lv) {x : Nat} (hx : Vx c ch R x) {a : Nat} (ha : a ∈ kF c ch x) : R x ∧ dirP c x = false ∧ a ∈ ch x := by
  unfold kF at ha
  split at ha
  · rename_i hf
    obtain ⟨h1, h2⟩ := fi_R h hx hf
    exact ⟨h1, h2, List.mem_of_mem_take ha⟩
  · cases ha
theorem cut_mem {N : List Nat} {a : Nat} : a ∈ cut c ch N ↔ ∃ x ∈ N, a ∈ cF c ch x := List.mem_flatMap
theorem cov_mem {N : List Nat} {a : Nat} : a ∈ cov c ch N ↔ ∃ x ∈ N, a ∈ x :: kF c ch x := List.mem_flatMap
/-- directories' chains are not cut -/
theorem cut_dir (h : Inv u c t ch R lv) {N : List Nat} (hN : ∀ x ∈ N, Vx c ch R x) {p a : Nat} (hp : R p) (hd : dirP c p = true) (ha : a ∈ ch p) : a ∉ cut c ch N := by
  intro hc
  obtain ⟨x, hx, hc⟩ := cut_mem.mp hc
  obtain ⟨h1, h2, h3⟩ := kF_sub h (hN x hx) (lastL_sub _ a hc)
  exact h.2.2.1 p x hp h1 (by intro z; rw [z, h2] at hd; cases hd) a ha h3
theorem cut_fil (h : Inv u c t ch R lv) {N : List Nat} (hN : ∀ x ∈ N, Vx c ch R x) {p a : Nat} (hp : R p) (ha : a ∈ ch p) (hc : a ∈ cut c ch N) : p ∈ N ∧ a ∈ cF c ch p := by
  obtain ⟨x, hx, hc⟩ := cut_mem.mp hc
  obtain ⟨h1, h2, h3⟩ := kF_sub h (hN x hx) (lastL_sub _ a hc)
  by_cases e : p = x
  · rw [e]; exact ⟨hx, hc⟩
  · exact absurd h3 (h.2.2.1 p x hp h1 e a ha)
theorem tN_dir (h : Inv u c t ch R lv) {N : List Nat} (hN : ∀ x ∈ N, Vx c ch R x) {x : Nat} (hx : Vx c ch R x) : tL t (cut c ch N) x = t x := by
  obtain ⟨p, h1, h2, h3⟩ := hx
  exact tL_out (cut_dir h hN h1 h2 h3)
theorem kF_Pf (h : Inv u c t ch R lv) {N : List Nat} (hN : ∀ x ∈ N, Vx c ch R x) {x : Nat} (hx : Vx c ch R x) : Pf (tL t (cut c ch N)) (c (4 * x + 2)) (kF c ch x) := by
  by_cases hf : fiF c x
  · obtain ⟨h1, h2⟩ := fi_R h hx hf
    obtain ⟨-, -, -, -, f5, f6⟩ := fi_all h h1 h2
    have e : kF c ch x = (ch x).take ((lnF c x + 3) / 4) := if_pos hf
    refine Pf_tL _ _ (by rw [e]; exact Pf_take _ _ _ f5) (by rw [e]; exact take_nodup f6) (fun a ha hc => ?_)
    exact (cut_fil h hN h1 (kF_sub h hx ha).2.2 hc).2
  · have e : kF c ch x = [] := if_neg hf
    rw [e]; exact trivial
/-- two rows that name the same entries -/
theorem cov_congr {N N' : List Nat} (h : ∀ x, x ∈ N ↔ x ∈ N') (a : Nat) : a ∈ cov c ch N ↔ a ∈ cov c ch N' := by
  rw [cov_mem, cov_mem]
  exact ⟨fun ⟨x, h1, h2⟩ => ⟨x, (h x).mp h1, h2⟩, fun ⟨x, h1, h2⟩ => ⟨x, (h x).mpr h1, h2⟩⟩
theorem cut_congr {N N' : List Nat} (h : ∀ x, x ∈ N ↔ x ∈ N') : tL t (cut c ch N) = tL t (cut c ch N') := by
  funext a
  have : a ∈ cut c ch N ↔ a ∈ cut c ch N' := by
    rw [cut_mem, cut_mem]
    exact ⟨fun ⟨x, h1, h2⟩ => ⟨x, (h x).mp h1, h2⟩, fun ⟨x, h1, h2⟩ => ⟨x, (h x).mpr h1, h2⟩⟩
  unfold tL
  by_cases e : a ∈ cut c ch N
  · rw [if_pos e, if_pos (this.mp e)]
  · rw [if_neg e, if_neg (fun z => e (this.mpr z))]
/-- what the model goes through -/
theorem bF_V (h : Inv u c t ch R lv) {x : Nat} (hx : Vx c ch R x) : ∀ y ∈ bF c ch x, Vx c ch R y := by
  intro y hy
  unfold bF at hy
  split at hy
  · rename_i hd
    obtain ⟨h1, h2⟩ := di_R h hx hd
    exact ⟨x, h1, h2, hy⟩
  · cases hy
theorem vis_V (h : Inv u c t ch R lv) : ∀ (d x : Nat), Vx c ch R x → ∀ y ∈ vis c ch d x, Vx c ch R y := by
  intro d
  induction d with
  | zero =>
    intro x hx y hy
    have : y = x := by simpa [vis] using hy
    exact this ▸ hx
  | succ d ih =>
    intro x hx y hy
    rw [vis] at hy
    rcases List.mem_cons.mp hy with rfl | hy
    · exact hx
    · obtain ⟨z, hz, hy⟩ := List.mem_flatMap.mp hy
      exact ih z (bF_V h hx z hz) y hy
theorem flat_V (h : Inv u c t ch R lv) {d : Nat} {l : List Nat} (hl : ∀ x ∈ l, Vx c ch R x) : ∀ y ∈ l.flatMap (vis c ch d), Vx c ch R y := by
  intro y hy
  obtain ⟨z, hz, hy⟩ := List.mem_flatMap.mp hy
  exact vis_V h d z (hl z hz) y hy
theorem vis_self {d x : Nat} : x ∈ vis c ch d x := by
  cases d <;> exact List.mem_cons_self
/-- a parent is a level above -/
theorem up_lv (h : Inv u c t ch R lv) {p : Nat} (hp : R p) (h3 : p ≠ 32) : ∃ q, R q ∧ dirP c q = true ∧ p ∈ ch q ∧ lv p = lv q + 1 ∧ ¬ c (4 * p) = nI 0 := by
  rcases (h.2.1 p hp).2.2 with e | ⟨-, q, h1, h2, h4, h5⟩
  · exact absurd e h3
  · rcases (h.2.2.2.1 q h1 h2).2.2.1 p h4 with e | ⟨-, -, e, -⟩
    · exact absurd e h5
    · exact ⟨q, h1, h2, h4, e, h5⟩
theorem R_di (h : Inv u c t ch R lv) {p : Nat} (hp : R p) (h3 : p ≠ 32) (hd : dirP c p = true) : diF c p := by
  obtain ⟨q, h1, h2, h4, -, h5⟩ := up_lv h hp h3
  rcases Vx.cases h (x := p) ⟨q, h1, h2, h4⟩ with e | ⟨d, -, -, -, -, e | e⟩
  · exact absurd e h5
  · rw [e.2.1] at hd; cases hd
  · exact e.2.2.1
theorem lv_0 (h : Inv u c t ch R lv) {p : Nat} (hp : R p) (h0 : lv p = 0) : p = 32 := by
  by_cases e : p = 32
  · exact e
  · obtain ⟨q, -, -, -, h1, -⟩ := up_lv h hp e
    omega
/-- everything that is reached lies in the model's row -/
theorem vis_all (h : Inv u c t ch R lv) : ∀ (n p : Nat), R p → dirP c p = true → lv p = n → n ≤ 3 → ∀ x ∈ ch p, (n = 0 → x ∈ ch 32) ∧ ∀ d, 3 = d + n → ∃ y ∈ ch 32, ∀ z ∈ vis c ch d x, z ∈ vis c ch 3 y := by
  intro n
  induction n with
  | zero =>
    intro p hp hd hl _ x hx
    have := lv_0 h hp hl
    subst this
    refine ⟨fun _ => hx, fun d hd3 => ⟨x, hx, fun z hz => ?_⟩⟩
    have : d = 3 := by omega
    subst this
    exact hz
  | succ n ih =>
    intro p hp hd hl hn x hx
    refine ⟨fun z => by omega, fun d hd3 => ?_⟩
    have hp3 : p ≠ 32 := by intro e; rw [e, h.1.2] at hl; omega
    obtain ⟨q, h1, h2, h4, h5, -⟩ := up_lv h hp hp3
    obtain ⟨y, hy, hsub⟩ := (ih q h1 h2 (by omega) (by omega) p h4).2 (d + 1) (by omega)
    refine ⟨y, hy, fun z hz => hsub z ?_⟩
    rw [vis]
    refine List.mem_cons_of_mem _ (List.mem_flatMap.mpr ⟨x, ?_, hz⟩)
    unfold bF
    rw [if_pos (R_di h hp hp3 hd)]
    exact hx
theorem vis_row (h : Inv u c t ch R lv) (x : Nat) : x ∈ (ch 32).flatMap (vis c ch 3) ↔ Vx c ch R x := by
  constructor
  · exact flat_V h (fun y hy => ⟨32, h.r32, dirP_32, hy⟩) x
  · rintro ⟨p, h1, h2, h3⟩
    have hl : lv p ≤ 3 := by
      have := (h.2.1 p h1).1
      by_cases e : lv p = 4
      · rw [(h.2.2.2.1 p h1 h2).2.1 e] at h3; cases h3
      · omega
    obtain ⟨y, hy, hs⟩ := (vis_all h (lv p) p h1 h2 rfl hl x h3).2 (3 - lv p) (by omega)
    exact List.mem_flatMap.mpr ⟨y, hy, hs x vis_self⟩
end MV
/-- the last sweep -/
def sw (m t : Nat → Int32) : Nat → (Nat → Int32) × Nat
  | 0 => (t, 0)
  | i + 1 => if m i = 0 ∧ ¬ (sw m t i).1 i = -2 then (upd (sw m t i).1 i (-2), (sw m t i).2 + 1) else sw m t i
theorem sw_congr {m m' t : Nat → Int32} : ∀ n, (∀ i, i < n → (m i = 0 ↔ m' i = 0)) → sw m t n = sw m' t n := by
  intro n
  induction n with
  | zero => intro _; rfl
  | succ n ih =>
    intro h
    have h1 := ih (fun i hi => h i (by omega))
    rw [sw, sw, ← h1]
    have h2 := h n (by omega)
    by_cases e : m n = 0 ∧ ¬ (sw m t n).1 n = -2
    · rw [if_pos e, if_pos ⟨h2.mp e.1, e.2⟩]
    · rw [if_neg e, if_neg (fun z => e ⟨h2.mpr z.1, z.2⟩)]
theorem sw_le {m t : Nat → Int32} : ∀ n, (sw m t n).2 ≤ n := by
  intro n
  induction n with
  | zero => exact Nat.le_refl _
  | succ n ih =>
    rw [sw]
    split
    · show (sw m t n).2 + 1 ≤ n + 1
      omega
    · omega
theorem sw_at {m t : Nat → Int32} : ∀ n a, (sw m t n).1 a = if a < n ∧ m a = 0 then -2 else t a := by
  intro n
  induction n with
  | zero => intro a; rw [if_neg (by omega)]; rfl
  | succ n ih =>
    intro a
    rw [sw]
    by_cases e : m n = 0 ∧ ¬ (sw m t n).1 n = -2
    · rw [if_pos e]
      show upd (sw m t n).1 n (-2) a = _
      by_cases ea : a = n
      · subst ea
        rw [pk_us, if_pos ⟨by omega, e.1⟩]
      · rw [pk_un ea, ih a]
        by_cases e2 : a < n ∧ m a = 0
        · rw [if_pos e2, if_pos ⟨by omega, e2.2⟩]
        · rw [if_neg e2, if_neg (fun z => e2 ⟨by omega, z.2⟩)]
    · rw [if_neg e, ih a]
      by_cases ea : a = n
      · subst ea
        rw [if_neg (by omega)]
        by_cases e2 : m a = 0
        · have : (sw m t a).1 a = -2 := Decidable.of_not_not (fun z => e ⟨e2, z⟩)
          rw [ih a, if_neg (by omega)] at this
          rw [this, if_pos ⟨by omega, e2⟩]
        · rw [if_neg (fun z => e2 z.2)]
      · by_cases e2 : a < n ∧ m a = 0
        · rw [if_pos e2, if_pos ⟨by omega, e2.2⟩]
        · rw [if_neg e2, if_neg (fun z => e2 ⟨by omega, z.2⟩)]
/-- after the check everything is exact -/
theorem Inv.mount {u : Prop} {c t m : Nat → Int32} {ch : Nat → List Nat} {R : Nat → Prop} {lv : Nat → Nat} {N : List Nat} (h : Inv u c t ch R lv) (hN : ∀ x, x ∈ N ↔ Vx c ch R x) (hm : ∀ a, a < 32 → (m a = 0 ↔ a ∉ cov c ch N)) :
    Inv True c (sw m (tL t (cut c ch N)) 32).1 (fun p => if dirP c p = true then ch p else kF c ch p) R lv := by
  have hV : ∀ x ∈ N, Vx c ch R x := fun x hx => (hN x).mp hx
  have fiR : ∀ p, R p → dirP c p = false → Vx c ch R p ∧ fiF c p := by
    intro p hp hd
    have h3 : p ≠ 32 := by intro e; rw [e, dirP_32] at hd; cases hd
    obtain ⟨q, h1, h2, h4, -, h5⟩ := up_lv h hp h3
    have hv : Vx c ch R p := ⟨q, h1, h2, h4⟩
    rcases hv.cases h with e | ⟨d, -, -, -, -, e | e⟩
    · exact absurd e h5
    · exact ⟨hv, e.2.2.1⟩
    · rw [e.2.1] at hd; cases hd
  have hk : ∀ p, R p → dirP c p = false → kF c ch p = (ch p).take ((lnF c p + 3) / 4) := fun p hp hd => if_pos (fiR p hp hd).2
  have hsub : ∀ p, R p → ∀ a, a ∈ (if dirP c p = true then ch p else kF c ch p) → a ∈ ch p := by
    intro p hp a ha
    rcases b_cases (dirP c p) with e | e
    · rw [if_pos e] at ha; exact ha
    · rw [if_neg (by rw [e]; decide), hk p hp e] at ha; exact List.mem_of_mem_take ha
  have keep : ∀ a, a < 32 → a ∈ cov c ch N → (sw m (tL t (cut c ch N)) 32).1 a = tL t (cut c ch N) a := by
    intro a ha hc
    rw [sw_at, if_neg (fun z => (hm a ha).mp z.2 hc)]
  refine ⟨h.1, fun p hp => ?_, fun p q hp hq hpq a ha ha2 => h.2.2.1 p q hp hq hpq a (hsub p hp a ha) (hsub q hq a ha2), fun p hp hd => ?_, fun p hp hd => ?_⟩
  · obtain ⟨g1, g2, g3⟩ := h.2.1 p hp
    refine ⟨g1, ?_, ?_⟩
    · show (if dirP c p = true then ch p else kF c ch p).Nodup
      rcases b_cases (dirP c p) with e | e
      · rw [if_pos e]; exact g2
      · rw [if_neg (by rw [e]; decide), hk p hp e]; exact take_nodup g2
    · rcases g3 with e | ⟨e1, q, e2, e3, e4, e5⟩
      · exact Or.inl e
      · refine Or.inr ⟨e1, q, e2, e3, ?_, e5⟩
        show p ∈ (if dirP c q = true then ch q else kF c ch q)
        rw [if_pos e3]; exact e4
  · obtain ⟨g1, g2, g3, g4, g5⟩ := h.2.2.2.1 p hp hd
    have ec : (fun p => if dirP c p = true then ch p else kF c ch p) p = ch p := if_pos hd
    unfold iD
    rw [ec]
    refine ⟨Chain_congr g1 (fun a ha => ?_), g2, g3, g4, g5⟩
    have hv : Vx c ch R a := ⟨p, hp, hd, ha⟩
    rw [keep a (h.lt hp ha) (cov_mem.mpr ⟨a, (hN a).mpr hv, List.mem_cons_self⟩)]
    exact tN_dir h hV hv
  · obtain ⟨hv, hf⟩ := fiR p hp hd
    obtain ⟨f1, f2, f3, f4, f5, f6⟩ := fi_all h hp hd
    have ec : (fun p => if dirP c p = true then ch p else kF c ch p) p = (ch p).take ((lnF c p + 3) / 4) := by
      show (if dirP c p = true then ch p else kF c ch p) = _
      rw [if_neg (by rw [hd]; decide)]; exact hk p hp hd
    have hpN : p ∈ N := (hN p).mpr hv
    unfold iF
    rw [ec]
    have hlen : ((ch p).take ((lnF c p + 3) / 4)).length = (lnF c p + 3) / 4 := by rw [List.length_take]; omega
    refine ⟨?_, lnF c p, f1, by omega, fun z => ?_, fun _ => hlen⟩
    · by_cases hl : lnF c p = 0
      · rw [f4 hl] at f5
        rw [f4 hl, List.take_nil]
        exact f5
      · have hj : (lnF c p - 1) / 4 < (ch p).length := by omega
        have ek : (lnF c p + 3) / 4 = (lnF c p - 1) / 4 + 1 := by omega
        have k1 := (Chain_cut ((lnF c p - 1) / 4) (ch p) _ f5 hj f6).1
        have el : cF c ch p = [(ch p).getD ((lnF c p - 1) / 4) 0] := by
          unfold cF
          rw [hk p hp hd, ek]
          exact lastL_take _ _ hj
        rw [ek]
        refine Chain_congr k1 (fun a ha => ?_)
        have hac : a ∈ ch p := List.mem_of_mem_take ha
        have hak : a ∈ kF c ch p := by rw [hk p hp hd, ek]; exact ha
        rw [keep a (h.lt hp hac) (cov_mem.mpr ⟨p, hpN, List.mem_cons_of_mem _ hak⟩)]
        by_cases e : a = (ch p).getD ((lnF c p - 1) / 4) 0
        · have e1 : a ∈ cut c ch N := cut_mem.mpr ⟨p, hpN, by rw [el, e]; exact List.mem_cons_self⟩
          rw [tL_in e1, ← e, pk_us]
        · rw [pk_un e]
          refine tL_out (fun z => e ?_)
          have := (cut_fil h hV hp hac z).2
          rw [el] at this
          simpa using this
    · rw [z]; rfl
