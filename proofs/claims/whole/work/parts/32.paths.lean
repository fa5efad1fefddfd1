/-! the class's paths -/
def dg (p s : Nat) : Nat := p / 2 ^ s % 16
def chkD (b : Bool) : List Nat → Bool
  | [] => true
  | d :: ds => if b = true ∧ d = 0 then false else chkD (b || decide (d ≠ 0)) ds
def okP (p : Nat) : Bool := chkD false [dg p 12, dg p 8, dg p 4, dg p 0]
theorem dg_lt (p s : Nat) : dg p s < 16 := Nat.mod_lt _ (by decide)
theorem dg_of {p s : Nat} (hp : p < 65536) (hs : s = 12 ∨ s = 8 ∨ s = 4 ∨ s = 0) : (nI p >>> (nI s &&& 31)) &&& nI 15 = nI (dg p s) := by
  have h1 : nI p >>> (nI s &&& 31) = nI (p / 2 ^ s) := pk_shrN (by omega) _ s (by rcases hs with rfl | rfl | rfl | rfl <;> decide)
  have h2 : p / 2 ^ s ≤ p := Nat.div_le_self _ _
  rw [h1]
  exact pk_andN (by omega) 4 (by decide)
theorem sh4 {s : Nat} : nI (s + 4) + -(nI (3 + 1)) = nI s := by
  have : nI (s + 4) = nI s + nI 4 := (nI_add s 4).symm
  rw [this, Int32.add_assoc]
  have : nI 4 + -(nI (3 + 1)) = 0 := by decide
  rw [this, Int32.add_zero]
section KP
variable {Ls : Nat} {xs : Nat → Int32} {c t re en : Nat → Int32} {lf dn n : Int32} {M : mH}
theorem e_lost (hd : dn = 0 ∨ dn = 1) : mEv Ls xs 41 (0, [some (.ref 1)], [], (hV c t lf dn re en n M)) (rV dn (hV c t lf dn re en n M)) := by
  refine fEv.retV rfl ?_
  rcases hd with rfl | rfl <;> decide
theorem e_up : mEv Ls xs 16 (0, [some (.ref 0)], [], (hV c t lf 0 re en n M)) (rN (hV c t lf 0 re en n M)) := by
  refine fEv.calli rfl (e_lost (Or.inl rfl)) ?_
  refine fEv.brT rfl (by decide) ?_
  exact fEv.retV rfl rfl
theorem e_down : mEv Ls xs 16 (0, [some (.ref 0)], [], (hV c t lf 1 re en n M)) (rX 0 (hV c t lf 1 re en n M)) := by
  refine fEv.calli rfl (e_lost (Or.inr rfl)) ?_
  refine fEv.brF rfl (by decide) ?_
  exact fEv.retX rfl rfl
theorem rp_it {p s : Nat} {b : Bool} {o : Option Value} {h : mH} {r : mR} (hp : p < 65536) (hs : s = 12 ∨ s = 8 ∨ s = 4 ∨ s = 0) (hx : b = true → dg p s = 0 → r = rX 1 h)
    (k : ¬ (b = true ∧ dg p s = 0) → mEv Ls xs 17 (25, [some (.int (nI p)), some (.int (bI (b || decide (dg p s ≠ 0)))), some (.int (nI s + -(nI (3 + 1)))), some (.int (nI (dg p s)))], [], h) r) :
    mEv Ls xs 17 (25, [some (.int (nI p)), some (.int (bI b)), some (.int (nI s)), o], [], h) r := by
  have e0 := dg_of hp hs
  refine fEv.brF rfl (decide_eq_false (nI_pos (by rcases hs with rfl | rfl | rfl | rfl <;> decide))) ?_
  have hd : dg p s < 16 := dg_lt p s
  cases b with
  | false =>
    refine fEv.brT rfl (by decide) ?_
    refine fEv.brF rfl (by decide) ?_
    have k2 := k (fun q => by cases q.1)
    by_cases h0 : dg p s = 0
    · refine fEv.brT rfl (decide_eq_true (by show (nI p >>> (nI s &&& 31)) &&& nI 15 = 0; rw [e0, h0]; rfl)) ?_
      have e1 : (false || decide (dg p s ≠ 0)) = false := by simp [h0]
      rw [e1, ← e0] at k2
      exact fEv.steps 4 rfl k2
    · refine fEv.brF rfl (decide_eq_false (by show ¬ (nI p >>> (nI s &&& 31)) &&& nI 15 = 0; rw [e0]; exact nI_ne0 (by omega) (by omega))) ?_
      have e1 : (false || decide (dg p s ≠ 0)) = true := by simp [h0]
      rw [e1, ← e0] at k2
      exact fEv.steps 5 rfl k2
  | true =>
    refine fEv.brF rfl (by decide) ?_
    by_cases h0 : dg p s = 0
    · refine fEv.brF rfl (decide_eq_false (fun q => q (by show (nI p >>> (nI s &&& 31)) &&& nI 15 = 0; rw [e0, h0]; rfl))) ?_
      rw [hx rfl h0]
      exact fEv.retX rfl rfl
    · refine fEv.brT rfl (decide_eq_true (by show ¬ (nI p >>> (nI s &&& 31)) &&& nI 15 = 0; rw [e0]; exact nI_ne0 (by omega) (by omega))) ?_
      refine fEv.brT rfl (by decide) ?_
      have k2 := k (fun q => h0 q.2)
      rw [show (true || decide (dg p s ≠ 0)) = true from rfl, ← e0] at k2
      exact fEv.steps 5 rfl k2
theorem e_path {p : Nat} {h : mH} (hp : p < 65536) : mEv Ls xs 17 (0, [some (.int (nI p)), none, none, none], [], h) (if okP p = true then rN h else rX 1 h) := by
  refine fEv.brF rfl (decide_eq_false (nI_pos (by omega))) ?_
  refine fEv.brT rfl (decide_eq_true (nI_le (by omega) (by decide))) ?_
  refine fEv.steps (st := (25, [some (.int (nI p)), some (.int (bI false)), some (.int (nI 12)), none], [], h)) 4 rfl ?_
  refine rp_it hp (Or.inl rfl) (fun q => by cases q) (fun k1 => ?_)
  rw [sh4 (s := 8)]
  refine rp_it hp (Or.inr (Or.inl rfl)) (fun q1 q2 => ?_) (fun k2 => ?_)
  · rw [if_neg]
    simp only [okP, chkD]
    rw [if_neg k1, if_pos ⟨q1, q2⟩]; decide
  rw [sh4 (s := 4)]
  refine rp_it hp (Or.inr (Or.inr (Or.inl rfl))) (fun q1 q2 => ?_) (fun k3 => ?_)
  · rw [if_neg]
    simp only [okP, chkD]
    rw [if_neg k1, if_neg k2, if_pos ⟨q1, q2⟩]; decide
  rw [sh4 (s := 0)]
  refine rp_it hp (Or.inr (Or.inr (Or.inr rfl))) (fun q1 q2 => ?_) (fun k4 => ?_)
  · rw [if_neg]
    simp only [okP, chkD]
    rw [if_neg k1, if_neg k2, if_neg k3, if_pos ⟨q1, q2⟩]; decide
  have : okP p = true := by
    simp only [okP, chkD]
    rw [if_neg k1, if_neg k2, if_neg k3, if_neg k4]
  rw [if_pos this]
  refine fEv.brT rfl (by decide) ?_
  exact fEv.retV rfl rfl
theorem e_pathX {a : Int32} {h : mH} (ha : a < 0 ∨ nI 65535 < a) : mEv Ls xs 17 (0, [some (.int a), none, none, none], [], h) (rX 1 h) := by
  refine fEv.br rfl (fun h1 => ?_) (fun h1 => ?_)
  · exact fEv.retX rfl rfl
  · rcases ha with ha | ha
    · exact absurd ha h1
    · refine fEv.brF rfl (decide_eq_false (Int32.not_le.mpr ha)) ?_
      exact fEv.retX rfl rfl
/-! entries: 32 is the root -/
def eC (p : Nat) : Int32 := if p = 32 then -3 else nI p
def fsP (c : Nat → Int32) (p : Nat) : Int32 := if p = 32 then nI 0 else c (4 * p + 2)
def dirP (c : Nat → Int32) (p : Nat) : Bool := decide (p = 32) || decide (c (4 * p + 1) = nI 2)
def lkO (c : Nat → Int32) (d : Nat) (l : List Nat) : Option Nat := l.find? fun a => decide (c (4 * a) = nI d)
def oI (o : Option Nat) : Int32 := match o with
  | some a => nI a
  | none => -1
theorem lkI_eq {c : Nat → Int32} {d : Nat} {l : List Nat} : lkI c (nI d) l = oI (lkO c d l) := by
  induction l with
  | nil => rfl
  | cons a l ih =>
    unfold lkI lkO
    rw [List.find?_cons]
    by_cases h : c (4 * a) = nI d
    · rw [if_pos h, decide_eq_true h]; rfl
    · rw [if_neg h, decide_eq_false h]; exact ih
theorem nI_ne3 {a : Nat} (h : a < 32) : ¬ nI a = -3 := by
  intro q
  have := congrArg Int32.toInt q
  rw [nI_toInt (by omega)] at this
  have e : (-3 : Int32).toInt = -3 := by decide
  omega
theorem nI_ne1 {a : Nat} (h : a < 32) : ¬ nI a = -1 := by
  intro q
  have := congrArg Int32.toInt q
  rw [nI_toInt (by omega)] at this
  have e : (-1 : Int32).toInt = -1 := by decide
  omega
theorem dirC_e {p : Nat} (hp : p ≤ 32) : dirC c (eC p) = dirP c p := by
  unfold dirC dirP eC
  by_cases h : p = 32
  · simp [h]
  · rw [if_neg h, decide_eq_false h, decide_eq_false (nI_ne3 (by omega)), cellA_nI (by omega) (by decide)]
theorem fstC_e {p : Nat} (hp : p ≤ 32) : fstC c (eC p) = fsP c p := by
  unfold fstC fsP eC
  by_cases h : p = 32
  · simp [h]
  · rw [if_neg h, if_neg h, if_neg (nI_ne3 (by omega)), cellA_nI (by omega) (by decide)]
/-- what is known of the entries that can be come to -/
def Rc (c t : Nat → Int32) (ch : Nat → List Nat) (R : Nat → Prop) : Prop := ∀ p, R p → p ≤ 32 ∧ (dirP c p = true → Chain t (fsP c p) (ch p) ∧ (ch p).length ≤ 32 ∧ ∀ a ∈ ch p, ¬ c (4 * a) = nI 0 → R a ∧ a < 32)
def stp (c : Nat → Int32) (ch : Nat → List Nat) (p d : Nat) : Option Nat := if d = 0 then some p else if dirP c p = true then lkO c d (ch p) else none
theorem lkO_some {c : Nat → Int32} {d a : Nat} {l : List Nat} (h : lkO c d l = some a) : a ∈ l ∧ c (4 * a) = nI d := by
  unfold lkO at h
  exact ⟨List.mem_of_find?_eq_some h, by simpa using List.find?_some h⟩
theorem Chain.lt {t : Nat → Int32} : ∀ {l : List Nat} {x : Int32}, Chain t x l → ∀ a ∈ l, a < 32 := by
  intro l
  induction l with
  | nil => intro x _ a ha; cases ha
  | cons b l ih =>
    intro x hx a ha
    rcases List.mem_cons.mp ha with rfl | ha
    · exact hx.2.1
    · exact ih hx.2.2 a ha
theorem ea_it {c t : Nat → Int32} {p s q : Nat} {o : Option Value} {r : mR} {ch : Nat → List Nat} {R : Nat → Prop} (hR : Rc c t ch R) (hq : R q) (hp : p < 65536) (hs : s = 12 ∨ s = 8 ∨ s = 4 ∨ s = 0)
    (hx : stp c ch q (dg p s) = none → r = rX 2 (hV c t lf dn re en n M))
    (k : ∀ q', stp c ch q (dg p s) = some q' → R q' → mEv Ls xs 18 (6, [some (.ref 0), some (.int (nI p)), some (.int (eC q')), some (.int (nI s + -(nI (3 + 1)))), some (.int (nI (dg p s)))], [], hV c t lf dn re en n M) r) :
    mEv Ls xs 18 (6, [some (.ref 0), some (.int (nI p)), some (.int (eC q)), some (.int (nI s)), o], [], hV c t lf dn re en n M) r := by
  have e0 := dg_of hp hs
  have hd : dg p s < 16 := dg_lt p s
  obtain ⟨hq32, hch⟩ := hR q hq
  have eC1 : ∀ {z : Nat}, z ≤ 32 → ¬ eC z = -1 := by
    intro z hz
    unfold eC
    by_cases h : z = 32
    · rw [if_pos h]; decide
    · rw [if_neg h]; exact nI_ne1 (by omega)
  refine fEv.brF rfl (decide_eq_false (nI_pos (by rcases hs with rfl | rfl | rfl | rfl <;> decide))) ?_
  by_cases h0 : dg p s = 0
  · refine fEv.brT rfl (decide_eq_true (by show (nI p >>> (nI s &&& 31)) &&& nI 15 = 0; rw [e0, h0]; rfl)) ?_
    refine fEv.brT rfl (decide_eq_true (eC1 hq32)) ?_
    have k2 := k q (by unfold stp; rw [if_pos h0]) hq
    rw [← e0] at k2
    exact fEv.steps 2 rfl k2
  · refine fEv.brF rfl (decide_eq_false (by show ¬ (nI p >>> (nI s &&& 31)) &&& nI 15 = 0; rw [e0]; exact nI_ne0 (by omega) (by omega))) ?_
    cases hdir : dirP c q with
    | true =>
      obtain ⟨h1, h2, h3⟩ := hch hdir
      have hen := e_entryNamed (Ls := Ls) (xs := xs) (lf := lf) (dn := dn) (re := re) (en := en) (n := n) (M := M) (e := eC q) (nm := nI (dg p s)) (l := ch q) (by rw [dirC_e hq32]; exact hdir) (by rw [fstC_e hq32]; exact h1) h2
      rw [lkI_eq] at hen
      have hst : stp c ch q (dg p s) = lkO c (dg p s) (ch q) := by unfold stp; rw [if_neg h0, if_pos hdir]
      cases hl : lkO c (dg p s) (ch q) with
      | none =>
        rw [hl, ← e0] at hen
        refine fEv.calli rfl hen ?_
        refine fEv.brF rfl (by decide) ?_
        rw [hx (hst.trans hl)]
        exact fEv.retX rfl rfl
      | some a =>
        obtain ⟨ha1, ha2⟩ := lkO_some hl
        obtain ⟨hRa, ha⟩ := h3 a ha1 (by rw [ha2]; intro q9; have := (nI_eq (a := dg p s) (b := 0) (by omega) (by decide)).mp q9; exact h0 this)
        rw [hl, ← e0] at hen
        refine fEv.calli rfl hen ?_
        refine fEv.brT rfl (decide_eq_true (nI_ne1 ha)) ?_
        have k2 := k a (hst.trans hl) hRa
        have e3 : eC a = nI a := by unfold eC; rw [if_neg (by omega)]
        rw [← e0, e3] at k2
        exact fEv.steps 2 rfl k2
    | false =>
      have hen := e_entryNamedF (Ls := Ls) (xs := xs) (c := c) (t := t) (lf := lf) (dn := dn) (re := re) (en := en) (n := n) (M := M) (e := eC q) (nm := nI (dg p s)) (by rw [dirC_e hq32]; exact hdir)
      rw [← e0] at hen
      refine fEv.calli rfl hen ?_
      refine fEv.brF rfl (by decide) ?_
      rw [hx (by unfold stp; rw [if_neg h0, if_neg (by rw [hdir]; decide)])]
      exact fEv.retX rfl rfl
/-- where the four digits lead -/
def wk (c : Nat → Int32) (ch : Nat → List Nat) (p : Nat) : Option Nat := (stp c ch 32 (dg p 12)).bind fun a => (stp c ch a (dg p 8)).bind fun b => (stp c ch b (dg p 4)).bind fun d => stp c ch d (dg p 0)
theorem e_entryAt {c t : Nat → Int32} {p : Nat} {ch : Nat → List Nat} {R : Nat → Prop} (hR : Rc c t ch R) (h32 : R 32) (hp : p < 65536) :
    mEv Ls xs 18 (0, [some (.ref 0), some (.int (nI p)), none, none, none], [], (hV c t lf dn re en n M)) (match wk c ch p with | some q => rV (eC q) (hV c t lf dn re en n M) | none => rX 2 (hV c t lf dn re en n M)) := by
  refine fEv.steps (st := (6, [some (.ref 0), some (.int (nI p)), some (.int (eC 32)), some (.int (nI 12)), none], [], hV c t lf dn re en n M)) 4 rfl ?_
  refine ea_it hR h32 hp (Or.inl rfl) (fun q => by unfold wk; rw [q]; rfl) (fun a1 h1 R1 => ?_)
  rw [sh4 (s := 8)]
  refine ea_it hR R1 hp (Or.inr (Or.inl rfl)) (fun q => by unfold wk; rw [h1]; dsimp only [Option.bind_some]; rw [q]; rfl) (fun a2 h2 R2 => ?_)
  rw [sh4 (s := 4)]
  refine ea_it hR R2 hp (Or.inr (Or.inr (Or.inl rfl))) (fun q => by unfold wk; rw [h1]; dsimp only [Option.bind_some]; rw [h2]; dsimp only [Option.bind_some]; rw [q]; rfl) (fun a3 h3 R3 => ?_)
  rw [sh4 (s := 0)]
  refine ea_it hR R3 hp (Or.inr (Or.inr (Or.inr rfl))) (fun q => by unfold wk; rw [h1]; dsimp only [Option.bind_some]; rw [h2]; dsimp only [Option.bind_some]; rw [h3]; dsimp only [Option.bind_some]; rw [q]) (fun a4 h4 R4 => ?_)
  have : wk c ch p = some a4 := by unfold wk; rw [h1]; dsimp only [Option.bind_some]; rw [h2]; dsimp only [Option.bind_some]; rw [h3]; exact h4
  rw [this]
  refine fEv.brT rfl (by decide) ?_
  exact fEv.retV rfl rfl
end KP
