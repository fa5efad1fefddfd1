/-! names as bits -/
theorem i32_ext {x y : Int32} (h : x.toBitVec.toNat = y.toBitVec.toNat) : x = y := Int32.toBitVec_inj.mp (BitVec.eq_of_toNat_eq h)
theorem nI_or {a b : Nat} (ha : a < 2 ^ 31) (hb : b < 2 ^ 31) : nI a ||| nI b = nI (a ||| b) := by
  apply i32_ext
  have h : a ||| b < 2 ^ 31 := Nat.or_lt_two_pow ha hb
  rw [Int32.toBitVec_or, BitVec.toNat_or, pk_tn (by omega), pk_tn (by omega), pk_tn (by omega)]
theorem nI_and {a b : Nat} (ha : a < 2 ^ 32) (hb : b < 2 ^ 32) : nI a &&& nI b = nI (a &&& b) := by
  apply i32_ext
  have h : a &&& b ≤ a := Nat.and_le_left
  rw [Int32.toBitVec_and, BitVec.toNat_and, pk_tn ha, pk_tn hb, pk_tn (by omega)]
theorem or_add : ∀ (d m : Nat), m.testBit d = false → m ||| 2 ^ d = m + 2 ^ d := by
  intro d
  induction d with
  | zero =>
    intro m h
    rw [Nat.testBit_zero] at h
    have h0 : m % 2 = 0 := by
      have := of_decide_eq_false h
      omega
    have h1 : (m ||| 2 ^ 0) / 2 = m / 2 ||| 2 ^ 0 / 2 := Nat.or_div_two
    have h2 : (m ||| 2 ^ 0) % 2 = 1 := Nat.or_mod_two_eq_one.mpr (Or.inr rfl)
    have h3 : m / 2 ||| 2 ^ 0 / 2 = m / 2 := Nat.or_zero _
    rw [h3] at h1
    simp only [Nat.pow_zero] at *
    omega
  | succ d ih =>
    intro m h
    rw [Nat.testBit_succ] at h
    have h1 : (m ||| 2 ^ (d + 1)) / 2 = m / 2 ||| 2 ^ (d + 1) / 2 := Nat.or_div_two
    have e : 2 ^ (d + 1) = 2 * 2 ^ d := by rw [Nat.pow_succ]; omega
    have e2 : 2 ^ (d + 1) / 2 = 2 ^ d := by omega
    rw [e2, ih _ h] at h1
    have h2 : (m ||| 2 ^ (d + 1)) % 2 = 1 ↔ m % 2 = 1 ∨ 2 ^ (d + 1) % 2 = 1 := Nat.or_mod_two_eq_one
    omega
theorem tb_add : ∀ (d m i : Nat), m.testBit d = false → i ≠ d → (m + 2 ^ d).testBit i = m.testBit i := by
  intro d m i h hi
  rw [← or_add d m h, Nat.testBit_or, Nat.testBit_two_pow]
  simp [Ne.symm hi]
def popc : Nat → Nat → Nat
  | 0, _ => 0
  | k + 1, m => m % 2 + popc k (m / 2)
theorem popc_add : ∀ (k d m : Nat), d < k → m.testBit d = false → popc k (m + 2 ^ d) = popc k m + 1 := by
  intro k
  induction k with
  | zero => intro d m h _; omega
  | succ k ih =>
    intro d m h hb
    cases d with
    | zero =>
      rw [Nat.testBit_zero] at hb
      have h0 : m % 2 = 0 := by
        have := of_decide_eq_false hb
        omega
      simp only [popc, Nat.pow_zero]
      have e1 : (m + 1) / 2 = m / 2 := by omega
      have e2 : (m + 1) % 2 = 1 := by omega
      rw [e1, e2, h0]; omega
    | succ d =>
      rw [Nat.testBit_succ] at hb
      simp only [popc]
      have e : 2 ^ (d + 1) = 2 * 2 ^ d := by rw [Nat.pow_succ]; omega
      have e1 : (m + 2 ^ (d + 1)) / 2 = m / 2 + 2 ^ d := by omega
      have e2 : (m + 2 ^ (d + 1)) % 2 = m % 2 := by omega
      rw [e1, e2, ih d (m / 2) (by omega) hb]; omega
def nmD (c : Nat → Int32) (a : Nat) : Nat := (c (4 * a)).toNatClampNeg
/-- names of a list: small, and no two alike -/
def okN (c : Nat → Int32) (l : List Nat) : Prop := (∀ a ∈ l, c (4 * a) = nI (nmD c a) ∧ nmD c a ≤ 15) ∧ (∀ a ∈ l, ∀ b ∈ l, nmD c a = nmD c b → ¬ nmD c a = 0 → a = b) ∧ l.Nodup
def mN (c : Nat → Int32) (m : Nat) (l : List Nat) : Nat :=
  match l with
  | [] => m
  | a :: l => mN c (if nmD c a = 0 then m else m + 2 ^ nmD c a) l
theorem sh1 {d : Nat} (hd : d ≤ 15) : nI 1 <<< (nI d &&& 31) = nI (2 ^ d) := by
  have : ∀ d : Fin 16, nI 1 <<< (nI d.val &&& 31) = nI (2 ^ d.val) := by decide
  exact this ⟨d, by omega⟩
theorem p15 {d : Nat} (hd : d ≤ 15) : 2 ^ d ≤ 32768 := by
  have : ∀ d : Fin 16, 2 ^ d.val ≤ 32768 := by decide
  exact this ⟨d, by omega⟩
theorem okN_tl {c : Nat → Int32} {a : Nat} {l : List Nat} (h : okN c (a :: l)) : okN c l := ⟨fun x hx => h.1 x (List.mem_cons_of_mem _ hx), fun x hx y hy => h.2.1 x (List.mem_cons_of_mem _ hx) y (List.mem_cons_of_mem _ hy), (List.nodup_cons.mp h.2.2).2⟩
theorem bits_all {c : Nat → Int32} : ∀ (l : List Nat) (k m : Nat), okN c l → m = 2 * (k / 2) → k < 65536 → (∀ a ∈ l, ¬ nmD c a = 0 → k.testBit (nmD c a) = false) →
    nmsM c (nI m) l = nI (mN c m l) ∧ (∃ k', nmsI c (nI k) l = nI k' ∧ mN c m l = 2 * (k' / 2) ∧ k' < 65536) ∧ popc 16 (mN c m l) = cntN c (popc 16 m) l := by
  intro l
  induction l with
  | nil => intro k m _ hm hk _; exact ⟨rfl, ⟨k, rfl, hm, hk⟩, rfl⟩
  | cons a l ih =>
    intro k m hok hm hk hb
    obtain ⟨h1, h2⟩ := hok.1 a List.mem_cons_self
    have hsh := sh1 h2
    have hp := p15 h2
    simp only [nmsM, nmsI, mN, cntN]
    rw [h1, hsh]
    by_cases h0 : nmD c a = 0
    · have hle : nI (nmD c a) ≤ 0 := by rw [h0]; decide
      rw [if_pos h0, if_pos hle, if_pos hle, nI_or (by omega) (by omega)]
      have hor : (k ||| 2 ^ nmD c a) / 2 = k / 2 := by
        rw [h0]
        have e1 : (k ||| 2 ^ 0) / 2 = k / 2 ||| 2 ^ 0 / 2 := Nat.or_div_two
        rw [e1]; exact Nat.or_zero _
      have hlt : k ||| 2 ^ nmD c a < 65536 := Nat.or_lt_two_pow (n := 16) hk (by omega)
      refine ih (k ||| 2 ^ nmD c a) m (okN_tl hok) (by rw [hor]; exact hm) hlt (fun x hx hx0 => ?_)
      rw [Nat.testBit_or, hb x (List.mem_cons_of_mem _ hx) hx0, h0, Nat.testBit_two_pow]
      simp; omega
    · have hle : ¬ nI (nmD c a) ≤ 0 := nI_nle (by omega) (by omega)
      rw [if_neg h0, if_neg hle, if_neg hle, nI_or (by omega) (by omega), nI_add]
      have hbk := hb a List.mem_cons_self h0
      rw [or_add _ _ hbk]
      obtain ⟨d, hd⟩ : ∃ d, nmD c a = d + 1 := ⟨nmD c a - 1, by omega⟩
      have hbm : m.testBit (nmD c a) = false := by
        rw [hd, Nat.testBit_succ] at hbk ⊢
        rw [show m / 2 = k / 2 by omega]; exact hbk
      have e : 2 ^ (d + 1) = 2 * 2 ^ d := by rw [Nat.pow_succ]; omega
      have hlt : k + 2 ^ nmD c a < 65536 := by
        rw [← or_add _ _ hbk]; exact Nat.or_lt_two_pow (n := 16) hk (by omega)
      have hpc := popc_add 16 (nmD c a) m (by omega) hbm
      rw [← hpc]
      refine ih (k + 2 ^ nmD c a) (m + 2 ^ nmD c a) (okN_tl hok) (by rw [hd, e]; omega) hlt (fun x hx hx0 => ?_)
      rw [tb_add _ _ _ hbk ?_]
      · exact hb x (List.mem_cons_of_mem _ hx) hx0
      · intro q
        have := hok.2.1 x (List.mem_cons_of_mem _ hx) a List.mem_cons_self q hx0
        exact (List.nodup_cons.mp hok.2.2).1 (this ▸ hx)
theorem and2 {k : Nat} (hk : k < 65536) : nI k &&& (-2) = nI (2 * (k / 2)) := by
  have e : (-2 : Int32) = nI (2 ^ 32 - 2) := by decide
  rw [e, nI_and (by omega) (by decide)]
  congr 1
  have h1 : (k &&& (2 ^ 32 - 2)) / 2 = k / 2 &&& (2 ^ 32 - 2) / 2 := Nat.and_div_two
  have h2 : (k &&& (2 ^ 32 - 2)) % 2 = 1 ↔ k % 2 = 1 ∧ (2 ^ 32 - 2) % 2 = 1 := Nat.and_mod_two_eq_one
  have h3 : k / 2 &&& (2 ^ 32 - 2) / 2 = k / 2 := by
    have : (2 ^ 32 - 2) / 2 = 2 ^ 31 - 1 := by decide
    rw [this, Nat.and_two_pow_sub_one_eq_mod]
    exact Nat.mod_eq_of_lt (by omega)
  rw [h3] at h1
  omega
/-- both ways of names, and their number -/
theorem names_all {c : Nat → Int32} {l : List Nat} (hok : okN c l) : ∃ m, m < 65536 ∧ nmsI c (nI 0) l &&& (-2) = nI m ∧ nmsM c (nI 0) l = nI m ∧ popc 16 m = cntN c 0 l := by
  obtain ⟨h1, ⟨k', h2, h3, h4⟩, h5⟩ := bits_all l 0 0 hok rfl (by decide) (fun _ _ _ => Nat.zero_testBit _)
  refine ⟨mN c 0 l, by omega, ?_, h1, h5⟩
  rw [h2, and2 h4, h3]
