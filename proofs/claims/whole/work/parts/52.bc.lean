/-! Integer.bitCount of sixteen bits -/
def us (a : Int32) (k : Nat) : Int32 := (a.toUInt32 >>> ((nI k).toUInt32 &&& Int32.toUInt32 31)).toInt32
def f1 (m : Nat) : Nat := m - (m / 2 &&& 1431655765)
def f2 (m : Nat) : Nat := (m &&& 858993459) + (m / 4 &&& 858993459)
def f3 (m : Nat) : Nat := (m + m / 16) &&& 252645135
def f4 (m : Nat) : Nat := m + m / 256
def f5 (m : Nat) : Nat := m + m / 65536
theorem and2s {a b p q : Nat} (hb : b < 2) (hq : q < 2) : (2 * a + b) &&& (2 * p + q) = 2 * (a &&& p) + (b &&& q) := by
  have h1 : ((2 * a + b) &&& (2 * p + q)) / 2 = (2 * a + b) / 2 &&& (2 * p + q) / 2 := Nat.and_div_two
  have h2 : ((2 * a + b) &&& (2 * p + q)) % 2 = 1 ↔ (2 * a + b) % 2 = 1 ∧ (2 * p + q) % 2 = 1 := Nat.and_mod_two_eq_one
  have e1 : (2 * a + b) / 2 = a := by omega
  have e2 : (2 * p + q) / 2 = p := by omega
  rw [e1, e2] at h1
  have h3 : ∀ b q : Fin 2, b.val &&& q.val = if b.val = 1 ∧ q.val = 1 then 1 else 0 := by decide
  have h4 := h3 ⟨b, hb⟩ ⟨q, hq⟩
  have h4 : b &&& q = if b = 1 ∧ q = 1 then 1 else 0 := h4
  rw [h4]
  split
  · omega
  · omega
theorem and16 {a b p q : Nat} (hb : b < 16) (hq : q < 16) : (16 * a + b) &&& (16 * p + q) = 16 * (a &&& p) + (b &&& q) := by
  have x : ∀ a b : Nat, b < 16 → 16 * a + b = 2 * (2 * (2 * (2 * a + b / 8) + b / 4 % 2) + b / 2 % 2) + b % 2 := by intro a b h; omega
  have y : ∀ b : Nat, b < 16 → b = 2 * (2 * (2 * (b / 8) + b / 4 % 2) + b / 2 % 2) + b % 2 := by intro b h; omega
  have l : (16 * a + b) &&& (16 * p + q) = 2 * (2 * (2 * (2 * (a &&& p) + (b / 8 &&& q / 8)) + (b / 4 % 2 &&& q / 4 % 2)) + (b / 2 % 2 &&& q / 2 % 2)) + (b % 2 &&& q % 2) := by
    rw [x a b hb, x p q hq, and2s (by omega) (by omega), and2s (by omega) (by omega), and2s (by omega) (by omega), and2s (by omega) (by omega)]
  have r : b &&& q = 2 * (2 * (2 * (b / 8 &&& q / 8) + (b / 4 % 2 &&& q / 4 % 2)) + (b / 2 % 2 &&& q / 2 % 2)) + (b % 2 &&& q % 2) := by
    have h : b &&& q = (2 * (2 * (2 * (b / 8) + b / 4 % 2) + b / 2 % 2) + b % 2) &&& (2 * (2 * (2 * (q / 8) + q / 4 % 2) + q / 2 % 2) + q % 2) := by rw [← y b hb, ← y q hq]
    rw [h, and2s (by omega) (by omega), and2s (by omega) (by omega), and2s (by omega) (by omega)]
  rw [l, r]; omega
def D4 (a b d e : Nat) : Nat := 16 * (16 * (16 * a + b) + d) + e
theorem and64 {a b d e p q r z : Nat} (hb : b < 16) (hd : d < 16) (he : e < 16) (hq : q < 16) (hr : r < 16) (hz : z < 16) : D4 a b d e &&& D4 p q r z = D4 (a &&& p) (b &&& q) (d &&& r) (e &&& z) := by
  unfold D4
  rw [and16 he hz, and16 hd hr, and16 hb hq]
theorem popc_split {k x y : Nat} (hy : y < 16) : popc (k + 4) (16 * x + y) = popc 4 y + popc k x := by
  simp only [popc]
  have e0 : (16 * x + y) % 2 = y % 2 := by omega
  have e1 : (16 * x + y) / 2 % 2 = y / 2 % 2 := by omega
  have e2 : (16 * x + y) / 2 / 2 % 2 = y / 2 / 2 % 2 := by omega
  have e3 : (16 * x + y) / 2 / 2 / 2 % 2 = y / 2 / 2 / 2 % 2 := by omega
  have e4 : (16 * x + y) / 2 / 2 / 2 / 2 = x := by omega
  rw [e0, e1, e2, e3, e4]; omega
def eY (y : Nat) : Nat := y - (y / 2 &&& 5)
def gY (y : Nat) : Nat := (y &&& 3) + y / 4
theorem s1 : ∀ (x : Fin 2) (y : Fin 16), (8 * x.val + y.val / 2) &&& 5 = y.val / 2 &&& 5 := by decide
theorem s2 : ∀ y : Fin 16, y.val / 2 &&& 349525 = y.val / 2 &&& 5 := by decide
theorem s3 : ∀ y : Fin 16, (y.val / 2 &&& 5) ≤ y.val := by decide
theorem s4 : ∀ (x : Fin 4) (y : Fin 16), (4 * x.val + y.val / 4) &&& 3 = y.val / 4 := by decide
theorem s5 : ∀ y : Fin 16, y.val &&& 209715 = y.val &&& 3 := by decide
theorem s6 : ∀ y : Fin 16, y.val / 4 &&& 209715 = y.val / 4 := by decide
theorem s7 : ∀ y : Fin 16, gY (eY y.val) = popc 4 y.val ∧ popc 4 y.val ≤ 4 := by decide
theorem s8 : ∀ y : Fin 5, y.val &&& 61680 = 0 := by decide
theorem s9 : ∀ y : Fin 16, y.val &&& 15 = y.val := by decide
theorem f1_D {a b d e : Nat} (ha : a < 16) (hb : b < 16) (hd : d < 16) (he : e < 16) : f1 (D4 a b d e) = D4 (eY a) (eY b) (eY d) (eY e) := by
  have hk : 1431655765 = D4 349525 5 5 5 := rfl
  have hh : D4 a b d e / 2 = D4 (a / 2) (8 * (a % 2) + b / 2) (8 * (b % 2) + d / 2) (8 * (d % 2) + e / 2) := by unfold D4; omega
  unfold f1
  rw [hk, hh, and64 (by omega) (by omega) (by omega) (by decide) (by decide) (by decide)]
  have q1 := s1 ⟨a % 2, by omega⟩ ⟨b, hb⟩
  have q2 := s1 ⟨b % 2, by omega⟩ ⟨d, hd⟩
  have q3 := s1 ⟨d % 2, by omega⟩ ⟨e, he⟩
  have q4 := s2 ⟨a, ha⟩
  have q1 : (8 * (a % 2) + b / 2) &&& 5 = b / 2 &&& 5 := q1
  have q2 : (8 * (b % 2) + d / 2) &&& 5 = d / 2 &&& 5 := q2
  have q3 : (8 * (d % 2) + e / 2) &&& 5 = e / 2 &&& 5 := q3
  have q4 : a / 2 &&& 349525 = a / 2 &&& 5 := q4
  have r1 : a / 2 &&& 5 ≤ a := s3 ⟨a, ha⟩
  have r2 : b / 2 &&& 5 ≤ b := s3 ⟨b, hb⟩
  have r3 : d / 2 &&& 5 ≤ d := s3 ⟨d, hd⟩
  have r4 : e / 2 &&& 5 ≤ e := s3 ⟨e, he⟩
  rw [q1, q2, q3, q4]
  unfold D4 eY
  omega
theorem f2_D {a b d e : Nat} (ha : a < 16) (hb : b < 16) (hd : d < 16) (he : e < 16) : f2 (D4 a b d e) = D4 (gY a) (gY b) (gY d) (gY e) := by
  have hk : 858993459 = D4 209715 3 3 3 := rfl
  have hh : D4 a b d e / 4 = D4 (a / 4) (4 * (a % 4) + b / 4) (4 * (b % 4) + d / 4) (4 * (d % 4) + e / 4) := by unfold D4; omega
  unfold f2
  rw [hk, hh, and64 hb hd he (by decide) (by decide) (by decide), and64 (by omega) (by omega) (by omega) (by decide) (by decide) (by decide)]
  have q1 : (4 * (a % 4) + b / 4) &&& 3 = b / 4 := s4 ⟨a % 4, by omega⟩ ⟨b, hb⟩
  have q2 : (4 * (b % 4) + d / 4) &&& 3 = d / 4 := s4 ⟨b % 4, by omega⟩ ⟨d, hd⟩
  have q3 : (4 * (d % 4) + e / 4) &&& 3 = e / 4 := s4 ⟨d % 4, by omega⟩ ⟨e, he⟩
  have q4 : a &&& 209715 = a &&& 3 := s5 ⟨a, ha⟩
  have q5 : a / 4 &&& 209715 = a / 4 := s6 ⟨a, ha⟩
  rw [q1, q2, q3, q4, q5]
  unfold D4 gY
  omega
theorem f3_D {a b d e : Nat} (ha : a < 5) (hb : b < 5) (hd : d < 5) (he : e < 5) : f3 (D4 a b d e) = 256 * (a + b) + (d + e) := by
  have hk : 252645135 = D4 61680 15 0 15 := rfl
  have hh : D4 a b d e + D4 a b d e / 16 = D4 a (a + b) (b + d) (d + e) := by unfold D4; omega
  unfold f3
  rw [hk, hh, and64 (by omega) (by omega) (by omega) (by decide) (by decide) (by decide)]
  have q1 : a &&& 61680 = 0 := s8 ⟨a, ha⟩
  have q2 : (a + b) &&& 15 = a + b := s9 ⟨a + b, by omega⟩
  have q3 : (d + e) &&& 15 = d + e := s9 ⟨d + e, by omega⟩
  rw [q1, q2, q3, Nat.and_zero]
  unfold D4
  omega
theorem bc_ok {m : Nat} (h : m < 65536) : f5 (f4 (f3 (f2 (f1 m)))) &&& 63 = popc 16 m := by
  have hm : m = D4 (m / 4096) (m / 256 % 16) (m / 16 % 16) (m % 16) := by unfold D4; omega
  have e4 : m / 4096 < 16 := by omega
  generalize m / 4096 = a at hm e4
  have e3 : m / 256 % 16 < 16 := by omega
  generalize m / 256 % 16 = b at hm e3
  have e2 : m / 16 % 16 < 16 := by omega
  generalize m / 16 % 16 = d at hm e2
  have e1 : m % 16 < 16 := by omega
  generalize m % 16 = e at hm e1
  subst hm
  have el : ∀ y, y < 16 → eY y < 16 := fun y hy => by unfold eY; omega
  have p1 : gY (eY a) = popc 4 a ∧ popc 4 a ≤ 4 := s7 ⟨a, e4⟩
  have p2 : gY (eY b) = popc 4 b ∧ popc 4 b ≤ 4 := s7 ⟨b, e3⟩
  have p3 : gY (eY d) = popc 4 d ∧ popc 4 d ≤ 4 := s7 ⟨d, e2⟩
  have p4 : gY (eY e) = popc 4 e ∧ popc 4 e ≤ 4 := s7 ⟨e, e1⟩
  rw [f1_D e4 e3 e2 e1, f2_D (el _ e4) (el _ e3) (el _ e2) (el _ e1), p1.1, p2.1, p3.1, p4.1, f3_D (by omega) (by omega) (by omega) (by omega)]
  have hp : popc 16 (D4 a b d e) = popc 4 e + (popc 4 d + (popc 4 b + popc 4 a)) := by
    unfold D4
    rw [popc_split (k := 12) e1, popc_split (k := 8) e2, popc_split (k := 4) e3]
  rw [hp]
  have hs : (63 : Nat) = 2 ^ 6 - 1 := rfl
  rw [hs, Nat.and_two_pow_sub_one_eq_mod]
  have hA : popc 4 a + popc 4 b ≤ 8 := by omega
  have hB : popc 4 d + popc 4 e ≤ 8 := by omega
  rw [show popc 4 e + (popc 4 d + (popc 4 b + popc 4 a)) = (popc 4 a + popc 4 b) + (popc 4 d + popc 4 e) by omega]
  generalize popc 4 a + popc 4 b = A at hA ⊢
  generalize popc 4 d + popc 4 e = B at hB ⊢
  have g4 : f4 (256 * A + B) = 256 * A + B + A := by unfold f4; omega
  have g5 : f5 (256 * A + B + A) = 256 * A + B + A := by unfold f5; omega
  rw [g4, g5]
  omega
theorem us_nI {m k : Nat} (h : m < 2 ^ 32) (hk : k < 32) : us (nI m) k = nI (m / 2 ^ k) := by
  have : ∀ k : Fin 32, (((nI k.val).toUInt32 &&& Int32.toUInt32 31).toBitVec % 32).toNat = k.val := by decide
  exact pk_ushrN h (nI k) k (this ⟨k, hk⟩)
theorem e_bc {Ls : Nat} {xs : Nat → Int32} {m : Nat} {h : mH} (hm : m < 65536) : mEv Ls xs 98 (0, [some (.int (nI m))], [], h) (rV (nI (popc 16 m)) h) := by
  have a1 : m / 2 &&& 1431655765 ≤ m / 2 := Nat.and_le_left
  have g1 : f1 m < 65536 := by unfold f1; omega
  have e1 : nI m - (us (nI m) 1 &&& nI 1431655765) = nI (f1 m) := by
    rw [us_nI (by omega) (by decide), nI_and (by omega) (by decide), show m / 2 ^ 1 = m / 2 from rfl, pk_sub (by omega)]; rfl
  have a2 : f1 m &&& 858993459 ≤ f1 m := Nat.and_le_left
  have a3 : f1 m / 4 &&& 858993459 ≤ f1 m / 4 := Nat.and_le_left
  have g2 : f2 (f1 m) < 131072 := by unfold f2; omega
  have e2 : (nI (f1 m) &&& nI 858993459) + (us (nI (f1 m)) 2 &&& nI 858993459) = nI (f2 (f1 m)) := by
    rw [us_nI (by omega) (by decide), nI_and (by omega) (by decide), nI_and (by omega) (by decide), nI_add]; rfl
  have a4 : (f2 (f1 m) + f2 (f1 m) / 16) &&& 252645135 ≤ f2 (f1 m) + f2 (f1 m) / 16 := Nat.and_le_left
  have g3 : f3 (f2 (f1 m)) < 262144 := by unfold f3; omega
  have e3 : (nI (f2 (f1 m)) + us (nI (f2 (f1 m))) 4) &&& nI 252645135 = nI (f3 (f2 (f1 m))) := by
    rw [us_nI (by omega) (by decide), nI_add, nI_and (by omega) (by decide)]; rfl
  have g4 : f4 (f3 (f2 (f1 m))) < 524288 := by unfold f4; omega
  have e4 : nI (f3 (f2 (f1 m))) + us (nI (f3 (f2 (f1 m)))) 8 = nI (f4 (f3 (f2 (f1 m)))) := by
    rw [us_nI (by omega) (by decide), nI_add]; rfl
  have g5 : f5 (f4 (f3 (f2 (f1 m)))) < 1048576 := by unfold f5; omega
  have e5 : nI (f4 (f3 (f2 (f1 m)))) + us (nI (f4 (f3 (f2 (f1 m))))) 16 = nI (f5 (f4 (f3 (f2 (f1 m))))) := by
    rw [us_nI (by omega) (by decide), nI_add]; rfl
  have e6 : nI (f5 (f4 (f3 (f2 (f1 m))))) &&& nI 63 = nI (popc 16 m) := by
    rw [nI_and (by omega) (by decide), bc_ok hm]
  refine fEv.steps (st := (10, [some (.int (nI m - (us (nI m) 1 &&& nI 1431655765)))], [], h)) 8 rfl ?_
  rw [e1]
  refine fEv.steps (st := (24, [some (.int ((nI (f1 m) &&& nI 858993459) + (us (nI (f1 m)) 2 &&& nI 858993459)))], [], h)) 10 rfl ?_
  rw [e2]
  refine fEv.steps (st := (34, [some (.int ((nI (f2 (f1 m)) + us (nI (f2 (f1 m))) 4) &&& nI 252645135))], [], h)) 8 rfl ?_
  rw [e3]
  refine fEv.steps (st := (41, [some (.int (nI (f3 (f2 (f1 m))) + us (nI (f3 (f2 (f1 m)))) 8))], [], h)) 6 rfl ?_
  rw [e4]
  refine fEv.steps (st := (48, [some (.int (nI (f4 (f3 (f2 (f1 m)))) + us (nI (f4 (f3 (f2 (f1 m))))) 16))], [], h)) 6 rfl ?_
  rw [e5, ← e6]
  exact fEv.retV rfl rfl
