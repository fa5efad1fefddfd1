/-! the law's own heap -/
def hMt (cd : Int32) (s : MS) (mk : Nat → Int32) (hm he fr : Int32) (o : Nat → Int64) : mH := [.inr (2, [.int cd, .ref 7, .ref 8, .int (MS.dn s), .int (MS.lf s), .ref 9, .int hm, .int he, .int fr]), .inl (0, 32, .inl (MS.t s)), .inl (0, 128, .inl (MS.c s)), .inl (1, 32, .inl mk), .inl (2, 1, .inr (.inl o))]
def Pc (c t : Nat → Int32) (lf dn : Int32) (re en : Nat → Int32) (n : Int32) : Px := fun i => match i with
  | 0 => .inr (0, [.ref 1, .ref 4, .ref 5, .int n])
  | 1 => .inr (1, [.ref 2, .ref 3, .int lf, .int dn])
  | 2 => .inl (0, 128, .inl c)
  | 3 => .inl (0, 32, .inl t)
  | 4 => .inl (1, 32, .inl re)
  | _ => .inl (0, 32, .inl en)
def Fx (c t : Nat → Int32) (lf dn : Int32) (re en : Nat → Int32) (n cd : Int32) (s : MS) (mk : Nat → Int32) (hm he fr : Int32) (o : Nat → Int64) : mH := hV c t lf dn re en n (hMt cd s mk hm he fr o)
theorem Fx_M {c t re en mk : Nat → Int32} {lf dn n cd hm he fr : Int32} {s : MS} {o : Nat → Int64} : hM (Pc c t lf dn re en n) [.inl (2, 1, .inr (.inl o))] cd s mk hm he fr = Fx c t lf dn re en n cd s mk hm he fr o := rfl
theorem cmp_self (a : Int64) : lg_cmp a a = 0 := by
  unfold lg_cmp
  simp
theorem upL0 {o : Nat → Int64} {x : Int64} : vp_updL o 0 x 0 = x := by unfold vp_updL; rw [if_pos rfl]
section LH
variable {Ls : Nat} {xs : Nat → Int32} {c t c' t' re en mk : Nat → Int32} {lf dn lf' dn' n cd hm he fr : Int32} {s : MS} {o : Nat → Int64}
theorem h_make {a d v : Int32} {j : Nat} (hj : j ≤ jmx 15 4) (hc : ∀ re en n M, mEv Ls xs 15 (0, [some (.ref 0), some (.int a), some (.int d), none, none, none, none, none], [], (hV c t lf dn re en n M)) (if j = 0 then rV v (hV c' t' lf' dn' re en n M) else rX (xj 4 j) (hV c' t' lf' dn' re en n M))) :
    ∃ z w o', z ≤ 1 ∧ w ≤ 6 ∧ (j = 0 → o' 0 = v.toInt64) ∧ mEv Ls xs 88 (0, [some (.ref 0), some (.int a), some (.int d), some (.ref 10), none], [], (Fx c t lf dn re en n cd s mk hm he fr o)) (.inl (some (.int (nI j))), Fx c' t' lf' dn' re en n cd s mk hm he fr o', z, w) := by
  have h1 := hc re en n (hMt cd s mk hm he fr o)
  have hj : j ≤ 5 := hj
  match j, hj with
  | 0, _ =>
    refine ⟨0, 0, vp_updL o 0 v.toInt64, by omega, by omega, fun _ => upL0, ?_⟩
    refine fEv.calli rfl h1 ?_
    refine fEv.brT rfl (by decide) ?_
    exact fEv.retV rfl rfl
  | 1, _ => exact ⟨1, 6, o, by omega, by omega, fun z => absurd z (by decide), fEv.cat rfl h1 (by decide) rfl (fEv.retV rfl rfl)⟩
  | 2, _ => exact ⟨1, 6, o, by omega, by omega, fun z => absurd z (by decide), fEv.cat rfl h1 (by decide) rfl (fEv.retV rfl rfl)⟩
  | 3, _ => exact ⟨1, 6, o, by omega, by omega, fun z => absurd z (by decide), fEv.cat rfl h1 (by decide) rfl (fEv.retV rfl rfl)⟩
  | 4, _ => exact ⟨1, 6, o, by omega, by omega, fun z => absurd z (by decide), fEv.cat rfl h1 (by decide) rfl (fEv.retV rfl rfl)⟩
  | 5, _ => exact ⟨1, 6, o, by omega, by omega, fun z => absurd z (by decide), fEv.cat rfl h1 (by decide) rfl (fEv.retV rfl rfl)⟩
theorem h_remove {a v : Int32} {j : Nat} (hj : j ≤ jmx 23 0) (hc : ∀ re en n M, mEv Ls xs 23 (0, [some (.ref 0), some (.int a), none, none], [], (hV c t lf dn re en n M)) (if j = 0 then rV v (hV c' t' lf' dn' re en n M) else rX (xj 0 j) (hV c' t' lf' dn' re en n M))) :
    ∃ z w o', z ≤ 1 ∧ w ≤ 6 ∧ (j = 0 → o' 0 = v.toInt64) ∧ mEv Ls xs 89 (0, [some (.ref 0), some (.int a), some (.ref 10), none], [], (Fx c t lf dn re en n cd s mk hm he fr o)) (.inl (some (.int (nI j))), Fx c' t' lf' dn' re en n cd s mk hm he fr o', z, w) := by
  have h1 := hc re en n (hMt cd s mk hm he fr o)
  have hj : j ≤ 4 := hj
  match j, hj with
  | 0, _ =>
    refine ⟨0, 0, vp_updL o 0 v.toInt64, by omega, by omega, fun _ => upL0, ?_⟩
    refine fEv.calli rfl h1 ?_
    refine fEv.brT rfl (by decide) ?_
    exact fEv.retV rfl rfl
  | 1, _ => exact ⟨1, 6, o, by omega, by omega, fun z => absurd z (by decide), fEv.cat rfl h1 (by decide) rfl (fEv.retV rfl rfl)⟩
  | 2, _ => exact ⟨1, 6, o, by omega, by omega, fun z => absurd z (by decide), fEv.cat rfl h1 (by decide) rfl (fEv.retV rfl rfl)⟩
  | 3, _ => exact ⟨1, 6, o, by omega, by omega, fun z => absurd z (by decide), fEv.cat rfl h1 (by decide) rfl (fEv.retV rfl rfl)⟩
  | 4, _ => exact ⟨1, 6, o, by omega, by omega, fun z => absurd z (by decide), fEv.cat rfl h1 (by decide) rfl (fEv.retV rfl rfl)⟩
theorem h_rename {a b v : Int32} {j : Nat} (hj : j ≤ jmx 26 0) (hc : ∀ re en n M, mEv Ls xs 26 (0, [some (.ref 0), some (.int a), some (.int b), none, none], [], (hV c t lf dn re en n M)) (if j = 0 then rV v (hV c' t' lf' dn' re en n M) else rX (xj 0 j) (hV c' t' lf' dn' re en n M))) :
    ∃ z w o', z ≤ 1 ∧ w ≤ 6 ∧ (j = 0 → o' 0 = v.toInt64) ∧ mEv Ls xs 90 (0, [some (.ref 0), some (.int a), some (.int b), some (.ref 10), none], [], (Fx c t lf dn re en n cd s mk hm he fr o)) (.inl (some (.int (nI j))), Fx c' t' lf' dn' re en n cd s mk hm he fr o', z, w) := by
  have h1 := hc re en n (hMt cd s mk hm he fr o)
  have hj : j ≤ 4 := hj
  match j, hj with
  | 0, _ =>
    refine ⟨0, 0, vp_updL o 0 v.toInt64, by omega, by omega, fun _ => upL0, ?_⟩
    refine fEv.calli rfl h1 ?_
    refine fEv.brT rfl (by decide) ?_
    exact fEv.retV rfl rfl
  | 1, _ => exact ⟨1, 6, o, by omega, by omega, fun z => absurd z (by decide), fEv.cat rfl h1 (by decide) rfl (fEv.retV rfl rfl)⟩
  | 2, _ => exact ⟨1, 6, o, by omega, by omega, fun z => absurd z (by decide), fEv.cat rfl h1 (by decide) rfl (fEv.retV rfl rfl)⟩
  | 3, _ => exact ⟨1, 6, o, by omega, by omega, fun z => absurd z (by decide), fEv.cat rfl h1 (by decide) rfl (fEv.retV rfl rfl)⟩
  | 4, _ => exact ⟨1, 6, o, by omega, by omega, fun z => absurd z (by decide), fEv.cat rfl h1 (by decide) rfl (fEv.retV rfl rfl)⟩
theorem h_append {a b v : Int32} {j : Nat} (hj : j ≤ jmx 27 4) (hc : ∀ re en n M, mEv Ls xs 27 (0, [some (.ref 0), some (.int a), some (.int b), none, none, none], [], (hV c t lf dn re en n M)) (if j = 0 then rV v (hV c' t' lf' dn' re en n M) else rX (xj 4 j) (hV c' t' lf' dn' re en n M))) :
    ∃ z w o', z ≤ 1 ∧ w ≤ 6 ∧ (j = 0 → o' 0 = v.toInt64) ∧ mEv Ls xs 91 (0, [some (.ref 0), some (.int a), some (.int b), some (.ref 10), none], [], (Fx c t lf dn re en n cd s mk hm he fr o)) (.inl (some (.int (nI j))), Fx c' t' lf' dn' re en n cd s mk hm he fr o', z, w) := by
  have h1 := hc re en n (hMt cd s mk hm he fr o)
  have hj : j ≤ 5 := hj
  match j, hj with
  | 0, _ =>
    refine ⟨0, 0, vp_updL o 0 v.toInt64, by omega, by omega, fun _ => upL0, ?_⟩
    refine fEv.calli rfl h1 ?_
    refine fEv.brT rfl (by decide) ?_
    exact fEv.retV rfl rfl
  | 1, _ => exact ⟨1, 6, o, by omega, by omega, fun z => absurd z (by decide), fEv.cat rfl h1 (by decide) rfl (fEv.retV rfl rfl)⟩
  | 2, _ => exact ⟨1, 6, o, by omega, by omega, fun z => absurd z (by decide), fEv.cat rfl h1 (by decide) rfl (fEv.retV rfl rfl)⟩
  | 3, _ => exact ⟨1, 6, o, by omega, by omega, fun z => absurd z (by decide), fEv.cat rfl h1 (by decide) rfl (fEv.retV rfl rfl)⟩
  | 4, _ => exact ⟨1, 6, o, by omega, by omega, fun z => absurd z (by decide), fEv.cat rfl h1 (by decide) rfl (fEv.retV rfl rfl)⟩
  | 5, _ => exact ⟨1, 6, o, by omega, by omega, fun z => absurd z (by decide), fEv.cat rfl h1 (by decide) rfl (fEv.retV rfl rfl)⟩
theorem h_get {a b v : Int32} {j : Nat} (hj : j ≤ jmx 31 5) (hc : ∀ re en n M, mEv Ls xs 31 (0, [some (.ref 0), some (.int a), some (.int b), none], [], (hV c t lf dn re en n M)) (if j = 0 then rV v (hV c' t' lf' dn' re en n M) else rX (xj 5 j) (hV c' t' lf' dn' re en n M))) :
    ∃ z w o', z ≤ 1 ∧ w ≤ 6 ∧ (j = 0 → o' 0 = v.toInt64) ∧ mEv Ls xs 92 (0, [some (.ref 0), some (.int a), some (.int b), some (.ref 10), none], [], (Fx c t lf dn re en n cd s mk hm he fr o)) (.inl (some (.int (nI j))), Fx c' t' lf' dn' re en n cd s mk hm he fr o', z, w) := by
  have h1 := hc re en n (hMt cd s mk hm he fr o)
  have hj : j ≤ 5 := hj
  match j, hj with
  | 0, _ =>
    refine ⟨0, 0, vp_updL o 0 v.toInt64, by omega, by omega, fun _ => upL0, ?_⟩
    refine fEv.calli rfl h1 ?_
    refine fEv.brT rfl (by decide) ?_
    exact fEv.retV rfl rfl
  | 1, _ => exact ⟨1, 6, o, by omega, by omega, fun z => absurd z (by decide), fEv.cat rfl h1 (by decide) rfl (fEv.retV rfl rfl)⟩
  | 2, _ => exact ⟨1, 6, o, by omega, by omega, fun z => absurd z (by decide), fEv.cat rfl h1 (by decide) rfl (fEv.retV rfl rfl)⟩
  | 3, _ => exact ⟨1, 6, o, by omega, by omega, fun z => absurd z (by decide), fEv.cat rfl h1 (by decide) rfl (fEv.retV rfl rfl)⟩
  | 4, _ => exact ⟨1, 6, o, by omega, by omega, fun z => absurd z (by decide), fEv.cat rfl h1 (by decide) rfl (fEv.retV rfl rfl)⟩
  | 5, _ => exact ⟨1, 6, o, by omega, by omega, fun z => absurd z (by decide), fEv.cat rfl h1 (by decide) rfl (fEv.retV rfl rfl)⟩
theorem h_put {a b d v : Int32} {j : Nat} (hj : j ≤ jmx 33 5) (hc : ∀ re en n M, mEv Ls xs 33 (0, [some (.ref 0), some (.int a), some (.int b), some (.int d), none, none, none], [], (hV c t lf dn re en n M)) (if j = 0 then rV v (hV c' t' lf' dn' re en n M) else rX (xj 5 j) (hV c' t' lf' dn' re en n M))) :
    ∃ z w o', z ≤ 1 ∧ w ≤ 6 ∧ (j = 0 → o' 0 = v.toInt64) ∧ mEv Ls xs 93 (0, [some (.ref 0), some (.int a), some (.int b), some (.int d), some (.ref 10), none], [], (Fx c t lf dn re en n cd s mk hm he fr o)) (.inl (some (.int (nI j))), Fx c' t' lf' dn' re en n cd s mk hm he fr o', z, w) := by
  have h1 := hc re en n (hMt cd s mk hm he fr o)
  have hj : j ≤ 5 := hj
  match j, hj with
  | 0, _ =>
    refine ⟨0, 0, vp_updL o 0 v.toInt64, by omega, by omega, fun _ => upL0, ?_⟩
    refine fEv.calli rfl h1 ?_
    refine fEv.brT rfl (by decide) ?_
    exact fEv.retV rfl rfl
  | 1, _ => exact ⟨1, 6, o, by omega, by omega, fun z => absurd z (by decide), fEv.cat rfl h1 (by decide) rfl (fEv.retV rfl rfl)⟩
  | 2, _ => exact ⟨1, 6, o, by omega, by omega, fun z => absurd z (by decide), fEv.cat rfl h1 (by decide) rfl (fEv.retV rfl rfl)⟩
  | 3, _ => exact ⟨1, 6, o, by omega, by omega, fun z => absurd z (by decide), fEv.cat rfl h1 (by decide) rfl (fEv.retV rfl rfl)⟩
  | 4, _ => exact ⟨1, 6, o, by omega, by omega, fun z => absurd z (by decide), fEv.cat rfl h1 (by decide) rfl (fEv.retV rfl rfl)⟩
  | 5, _ => exact ⟨1, 6, o, by omega, by omega, fun z => absurd z (by decide), fEv.cat rfl h1 (by decide) rfl (fEv.retV rfl rfl)⟩
theorem h_shorten {a b v : Int32} {j : Nat} (hj : j ≤ jmx 34 5) (hc : ∀ re en n M, mEv Ls xs 34 (0, [some (.ref 0), some (.int a), some (.int b), none, none, none], [], (hV c t lf dn re en n M)) (if j = 0 then rV v (hV c' t' lf' dn' re en n M) else rX (xj 5 j) (hV c' t' lf' dn' re en n M))) :
    ∃ z w o', z ≤ 1 ∧ w ≤ 6 ∧ (j = 0 → o' 0 = v.toInt64) ∧ mEv Ls xs 94 (0, [some (.ref 0), some (.int a), some (.int b), some (.ref 10), none], [], (Fx c t lf dn re en n cd s mk hm he fr o)) (.inl (some (.int (nI j))), Fx c' t' lf' dn' re en n cd s mk hm he fr o', z, w) := by
  have h1 := hc re en n (hMt cd s mk hm he fr o)
  have hj : j ≤ 5 := hj
  match j, hj with
  | 0, _ =>
    refine ⟨0, 0, vp_updL o 0 v.toInt64, by omega, by omega, fun _ => upL0, ?_⟩
    refine fEv.calli rfl h1 ?_
    refine fEv.brT rfl (by decide) ?_
    exact fEv.retV rfl rfl
  | 1, _ => exact ⟨1, 6, o, by omega, by omega, fun z => absurd z (by decide), fEv.cat rfl h1 (by decide) rfl (fEv.retV rfl rfl)⟩
  | 2, _ => exact ⟨1, 6, o, by omega, by omega, fun z => absurd z (by decide), fEv.cat rfl h1 (by decide) rfl (fEv.retV rfl rfl)⟩
  | 3, _ => exact ⟨1, 6, o, by omega, by omega, fun z => absurd z (by decide), fEv.cat rfl h1 (by decide) rfl (fEv.retV rfl rfl)⟩
  | 4, _ => exact ⟨1, 6, o, by omega, by omega, fun z => absurd z (by decide), fEv.cat rfl h1 (by decide) rfl (fEv.retV rfl rfl)⟩
  | 5, _ => exact ⟨1, 6, o, by omega, by omega, fun z => absurd z (by decide), fEv.cat rfl h1 (by decide) rfl (fEv.retV rfl rfl)⟩
theorem h_length {a v : Int32} {j : Nat} (hj : j ≤ jmx 36 0) (hc : ∀ re en n M, mEv Ls xs 36 (0, [some (.ref 0), some (.int a), none], [], (hV c t lf dn re en n M)) (if j = 0 then rV v (hV c' t' lf' dn' re en n M) else rX (xj 0 j) (hV c' t' lf' dn' re en n M))) :
    ∃ z w o', z ≤ 1 ∧ w ≤ 6 ∧ (j = 0 → o' 0 = v.toInt64) ∧ mEv Ls xs 95 (0, [some (.ref 0), some (.int a), some (.ref 10), none], [], (Fx c t lf dn re en n cd s mk hm he fr o)) (.inl (some (.int (nI j))), Fx c' t' lf' dn' re en n cd s mk hm he fr o', z, w) := by
  have h1 := hc re en n (hMt cd s mk hm he fr o)
  have hj : j ≤ 3 := hj
  match j, hj with
  | 0, _ =>
    refine ⟨0, 0, vp_updL o 0 v.toInt64, by omega, by omega, fun _ => upL0, ?_⟩
    refine fEv.calli rfl h1 ?_
    refine fEv.brT rfl (by decide) ?_
    exact fEv.retV rfl rfl
  | 1, _ => exact ⟨1, 6, o, by omega, by omega, fun z => absurd z (by decide), fEv.cat rfl h1 (by decide) rfl (fEv.retV rfl rfl)⟩
  | 2, _ => exact ⟨1, 6, o, by omega, by omega, fun z => absurd z (by decide), fEv.cat rfl h1 (by decide) rfl (fEv.retV rfl rfl)⟩
  | 3, _ => exact ⟨1, 6, o, by omega, by omega, fun z => absurd z (by decide), fEv.cat rfl h1 (by decide) rfl (fEv.retV rfl rfl)⟩
theorem h_names {a v : Int32} {j : Nat} (hj : j ≤ jmx 37 0) (hc : ∀ re en n M, mEv Ls xs 37 (0, [some (.ref 0), some (.int a), none], [], (hV c t lf dn re en n M)) (if j = 0 then rV v (hV c' t' lf' dn' re en n M) else rX (xj 0 j) (hV c' t' lf' dn' re en n M))) :
    ∃ z w o', z ≤ 1 ∧ w ≤ 6 ∧ (j = 0 → o' 0 = v.toInt64) ∧ mEv Ls xs 96 (0, [some (.ref 0), some (.int a), some (.ref 10), none], [], (Fx c t lf dn re en n cd s mk hm he fr o)) (.inl (some (.int (nI j))), Fx c' t' lf' dn' re en n cd s mk hm he fr o', z, w) := by
  have h1 := hc re en n (hMt cd s mk hm he fr o)
  have hj : j ≤ 4 := hj
  match j, hj with
  | 0, _ =>
    refine ⟨0, 0, vp_updL o 0 v.toInt64, by omega, by omega, fun _ => upL0, ?_⟩
    refine fEv.calli rfl h1 ?_
    refine fEv.brT rfl (by decide) ?_
    exact fEv.retV rfl rfl
  | 1, _ => exact ⟨1, 6, o, by omega, by omega, fun z => absurd z (by decide), fEv.cat rfl h1 (by decide) rfl (fEv.retV rfl rfl)⟩
  | 2, _ => exact ⟨1, 6, o, by omega, by omega, fun z => absurd z (by decide), fEv.cat rfl h1 (by decide) rfl (fEv.retV rfl rfl)⟩
  | 3, _ => exact ⟨1, 6, o, by omega, by omega, fun z => absurd z (by decide), fEv.cat rfl h1 (by decide) rfl (fEv.retV rfl rfl)⟩
  | 4, _ => exact ⟨1, 6, o, by omega, by omega, fun z => absurd z (by decide), fEv.cat rfl h1 (by decide) rfl (fEv.retV rfl rfl)⟩
theorem h_free {v : Int32} {j : Nat} (hj : j ≤ jmx 38 0) (hc : ∀ re en n M, mEv Ls xs 38 (0, [some (.ref 0), none, none], [], (hV c t lf dn re en n M)) (if j = 0 then rV v (hV c' t' lf' dn' re en n M) else rX (xj 0 j) (hV c' t' lf' dn' re en n M))) :
    ∃ z w o', z ≤ 1 ∧ w ≤ 6 ∧ (j = 0 → o' 0 = v.toInt64) ∧ mEv Ls xs 97 (0, [some (.ref 0), some (.ref 10), none], [], (Fx c t lf dn re en n cd s mk hm he fr o)) (.inl (some (.int (nI j))), Fx c' t' lf' dn' re en n cd s mk hm he fr o', z, w) := by
  have h1 := hc re en n (hMt cd s mk hm he fr o)
  have hj : j ≤ 1 := hj
  match j, hj with
  | 0, _ =>
    refine ⟨0, 0, vp_updL o 0 v.toInt64, by omega, by omega, fun _ => upL0, ?_⟩
    refine fEv.calli rfl h1 ?_
    refine fEv.brT rfl (by decide) ?_
    exact fEv.retV rfl rfl
  | 1, _ => exact ⟨1, 6, o, by omega, by omega, fun z => absurd z (by decide), fEv.cat rfl h1 (by decide) rfl (fEv.retV rfl rfl)⟩
theorem f_thrown : mEv Ls xs 50 (0, [some (.ref 6)], [], (Fx c t lf dn re en n cd s mk hm he fr o)) (rV cd (Fx c t lf dn re en n cd s mk hm he fr o)) := fEv.retV rfl rfl
end LH
