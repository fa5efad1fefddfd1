/-! the law's start -/
def mLawOk : Prop := ∀ (L : Nat) (xs : Nat → Int32), L ≤ 2048 → ∃ (h : mH) (kc ks : Nat), mEv L xs 99 (mEnt 99 [.ref mSC] []) (.inl (some (.int 1)), h, kc, ks) ∧ kc ≤ 647313 ∧ ks ≤ 7154165
def R_law : String := "ClusterVolumeLaw"
def lw_P (b : Addr) (xs : List Int32) (args : Array Value) (s : State) : Prop := args = #[.ref b] ∧ s.IntsAt b xs ∧ xs.length ≤ 2048 ∧ (Jvm.Cond.and given_1 narrow_1).before args s = true
def lw_Q (_ : Array Value) (s : State) (o : Outcome) (t : State) : Prop := o = .returned (some (.int 1)) ∧ Framed s o t [] 647313 7154165
def lw_Z (below : List Frame) (a : Array Value) (s : State) : State → Prop := fun t => ∃ o, t.status = .running ∧ Ended t below o ∧ lw_Q a s o t
def lw_At (p : Program) (s : State) (m : MethodId) (meth : Method) (c : Code) (b L : Nat) (xs : Nat → Int32) : Prop :=
  p.tables.exec = Jvm.exec ∧ c.code = code ∧ meth.sig.returnType = ret ∧ c.maxLocals = 7 ∧ s.vm.findClass R_law = some m.cls ∧ (∀ w ∈ lw_tbl, w.before #[Value.ref b] s = true) ∧ va_X b L xs s s.heap ∧ b < s.heap.size ∧ meth.locks = false ∧ (Jvm.Cond.and given_1 narrow_1).before #[Value.ref b] s = true
theorem mNcs_flat : ∀ w ∈ mNcs, w ∈ flatC (Jvm.Cond.and given_1 narrow_1) := by decide +kernel
theorem xS3_flat : xS3 ∈ flatC (Jvm.Cond.and given_1 narrow_1) := by decide +kernel
theorem xS4_flat : xS4 ∈ flatC (Jvm.Cond.and given_1 narrow_1) := by decide +kernel
theorem xS1_tbl : xS1 ∈ lw_tbl := by decide +kernel
theorem xS2_tbl : xS2 ∈ lw_tbl := by decide +kernel
theorem mArr {args : Array Value} {s : State} {ty : FieldType} (h : (Jvm.Cond.arrayClass ty).before args s = true) (hp : ty = .int ∨ ty = .boolean ∨ ty = .long) : ∃ cA : ClassId, ArrOfT s cA ty ∧ va_RA s cA ty := by
  obtain ⟨c, k, comp, h1, h2, h3⟩ := Cond.arrayClass_spec h
  refine ⟨c, fun n z => ⟨fun k h => (by cases h), k, h2, comp, h3⟩, ?_⟩
  rcases hp with rfl | rfl | rfl <;> exact h1
set_option maxRecDepth 100000 in
set_option maxHeartbeats 4000000 in
theorem start_of (hm : mLawOk) {p : Program} {e : Env} {s : State} {m : MethodId} {below : List Frame} {meth : Method} {c : Code} (l : Launch) (hst : l.stackTraces = false) (hnm : meth.name = "law") (hexc : c.exceptionTable.toList = []) {b L : Nat} {xs : Nat → Int32} (hL : L ≤ 2048) (C0 : lw_At p s m meth c b L xs) : W p l e room_1 s m #[Value.ref b] below meth c s.heap [] 0 0 (lw_Z below #[Value.ref b] s) (entryFrame m ([Value.ref b] : List Value).toArray 7) := by
  obtain ⟨hx, hb, hr, hml, hown, hts, hX, hbl, hlk, hgv⟩ := C0
  have hfl := flat_of_before _ hgv
  obtain ⟨h', kc, ks, ⟨n, hn⟩, hkc, hks⟩ := hm L xs hL
  have hW0 : ∀ w ∈ mWs, w.before #[Value.ref b] s = true := fun w hw => hts w (List.mem_filter.mp hw).1
  have hV0 : ∀ w ∈ mVs, w.before #[Value.ref b] s = true := by
    intro w hw
    rcases List.mem_append.mp hw with h | h
    · exact hts w (List.mem_filter.mp h).1
    · exact hfl w (mNcs_flat w h)
  obtain ⟨c0, i0, K0⟩ := u_known hW0 mLay0 (hW0 (.instantiable "ClusterVolume" 4) (by decide +kernel))
  obtain ⟨c1, i1, K1⟩ := u_known hW0 mLay1 (hW0 (.instantiable "ClusterVolume$Disk" 4) (by decide +kernel))
  obtain ⟨c2, i2, K2⟩ := u_known hW0 mLay2 (hW0 (.instantiable "ClusterVolumeModel" 9) (by decide +kernel))
  obtain ⟨a0, A0, B0⟩ := mArr (hW0 (.arrayClass .int) (by decide +kernel)) (Or.inl rfl)
  obtain ⟨a1, A1, B1⟩ := mArr (hW0 (.arrayClass .boolean) (by decide +kernel)) (Or.inr (Or.inl rfl))
  obtain ⟨a2, A2, B2⟩ := mArr (hW0 (.arrayClass .long) (by decide +kernel)) (Or.inr (Or.inr rfl))
  have hK : va_K ((fun i => match i with | 0 => c0 | 1 => c1 | _ => c2), (fun i => match i with | 0 => i0 | 1 => i1 | _ => i2)) mCls (mTys (fun i => match i with | 0 => a0 | 1 => a1 | _ => a2)) s := by
    refine ⟨fun i q hq => ?_, fun i q hq => ?_⟩
    · match i, hq with
      | 0, hq => cases hq; exact K0
      | 1, hq => cases hq; exact K1
      | 2, hq => cases hq; exact K2
      | i + 3, hq => cases hq
    · match i, hq with
      | 0, hq => cases hq; exact ⟨A0, B0⟩
      | 1, hq => cases hq; exact ⟨A1, B1⟩
      | 2, hq => cases hq; exact ⟨A2, B2⟩
      | i + 3, hq => cases hq
  have hZ : xZ s := by
    have z1 := xS_move (a' := #[]) (hts _ xS1_tbl) (hfl _ xS3_flat) (Vm.Alike.refl s.vm) (fun _ _ q _ => q)
    have z2 := xS_move (a' := #[]) (hts _ xS2_tbl) (hfl _ xS4_flat) (Vm.Alike.refl s.vm) (fun _ _ q _ => q)
    exact ⟨z1, z2⟩
  have hC : Cx ((fun i => match i with | 0 => c0 | 1 => c1 | _ => c2), (fun i => match i with | 0 => i0 | 1 => i1 | _ => i2)) (fun i => match i with | 0 => a0 | 1 => a1 | _ => a2) b L xs (fun q => s.heap.size ≤ q) p s m #[Value.ref b] meth c 99 :=
    ⟨hx, hb, hml, hown, hW0, hV0, hK, hX, hbl, Nat.not_le.mpr hbl, fun q hq => hq, hr, hlk, hnm, by rw [hexc]; rfl, hZ, fun q cell hq hc => absurd (Array.getElem?_eq_some_iff.mp hc).1 (Nat.not_lt.mpr hq)⟩
  have key := sMain hst n 99 _ _ hn p e room_1 s m #[Value.ref b] below meth c s.heap [] 0 0 (lw_Z below #[Value.ref b] s) (fun q => s.heap.size ≤ q) (fun _ => b) _ hC ⟨by decide, by decide⟩ ⟨by show 0 + kc ≤ 647313; omega, by show 0 + ks ≤ 7154165; omega⟩
    ⟨fun i q hq => by simp [trH, mEnt] at hq, ⟨fun i j q q' hq => by simp [trH, mEnt] at hq, fun i q hq => by simp [trH, mEnt] at hq⟩, va_S.rf, rfl⟩ (LR.entry (n := mNL 99) (av := [.ref mSC]) (by decide) rfl) (fun t o ρ' locs' a1 a2 a3 a4 a5 a6 a7 a8 => by
      obtain ⟨rfl, -⟩ := a3
      obtain ⟨L2, s1, s2⟩ := a5
      exact ⟨_, a1, a2, rfl, ⟨_, rfl⟩, a4, s1.weaken (fun y hy hlt => absurd (s2 y hy) (Nat.not_le.mpr hlt)) (by show 0 + kc ≤ _; omega) (by show 0 + ks ≤ _; omega)⟩)
  rw [lg_entry_eq]
  exact key
