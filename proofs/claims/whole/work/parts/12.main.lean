theorem va_at_plain {D : va_G} {cl : List vw_C} {q : Nat × va_E} {H : Heap} {cell : Cell} (h : va_at D cl q H) (hc : H[q.1]? = some cell) : cell.vm.isStatics = false := by
  obtain ⟨a, e⟩ := q
  cases e with
  | inl x =>
    obtain ⟨cA, n, f | f | f | f | f⟩ := x <;>
    · have h' : H[a]? = some (vp_cell _ _) := h
      rw [h'] at hc
      cases hc
      rfl
  | inr o =>
    obtain ⟨r, -, c9, g1, g2, g3, -⟩ := h
    rw [g1] at hc
    cases hc
    rw [g3]; rfl
section SMN
variable {D : va_G} {dA : Nat → ClassId} {b Ls : Nat} {xs : Nat → Int32}
/-- how a run of the small machine and the end of a call of the machine belong together -/
def Oc (r : mO) (vm : Vm) (o : Outcome) (t : State) : Prop :=
  match r with
  | .inl v => o = .returned v ∧ ∀ w, v = some w → ∃ z : Int32, w = .int z
  | .inr j => ∃ a cell, o = .threw a ∧ t.heap[a]? = some cell ∧ cell.vm = .none ∧ vm.findClass (mXn j) = some cell.cls
def mA (ρ : Nat → Nat) (n : Nat) (sz : Nat) : Nat → Prop := fun q => (∃ i, i < n ∧ q = ρ i) ∨ sz ≤ q
def Pcc (D : va_G) (dA : Nat → ClassId) (b Ls : Nat) (xs : Nat → Int32) (ρ : Nat → Nat) (av : List Value) (h : mH) : Array Value → State → Prop := fun v U =>
  v = (av.map (trV ρ)).toArray ∧ va_P D mCls (trH ρ dA h) U.heap ∧ va_K D mCls (mTys dA) U ∧ va_D (fun q => q ≠ b) (trH ρ dA h) ∧ ρ mSC = b ∧ va_X b Ls xs U U.heap ∧ xZ U ∧ ∀ w ∈ mVs, w.before #[] U = true
def Qcc (D : va_G) (dA : Nat → ClassId) (b : Nat) (ρ : Nat → Nat) (h : mH) (r : mR) : Array Value → State → Outcome → State → Prop := fun _ st o t =>
  Oc r.1 st.vm o t ∧ (∃ ρ', (∀ i, i < h.length → ρ' i = ρ i) ∧ h.length ≤ r.2.1.length ∧ va_P D mCls (trH ρ' dA r.2.1) t.heap ∧ va_D (mA ρ h.length st.heap.size) (trH ρ' dA r.2.1) ∧ ρ' mSC = b) ∧ va_F (mA ρ h.length st.heap.size) st t
/-- what a walk from a point owes -/
def Sd (l : Launch) (D : va_G) (dA : Nat → ClassId) (b Ls : Nat) (xs : Nat → Int32) (k : Nat) (st : mS) (r : mR) : Prop :=
  ∀ (p : Program) (e : Env) (R : Room) (s : State) (m : MethodId) (args : Array Value) (below : List Frame) (meth : Method) (c : Code) (H : Heap) (locs : List Loc) (cells slots : Nat) (Q : State → Prop) (A : Nat → Prop) (ρ : Nat → Nat) (ls : Array Slot),
    Cx D dA b Ls xs A p s m args meth c k → mFr k ≤ R.frames ∧ mLo k ≤ R.locals → cells + r.2.2.1 ≤ R.cells ∧ slots + r.2.2.2 ≤ R.slots → Wp D dA b A s ρ st.2.2.2 H locs → LR ρ ls (mNL k) st.2.1 →
    (∀ (t : State) (o : Outcome) (ρ' : Nat → Nat) (locs' : List Loc), t.status = .running → Ended t below o → Oc r.1 s.vm o t → s.WarmedH t.vm → (∃ L, s.sameButNew ({ t with vm := s.vm } : State) L (cells + r.2.2.1) (slots + r.2.2.2) ∧ ∀ q ∈ L, A q.base) → (∀ i, i < st.2.2.2.length → ρ' i = ρ i) → st.2.2.2.length ≤ r.2.1.length → Wp D dA b A s ρ' r.2.1 t.heap locs' → Q t) →
    W p l e R s m args below meth c H locs cells slots Q (F0 m st.1 ls (st.2.2.1.map (trV ρ)))
set_option maxHeartbeats 4000000 in
/-- a method's contract out of its body's walk -/
theorem Sd.met {l : Launch} {k : Nat} {av : List Value} {h : mH} {r : mR} (hd : Sd l D dA b Ls xs k (mEnt k av h) r) (hk : mMeth k) (hn : av.length ≤ mNL k) (h1 : mOne av = true) (ρ : Nat → Nat) :
    xMet l (mY k) mWs { frames := mFr k, cells := r.2.2.1, slots := r.2.2.2, locals := mLo k } (Pcc D dA b Ls xs ρ av h) (Qcc D dA b ρ h r) (fun st => mA ρ h.length st.heap.size) := by
  refine MetFree.of_bodyS (code := mBy k) (maxLocals := mNL k) (ret := mRet k) hk.2.2.2.2 ?_ ?_
  · intro args s m hp hn
    obtain ⟨mk, methM, cM, h0, h1, h2, h3, h4, -, h5, h6, -⟩ := mMeth_has (atoms_spec (ws := mWs) hp) hk
    cases hn.symm.trans h0
    exact ⟨methM, cM, h1, h2, h3, h4, h5, h6⟩
  · intro p e s m args below meth c s₁ B hml hP _
    obtain ⟨rfl, hP, hK, hD, hb, hX, hZ, hV⟩ := hP
    have hts := atoms_spec (ws := mWs) B.pre
    obtain ⟨mk, methM, cM, g0, g1, g2, g3, g4, g5, g6, g7, -⟩ := mMeth_has hts hk
    cases B.named.symm.trans g0
    cases B.method.symm.trans g1
    have X := Stand.of_body B
    cases X.code.symm.trans g2
    obtain ⟨scr, hscr, hscr2⟩ := id hX
    have hbl : b < s.heap.size := (Array.getElem?_eq_some_iff.mp hscr).1
    have hρ : ∀ i, i < h.length → ρ i ≠ b := by
      intro i hi
      exact hD.2 i _ (trH_get (List.getElem?_eq_getElem hi))
    have hnA : ¬ mA ρ h.length s.heap.size b := by
      rintro (⟨i, hi, e⟩ | h9)
      · exact hρ i hi e.symm
      · omega
    have hAs : ∀ (q : Nat) (cell : Cell), mA ρ h.length s.heap.size q → s.heap[q]? = some cell → cell.vm.isStatics = false := by
      rintro q cell (⟨i, hi, rfl⟩ | h9) hc
      · exact va_at_plain (hP i _ (trH_get (List.getElem?_eq_getElem hi))) hc
      · exact absurd (Array.getElem?_eq_some_iff.mp hc).1 (by omega)
    have hC : Cx D dA b Ls xs (mA ρ h.length s.heap.size) p s m _ meth c k := ⟨B.exec, B.bytes, hml, findClass_of_methodNamed B.named, hts, fun w hw => mV_move (mVs_k w hw) (State.WarmedH.refl s) (hV w hw), hK, hX, hbl, hnA, fun q hq => Or.inr hq, B.returns, B.notSynchronized, (name_of_methodNamed B.named B.method).1, g5, hZ, hAs⟩
    have hW : Wp D dA b (mA ρ h.length s.heap.size) s ρ h s.heap [] := ⟨hP, ⟨hD.1, fun i q hq => by
      obtain ⟨c0, h9, rfl⟩ := trH_inv hq
      exact Or.inl ⟨i, (List.getElem?_eq_some_iff.mp h9).1, rfl⟩⟩, va_S.rf, hb⟩
    have hh0 : s₁.heap = s.heap := by rw [B.state]; rfl
    have key := hd p e (headSpec mWs { frames := mFr k, cells := r.2.2.1, slots := r.2.2.2, locals := mLo k }).room s m _ below meth c s.heap [] 0 0 (fun t => ∃ o, t.status = .running ∧ Ended t below o ∧ xQ (Qcc D dA b ρ h r) r.2.2.1 r.2.2.2 (fun st => mA ρ h.length st.heap.size) (av.map (trV ρ)).toArray s o t) (mA ρ h.length s.heap.size) ρ _ hC ⟨Nat.le_refl _, Nat.le_refl _⟩ ⟨by rw [Nat.zero_add]; exact Nat.le_refl _, by rw [Nat.zero_add]; exact Nat.le_refl _⟩ hW (LR.entry hn h1) (fun t o ρ' locs' a1 a2 a3 a4 a5 a6 a7 a8 => by
      rw [Nat.zero_add, Nat.zero_add] at a5
      exact ⟨o, a1, a2, ⟨a3, ⟨ρ', a6, a7, a8.1, a8.2.1, a8.2.2.2⟩, a8.2.2.1.1, a8.2.2.1.2.1⟩, a4, a5⟩)
    rw [lg_entry_eq]
    obtain ⟨t, a1, o, b1, b2, b3⟩ := key s₁ hh0 X
    exact ⟨t, o, a1, b1, b2, b3⟩
set_option maxHeartbeats 8000000 in
theorem sMain {l : Launch} (hst : l.stackTraces = false) : ∀ (n k : Nat) (st : mS) (r : mR), mGo Ls xs n k st = some r → Sd l D dA b Ls xs k st r := by
  intro n
  induction n with
  | zero => intro k st r h; simp [mGo] at h
  | succ n ih =>
    intro k st r hgo
    obtain ⟨pc, L, S, h⟩ := st
    intro p e R s m args below meth c H locs cells slots Q A ρ ls hC hR hcs hw hlr hE
    dsimp only at hw hlr hE ⊢
    rw [mGo] at hgo
    cases hx0 : mStep Ls xs k (pc, L, S, h) with
    | none => rw [hx0] at hgo; cases hgo
    | some x0 =>
      rw [hx0] at hgo
      obtain ⟨i, nx, x, y, hcode, hex⟩ : ∃ i nx x y, mCode k pc = some (i, nx, x, y) ∧ mEx Ls xs k i nx x y pc L S h = some x0 := by
        cases hcd : mCode k pc with
        | none => simp only [mStep, hcd] at hx0; cases hx0
        | some q =>
          obtain ⟨i, nx, x, y⟩ := q
          simp only [mStep, hcd] at hx0
          exact ⟨i, nx, x, y, rfl, hx0⟩
      refine sStep hst (mFacts hcode) hC hex hR hw hlr ?_
      rcases x0 with ⟨pc', L', S', h'⟩ | ⟨cnd, ⟨pc', L', S', h'⟩, o⟩ | ⟨f, o, h'⟩ | ⟨k', av, pc', L', S', h'⟩ | ⟨⟨pc', L', S', h'⟩, z⟩
      · intro hlen H' locs' ls' hw' hlr'
        exact ih k _ r hgo p e R s m args below meth c H' locs' cells slots Q A ρ ls' hC hR hcs hw' hlr' (fun t o ρ' locs2 a1 a2 a3 a4 a5 a6 a7 a8 => hE t o ρ' locs2 a1 a2 a3 a4 a5 (fun i hi => a6 i (by dsimp only; omega)) (by dsimp only at a7; omega) a8)
      · refine ⟨fun hc hlen H' locs' ls' hw' hlr' => ?_, fun hc => ?_⟩
        · subst hc
          exact ih k _ r hgo p e R s m args below meth c H' locs' cells slots Q A ρ ls' hC hR hcs hw' hlr' (fun t o ρ' locs2 a1 a2 a3 a4 a5 a6 a7 a8 => hE t o ρ' locs2 a1 a2 a3 a4 a5 (fun i hi => a6 i (by dsimp only; omega)) (by dsimp only at a7; omega) a8)
        · subst hc
          cases o with
          | none => cases hgo
          | some q =>
            obtain ⟨pc2, L2, S2, h2⟩ := q
            intro hlen H' locs' ls' hw' hlr'
            exact ih k _ r hgo p e R s m args below meth c H' locs' cells slots Q A ρ ls' hC hR hcs hw' hlr' (fun t o ρ' locs2 a1 a2 a3 a4 a5 a6 a7 a8 => hE t o ρ' locs2 a1 a2 a3 a4 a5 (fun i hi => a6 i (by dsimp only; omega)) (by dsimp only at a7; omega) a8)
      · cases f with
        | false => rcases o with v | j <;> cases hgo
        | true =>
          rcases o with v | j
          · cases hgo
            exact ⟨rfl, fun hv hlen t a1 a2 a3 a4 a5 a6 => hE t _ ρ locs a1 a2 ⟨rfl, hv⟩ a4 a5 (fun _ _ => rfl) (by dsimp only; omega) (by rw [a3]; exact a6)⟩
          · cases hgo
            exact ⟨rfl, hcs.1, hcs.2, fun hlen t a cell a1 a2 a3 a4 a5 a6 a7 a8 => hE t _ ρ locs a1 a2 ⟨a, cell, rfl, a3, a4, a5⟩ a6 a7 (fun _ _ => rfl) (by dsimp only; omega) a8⟩
      · intro hgoT hwc hlc hlen hM hnl hone hokL hokS hcat hfr hlo hpc hdec
        obtain ⟨ig, hdec⟩ := hdec
        obtain ⟨hx, hbb, hml, hown, hts, hvs, hK, hX, hbl, hbA, hA, hr, hlk, hnm, hexc, hZ, hAs⟩ := id hC
        subst hpc
        dsimp only at hgo
        cases hg : mGo Ls xs n k' (mEnt k' av h') with
        | none => rw [hg] at hgo; cases hgo
        | some q =>
          rw [hg] at hgo
          obtain ⟨o', h2, c2, s2⟩ := q
          have hmet := (ih k' _ _ hg).met hM hnl hone ρ
          have hcnt : cells + c2 ≤ R.cells ∧ slots + s2 ≤ R.slots := by
            cases o' with
            | inl v =>
              obtain ⟨r0, hr0, rfl⟩ := Option.map_eq_some_iff.mp hgo
              simp only [mAdd] at hcs
              exact ⟨by omega, by omega⟩
            | inr j =>
              dsimp only at hgo
              split at hgo
              · cases hgo; exact hcs
              · split at hgo
                · obtain ⟨r0, hr0, rfl⟩ := Option.map_eq_some_iff.mp hgo
                  simp only [mAdd] at hcs
                  exact ⟨by omega, by omega⟩
                · cases hgo
          intro T hT X
          obtain ⟨mk, vm1, hnamed, X1, hsteps⟩ := hgoT T hT X
          have hW1 : s.WarmedH (T.setVm vm1).vm := X1.warmed
          have hnU : (T.setVm vm1).methodNamed? (mY k') = some mk := X1.named hnamed
          have hall : ∀ w ∈ mWs, ∀ a, w.before a (T.setVm vm1) = true := fun w hw9 a => word_at hW1 (mGood w hw9) (hts w hw9)
          have hPc : Pcc D dA b Ls xs ρ av h' (av.map (trV ρ)).toArray ((T.setVm vm1).calling { F0 m pc ls (S.map (trV ρ)) with stack := S'.map (trV ρ) } mk (av.map (trV ρ)).toArray) := by
            refine ⟨rfl, ?_, va_K.moved hW1.alike hK, ⟨hwc.2.1.1, fun i q hq h9 => hbA (h9 ▸ hwc.2.1.2 i q hq)⟩, hwc.2.2.2, ?_, ?_, fun w hw9 => mV_move (mVs_k w hw9) hW1 (hvs w hw9)⟩
            · show va_P D mCls (trH ρ dA h') T.heap
              rw [hT]; exact hwc.1
            · show va_X b Ls xs _ T.heap
              rw [hT]
              exact va_X.moved hW1.alike (hX.kept (hwc.2.2.1.2.1 b hbl hbA))
            · refine hZ.move hW1.alike (fun q cell hq hs9 => ?_)
              show T.heap[q]? = some cell
              rw [hT, hwc.2.2.1.2.1 q (Array.getElem?_eq_some_iff.mp hq).1 (fun z => by have := hAs q cell z hq; rw [hs9] at this; cases this)]
              exact hq
          obtain ⟨o3, t, U', L3, X3, hL3, e1, e2, hq, st3⟩ := xCall X1 hmet (g := { F0 m pc ls (S.map (trV ρ)) with stack := S'.map (trV ρ) }) rfl (by rw [hml]; exact hlr.1.1) (by rw [hbb]; exact hdec) (mMeth_has (fun w hw9 => hall w hw9 #[]) hM) hnU (a := (av.map (trV ρ)).toArray) (hall _ hM.2.1 _) (by show mFr k' + 1 ≤ R.frames; omega) (by show 2 * 0 + _ + (mNL k' + 11) + mLo k' ≤ R.locals; rw [mCat_tr]; omega) hcnt.1 hcnt.2 (atoms_intro fun w hw9 => hall w hw9 _) hPc
          obtain ⟨q1, ⟨ρ', r1, r2, r3, r4, r5⟩, hF1, hF2⟩ := hq
          have hUh : ((T.setVm vm1).calling { F0 m pc ls (S.map (trV ρ)) with stack := S'.map (trV ρ) } mk (av.map (trV ρ)).toArray).heap = H := hT
          rw [hUh] at r4 hF1 hF2
          have hsz : s.heap.size ≤ H.size := hwc.2.2.1.1
          have hmA : ∀ q, mA ρ h'.length H.size q → A q := by
            rintro q (⟨i, hi, rfl⟩ | h9)
            · exact hwc.2.1.2 i _ (trH_get (List.getElem?_eq_getElem hi))
            · exact hA q (by omega)
          have hL4 : ∀ q ∈ L3, A q.base := fun q hq9 => hmA _ (by have := hL3 q hq9; dsimp only at this; rwa [hUh] at this)
          have hS3 : va_S A s.heap U'.heap (locs ++ L3) := by
            refine ⟨by rw [e1]; omega, fun q g1 g2 => ?_, fun q hq9 => ?_⟩
            · rw [e1, hF2 q (by omega) (fun z => g2 (hmA q z))]
              exact hwc.2.2.1.2.1 q g1 g2
            · rcases List.mem_append.mp hq9 with h9 | h9
              · exact hwc.2.2.1.2.2 q h9
              · exact hL4 q h9
          have hw3 : Wp D dA b A s ρ' h2 U'.heap (locs ++ L3) := ⟨by rw [e1]; exact r3, ⟨r4.1, fun i q hq9 => hmA _ (r4.2 i q hq9)⟩, hS3, r5⟩
          have hsc : ρ' mSC = ρ mSC := by rw [r5, hwc.2.2.2]
          cases o' with
          | inl v =>
            obtain ⟨rfl, hv⟩ := q1
            obtain ⟨r0, hr0, rfl⟩ := Option.map_eq_some_iff.mp hgo
            simp only [mAdd] at hcs hE
            have hvm : (v.toList ++ S').map (trV ρ') = v.toList ++ S'.map (trV ρ) := by
              rw [List.map_append, mOkS_tr hokS r1 hsc]
              congr 1
              cases v with
              | none => rfl
              | some w => obtain ⟨z, rfl⟩ := hv w rfl; rfl
            have key := ih k _ r0 hr0 p e R s m args below meth c U'.heap (locs ++ L3) (cells + c2) (slots + s2) Q A ρ' ls hC hR ⟨by omega, by omega⟩ hw3 (hlc.ext hokL r1 hsc) (fun t o ρ2 locs2 a1 a2 a3 a4 a5 a6 a7 a8 => hE t o ρ2 locs2 a1 a2 a3 a4 (by rw [← Nat.add_assoc, ← Nat.add_assoc]; exact a5) (fun i hi => (a6 i (by dsimp only at r2 ⊢; omega)).trans (r1 i (by omega))) (by dsimp only at a7 r2 ⊢; omega) a8)
            dsimp only at key
            rw [hvm] at key
            obtain ⟨t9, w1, w2⟩ := key U' rfl X3
            exact ⟨t9, hsteps _ (st3.trans w1), w2⟩
          | inr j =>
            obtain ⟨a, cell, rfl, c1, c3, c4⟩ := q1
            have st4 : Steps p.tables e below _ ((U'.setTop { F0 m pc ls (S.map (trV ρ)) with stack := S'.map (trV ρ) }).pushFrame (.throwing a)) := st3
            have c4' : s.vm.findClass (mXn j) = some cell.cls := by rw [← hW1.alike.findClass]; exact c4
            dsimp only at hgo
            split at hgo
            · rename_i hhh
              cases hgo
              have hout : ∀ x ∈ c.exceptionTable.toList, covers x pc = false := by
                rw [hhh] at hexc
                have : c.exceptionTable.toList = [] := List.map_eq_nil_iff.mp hexc
                rw [this]; intro x hx9; cases hx9
              obtain ⟨y1, y2, y3, y4, y5⟩ := X3.leaveThrown a (g := { F0 m pc ls (S.map (trV ρ)) with stack := S'.map (trV ρ) }) rfl rfl rfl hout hlk
              refine ⟨_, hsteps _ (st4.trans y1), hE _ (.threw a) ρ' (locs ++ L3) y2 y3 ⟨a, cell, rfl, by show U'.heap[a]? = _; rw [e1]; exact c1, c3, c4'⟩ y4 ⟨locs ++ L3, y5, hS3.2.2⟩ (fun i hi => r1 i (by omega)) (by dsimp only at r2 ⊢; omega) hw3⟩
            · split at hgo
              · rename_i q i hhn
                obtain ⟨r0, hr0, rfl⟩ := Option.map_eq_some_iff.mp hgo
                simp only [mAdd] at hcs hE
                rw [Nat.add_sub_cancel] at hhn
                obtain ⟨qh, hst2, hil, htk⟩ := mCatch hhn
                have hpl : e.platform.magicAccessors = ({} : Platform).magicAccessors := by rw [X.admits.platform]
                have htk2 : xTakes e s m.cls pc cell.cls qh c.exceptionTable.toList := mTk_takes hpl hown hts hvs c4' _ (by rw [hexc]; exact htk)
                obtain ⟨k9, hk9, -⟩ := Vm.findClass_spec c4'
                obtain ⟨vm3, X4, hcatch⟩ := xCatch X3 (a := a) (g := { F0 m pc ls (S.map (trV ρ)) with stack := S'.map (trV ρ) }) rfl (by rw [e1]; exact c1) (by rw [c3]; rfl) hk9 htk2
                have hlr3 := hlc.ext hokL r1 hsc
                have fin : ∀ ls' : Array Slot, lv_has ls' (mNL k) ((i, Value.ref a) :: (lpm ρ' L').filter (fun q => !(q.1 == i) && !(q.1 + 1 == i && q.2.category == 2))) → W p l e R s m args below meth c U'.heap (locs ++ L3) (cells + c2) (slots + s2) Q (F0 m q ls' []) := by
                  intro ls' h'
                  exact ih k _ r0 hr0 p e R s m args below meth c U'.heap (locs ++ L3) (cells + c2) (slots + s2) Q A ρ' ls' hC hR ⟨by omega, by omega⟩ hw3 (hlr3.drop h') (fun t o ρ2 locs2 a1 a2 a3 a4 a5 a6 a7 a8 => hE t o ρ2 locs2 a1 a2 a3 a4 (by rw [← Nat.add_assoc, ← Nat.add_assoc]; exact a5) (fun i hi => (a6 i (by dsimp only at r2 ⊢; omega)).trans (r1 i (by omega))) (by dsimp only at a7 r2 ⊢; omega) a8)
                have key : W p l e R s m args below meth c U'.heap (locs ++ L3) (cells + c2) (slots + s2) Q (F0 m qh ls [.ref a]) := by
                  rcases hst2 with ⟨hd2, rfl⟩ | ⟨f, hd2, hfi, rfl⟩
                  · exact lv_astore hx hbb hd2 hlr3.1 hil rfl fin
                  · exact lv_astore_n hx hbb hd2 hfi hlr3.1 hil rfl fin
                obtain ⟨t9, w1, w2⟩ := key (U'.setVm vm3) rfl X4
                exact ⟨t9, hsteps _ (st4.trans (hcatch _ w1)), w2⟩
              · cases hgo
      · obtain ⟨r0, hr0, rfl⟩ := Option.map_eq_some_iff.mp hgo
        simp only [mAdd] at hcs hE
        refine ⟨by omega, by omega, fun hlen ρ' H' locs' ls' hρ hw' hlr' => ?_⟩
        refine ih k _ r0 hr0 p e R s m args below meth c H' locs' (cells + 1) (slots + z) Q A ρ' ls' hC hR ⟨by omega, by omega⟩ hw' hlr' (fun t o ρ2 locs2 a1 a2 a3 a4 a5 a6 a7 a8 => hE t o ρ2 locs2 a1 a2 a3 a4 ?_ (fun i hi => (a6 i (by dsimp only; omega)).trans (hρ i hi)) (by dsimp only at a7; omega) a8)
        rw [← Nat.add_assoc, ← Nat.add_assoc]
        exact a5
end SMN
