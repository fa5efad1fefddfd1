section SNS
variable {p : Program} {l : Launch} {e : Env} {R : Room} {s : State} {m : MethodId} {args : Array Value} {below : List Frame} {meth : Method} {c : Code} {H : Heap} {locs : List Loc} {cells slots : Nat} {Q : State → Prop}
variable {D : va_G} {dA : Nat → ClassId} {b Ls : Nat} {xs : Nat → Int32} {A : Nat → Prop} {ρ : Nat → Nat} {k : Nat}
/-- what is owed behind an instruction, by its kind -/
def Kt (p : Program) (l : Launch) (e : Env) (R : Room) (s : State) (m : MethodId) (args : Array Value) (below : List Frame) (meth : Method) (c : Code) (H : Heap) (locs : List Loc) (cells slots : Nat) (Q : State → Prop) (D : va_G) (dA : Nat → ClassId) (b : Nat) (A : Nat → Prop) (ρ : Nat → Nat) (k : Nat) (pc : Nat) (ls : Array Slot) (S : List Value) (n0 : Nat) : mX → Prop
  | .inl (pc', L', S', h') => h'.length = n0 → ∀ (H' : Heap) (locs' : List Loc) (ls' : Array Slot), Wp D dA b A s ρ h' H' locs' → LR ρ ls' (mNL k) L' → W p l e R s m args below meth c H' locs' cells slots Q (F0 m pc' ls' (S'.map (trV ρ)))
  | .inr (.inl (cnd, (pc', L', S', h'), o)) => (cnd = true → h'.length = n0 → ∀ (H' : Heap) (locs' : List Loc) (ls' : Array Slot), Wp D dA b A s ρ h' H' locs' → LR ρ ls' (mNL k) L' → W p l e R s m args below meth c H' locs' cells slots Q (F0 m pc' ls' (S'.map (trV ρ)))) ∧
    (cnd = false → match o with
      | some (pc2, L2, S2, h2) => h2.length = n0 → ∀ (H' : Heap) (locs' : List Loc) (ls' : Array Slot), Wp D dA b A s ρ h2 H' locs' → LR ρ ls' (mNL k) L2 → W p l e R s m args below meth c H' locs' cells slots Q (F0 m pc2 ls' (S2.map (trV ρ)))
      | none => False)
  | .inr (.inr (.inl (f, .inl v, h'))) => f = true ∧ ((∀ w, v = some w → ∃ z : Int32, w = .int z) → h'.length = n0 → ∀ t : State, t.status = .running → Ended t below (.returned v) → t.heap = H → s.WarmedH t.vm → (∃ L, s.sameButNew ({ t with vm := s.vm } : State) L cells slots ∧ ∀ q ∈ L, A q.base) → Wp D dA b A s ρ h' H locs → Q t)
  | .inr (.inr (.inl (f, .inr j, h'))) => f = true ∧ cells + 1 ≤ R.cells ∧ slots + 6 ≤ R.slots ∧ (h'.length = n0 → ∀ (t : State) (a : Addr) (cell : Cell), t.status = .running → Ended t below (.threw a) → t.heap[a]? = some cell → cell.vm = .none → s.vm.findClass (mXn j) = some cell.cls → s.WarmedH t.vm → (∃ L, s.sameButNew ({ t with vm := s.vm } : State) L (cells + 1) (slots + 6) ∧ ∀ q ∈ L, A q.base) → Wp D dA b A s ρ h' t.heap locs → Q t)
  | .inr (.inr (.inr (.inr ((pc', L', S', h'), z)))) => cells + 1 ≤ R.cells ∧ slots + z ≤ R.slots ∧ (h'.length = n0 + 1 → ∀ (ρ' : Nat → Nat) (H' : Heap) (locs' : List Loc) (ls' : Array Slot), (∀ i, i < n0 → ρ' i = ρ i) → Wp D dA b A s ρ' h' H' locs' → LR ρ' ls' (mNL k) L' → W p l e R s m args below meth c H' locs' (cells + 1) (slots + z) Q (F0 m pc' ls' (S'.map (trV ρ'))))
  | .inr (.inr (.inr (.inl (k', av, (pc', L', S', h'))))) =>
    (∀ T : State, T.heap = H → Stand p l e R s m args below meth c T locs cells slots → xGo p l e R s m args below meth c T locs cells slots (F0 m pc ls (S.map (trV ρ))) (S'.map (trV ρ)) (mY k') (av.map (trV ρ)).toArray) →
    Wp D dA b A s ρ h' H locs → LR ρ ls (mNL k) L' → h'.length = n0 → mMeth k' → av.length ≤ mNL k' → mOne av = true → mOkL h'.length L' = true → mOkS h'.length S' = true → mCat S' ≤ 8 → mFr k' + 1 ≤ mFr k → 8 + (mNL k' + 11) + mLo k' ≤ mLo k → pc' = pc + 3 → (∃ ig, decode (mBy k) pc = .ok (ig, 3)) →
    W p l e R s m args below meth c H locs cells slots Q (F0 m pc ls (S.map (trV ρ)))
set_option maxHeartbeats 4000000 in
theorem sStep (hst : l.stackTraces = false) {i : Instr} {nx x y pc : Nat} {L : List (Option Value)} {S : List Value} {h : mH} {ls : Array Slot} {r : mX} (hF : mFact k pc i nx x y) (hC : Cx D dA b Ls xs A p s m args meth c k) (hs : mEx Ls xs k i nx x y pc L S h = some r)
    (hR : mFr k ≤ R.frames ∧ mLo k ≤ R.locals) (hw : Wp D dA b A s ρ h H locs) (hl : LR ρ ls (mNL k) L)
    (hk : Kt p l e R s m args below meth c H locs cells slots Q D dA b A ρ k pc ls S h.length r) :
    W p l e R s m args below meth c H locs cells slots Q (F0 m pc ls (S.map (trV ρ))) := by
  obtain ⟨hd, hnx, hf⟩ := hF
  obtain ⟨hx, hb, hml, hown, hts, hvs, hK, hX, hbl, hbA, hA, hr, hlk, hnm, hexc, hZ, hAs⟩ := hC
  subst hnx
  cases i with
  | iconst n => cases hs; exact lv_iconst hx hb hd hf (hk rfl _ _ _ hw hl)
  | bipush n => cases hs; exact lv_bipush hx hb hd hf (hk rfl _ _ _ hw hl)
  | sipush n => cases hs; exact lv_sipush hx hb hd hf (hk rfl _ _ _ hw hl)
  | ldc j => cases hs; exact lv_ldc hx hb hown (hts _ hf) hd (hk rfl _ _ _ hw hl)
  | ldc_w j => cases hs; exact lv_ldcw hx hb hown (hts _ hf) hd (hk rfl _ _ _ hw hl)
  | iload_n j => obtain ⟨v, hv, rfl⟩ := mLdI_inv hs; exact lv_iload_n hx hb hd rfl (hl.at hv) (hk rfl _ _ _ hw hl)
  | iload j => obtain ⟨v, hv, rfl⟩ := mLdI_inv hs; exact lv_iload hx hb hd (hl.at hv) (hk rfl _ _ _ hw hl)
  | aload_n j => obtain ⟨v, hv, rfl⟩ := mLdA_inv hs; exact lv_aload_n hx hb hd rfl (hl.at hv) (hk rfl _ _ _ hw hl)
  | aload j => obtain ⟨v, hv, rfl⟩ := mLdA_inv hs; exact lv_aload hx hb hd (hl.at hv) (hk rfl _ _ _ hw hl)
  | istore_n j => obtain ⟨v, S0, rfl, hj, rfl⟩ := mStI_inv hs; exact lv_istore_n hx hb hd rfl hl.1 (by rw [← hl.2.1]; exact hj) rfl (fun ls' h' => hk rfl _ _ ls' hw (hl.put rfl hj h'))
  | istore j => obtain ⟨v, S0, rfl, hj, rfl⟩ := mStI_inv hs; exact lv_istore hx hb hd hl.1 (by rw [← hl.2.1]; exact hj) rfl (fun ls' h' => hk rfl _ _ ls' hw (hl.put rfl hj h'))
  | astore_n j => obtain ⟨v, S0, rfl, hj, rfl⟩ := mStA_inv hs; exact lv_astore_n hx hb hd rfl hl.1 (by rw [← hl.2.1]; exact hj) rfl (fun ls' h' => hk rfl _ _ ls' hw (hl.put (v := .ref v) rfl hj h'))
  | astore j => obtain ⟨v, S0, rfl, hj, rfl⟩ := mStA_inv hs; exact lv_astore hx hb hd hl.1 (by rw [← hl.2.1]; exact hj) rfl (fun ls' h' => hk rfl _ _ ls' hw (hl.put (v := .ref v) rfl hj h'))
  | iinc j n =>
    simp only [mEx] at hs
    split at hs
    · rename_i v hv
      cases hs
      have hj : j < L.length := (List.getElem?_eq_some_iff.mp hv).1
      obtain ⟨q, hq⟩ := List.getElem?_of_mem (lpm_mem.mpr ⟨.int v, hv, rfl⟩ : ((j, trV ρ (.int v)) : Nat × Value) ∈ lpm ρ L)
      exact lv_iinc hx hb hd hl.1 hq (by rw [hf]) (by rw [← hl.2.1]; exact hj) rfl (fun ls' h' => hk rfl _ _ ls' hw (hl.put rfl hj h'))
    · cases hs
  | iadd => obtain ⟨a1, a2, S0, rfl, rfl⟩ := mBin_inv hs; exact lv_iadd hx hb hd (hk rfl _ _ _ hw hl)
  | isub => obtain ⟨a1, a2, S0, rfl, rfl⟩ := mBin_inv hs; exact lv_isub hx hb hd (hk rfl _ _ _ hw hl)
  | imul => obtain ⟨a1, a2, S0, rfl, rfl⟩ := mBin_inv hs; exact lv_imul hx hb hd (hk rfl _ _ _ hw hl)
  | iand => obtain ⟨a1, a2, S0, rfl, rfl⟩ := mBin_inv hs; exact lv_iand hx hb hd (hk rfl _ _ _ hw hl)
  | ior => obtain ⟨a1, a2, S0, rfl, rfl⟩ := mBin_inv hs; exact lv_ior hx hb hd (hk rfl _ _ _ hw hl)
  | ishl => obtain ⟨a1, a2, S0, rfl, rfl⟩ := mBin_inv hs; exact lv_ishl hx hb hd (hk rfl _ _ _ hw hl)
  | ishr => obtain ⟨a1, a2, S0, rfl, rfl⟩ := mBin_inv hs; exact lv_ishr hx hb hd (hk rfl _ _ _ hw hl)
  | iushr => obtain ⟨a1, a2, S0, rfl, rfl⟩ := mBin_inv hs; exact lv_iushr hx hb hd rfl (hk rfl _ _ _ hw hl)
  | idiv =>
    simp only [mEx] at hs
    split at hs
    · rename_i a2 a1 S0
      by_cases hz : a2 = 0
      · simp [hz] at hs
      · simp only [hz, decide_false, cond_false] at hs
        cases hs
        exact lv_idiv hx hb hd hz (hk rfl _ _ _ hw hl)
    · cases hs
  | irem =>
    simp only [mEx] at hs
    split at hs
    · rename_i a2 a1 S0
      by_cases hz : a2 = 0
      · simp [hz] at hs
      · simp only [hz, decide_false, cond_false] at hs
        cases hs
        exact lv_irem hx hb hd hz (hk rfl _ _ _ hw hl)
    · cases hs
  | i2l =>
    simp only [mEx] at hs
    split at hs
    · cases hs; exact lv_i2l hx hb hd rfl (hk rfl _ _ _ hw hl)
    · cases hs
  | lcmp =>
    simp only [mEx] at hs
    split at hs
    · cases hs; exact W.lcmp hx hb hd (hk rfl _ _ _ hw hl)
    · cases hs
  | dup =>
    simp only [mEx] at hs
    split at hs
    · cases hs; exact lv_dup hx hb hd rfl (hk rfl _ _ _ hw hl)
    · cases hs; exact lv_dup hx hb hd rfl (hk rfl _ _ _ hw hl)
    · cases hs
  | goto off => cases hs; exact lv_goto hx hb hd hf (hk rfl _ _ _ hw hl)
  | tableswitch d lo hi offs =>
    simp only [mEx] at hs
    split at hs
    · rename_i v S0
      obtain ⟨f1, f2, f3, f4⟩ := hf
      cases hs
      have hK := hk rfl _ _ _ hw hl
      by_cases hv : v.toInt < lo ∨ hi < v.toInt
      · refine lv_tableOut hx hb hd hv (tgt := ((pc : Int) + d).toNat) (by omega) ?_
        have e1 : mSw pc lo hi d offs.toList v.toInt = ((pc : Int) + d).toNat := by
          rcases hv with hv | hv <;> simp [mSw, hv]
        rw [← e1]
        exact hK
      · have h1 : ¬ v.toInt < lo := fun q => hv (Or.inl q)
        have h2 : ¬ hi < v.toInt := fun q => hv (Or.inr q)
        have hlt : (v.toInt - lo).toNat < offs.size := by omega
        have ho : offs[(v.toInt - lo).toNat]? = some offs[(v.toInt - lo).toNat] := Array.getElem?_eq_getElem hlt
        have hm : offs[(v.toInt - lo).toNat] ∈ offs.toList := by simp
        have hp := f4 _ hm
        refine lv_tableIn hx hb hd h1 h2 ho (tgt := ((pc : Int) + offs[(v.toInt - lo).toNat]).toNat) (by omega) ?_
        have e1 : mSw pc lo hi d offs.toList v.toInt = ((pc : Int) + offs[(v.toInt - lo).toNat]).toNat := by
          simp [mSw, h1, h2, List.getD_eq_getElem?_getD, ho]
        rw [← e1]
        exact hK
    · cases hs
  | getfield j =>
    simp only [mEx] at hs
    split at hs
    · rename_i a S0
      split at hs
      · rename_i ci fs hc
        obtain ⟨C, T, N, f1, f2, f3⟩ := hf
        cases hb1 : Nat.beq ci x <;> rw [hb1] at hs <;> simp only [cond_true, cond_false] at hs
        · cases hs
        · have e1 : ci = x := Nat.eq_of_beq_eq_true hb1
          subst e1
          split at hs
          · rename_i v hv
            cases hs
            exact va_get (D := D) (Ts := mWs) hx hb hts (mLay f1) hown hK hw.1 a (trH_get hc) f1 y f2 (hts _ f3) (fun _ h9 => h9) (v := trV ρ v) (by simp [hv]) hd (hk rfl _ _ _ hw hl)
          · cases hs
      · cases hs
    · cases hs
  | putfield j =>
    simp only [mEx] at hs
    split at hs
    · rename_i v a S0
      split at hs
      · rename_i ci fs hc
        obtain ⟨C, T, N, f1, f2, f3, f4⟩ := hf
        cases hb1 : (Nat.beq ci x && Nat.blt y fs.length && mPutOk (mFT x y) v) <;> rw [hb1] at hs <;> simp only [cond_true, cond_false] at hs
        · cases hs
        · simp only [Bool.and_eq_true] at hb1
          obtain ⟨⟨b1, b2⟩, b3⟩ := hb1
          have e1 : ci = x := Nat.eq_of_beq_eq_true b1
          subst e1
          have hyl : y < (fs.map (trV ρ)).length := by simpa using blt_lt b2
          cases hs
          have hput : narrow (mFT ci y) (trV ρ v) = trV ρ v ∧ fits (mFT ci y) (trV ρ v) = true := mPutOk_spec b3
          have hpd : parseFieldDescriptor (T y).2.2.1 = some (mFT ci y) := mFTy f1 y f2
          have kk2 : ∀ (H1 : Heap) (locs1 : List Loc), va_P D mCls ((trH ρ dA h).set a (ρ a, .inr (ci, (fs.map (trV ρ)).set y (trV ρ v)))) H1 → va_D A ((trH ρ dA h).set a (ρ a, .inr (ci, (fs.map (trV ρ)).set y (trV ρ v)))) → va_S A s.heap H1 locs1 → W p l e R s m args below meth c H1 locs1 cells slots Q (F0 m (pc + 3) ls (S0.map (trV ρ))) := by
            intro H1 locs1 p1 p2 p3
            have e2 : (trH ρ dA h).set a (ρ a, .inr (ci, (fs.map (trV ρ)).set y (trV ρ v))) = trH ρ dA (h.set a (.inr (ci, fs.set y v))) := by
              rw [← trH_set]; simp [trC, List.map_set]
            rw [e2] at p1 p2
            exact hk (by simp) _ _ _ ⟨p1, p2, p3, hw.2.2.2⟩ hl
          rcases f4 with f4 | ⟨f4, f5, f6⟩
          · exact va_put (D := D) (Ts := mWs) hx hb hts (mLay f1) (mFT ci) (mFTy f1) (mNd f1) hown hK hw.1 hw.2.1 hw.2.2.1 a (trH_get hc) f1 y f2 (hts _ f3) (fun _ h9 => h9) f4 hpd hput.1 hput.2 hyl hd kk2
          · exact va_putF (D := D) (Ts := mWs) hx hb hts (mLay f1) (mFT ci) (mFTy f1) (mNd f1) hown hK hw.1 hw.2.1 hw.2.2.1 a (trH_get hc) f1 y f2 (hts _ f3) (fun _ h9 => h9) f4 (hnm.trans f5) f6 hpd hput.1 hput.2 hyl hd kk2
      · cases hs
    · cases hs
  | arraylength =>
    simp only [mEx] at hs
    split at hs
    · rename_i a S0
      cases hb1 : Nat.beq a mSC <;> rw [hb1] at hs <;> simp only [cond_true, cond_false] at hs
      · cases hs
      · cases hs
        have e1 : a = mSC := Nat.eq_of_beq_eq_true hb1
        subst e1
        have e2 : trV ρ (.ref mSC) = .ref b := by simp [trV, hw.2.2.2]
        rw [List.map_cons, e2]
        exact va_slen hx hb hX hbl hbA hw.2.2.1 hd (hk rfl _ _ _ hw hl)
    · cases hs
  | invokespecial j =>
    simp only [mEx] at hs
    split at hs
    · rename_i a S0
      cases hb1 : Nat.beq x 999 <;> rw [hb1] at hs <;> simp only [cond_true, cond_false] at hs
      · rcases hf with ⟨f0, -⟩ | ⟨f0, f1, f2, f3, f4, f5, f6, f7, f8⟩
        · subst f0; cases hb1
        · cases hb2 : (mOkL h.length L && mOkS h.length (.ref a :: S0) && Nat.ble (mCat S0) 8 && Nat.ble (mFr x + 1) (mFr k) && Nat.ble (8 + (mNL x + 11) + mLo x) (mLo k)) <;> rw [hb2] at hs <;> simp only [cond_true, cond_false] at hs
          · cases hs
          · simp only [Bool.and_eq_true, mOkS] at hb2
            obtain ⟨⟨⟨⟨b1, b2⟩, b3⟩, b4⟩, b5⟩ := hb2
            cases hs
            have hcode : (Jvm.Cond.code (mY x) (mBy x) (mNL x) none).before args s = true := by
              rcases f1.1 with ⟨-, w⟩ | ⟨w, -⟩
              · rw [f3] at w; exact hts _ w
              · exact absurd f2 w
            refine hk (fun T hT X => xGoI X hx hown f5 (hts _ f8) (hts _ f4) hcode ⟨f1.2.2.1, f1.2.2.2.1⟩ (g := F0 m pc ls ((.ref a :: S0).map (trV ρ))) rfl (a := ρ a) (argsL := []) (rest := S0.map (trV ρ)) (fun sig h9 => ?_) rfl (by rw [hb]; exact hd)) hw hl rfl f1 f7 rfl b1 b2.2 (Nat.le_of_ble_eq_true b3) (Nat.le_of_ble_eq_true b4) (Nat.le_of_ble_eq_true b5) rfl ⟨_, hd⟩
            rw [h9] at f6
            exact (Option.some.inj f6).symm
      · rcases hf with ⟨f0, f1, f2, f3⟩ | ⟨f0, -⟩
        · cases hb2 : (Nat.ble (mCat S0 + 12) (mLo k) && Nat.ble 1 (mFr k)) <;> rw [hb2] at hs <;> simp only [cond_true, cond_false] at hs
          · cases hs
          · simp only [Bool.and_eq_true] at hb2
            have g1 : mCat S0 + 12 ≤ mLo k := Nat.le_of_ble_eq_true hb2.1
            have g2 : 1 ≤ mFr k := Nat.le_of_ble_eq_true hb2.2
            cases hs
            refine W.objInit hx hb hown (hts _ f1) (hts _ f2) (hts _ f3) (g := F0 m pc ls (.ref (ρ a) :: S0.map (trV ρ))) rfl (by rw [hml]; exact hl.1.1) rfl hd (by omega) ?_ (hk rfl _ _ _ hw hl)
            show 2 * 0 + _ + 12 ≤ _
            rw [mCat_tr]
            omega
        · exact absurd (Nat.eq_of_beq_eq_true hb1) f0
    · cases hs
  | ifCond c1 off =>
    simp only [mEx] at hs
    split at hs
    · rename_i a S0
      cases hs
      have k1 := fun q => hk.1 q rfl H locs ls hw hl
      have k2 := fun q => hk.2 q rfl H locs ls hw hl
      cases c1
      · exact lv_if_eq hx hb hd hf (fun q => k1 (decide_eq_true q)) (fun q => k2 (decide_eq_false q))
      · exact lv_if_ne hx hb hd hf (fun q => k1 (decide_eq_true q)) (fun q => k2 (decide_eq_false (fun z => z q)))
      · exact lv_if_lt hx hb hd hf (fun q => k1 (decide_eq_true q)) (fun q => k2 (decide_eq_false q))
      · exact lv_if_ge hx hb hd hf (fun q => k1 (decide_eq_true q)) (fun q => k2 (decide_eq_false q))
      · exact lv_if_gt hx hb hd hf (fun q => k1 (decide_eq_true q)) (fun q => k2 (decide_eq_false q))
      · exact lv_if_le hx hb hd hf (fun q => k1 (decide_eq_true q)) (fun q => k2 (decide_eq_false q))
    · cases hs
  | if_icmp c1 off =>
    simp only [mEx] at hs
    split at hs
    · rename_i a2 a1 S0
      cases hs
      have k1 := fun q => hk.1 q rfl H locs ls hw hl
      have k2 := fun q => hk.2 q rfl H locs ls hw hl
      cases c1
      · exact lv_icmp_eq hx hb hd hf (fun q => k1 (decide_eq_true q)) (fun q => k2 (decide_eq_false q))
      · exact lv_icmp_ne hx hb hd hf (fun q => k1 (decide_eq_true q)) (fun q => k2 (decide_eq_false (fun z => z q)))
      · exact lv_icmp_lt hx hb hd hf (fun q => k1 (decide_eq_true q)) (fun q => k2 (decide_eq_false q))
      · exact lv_icmp_ge hx hb hd hf (fun q => k1 (decide_eq_true q)) (fun q => k2 (decide_eq_false q))
      · exact lv_icmp_gt hx hb hd hf (fun q => k1 (decide_eq_true q)) (fun q => k2 (decide_eq_false q))
      · exact lv_icmp_le hx hb hd hf (fun q => k1 (decide_eq_true q)) (fun q => k2 (decide_eq_false q))
    · cases hs
  | iaload =>
    simp only [mEx] at hs
    split at hs
    · rename_i j a S0
      cases hb1 : Nat.beq a mSC <;> rw [hb1] at hs <;> simp only [cond_true, cond_false] at hs
      · split at hs
        · rename_i n f hc
          cases hs
          exact va_iald (D := D) hx hb hK hw.1 a 0 (trH_get hc) rfl (mInb_spec (mT hk.2)) hd (hk.1 (mT hk.2) rfl H locs ls hw hl)
        · cases hs
      · cases hs
        have e1 : a = mSC := Nat.eq_of_beq_eq_true hb1
        subst e1
        have e2 : trV ρ (.ref mSC) = .ref b := by simp [trV, hw.2.2.2]
        rw [List.map_cons, List.map_cons, e2]
        exact va_sld hx hb hX hbl hbA hw.2.2.1 (mInb_spec (mT hk.2)) hd (hk.1 (mT hk.2) rfl H locs ls hw hl)
    · cases hs
  | iastore =>
    simp only [mEx] at hs
    split at hs
    · rename_i v j a S0
      split at hs
      · rename_i n f hc
        cases hs
        refine va_iast (D := D) hx hb hK hw.1 hw.2.1 hw.2.2.1 a 0 (trH_get hc) rfl (mInb_spec (mT hk.2)) hd (fun H1 locs1 p1 p2 p3 => hk.1 (mT hk.2) (by simp) H1 locs1 ls ⟨?_, ?_, p3, hw.2.2.2⟩ hl)
        · rw [← trH_set]; exact p1
        · rw [← trH_set]; exact p2
      · cases hs
    · cases hs
  | baload =>
    simp only [mEx] at hs
    split at hs
    · rename_i j a S0
      split at hs
      · rename_i n f hc
        cases hs
        exact va_zald (D := D) hx hb hK hw.1 a 1 (trH_get hc) rfl (mInb_spec (mT hk.2)) hd (hk.1 (mT hk.2) rfl H locs ls hw hl)
      · cases hs
    · cases hs
  | bastore =>
    simp only [mEx] at hs
    split at hs
    · rename_i v j a S0
      split at hs
      · rename_i n f hc
        cases hs
        refine va_zast (D := D) hx hb hK hw.1 hw.2.1 hw.2.2.1 a 1 (trH_get hc) rfl (mInb_spec (mT hk.2)) hd (fun H1 locs1 p1 p2 p3 => hk.1 (mT hk.2) (by simp) H1 locs1 ls ⟨?_, ?_, p3, hw.2.2.2⟩ hl)
        · rw [← trH_set]; exact p1
        · rw [← trH_set]; exact p2
      · cases hs
    · cases hs
  | laload =>
    simp only [mEx] at hs
    split at hs
    · rename_i j a S0
      split at hs
      · rename_i n f hc
        cases hs
        exact va_lald (D := D) hx hb hK hw.1 a 2 (trH_get hc) rfl (mInb_spec (mT hk.2)) hd (hk.1 (mT hk.2) rfl H locs ls hw hl)
      · cases hs
    · cases hs
  | lastore =>
    simp only [mEx] at hs
    split at hs
    · rename_i v j a S0
      split at hs
      · rename_i n f hc
        cases hs
        refine va_last (D := D) hx hb hK hw.1 hw.2.1 hw.2.2.1 a 2 (trH_get hc) rfl (mInb_spec (mT hk.2)) hd (fun H1 locs1 p1 p2 p3 => hk.1 (mT hk.2) (by simp) H1 locs1 ls ⟨?_, ?_, p3, hw.2.2.2⟩ hl)
        · rw [← trH_set]; exact p1
        · rw [← trH_set]; exact p2
      · cases hs
    · cases hs
  | invokestatic j =>
    obtain ⟨f1, f2, f3, f4, f5⟩ := hf
    have hs : (bif Nat.ble y S.length && mOne (S.take y) && mOkL h.length L && mOkS h.length S && Nat.ble (mCat (S.drop y)) 8 && Nat.ble (mFr x + 1) (mFr k) && Nat.ble (8 + (mNL x + 11) + mLo x) (mLo k) then some (.inr (.inr (.inr (.inl (x, (S.take y).reverse, (pc + 3, L, S.drop y, h)))))) else none) = some r := hs
    cases hb2 : (Nat.ble y S.length && mOne (S.take y) && mOkL h.length L && mOkS h.length S && Nat.ble (mCat (S.drop y)) 8 && Nat.ble (mFr x + 1) (mFr k) && Nat.ble (8 + (mNL x + 11) + mLo x) (mLo k)) <;> rw [hb2] at hs <;> simp only [cond_true, cond_false] at hs
    · cases hs
    · simp only [Bool.and_eq_true] at hb2
      obtain ⟨⟨⟨⟨⟨⟨b0, b1⟩, b2⟩, b3⟩, b4⟩, b5⟩, b6⟩ := hb2
      have hy : y ≤ S.length := Nat.le_of_ble_eq_true b0
      cases hs
      have hst : S.map (trV ρ) = (((S.take y).reverse.map (trV ρ)).reverse) ++ (S.drop y).map (trV ρ) := by
        rw [List.map_reverse, List.reverse_reverse, ← List.map_append, List.take_append_drop]
      have hln : ∀ sig, parseMethodDescriptor (mY x).desc = some sig → ((S.take y).reverse.map (trV ρ)).length = sig.parameters.length := by
        intro sig h9
        rw [h9] at f3
        have h7 : sig.parameters.length = y := Option.some.inj f3
        simp only [List.length_map, List.length_reverse, List.length_take]
        omega
      refine hk (fun T hT X => ?_) hw hl rfl f1 (by simp only [List.length_reverse, List.length_take]; omega) (mOne_rev b1) b2 (mOkS_drop b3 y) (Nat.le_of_ble_eq_true b4) (Nat.le_of_ble_eq_true b5) (Nat.le_of_ble_eq_true b6) rfl ⟨_, hd⟩
      rcases f5 with f5 | ⟨host, f5⟩
      · exact xGoS X hx hown (hts _ f5) (hts _ f2) (hts _ f1.2.1) (mMeth_has hts f1) ⟨f1.2.2.1, f1.2.2.2.1⟩ rfl hln hst (by rw [hb]; exact hd)
      · exact xGoSN X hx hown (hvs _ f5) (hts _ f2) (hts _ f1.2.1) (mMeth_has hts f1) ⟨f1.2.2.1, f1.2.2.2.1⟩ rfl hln hst (by rw [hb]; exact hd)
  | invokevirtual j =>
    obtain ⟨f1, f2, f3, f4, f5, ⟨T0, N0, f6⟩, f7⟩ := hf
    simp only [mEx] at hs
    split at hs
    · rename_i a ha
      split at hs
      · rename_i ci fs hc
        cases hb2 : (Nat.beq ci (mCl x) && mOne (S.take (y + 1)) && mOkL h.length L && mOkS h.length S && Nat.ble (mCat (S.drop (y + 1))) 8 && Nat.ble (mFr x + 1) (mFr k) && Nat.ble (8 + (mNL x + 11) + mLo x) (mLo k)) <;> rw [hb2] at hs <;> simp only [cond_true, cond_false] at hs
        · cases hs
        · simp only [Bool.and_eq_true] at hb2
          obtain ⟨⟨⟨⟨⟨⟨b0, b1⟩, b2⟩, b3⟩, b4⟩, b5⟩, b6⟩ := hb2
          have e0 : ci = mCl x := Nat.eq_of_beq_eq_true b0
          subst e0
          have hy : y < S.length := (List.getElem?_eq_some_iff.mp ha).1
          cases hs
          have hS : S.take (y + 1) = S.take y ++ [.ref a] := by
            rw [List.take_succ, ha]; rfl
          have hS2 : S = S.take y ++ .ref a :: S.drop (y + 1) := by
            have := List.take_append_drop (y + 1) S
            rw [hS, List.append_assoc] at this
            exact this.symm
          have hav : ((S.take (y + 1)).reverse.map (trV ρ)).toArray = (Value.ref (ρ a) :: (S.take y).reverse.map (trV ρ)).toArray := by
            rw [hS]; simp [trV]
          have hst : S.map (trV ρ) = (((S.take y).reverse.map (trV ρ)).reverse) ++ .ref (ρ a) :: (S.drop (y + 1)).map (trV ρ) := by
            rw [List.map_reverse, List.reverse_reverse]
            conv => lhs; rw [hS2]
            simp [trV]
          have hln : ∀ sig, parseMethodDescriptor (mY x).desc = some sig → ((S.take y).reverse.map (trV ρ)).length = sig.parameters.length := by
            intro sig h9
            rw [h9] at f3
            have h7 : sig.parameters.length = y := Option.some.inj f3
            simp only [List.length_map, List.length_reverse, List.length_take]
            omega
          obtain ⟨cell, g1, g2, g3⟩ := va_recv hK hw.1 f6 (trH_get hc)
          refine hk (fun T hT X => ?_) hw hl rfl f1 (by simp only [List.length_reverse, List.length_take]; omega) (mOne_rev b1) b2 (mOkS_drop b3 (y + 1)) (Nat.le_of_ble_eq_true b4) (Nat.le_of_ble_eq_true b5) (Nat.le_of_ble_eq_true b6) rfl ⟨_, hd⟩
          rw [hav]
          exact xGoV X hx hown (hts _ f5) (hts _ f2) (hts _ f7) (mMeth_has hts f1) ⟨f1.2.2.1, f1.2.2.2.1⟩ (by rw [hT]; exact g1) g2 g3 rfl hln hst (by rw [hb]; exact hd)
      · cases hs
    · cases hs
  | ireturn =>
    simp only [mEx] at hs
    split at hs
    · rename_i v
      split at hs
      · rename_i hr1
        cases hs
        intro T hT X
        obtain ⟨t, a1, o, b1, b2, ⟨rfl, b4, b5⟩, L1, ⟨-, b7, b8⟩, b9⟩ := W.iret (Qc := fun _ _ o t => o = .returned (some (.int v)) ∧ t.heap = H ∧ s.WarmedH t.vm) (free := A) hx hb (hr.trans hr1) (fun t h1 h2 => ⟨rfl, h1, h2⟩) hw.2.2.1.2.2 hd hlk T hT X
        exact ⟨t, a1, hk.2 (by rintro w ⟨⟩ <;> exact ⟨_, rfl⟩) rfl t b1 b2 b4 b5 ⟨L1, b8, b9⟩ hw⟩
      · rename_i hr1
        cases hs
        have hv : v &&& 1 = v := of_decide_eq_true hk.1
        intro T hT X
        obtain ⟨t, a1, o, b1, b2, ⟨rfl, b4, b5⟩, L1, ⟨-, b7, b8⟩, b9⟩ := W.zret (Qc := fun _ _ o t => o = .returned (some (.int v)) ∧ t.heap = H ∧ s.WarmedH t.vm) (free := A) hx hb (hr.trans hr1) (by simp [narrow, hv]) (fun t h1 h2 => ⟨rfl, h1, h2⟩) hw.2.2.1.2.2 hd hlk T hT X
        exact ⟨t, a1, hk.2 (by rintro w ⟨⟩ <;> exact ⟨_, rfl⟩) rfl t b1 b2 b4 b5 ⟨L1, b8, b9⟩ hw⟩
      · cases hs
    · cases hs
  | return_ =>
    simp only [mEx] at hs
    split at hs
    · split at hs
      · rename_i hr1
        cases hs
        intro T hT X
        obtain ⟨t, a1, o, b1, b2, ⟨rfl, b4, b5⟩, L1, ⟨-, b7, b8⟩, b9⟩ := W.vret (Qc := fun _ _ o t => o = .returned none ∧ t.heap = H ∧ s.WarmedH t.vm) (free := A) hx hb (hr.trans hr1) (fun t h1 h2 => ⟨rfl, h1, h2⟩) hw.2.2.1.2.2 hd hlk T hT X
        exact ⟨t, a1, hk.2 (by rintro w ⟨⟩ <;> exact ⟨_, rfl⟩) rfl t b1 b2 b4 b5 ⟨L1, b8, b9⟩ hw⟩
      · cases hs
    · cases hs
  | newarray t =>
    simp only [mEx] at hs
    split at hs
    · rename_i n S0
      cases hb2 : (decide (¬ n < 0) && Nat.ble n.toNatClampNeg 1000 && mOkL h.length L && mOkS h.length S0 && mOkH h.length h && Nat.blt h.length 1000) <;> rw [hb2] at hs <;> simp only [cond_true, cond_false] at hs
      · cases hs
      · simp only [Bool.and_eq_true] at hb2
        obtain ⟨⟨⟨⟨⟨b0, b1⟩, b2⟩, b3⟩, b4⟩, b5⟩ := hb2
        have hn : ¬ n < 0 := of_decide_eq_true b0
        have hN : n.toNatClampNeg ≤ 1000 := Nat.le_of_ble_eq_true b1
        have hlt : h.length < 1000 := blt_lt b5
        have hext : ∀ q : Nat, (∀ i, i < h.length → (fun i => if i = h.length then q else ρ i) i = ρ i) ∧ (fun i => if i = h.length then q else ρ i) mSC = ρ mSC := by
          intro q
          refine ⟨fun i hi => ?_, ?_⟩
          · have : ¬ i = h.length := by omega
            simp [this]
          · have : ¬ mSC = h.length := by unfold mSC; omega
            simp [this]
        cases t with
        | int =>
          cases hs
          refine va_newa (D := D) hx hb (hts _ hf) rfl hK hw.1 hw.2.1 hw.2.2.1 hA (a0 := (n.toNatClampNeg, .inl fun _ => 0)) (fun cA => vp_cell_i cA _ _) hn rfl (by show _ * 4 ≤ _; omega) hk.1 hk.2.1 hd (fun q cA H1 k1 p1 p2 p3 => ?_)
          have ec : cA = dA 0 := Option.some.inj ((k1.2 3 _ rfl).2.symm.trans (hK.2 0 _ rfl).2)
          subst ec
          obtain ⟨x1, x2⟩ := hext q
          have eh : trH (fun i => if i = h.length then q else ρ i) dA (h ++ [.inl (0, n.toNatClampNeg, .inl fun _ => 0)]) = trH ρ dA h ++ [(q, .inl (dA 0, n.toNatClampNeg, .inl fun _ => 0))] := by
            rw [trH_push, trH_ext x1 x2 (Nat.le_refl _) b4]; simp [trC]
          have hk3 := hk.2.2 (by simp) (fun i => if i = h.length then q else ρ i) H1 locs ls x1 ⟨by rw [eh]; exact p1, by rw [eh]; exact p2, p3, by rw [x2]; exact hw.2.2.2⟩ (hl.ext b2 x1 x2)
          rw [List.map_cons, mOkS_tr b3 x1 x2] at hk3
          simpa [trV, mLen] using hk3
        | boolean =>
          cases hs
          refine va_newa (D := D) hx hb (hts _ hf) rfl hK hw.1 hw.2.1 hw.2.2.1 hA (a0 := (n.toNatClampNeg, .inl fun _ => 0)) (fun cA => vp_cell_i cA _ _) hn rfl (by show _ * 1 ≤ _; omega) hk.1 hk.2.1 hd (fun q cA H1 k1 p1 p2 p3 => ?_)
          have ec : cA = dA 1 := Option.some.inj ((k1.2 3 _ rfl).2.symm.trans (hK.2 1 _ rfl).2)
          subst ec
          obtain ⟨x1, x2⟩ := hext q
          have eh : trH (fun i => if i = h.length then q else ρ i) dA (h ++ [.inl (1, n.toNatClampNeg, .inl fun _ => 0)]) = trH ρ dA h ++ [(q, .inl (dA 1, n.toNatClampNeg, .inl fun _ => 0))] := by
            rw [trH_push, trH_ext x1 x2 (Nat.le_refl _) b4]; simp [trC]
          have hk3 := hk.2.2 (by simp) (fun i => if i = h.length then q else ρ i) H1 locs ls x1 ⟨by rw [eh]; exact p1, by rw [eh]; exact p2, p3, by rw [x2]; exact hw.2.2.2⟩ (hl.ext b2 x1 x2)
          rw [List.map_cons, mOkS_tr b3 x1 x2] at hk3
          simpa [trV, mLen] using hk3
        | long =>
          cases hs
          refine va_newa (D := D) hx hb (hts _ hf) rfl hK hw.1 hw.2.1 hw.2.2.1 hA (a0 := (n.toNatClampNeg, .inr (.inl fun _ => 0))) (fun cA => vp_cell_l cA _ _) hn rfl (by show _ * 8 ≤ _; omega) hk.1 hk.2.1 hd (fun q cA H1 k1 p1 p2 p3 => ?_)
          have ec : cA = dA 2 := Option.some.inj ((k1.2 3 _ rfl).2.symm.trans (hK.2 2 _ rfl).2)
          subst ec
          obtain ⟨x1, x2⟩ := hext q
          have eh : trH (fun i => if i = h.length then q else ρ i) dA (h ++ [.inl (2, n.toNatClampNeg, .inr (.inl fun _ => 0))]) = trH ρ dA h ++ [(q, .inl (dA 2, n.toNatClampNeg, .inr (.inl fun _ => 0)))] := by
            rw [trH_push, trH_ext x1 x2 (Nat.le_refl _) b4]; simp [trC]
          have hk3 := hk.2.2 (by simp) (fun i => if i = h.length then q else ρ i) H1 locs ls x1 ⟨by rw [eh]; exact p1, by rw [eh]; exact p2, p3, by rw [x2]; exact hw.2.2.2⟩ (hl.ext b2 x1 x2)
          rw [List.map_cons, mOkS_tr b3 x1 x2] at hk3
          simpa [trV, mLen] using hk3
        | _ => cases hs
    · cases hs
  | new j =>
    cases y with
    | zero =>
      obtain ⟨C, T0, N, f1, f2, f3, f4, f5, f6⟩ := hf
      have hs : (bif mOkL h.length L && mOkS h.length S && mOkH h.length h && Nat.blt h.length 1000 then some (.inr (.inr (.inr (.inr ((pc + 3, L, .ref h.length :: S, h ++ [.inr (x, mDef x)]), (mDef x).length))))) else none) = some r := hs
      cases hb2 : (mOkL h.length L && mOkS h.length S && mOkH h.length h && Nat.blt h.length 1000) <;> rw [hb2] at hs <;> simp only [cond_true, cond_false] at hs
      · cases hs
      · simp only [Bool.and_eq_true] at hb2
        obtain ⟨⟨⟨b2, b3⟩, b4⟩, b5⟩ := hb2
        have hlt : h.length < 1000 := blt_lt b5
        cases hs
        have hk1 := hk.1
        have hk2 := hk.2.1
        rw [f2] at hk2
        refine va_new (D := D) (Ts := mWs) hx hb hts (mLay f1) (mFT x) (mFTy f1) hown (hts _ f3) (hts _ f4) (hts _ f5) hK hw.1 hw.2.1 hw.2.2.1 hA f1 f6 hk1 hk2 hd (fun q H1 p1 p2 p3 => ?_)
        have x1 : ∀ i, i < h.length → (fun i => if i = h.length then q else ρ i) i = ρ i := fun i hi => by
          have : ¬ i = h.length := by omega
          simp [this]
        have x2 : (fun i => if i = h.length then q else ρ i) mSC = ρ mSC := by
          have : ¬ mSC = h.length := by unfold mSC; omega
          simp [this]
        have eh : trH (fun i => if i = h.length then q else ρ i) dA (h ++ [.inr (x, mDef x)]) = trH ρ dA h ++ [(q, .inr (x, mDef x))] := by
          rw [trH_push, trH_ext x1 x2 (Nat.le_refl _) b4]; simp [trC, mDef_tr]
        have hk3 := hk.2.2 (by simp) (fun i => if i = h.length then q else ρ i) H1 locs ls x1 ⟨by rw [eh]; exact p1, by rw [eh]; exact p2, p3, by rw [x2]; exact hw.2.2.2⟩ (hl.ext b2 x1 x2)
        rw [List.map_cons, mOkS_tr b3 x1 x2, f2] at hk3
        simpa [trV, mLen] using hk3
    | succ y =>
      have hs : (bif mNoH k && Nat.ble (mCat S) 6 && Nat.ble 6 (mFr k) && Nat.ble 100 (mLo k) then some (.inr (.inr (.inl (true, .inr x, h)))) else none) = some r := hs
      cases hb2 : (mNoH k && Nat.ble (mCat S) 6 && Nat.ble 6 (mFr k) && Nat.ble 100 (mLo k)) <;> rw [hb2] at hs <;> simp only [cond_true, cond_false] at hs
      · cases hs
      · cases hs
        simp only [Bool.and_eq_true] at hb2
        obtain ⟨⟨⟨b0, b1⟩, b2⟩, b3⟩ := hb2
        have g1 : mCat S ≤ 6 := Nat.le_of_ble_eq_true b1
        have g2 : 6 ≤ mFr k := Nat.le_of_ble_eq_true b2
        have g3 : 100 ≤ mLo k := Nat.le_of_ble_eq_true b3
        obtain ⟨is, ic, text, ix, rx, d3, d4, d6, d9, f1, f2, f3, f4, r0, r1, r2, r5, f5⟩ := hf
        obtain ⟨-, k1, k2, k3⟩ := hk
        have hout : ∀ z ∈ c.exceptionTable.toList, covers z (pc + 9) = false := by
          have h0 : mHH k = [] := by simpa [mNoH] using b0
          rw [h0] at hexc
          have : c.exceptionTable.toList = [] := List.map_eq_nil_iff.mp hexc
          rw [this]; intro z hz; cases hz
        have hall : ∀ w ∈ xAll (mY k).cls ic (mXn x) ix rx, w.before args s = true := fun w hw9 => (f5 w hw9).elim (hts w) (hvs w)
        have hins : (Jvm.Cond.instantiable (mXn x) 6).before args s = true := hall _ (by simp [xAll])
        refine W.newc hx hb hown (hts _ f2) hins (hts _ f3) (g := F0 m pc ls (S.map (trV ρ))) rfl hd k1 k2 (fun cC kC q1 q2 q3 q4 => ?_)
        refine lv_dup (pc := pc + 3) hx hb d3 rfl ?_
        intro T hT X
        obtain ⟨-, -, -, sa, -, -, -, -, -, hev⟩ := Cond.stringRef_spec hown (hvs _ f1)
        have st1 := X.ldcString hx hown (hvs _ f1) hev (g := F0 m (pc + 3 + 1) ls (.ref H.size :: .ref H.size :: S.map (trV ρ))) rfl (by rw [hb]; exact d4)
        have hsz : s.heap.size ≤ H.size := hw.2.2.1.1
        obtain ⟨U, ce, w1, w2, w3, w4, w5, w6, w7, w8⟩ := xThrow X hx hst hown f4 r0 r1 r2 r5 hall hZ (fun z hz cell hc9 => hAs z.base cell (hw.2.2.1.2.2 z hz) hc9) (a := H.size) q1 q2 (by rw [hT]; simp) hsz (msg := .ref sa) rfl (g := F0 m (pc + 6) ls (.ref sa :: .ref H.size :: .ref H.size :: S.map (trV ρ))) rfl (by rw [hml]; exact hl.1.1) rfl rfl rfl (by rw [hb]; exact d6) (by rw [hb]; exact d9) hout (by omega) (by
          show 2 * 0 + (1 + ((S.map (trV ρ)).map fun v => v.category).sum) + 81 ≤ _
          rw [mCat_tr]; omega) hlk
        have hU : ∀ q : Nat, q < H.size → U.heap[q]? = H[q]? := by
          intro q hq
          have hne : ¬ H.size = q := by omega
          rw [w6, hT, Array.getElem?_setIfInBounds_ne hne, Array.getElem?_push, if_neg (fun z => hne z.symm)]
        have hUa : U.heap[H.size]? = some ce := by
          rw [w6, hT]; simp
        refine ⟨U, st1 _ w1, k3 rfl U H.size ce w2 w3 hUa w7 w8 w4 ⟨locs, w5, hw.2.2.1.2.2⟩ ⟨hw.1.kept (fun k q hq => hU _ (hw.1 k q hq).lt), hw.2.1, ⟨?_, fun q z1 z2 => ?_, hw.2.2.1.2.2⟩, hw.2.2.2⟩⟩
        · rw [w6, hT]; simp; omega
        · rw [hU q (by omega)]; exact hw.2.2.1.2.1 q z1 z2
  | _ => cases hs
end SNS
