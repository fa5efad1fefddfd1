/-! the class's mount -/
section KN
variable {Ls : Nat} {xs : Nat → Int32} {c t re en : Nat → Int32} {lf dn n : Int32} {M : mH} {u : Prop} {ch : Nat → List Nat} {R : Nat → Prop} {lv : Nat → Nat}
theorem cl_loop {r : mR} (k : ∀ o, mEv Ls xs 4 (21, [some (.ref 0), some (.int o), none, none], [], hV c t lf dn (clr re 32) en n M) r) : ∀ (m i : Nat), i + m = 32 → mEv Ls xs 4 (2, [some (.ref 0), some (.int (nI i)), none, none], [], hV c t lf dn (clr re i) en n M) r := by
  intro m
  induction m with
  | zero =>
    intro i hi
    have hi : i = 32 := hi
    subst hi
    exact fEv.brT rfl (by decide) (k _)
  | succ m ih =>
    intro i hi
    refine fEv.brF rfl (decide_eq_false (nI_ge (a := i) (b := 32) (by omega) (by decide))) ?_
    refine fEv.brT rfl (bT (a := i) (by omega)) ?_
    rw [kT (show i < 32 by omega)]
    have h2 := ih (i + 1) (by omega)
    rw [← nI_add, ← clr_s] at h2
    exact fEv.steps 2 rfl h2
/-- how far the class has come: D behind it, T before it -/
def Bf (c : Nat → Int32) (ch : Nat → List Nat) (R : Nat → Prop) (D T W : List Nat) (en : Nat → Int32) : Prop :=
  (∀ x ∈ D ++ T, Vx c ch R x) ∧ (D ++ T).Nodup ∧ (∀ j, j < (D ++ T).length → en j = nI ((D ++ T).getD j 0)) ∧ ((∀ x ∈ ch 32, x ∈ D ++ T) ∧ ∀ p ∈ D, diF c p → ∀ x ∈ ch p, x ∈ D ++ T) ∧ (∀ x ∈ D ++ T, x ∈ ch 32 ∨ ∃ p ∈ D, diF c p ∧ x ∈ ch p) ∧ (∀ a, a ∈ W ↔ (a ∈ D ++ T ∨ ∃ x ∈ D, a ∈ kF c ch x))
theorem Bf.all (h : Inv u c t ch R lv) {D W : List Nat} {en : Nat → Int32} (hb : Bf c ch R D [] W en) : ∀ x, x ∈ D ↔ Vx c ch R x := by
  obtain ⟨b1, b2, b3, ⟨b4, b5⟩, b6, b7⟩ := hb
  rw [List.append_nil] at b1 b4 b5
  have key : ∀ n p, R p → dirP c p = true → lv p = n → ∀ x ∈ ch p, x ∈ D := by
    intro n
    induction n with
    | zero =>
      intro p hp hd hl x hx
      rw [lv_0 h hp hl] at hx
      exact b4 x hx
    | succ n ih =>
      intro p hp hd hl x hx
      have hp3 : p ≠ 32 := by intro e; rw [e, h.1.2] at hl; omega
      obtain ⟨q, h1, h2, h4, h5, -⟩ := up_lv h hp hp3
      exact b5 p (ih q h1 h2 (by omega) p h4) (R_di h hp hp3 hd) x hx
  intro x
  exact ⟨b1 x, fun ⟨p, h1, h2, h3⟩ => key (lv p) p h1 h2 rfl x h3⟩
/-- the head goes behind -/
theorem Bf.step {D T W L K : List Nat} {x : Nat} {en en' : Nat → Int32} (hb : Bf c ch R D (x :: T) W en) (hK : ∀ a, a ∈ K ↔ a ∈ L ∨ a ∈ kF c ch x) (hL : ∀ y ∈ L, Vx c ch R y ∧ y ∉ D ++ x :: T) (hLn : L.Nodup) (hL2 : diF c x → L = ch x) (hL3 : ¬ diF c x → L = []) (hen : ∀ j, j < (D ++ x :: T).length → en' j = en j) (hen2 : ∀ j, j < L.length → en' ((D ++ x :: T).length + j) = nI (L.getD j 0)) :
    Bf c ch R (D ++ [x]) (T ++ L) (W ++ K) en' := by
  obtain ⟨b1, b2, b3, ⟨b4, b5⟩, b6, b7⟩ := hb
  have e : (D ++ [x]) ++ (T ++ L) = (D ++ x :: T) ++ L := by simp
  unfold Bf
  rw [e]
  refine ⟨fun y hy => ?_, ?_, fun j hj => ?_, ⟨fun y hy => List.mem_append.mpr (Or.inl (b4 y hy)), fun p hp hd y hy => ?_⟩, fun y hy => ?_, fun a => ?_⟩
  · rcases List.mem_append.mp hy with hy | hy
    · exact b1 y hy
    · exact (hL y hy).1
  · exact List.nodup_append.mpr ⟨b2, hLn, fun a ha b hb hab => (hL b hb).2 (hab ▸ ha)⟩
  · by_cases hlt : j < (D ++ x :: T).length
    · rw [hen j hlt, b3 j hlt, getD_app hlt]
    · rw [List.length_append] at hj
      have e2 : j = (D ++ x :: T).length + (j - (D ++ x :: T).length) := by omega
      rw [e2, hen2 _ (by omega), getD_app2]
  · rcases List.mem_append.mp hp with hp | hp
    · exact List.mem_append.mpr (Or.inl (b5 p hp hd y hy))
    · have : p = x := by simpa using hp
      subst this
      exact List.mem_append.mpr (Or.inr (by rw [hL2 hd]; exact hy))
  · rcases List.mem_append.mp hy with hy | hy
    · rcases b6 y hy with z | ⟨p, p1, p2, p3⟩
      · exact Or.inl z
      · exact Or.inr ⟨p, List.mem_append.mpr (Or.inl p1), p2, p3⟩
    · by_cases hd : diF c x
      · rw [hL2 hd] at hy
        exact Or.inr ⟨x, by simp, hd, hy⟩
      · rw [hL3 hd] at hy; cases hy
  · rw [List.mem_append, b7, hK, List.mem_append (s := D ++ x :: T)]
    constructor
    · rintro ((z | ⟨y, y1, y2⟩) | (z | z))
      · exact Or.inl (Or.inl z)
      · exact Or.inr ⟨y, List.mem_append.mpr (Or.inl y1), y2⟩
      · exact Or.inl (Or.inr z)
      · exact Or.inr ⟨x, by simp, z⟩
    · rintro ((z | z) | ⟨y, y1, y2⟩)
      · exact Or.inl (Or.inl z)
      · exact Or.inr (Or.inl z)
      · rcases List.mem_append.mp y1 with y1 | y1
        · exact Or.inl (Or.inr ⟨y, y1, y2⟩)
        · have : y = x := by simpa using y1
          exact Or.inr (Or.inr (this ▸ y2))
theorem cut_snoc {D : List Nat} {x : Nat} : cut c ch (D ++ [x]) = cut c ch D ++ cF c ch x := by
  unfold cut
  rw [List.flatMap_append]
  simp
theorem ck_head {o3 : Option Value} {x : Nat} {a : Int32} {r : mR} (h3 : oInt o3) (hx3 : x < 32) (k : mEv Ls xs 4 (64, [some (.ref 0), some (.int a), some (.int (nI x)), o3], [.int (c (4 * x))], hV c t lf dn re en n M) r) : mEv Ls xs 4 (55, [some (.ref 0), some (.int a), some (.int (nI x)), o3], [], hV c t lf dn re en n M) r := by
  rcases h3 with rfl | ⟨z, rfl⟩ <;>
  · refine fEv.calli rfl e_cellAt ?_
    rw [cellA_nI hx3 (by decide), Nat.add_zero]
    exact k
theorem ck_dir {o3 : Option Value} {x : Nat} {a : Int32} {r : mR} (h3 : oInt o3) (hx3 : x < 32) (k : mEv Ls xs 4 (76, [some (.ref 0), some (.int a), some (.int (nI x)), some (.int (bI (dirP c x)))], [], hV c t lf dn re en n M) r) : mEv Ls xs 4 (70, [some (.ref 0), some (.int a), some (.int (nI x)), o3], [], hV c t lf dn re en n M) r := by
  have h7 := e_isDir (Ls := Ls) (xs := xs) (c := c) (t := t) (lf := lf) (dn := dn) (re := re) (en := en) (n := n) (M := M) (e := eC x)
  rw [dirC_e (by omega), eC_lt hx3] at h7
  rcases h3 with rfl | ⟨z, rfl⟩ <;>
  · refine fEv.calli rfl h7 ?_
    exact fEv.steps 1 rfl k
theorem bf_loop (h : Inv u c t ch R lv) {re0 : Nat → Int32} : ∀ (m : Nat) (D T W : List Nat) (en : Nat → Int32) (o2 o3 : Option Value), oInt o2 → oInt o3 → D.length + m = 32 → Bf c ch R D T W en → ∃ Q W' en', (∀ x, x ∈ Q ↔ Vx c ch R x) ∧ (∀ a, a ∈ W' ↔ a ∈ cov c ch Q) ∧
    mEv Ls xs 4 (34, [some (.ref 0), some (.int (nI D.length)), o2, o3], [], hV c (tL t (cut c ch D)) (-1) 0 (mL re0 W) en (nI (D ++ T).length) M) (rN (hV c (tL t (cut c ch Q)) (-1) 0 (mL re0 W') en' (nI Q.length) M)) := by
  intro m
  induction m with
  | zero =>
    intro D T W en o2 o3 ho2 ho3 hm hb
    have hT : T = [] := by
      have := nodup_le 32 _ hb.2.1 (fun a ha => (hb.1 a ha).lt h)
      rw [List.length_append] at this
      cases T with
      | nil => rfl
      | cons x T => simp only [List.length_cons] at this; omega
    subst hT
    have hall := hb.all h
    refine ⟨D, W, en, hall, fun a => ?_, ?_⟩
    · rw [hb.2.2.2.2.2, cov_mem, List.append_nil]
      constructor
      · rintro (z | ⟨x, x1, x2⟩)
        · exact ⟨a, z, List.mem_cons_self⟩
        · exact ⟨x, x1, List.mem_cons_of_mem _ x2⟩
      · rintro ⟨x, x1, x2⟩
        rcases List.mem_cons.mp x2 with z | z
        · exact Or.inl (z ▸ x1)
        · exact Or.inr ⟨x, x1, z⟩
    · rw [List.append_nil]
      have hm : D.length = 32 := hm
      rw [hm]
      refine fEv.brT rfl (by decide) ?_
      exact fEv.retV rfl rfl
  | succ m ih =>
    intro D T W en o2 o3 ho2 ho3 hm hb
    have hD : D.length < 32 := by omega
    cases T with
    | nil =>
      have hall := hb.all h
      refine ⟨D, W, en, hall, fun a => ?_, ?_⟩
      · rw [hb.2.2.2.2.2, cov_mem, List.append_nil]
        constructor
        · rintro (z | ⟨x, x1, x2⟩)
          · exact ⟨a, z, List.mem_cons_self⟩
          · exact ⟨x, x1, List.mem_cons_of_mem _ x2⟩
        · rintro ⟨x, x1, x2⟩
          rcases List.mem_cons.mp x2 with z | z
          · exact Or.inl (z ▸ x1)
          · exact Or.inr ⟨x, x1, z⟩
      · rw [List.append_nil]
        refine fEv.brF rfl (decide_eq_false (nI_ge (b := 32) hD (by decide))) ?_
        refine fEv.brT rfl (decide_eq_true (Int32.le_refl _)) ?_
        exact fEv.retV rfl rfl
    | cons x T =>
      obtain ⟨b1, b2, b3, b45, b6, b7⟩ := id hb
      have hxm : x ∈ D ++ x :: T := by simp
      have hv : Vx c ch R x := b1 x hxm
      have hx3 : x < 32 := hv.lt h
      have hxD : x ∉ D := fun z => (List.nodup_append.mp b2).2.2 x z x List.mem_cons_self rfl
      have hDV : ∀ y ∈ D, Vx c ch R y := fun y hy => b1 y (List.mem_append.mpr (Or.inl hy))
      have hQ : (D ++ x :: T).length ≤ 32 := nodup_le 32 _ b2 (fun a ha => (b1 a ha).lt h)
      have hlt : D.length < (D ++ x :: T).length := by rw [List.length_append]; simp
      have hex : en D.length = nI x := by rw [b3 _ hlt, getD_mid]
      have hlen1 : D.length + 1 = (D ++ [x]).length := by simp
      have hqn : ∀ L, (D ++ x :: T).length + List.length L = ((D ++ [x]) ++ (T ++ L)).length := by intro L; simp; omega
      suffices hgo : ∃ Q W' en', (∀ x, x ∈ Q ↔ Vx c ch R x) ∧ (∀ a, a ∈ W' ↔ a ∈ cov c ch Q) ∧
          mEv Ls xs 4 (55, [some (.ref 0), some (.int (nI D.length)), some (.int (nI x)), o3], [], hV c (tL t (cut c ch D)) (-1) 0 (mL re0 W) en (nI (D ++ x :: T).length) M) (rN (hV c (tL t (cut c ch Q)) (-1) 0 (mL re0 W') en' (nI Q.length) M)) by
        obtain ⟨Q, W', en', g1, g2, g3⟩ := hgo
        refine ⟨Q, W', en', g1, g2, ?_⟩
        refine fEv.brF rfl (decide_eq_false (nI_ge (b := 32) hD (by decide))) ?_
        refine fEv.brF rfl (decide_eq_false (nI_ge hlt (by omega))) ?_
        refine fEv.brT rfl (bT hD) ?_
        rw [kT hD, hex]
        exact fEv.steps 1 rfl g3
      have hnext : ∀ (L K : List Nat) (en' : Nat → Int32) (o2 o3 : Option Value), oInt o2 → oInt o3 → Bf c ch R (D ++ [x]) (T ++ L) (W ++ K) en' → ∃ Q W' en'', (∀ x, x ∈ Q ↔ Vx c ch R x) ∧ (∀ a, a ∈ W' ↔ a ∈ cov c ch Q) ∧
          mEv Ls xs 4 (95, [some (.ref 0), some (.int (nI D.length)), o2, o3], [], hV c (tL t (cut c ch (D ++ [x]))) (-1) 0 (mL re0 (W ++ K)) en' (nI ((D ++ x :: T).length + L.length)) M) (rN (hV c (tL t (cut c ch Q)) (-1) 0 (mL re0 W') en'' (nI Q.length) M)) := by
        intro L K en' o2 o3 ho2 ho3 hb'
        obtain ⟨Q, W', en'', g1, g2, g3⟩ := ih (D ++ [x]) (T ++ L) (W ++ K) en' o2 o3 ho2 ho3 (by omega) hb'
        refine ⟨Q, W', en'', g1, g2, ?_⟩
        rw [← hlen1, ← nI_add, ← hqn] at g3
        exact fEv.steps 2 rfl g3
      rcases hv.cases h with hc0 | ⟨d, d1, d2, hcd, hR, ⟨hk, hdir, hfi, hdi⟩ | ⟨hk, hdir, hdi, hfi⟩⟩
      · have nfi : ¬ fiF c x := fun z => z.1 hc0
        have ndi : ¬ diF c x := fun z => z.1 hc0
        have hk0 : kF c ch x = [] := if_neg nfi
        have hcx : cF c ch x = [] := by unfold cF; rw [hk0]; rfl
        obtain ⟨Q, W', en'', g1, g2, g3⟩ := hnext [] [] en (some (.int (nI x))) o3 (Or.inr ⟨_, rfl⟩) ho3 (hb.step (fun a => by rw [hk0]; simp) (fun y hy => by cases hy) List.nodup_nil (fun z => absurd z ndi) (fun _ => rfl) (fun _ _ => rfl) (fun j hj => by cases hj))
        refine ⟨Q, W', en'', g1, g2, ?_⟩
        rw [cut_snoc, hcx, List.append_nil, List.append_nil] at g3
        refine ck_head ho3 hx3 ?_
        rw [hc0]
        refine fEv.brF rfl (by decide) ?_
        exact fEv.steps 1 rfl g3
      · have hne : ¬ c (4 * x) = 0 := hfi.1
        obtain ⟨f1, f2, f3, f4, f5, f6⟩ := fi_all h hR hdir
        have hkk : kF c ch x = (ch x).take ((lnF c x + 3) / 4) := if_pos hfi
        have hfull : Chain (tL t (cut c ch D)) (c (4 * x + 2)) (ch x) := Chain_congr f5 (fun a ha => tL_out (fun z => hxD (cut_fil h hDV hR ha z).1))
        obtain ⟨Q, W', en'', g1, g2, g3⟩ := hnext [] (kF c ch x) en (some (.int (nI x))) (some (.int (bI (dirP c x)))) (Or.inr ⟨_, rfl⟩) (Or.inr ⟨_, rfl⟩) (hb.step (fun a => by simp) (fun y hy => by cases hy) List.nodup_nil (fun z => absurd z hdi) (fun _ => rfl) (fun _ _ => rfl) (fun j hj => by cases hj))
        refine ⟨Q, W', en'', g1, g2, ?_⟩
        rw [cut_snoc, ← tL_app, ← mL_app] at g3
        have hl32 := h.len hR
        refine ck_head ho3 hx3 ?_
        refine fEv.brT rfl (decide_eq_true hne) ?_
        refine ck_dir ho3 hx3 ?_
        rw [hdir] at g3 ⊢
        refine fEv.brF rfl (by decide) ?_
        by_cases hl : lnF c x = 0
        · have hch0 : ch x = [] := f4 hl
          have hk0 : kF c ch x = [] := by rw [hkk, hch0, List.take_nil]
          have hcx : cF c ch x = [] := by unfold cF; rw [hk0]; rfl
          rw [hcx, hk0, tL_nil, mL_nil] at g3
          refine fEv.calln rfl (e_cut0 hx3 (by rw [f1, hl])) ?_
          refine fEv.calli rfl (e_fstN hx3) ?_
          rw [hch0] at hfull
          refine fEv.calln rfl (e_reach0 (by rfl) hfull (by decide)) ?_
          rw [mL_nil]
          exact g3
        · obtain ⟨k, hk1⟩ : ∃ k, lnF c x = k + 1 := ⟨lnF c x - 1, by omega⟩
          have hj : k / 4 < (ch x).length := by omega
          have ek : (lnF c x + 3) / 4 = k / 4 + 1 := by omega
          have k1 := (Chain_cut (k / 4) (ch x) _ hfull hj f6).1
          have el : cF c ch x = [(ch x).getD (k / 4) 0] := by
            unfold cF
            rw [hkk, ek]
            exact lastL_take _ _ hj
          rw [el, ← tL_one] at g3
          refine fEv.calln rfl (e_cut1 rfl hx3 (by rw [f1, hk1]) (by omega) hfull hj) ?_
          refine fEv.calli rfl (e_fstN hx3) ?_
          rw [← ek, ← hkk] at k1
          refine fEv.calln rfl (e_reach0 (by rfl) k1 (by rw [hkk, List.length_take]; omega)) ?_
          exact g3
      · have hne : ¬ c (4 * x) = 0 := hdi.1
        have hk0 : kF c ch x = [] := if_neg hfi
        have hcx : cF c ch x = [] := by unfold cF; rw [hk0]; rfl
        have hchx := h.chain hR
        rw [fsP_lt hx3] at hchx
        have hfull : Chain (tL t (cut c ch D)) (c (4 * x + 2)) (ch x) := Chain_congr hchx (fun a ha => tL_out (cut_dir h hDV hR hdir ha))
        have hdis : ∀ y ∈ ch x, Vx c ch R y ∧ y ∉ D ++ x :: T := by
          intro y hy
          refine ⟨⟨x, hR, hdir, hy⟩, fun hm => ?_⟩
          rcases b6 y hm with z | ⟨p, p1, p2, p3⟩
          · exact h.2.2.1 x 32 hR h.r32 (by omega) y hy z
          · exact h.2.2.1 x p hR (di_R h (hDV p p1) p2).1 (fun e => hxD (e ▸ p1)) y hy p3
        have hnd := (h.2.1 x hR).2.1
        have hsum : (D ++ x :: T).length + (ch x).length ≤ 32 := by
          have h1 : ((D ++ x :: T) ++ ch x).Nodup := List.nodup_append.mpr ⟨b2, hnd, fun a ha b hb hab => (hdis b hb).2 (hab ▸ ha)⟩
          have h2 := nodup_le 32 _ h1 (fun a ha => by
            rcases List.mem_append.mp ha with ha | ha
            · exact (b1 a ha).lt h
            · exact h.lt hR ha)
          rw [List.length_append] at h2
          exact h2
        obtain ⟨Q, W', en'', g1, g2, g3⟩ := hnext (ch x) (ch x) (pu (ch x) en (D ++ x :: T).length) (some (.int (nI x))) (some (.int (bI (dirP c x)))) (Or.inr ⟨_, rfl⟩) (Or.inr ⟨_, rfl⟩) (hb.step (fun a => by rw [hk0]; simp) hdis hnd (fun _ => rfl) (fun z => absurd hdi z) (fun j hj => pu_lt _ _ _ _ hj) (fun j hj => pu_ge _ _ _ _ hj))
        refine ⟨Q, W', en'', g1, g2, ?_⟩
        rw [cut_snoc, hcx, List.append_nil, ← mL_app] at g3
        refine ck_head ho3 hx3 ?_
        refine fEv.brT rfl (decide_eq_true hne) ?_
        refine ck_dir ho3 hx3 ?_
        rw [hdir] at g3 ⊢
        refine fEv.brT rfl (by decide) ?_
        refine fEv.calli rfl (e_fstN hx3) ?_
        refine fEv.calln rfl (e_reach1 (by decide) hfull (h.len hR) hsum) ?_
        exact g3
end KN
