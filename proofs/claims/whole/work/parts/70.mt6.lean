/-! the model's check and mount -/
def hN (P : Px) (T : mH) (cd : Int32) (c t : Nat → Int32) (ch : Nat → List Nat) (lf dn : Int32) (mk : Nat → Int32) (hm he fr : Int32) (N : List Nat) : mH := hM P T cd (c, tL t (cut c ch N), lf, dn) (mL mk (cov c ch N)) hm he fr
def vB (c : Nat → Int32) (x : Nat) : Int32 := if diF c x then c (4 * x + 2) else -1
section KR2
variable {Ls : Nat} {xs : Nat → Int32} {P : Px} {T : mH} {cd hm he fr lf dn : Int32} {c t mk : Nat → Int32} {u : Prop} {ch : Nat → List Nat} {R : Nat → Prop} {lv : Nat → Nat} {N : List Nat}
theorem cov_snoc {D : List Nat} {x : Nat} : cov c ch (D ++ [x]) = cov c ch D ++ (x :: kF c ch x) := by
  unfold cov
  rw [List.flatMap_append]
  simp
theorem m_noteV (h : Inv u c t ch R lv) (hN' : ∀ y ∈ N, Vx c ch R y) {x : Nat} (hx : Vx c ch R x) : mEv Ls xs 84 (0, [some (.ref 6), some (.int (nI x)), none, none, none, none, none], [], (hN P T cd c t ch lf dn mk hm he fr N)) (rN (hN P T cd c t ch lf dn mk hm he fr (N ++ [x]))) := by
  have hx3 := hx.lt h
  unfold hN
  rw [cut_snoc, cov_snoc]
  have no : ¬ fiF c x → (c (4 * x) ≤ 0 ∨ ¬ c (4 * x + 1) = nI 1) → mEv Ls xs 84 (0, [some (.ref 6), some (.int (nI x)), none, none, none, none, none], [], (hM P T cd (c, tL t (cut c ch N), lf, dn) (mL mk (cov c ch N)) hm he fr)) (rN (hM P T cd (c, tL t (cut c ch N ++ cF c ch x), lf, dn) (mL mk (cov c ch N ++ (x :: kF c ch x))) hm he fr)) := by
    intro hf ho
    have hk0 : kF c ch x = [] := if_neg hf
    have hcx : cF c ch x = [] := by unfold cF; rw [hk0]; rfl
    rw [hcx, hk0, List.append_nil, ← mL_app, ← mL_one]
    exact m_note0 hx3 ho
  rcases hx.cases h with hc0 | ⟨d, d1, d2, hcd, hR, ⟨hk, hdir, hfi, hdi⟩ | ⟨hk, hdir, hdi, hfi⟩⟩
  · exact no (fun z => z.1 hc0) (Or.inl (by rw [hc0]; decide))
  · obtain ⟨f1, f2, f3, f4, f5, f6⟩ := fi_all h hR hdir
    have hkk : kF c ch x = (ch x).take ((lnF c x + 3) / 4) := if_pos hfi
    have h2 := m_note1 (Ls := Ls) (xs := xs) (P := P) (T := T) (cd := cd) (hm := hm) (he := he) (fr := fr) (lf := lf) (dn := dn) (c := c) (t := tL t (cut c ch N)) (mk := mL mk (cov c ch N)) (K := kF c ch x) hx3 (by rw [hcd]; exact nI_nle (by omega) (by omega)) hk f1 f2 (by rw [hkk, List.length_take]; omega) (kF_Pf h hN' hx)
    rw [tL_app, mL_one, mL_app, mL_app] at h2
    exact h2
  · exact no hfi (Or.inr (by rw [hk]; decide))
theorem m_belowV (h : Inv u c t ch R lv) {x : Nat} (hx : Vx c ch R x) : mEv Ls xs 85 (0, [some (.ref 6), some (.int (nI x))], [], (hN P T cd c t ch lf dn mk hm he fr N)) (rV (vB c x) (hN P T cd c t ch lf dn mk hm he fr N)) := by
  have hx3 := hx.lt h
  unfold hN vB
  rcases hx.cases h with hc0 | ⟨d, d1, d2, hcd, hR, ⟨hk, hdir, hfi, hdi⟩ | ⟨hk, hdir, hdi, hfi⟩⟩
  · rw [if_neg (fun z => z.1 hc0)]
    exact m_below0 hx3 (Or.inl (by rw [hc0]; decide))
  · rw [if_neg hdi]
    exact m_below0 hx3 (Or.inr (by rw [hk]; decide))
  · rw [if_pos hdi]
    exact m_below1 hx3 (by rw [hcd]; exact nI_nle (by omega) (by omega)) hk
theorem vB_chain (h : Inv u c t ch R lv) {x : Nat} (hx : Vx c ch R x) : Chain t (vB c x) (bF c ch x) := by
  unfold vB bF
  by_cases hd : diF c x
  · rw [if_pos hd, if_pos hd]
    have := h.chain (di_R h hx hd).1
    rwa [fsP_lt (hx.lt h)] at this
  · rw [if_neg hd, if_neg hd]
    rfl
theorem N_snoc {x : Nat} (hN' : ∀ y ∈ N, Vx c ch R y) (hx : Vx c ch R x) : ∀ y ∈ N ++ [x], Vx c ch R y := by
  intro y hy
  rcases List.mem_append.mp hy with hy | hy
  · exact hN' y hy
  · have : y = x := by simpa using hy
    exact this ▸ hx
theorem N_app {K : List Nat} (hN' : ∀ y ∈ N, Vx c ch R y) (hx : ∀ y ∈ K, Vx c ch R y) : ∀ y ∈ N ++ K, Vx c ch R y := by
  intro y hy
  rcases List.mem_append.mp hy with hy | hy
  · exact hN' y hy
  · exact hx y hy
theorem c4 (h : Inv u c t ch R lv) {r : mR} {a1 a2 a3 : Int32} : ∀ (l : List Nat) (x : Int32) (N : List Nat), Chain t x l → (∀ y ∈ l, Vx c ch R y) → (∀ y ∈ N, Vx c ch R y) →
    mEv Ls xs 83 (92, [some (.ref 6), some (.int a1), some (.int a2), some (.int a3), some (.int (-1))], [], hN P T cd c t ch lf dn mk hm he fr (N ++ l.flatMap (vis c ch 0))) r → mEv Ls xs 83 (69, [some (.ref 6), some (.int a1), some (.int a2), some (.int a3), some (.int x)], [], hN P T cd c t ch lf dn mk hm he fr N) r := by
  intro l
  induction l with
  | nil =>
    intro x N hx _ _ k
    have hx : x = -1 := hx
    subst hx
    have e : N ++ List.flatMap (vis c ch 0) [] = N := by simp
    rw [e] at k
    exact fEv.brT rfl (by decide) k
  | cons a l ih =>
    intro x N hx hl hN' k
    obtain ⟨rfl, ha, hc⟩ := hx
    have hv := hl a List.mem_cons_self
    have e : N ++ List.flatMap (vis c ch 0) (a :: l) = (N ++ [a]) ++ List.flatMap (vis c ch 0) l := by simp [vis]
    rw [e] at k
    have h2 := ih (t a) (N ++ [a]) hc (fun y hy => hl y (List.mem_cons_of_mem _ hy)) (N_snoc hN' hv) k
    refine fEv.brF rfl (decide_eq_false (nI_pos (by omega))) ?_
    refine fEv.calln rfl (m_noteV h hN' hv) ?_
    refine fEv.brT rfl (bT ha) ?_
    rw [kT ha, show MS.t (c, tL t (cut c ch (N ++ [a])), lf, dn) a = t a from tN_dir h (N_snoc hN' hv) hv]
    exact fEv.steps 2 rfl h2
theorem c3 (h : Inv u c t ch R lv) {r : mR} {a1 a2 : Int32} : ∀ (l : List Nat) (x : Int32) (N : List Nat) (o4 : Option Value), oInt o4 → Chain t x l → (∀ y ∈ l, Vx c ch R y) → (∀ y ∈ N, Vx c ch R y) →
    (∀ o4, oInt o4 → mEv Ls xs 83 (102, [some (.ref 6), some (.int a1), some (.int a2), some (.int (-1)), o4], [], hN P T cd c t ch lf dn mk hm he fr (N ++ l.flatMap (vis c ch 1))) r) → mEv Ls xs 83 (53, [some (.ref 6), some (.int a1), some (.int a2), some (.int x), o4], [], hN P T cd c t ch lf dn mk hm he fr N) r := by
  intro l
  induction l with
  | nil =>
    intro x N o4 h4 hx _ _ k
    have hx : x = -1 := hx
    subst hx
    have e : N ++ List.flatMap (vis c ch 1) [] = N := by simp
    rw [e] at k
    exact fEv.brT rfl (by decide) (k o4 h4)
  | cons a l ih =>
    intro x N o4 h4 hx hl hN' k
    obtain ⟨rfl, ha, hc⟩ := hx
    have hv := hl a List.mem_cons_self
    have e : N ++ List.flatMap (vis c ch 1) (a :: l) = (N ++ [a] ++ (bF c ch a).flatMap (vis c ch 0)) ++ List.flatMap (vis c ch 1) l := by
      simp [vis]
    rw [e] at k
    have hN2 : ∀ y ∈ N ++ [a] ++ (bF c ch a).flatMap (vis c ch 0), Vx c ch R y := N_app (N_snoc hN' hv) (flat_V h (bF_V h hv))
    have h2 := ih (t a) (N ++ [a] ++ (bF c ch a).flatMap (vis c ch 0)) (some (.int (-1))) (Or.inr ⟨_, rfl⟩) hc (fun y hy => hl y (List.mem_cons_of_mem _ hy)) hN2 k
    have h3 : mEv Ls xs 83 (92, [some (.ref 6), some (.int a1), some (.int a2), some (.int (nI a)), some (.int (-1))], [], hN P T cd c t ch lf dn mk hm he fr (N ++ [a] ++ (bF c ch a).flatMap (vis c ch 0))) r := by
      refine fEv.brT rfl (bT ha) ?_
      rw [kT ha, show MS.t (c, tL t (cut c ch (N ++ [a] ++ (bF c ch a).flatMap (vis c ch 0))), lf, dn) a = t a from tN_dir h hN2 hv]
      exact fEv.steps 2 rfl h2
    have h4' := c4 h (bF c ch a) (vB c a) (N ++ [a]) (vB_chain h hv) (bF_V h hv) (N_snoc hN' hv) h3
    rcases h4 with rfl | ⟨z, rfl⟩ <;>
    · refine fEv.brF rfl (decide_eq_false (nI_pos (by omega))) ?_
      refine fEv.calln rfl (m_noteV h hN' hv) ?_
      refine fEv.calli rfl (m_belowV h hv) ?_
      exact fEv.steps 1 rfl h4'
theorem c2 (h : Inv u c t ch R lv) {r : mR} {a1 : Int32} : ∀ (l : List Nat) (x : Int32) (N : List Nat) (o3 o4 : Option Value), oInt o3 → oInt o4 → Chain t x l → (∀ y ∈ l, Vx c ch R y) → (∀ y ∈ N, Vx c ch R y) →
    (∀ o3 o4, oInt o3 → oInt o4 → mEv Ls xs 83 (112, [some (.ref 6), some (.int a1), some (.int (-1)), o3, o4], [], hN P T cd c t ch lf dn mk hm he fr (N ++ l.flatMap (vis c ch 2))) r) → mEv Ls xs 83 (38, [some (.ref 6), some (.int a1), some (.int x), o3, o4], [], hN P T cd c t ch lf dn mk hm he fr N) r := by
  intro l
  induction l with
  | nil =>
    intro x N o3 o4 h3 h4 hx _ _ k
    have hx : x = -1 := hx
    subst hx
    have e : N ++ List.flatMap (vis c ch 2) [] = N := by simp
    rw [e] at k
    exact fEv.brT rfl (by decide) (k o3 o4 h3 h4)
  | cons a l ih =>
    intro x N o3 o4 h3 h4 hx hl hN' k
    obtain ⟨rfl, ha, hc⟩ := hx
    have hv := hl a List.mem_cons_self
    have e : N ++ List.flatMap (vis c ch 2) (a :: l) = (N ++ [a] ++ (bF c ch a).flatMap (vis c ch 1)) ++ List.flatMap (vis c ch 2) l := by
      rw [List.flatMap_cons, vis]
      simp
    rw [e] at k
    have hN2 : ∀ y ∈ N ++ [a] ++ (bF c ch a).flatMap (vis c ch 1), Vx c ch R y := N_app (N_snoc hN' hv) (flat_V h (bF_V h hv))
    have h5 : ∀ o4, oInt o4 → mEv Ls xs 83 (102, [some (.ref 6), some (.int a1), some (.int (nI a)), some (.int (-1)), o4], [], hN P T cd c t ch lf dn mk hm he fr (N ++ [a] ++ (bF c ch a).flatMap (vis c ch 1))) r := by
      intro o4 ho4
      have h2 := ih (t a) (N ++ [a] ++ (bF c ch a).flatMap (vis c ch 1)) (some (.int (-1))) o4 (Or.inr ⟨_, rfl⟩) ho4 hc (fun y hy => hl y (List.mem_cons_of_mem _ hy)) hN2 k
      refine fEv.brT rfl (bT ha) ?_
      rw [kT ha, show MS.t (c, tL t (cut c ch (N ++ [a] ++ (bF c ch a).flatMap (vis c ch 1))), lf, dn) a = t a from tN_dir h hN2 hv]
      exact fEv.steps 2 rfl h2
    have h6 := c3 h (bF c ch a) (vB c a) (N ++ [a]) o4 h4 (vB_chain h hv) (bF_V h hv) (N_snoc hN' hv) h5
    rcases h3 with rfl | ⟨z, rfl⟩ <;> rcases h4 with rfl | ⟨z', rfl⟩ <;>
    · refine fEv.brF rfl (decide_eq_false (nI_pos (by omega))) ?_
      refine fEv.calln rfl (m_noteV h hN' hv) ?_
      refine fEv.calli rfl (m_belowV h hv) ?_
      exact fEv.steps 1 rfl h6
theorem c1 (h : Inv u c t ch R lv) {r : mR} : ∀ (l : List Nat) (x : Int32) (N : List Nat) (o2 o3 o4 : Option Value), oInt o2 → oInt o3 → oInt o4 → Chain t x l → (∀ y ∈ l, Vx c ch R y) → (∀ y ∈ N, Vx c ch R y) →
    (∀ o2 o3 o4, oInt o2 → oInt o3 → oInt o4 → mEv Ls xs 83 (122, [some (.ref 6), some (.int (-1)), o2, o3, o4], [], hN P T cd c t ch lf dn mk hm he fr (N ++ l.flatMap (vis c ch 3))) r) → mEv Ls xs 83 (23, [some (.ref 6), some (.int x), o2, o3, o4], [], hN P T cd c t ch lf dn mk hm he fr N) r := by
  intro l
  induction l with
  | nil =>
    intro x N o2 o3 o4 h2 h3 h4 hx _ _ k
    have hx : x = -1 := hx
    subst hx
    have e : N ++ List.flatMap (vis c ch 3) [] = N := by simp
    rw [e] at k
    exact fEv.brT rfl (by decide) (k o2 o3 o4 h2 h3 h4)
  | cons a l ih =>
    intro x N o2 o3 o4 ho2 h3 h4 hx hl hN' k
    obtain ⟨rfl, ha, hc⟩ := hx
    have hv := hl a List.mem_cons_self
    have e : N ++ List.flatMap (vis c ch 3) (a :: l) = (N ++ [a] ++ (bF c ch a).flatMap (vis c ch 2)) ++ List.flatMap (vis c ch 3) l := by
      rw [List.flatMap_cons, vis]
      simp
    rw [e] at k
    have hN2 : ∀ y ∈ N ++ [a] ++ (bF c ch a).flatMap (vis c ch 2), Vx c ch R y := N_app (N_snoc hN' hv) (flat_V h (bF_V h hv))
    have h5 : ∀ o3 o4, oInt o3 → oInt o4 → mEv Ls xs 83 (112, [some (.ref 6), some (.int (nI a)), some (.int (-1)), o3, o4], [], hN P T cd c t ch lf dn mk hm he fr (N ++ [a] ++ (bF c ch a).flatMap (vis c ch 2))) r := by
      intro o3 o4 ho3 ho4
      have h2 := ih (t a) (N ++ [a] ++ (bF c ch a).flatMap (vis c ch 2)) (some (.int (-1))) o3 o4 (Or.inr ⟨_, rfl⟩) ho3 ho4 hc (fun y hy => hl y (List.mem_cons_of_mem _ hy)) hN2 k
      refine fEv.brT rfl (bT ha) ?_
      rw [kT ha, show MS.t (c, tL t (cut c ch (N ++ [a] ++ (bF c ch a).flatMap (vis c ch 2))), lf, dn) a = t a from tN_dir h hN2 hv]
      exact fEv.steps 2 rfl h2
    have h6 := c2 h (bF c ch a) (vB c a) (N ++ [a]) o3 o4 h3 h4 (vB_chain h hv) (bF_V h hv) (N_snoc hN' hv) h5
    rcases ho2 with rfl | ⟨z2, rfl⟩ <;> rcases h3 with rfl | ⟨z, rfl⟩ <;> rcases h4 with rfl | ⟨z', rfl⟩ <;>
    · refine fEv.brF rfl (decide_eq_false (nI_pos (by omega))) ?_
      refine fEv.calln rfl (m_noteV h hN' hv) ?_
      refine fEv.calli rfl (m_belowV h hv) ?_
      exact fEv.steps 1 rfl h6
theorem mcl_loop {s : MS} {r : mR} (k : ∀ o, mEv Ls xs 83 (21, [some (.ref 6), some (.int o), none, none, none], [], hM P T cd s (clr mk 32) hm he fr) r) : ∀ (m i : Nat), i + m = 32 → mEv Ls xs 83 (2, [some (.ref 6), some (.int (nI i)), none, none, none], [], hM P T cd s (clr mk i) hm he fr) r := by
  intro m
  induction m with
  | zero =>
    intro i hi
    have hi : i = 32 := hi
    subst hi
    exact fEv.brT rfl (by decide) (k _)
  | succ m ih =>
    intro i hi
    refine fEv.brF rfl (decide_eq_false (nI_ge (a := i) (b := 32) (by omega) (by decide))) ?_
    refine fEv.brT rfl (bT (a := i) (by omega)) ?_
    rw [kT (show i < 32 by omega)]
    have h2 := ih (i + 1) (by omega)
    rw [← nI_add, ← clr_s] at h2
    exact fEv.steps 2 rfl h2
theorem m_check (h : Inv u c t ch R lv) : mEv Ls xs 83 (0, [some (.ref 6), none, none, none, none], [], (hM P T cd (c, t, lf, dn) mk hm he fr)) (rN (hN P T cd c t ch lf dn (clr mk 32) hm he fr ((ch 32).flatMap (vis c ch 3)))) := by
  have h1 := mcl_loop (Ls := Ls) (xs := xs) (P := P) (T := T) (cd := cd) (hm := hm) (he := he) (fr := fr) (mk := mk) (s := (c, t, lf, dn)) (r := rN (hN P T cd c t ch lf dn (clr mk 32) hm he fr ((ch 32).flatMap (vis c ch 3)))) (fun o => by
    have h2 := c1 (Ls := Ls) (xs := xs) (P := P) (T := T) (cd := cd) (hm := hm) (he := he) (fr := fr) (lf := lf) (dn := dn) (mk := clr mk 32) (r := rN (hN P T cd c t ch lf dn (clr mk 32) hm he fr ((ch 32).flatMap (vis c ch 3)))) h (ch 32) (nI 0) [] none none none (Or.inl rfl) (Or.inl rfl) (Or.inl rfl) (h.chain h.r32) (fun y hy => ⟨32, h.r32, dirP_32, hy⟩) (fun y hy => by cases hy) (fun o2 o3 o4 k2 k3 k4 => by
      rw [List.nil_append]
      exact fEv.retV rfl rfl)
    have e0 : hN P T cd c t ch lf dn (clr mk 32) hm he fr [] = hM P T cd (c, t, lf, dn) (clr mk 32) hm he fr := by
      unfold hN
      have e1 : cut c ch [] = [] := rfl
      have e2 : cov c ch [] = [] := rfl
      rw [e1, e2, tL_nil, mL_nil]
    rw [e0] at h2
    exact fEv.steps 2 rfl h2) 32 0 (by omega)
  rw [clr_0] at h1
  exact fEv.steps 2 rfl h1
theorem mu_loop : ∀ (m i : Nat), i + m = 32 → mEv Ls xs 82 (23, [some (.ref 6), some (.int (nI (sw mk t i).2)), some (.int (nI i))], [], hM P T cd (c, (sw mk t i).1, lf, dn) mk hm he fr) (rV (nI (sw mk t 32).2) (hM P T cd (c, (sw mk t 32).1, lf, dn) mk hm he fr)) := by
  intro m
  induction m with
  | zero =>
    intro i hi
    have hi : i = 32 := hi
    subst hi
    refine fEv.brT rfl (by decide) ?_
    exact fEv.retV rfl rfl
  | succ m ih =>
    intro i hi
    have hi3 : i < 32 := by omega
    have h2 := ih (i + 1) (by omega)
    rw [← nI_add, sw] at h2
    refine fEv.brF rfl (decide_eq_false (nI_ge (a := i) (b := 32) (by omega) (by decide))) ?_
    refine fEv.brT rfl (bT hi3) ?_
    rw [kT hi3]
    refine fEv.br rfl (fun h1 => ?_) (fun h1 => ?_)
    · rw [if_neg (fun z => h1 z.1)] at h2
      exact fEv.steps 2 rfl h2
    · refine fEv.brT rfl (bT hi3) ?_
      rw [kT hi3]
      refine fEv.br rfl (fun h3 => ?_) (fun h3 => ?_)
      · rw [if_neg (fun z => z.2 h3)] at h2
        exact fEv.steps 2 rfl h2
      · rw [if_pos ⟨Decidable.of_not_not h1, h3⟩] at h2
        refine fEv.brT rfl (bT hi3) ?_
        rw [kT hi3]
        have h2 : mEv Ls xs 82 (23, [some (.ref 6), some (.int (nI ((sw mk t i).2 + 1))), some (.int (nI i + nI 1))], [], hM P T cd (c, upd (sw mk t i).1 i (-2), lf, dn) mk hm he fr) (rV (nI (sw mk t 32).2) (hM P T cd (c, (sw mk t 32).1, lf, dn) mk hm he fr)) := h2
        rw [← nI_add] at h2
        exact fEv.steps 3 rfl h2
theorem m_mount (h : Inv u c t ch R lv) : mEv Ls xs 82 (0, [some (.ref 6), none, none], [], (hM P T cd (c, t, lf, dn) mk hm he fr)) (rV (nI (sw (mL (clr mk 32) (cov c ch ((ch 32).flatMap (vis c ch 3)))) (tL t (cut c ch ((ch 32).flatMap (vis c ch 3)))) 32).2) (hM P T (nI 0) (c, (sw (mL (clr mk 32) (cov c ch ((ch 32).flatMap (vis c ch 3)))) (tL t (cut c ch ((ch 32).flatMap (vis c ch 3)))) 32).1, -1, 0) (mL (clr mk 32) (cov c ch ((ch 32).flatMap (vis c ch 3)))) hm he fr)) := by
  refine fEv.calln rfl (m_check (cd := nI 0) (lf := -1) (dn := 0) h) ?_
  exact fEv.steps 4 rfl (mu_loop (lf := -1) (dn := 0) (c := c) (t := tL t (cut c ch ((ch 32).flatMap (vis c ch 3)))) (mk := mL (clr mk 32) (cov c ch ((ch 32).flatMap (vis c ch 3)))) 32 0 (by omega))
end KR2
/-- mount on both sides -/
theorem op_mount {Ls : Nat} {xs : Nat → Int32} {c t : Nat → Int32} (hs : I1 c t) : ∃ (t' : Nat → Int32) (v : Int32), J1 c t' ∧
    (∀ lf dn re en n M, ∃ re' en' n', mEv Ls xs 3 (0, [some (.ref 0)], [], (hV c t lf dn re en n M)) (rV v (hV c t' (-1) 0 re' en' n' M))) ∧
    (∀ P T cd lf dn mk hm he fr, ∃ mk', mEv Ls xs 82 (0, [some (.ref 6), none, none], [], (hM P T cd (c, t, lf, dn) mk hm he fr)) (rV v (hM P T (nI 0) (c, t', -1, 0) mk' hm he fr))) := by
  obtain ⟨ch, R, lv, h⟩ := hs
  have hrow := vis_row h
  have hbase : ∀ (re : Nat → Int32) (W : List Nat), (∀ a, a ∈ W ↔ a ∈ cov c ch ((ch 32).flatMap (vis c ch 3))) → ∀ i, i < 32 → (mL (clr re 32) W i = 0 ↔ mL (fun _ => 0) (cov c ch ((ch 32).flatMap (vis c ch 3))) i = 0) := by
    intro re W hW i hi
    unfold mL
    by_cases e : i ∈ W
    · rw [if_pos e, if_pos ((hW i).mp e)]
    · rw [if_neg e, if_neg (fun z => e ((hW i).mpr z))]
      unfold clr
      rw [if_pos hi]
  refine ⟨(sw (mL (fun _ => 0) (cov c ch ((ch 32).flatMap (vis c ch 3)))) (tL t (cut c ch ((ch 32).flatMap (vis c ch 3)))) 32).1, nI (sw (mL (fun _ => 0) (cov c ch ((ch 32).flatMap (vis c ch 3)))) (tL t (cut c ch ((ch 32).flatMap (vis c ch 3)))) 32).2, J1.of (h.mount hrow (fun a _ => ?_)), fun lf dn re en n M => ?_, fun P T cd lf dn mk hm he fr => ?_⟩
  · unfold mL
    by_cases e : a ∈ cov c ch ((ch 32).flatMap (vis c ch 3))
    · rw [if_pos e]; exact ⟨fun z => absurd z (by decide), fun z => absurd e z⟩
    · rw [if_neg e]; exact ⟨fun _ => e, fun _ => rfl⟩
  · obtain ⟨Q, W, en', n', g1, g2, g3⟩ := e_mount (Ls := Ls) (xs := xs) (lf := lf) (dn := dn) (re := re) (en := en) (n := n) (M := M) h
    have hQ : ∀ x, x ∈ Q ↔ x ∈ (ch 32).flatMap (vis c ch 3) := fun x => (g1 x).trans (hrow x).symm
    rw [cut_congr hQ, sw_congr 32 (hbase re W (fun a => (g2 a).trans (cov_congr hQ a)))] at g3
    exact ⟨_, en', n', g3⟩
  · have g3 := m_mount (Ls := Ls) (xs := xs) (P := P) (T := T) (cd := cd) (hm := hm) (he := he) (fr := fr) (lf := lf) (dn := dn) (mk := mk) h
    rw [sw_congr 32 (hbase mk _ (fun a => Iff.rfl))] at g3
    exact ⟨_, g3⟩
