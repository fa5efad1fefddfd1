/-! make, append, shorten on both sides -/
theorem free_cases (t : Nat → Int32) : ∀ n, (∀ i, i < n → ¬ t i = -2) ∨ ∃ a, a < n ∧ t a = -2 ∧ ∀ i, i < a → ¬ t i = -2 := by
  intro n
  induction n with
  | zero => exact Or.inl (fun i hi => absurd hi (by omega))
  | succ n ih =>
    rcases ih with h | ⟨a, h1, h2, h3⟩
    · by_cases e : t n = -2
      · exact Or.inr ⟨n, by omega, e, h⟩
      · refine Or.inl (fun i hi => ?_)
        by_cases z : i = n
        · rw [z]; exact e
        · exact h i (by omega)
    · exact Or.inr ⟨a, by omega, h2, h3⟩
theorem lastI_mem : ∀ (l : List Nat) (b : Nat), lastI b l ∈ b :: l := by
  intro l
  induction l with
  | nil => intro b; exact List.mem_cons_self
  | cons y l ih => intro b; exact List.mem_cons_of_mem _ (ih y)
theorem Chain_snoc {t t' : Nat → Int32} {a : Nat} (ha : a < 32) (hta : t' a = -1) : ∀ (l : List Nat) (b : Nat) (x : Int32), Chain t x (b :: l) → (b :: l).Nodup → t' (lastI b l) = nI a → (∀ y ∈ b :: l, y ≠ lastI b l → t' y = t y) → Chain t' x (b :: l ++ [a]) := by
  intro l
  induction l with
  | nil =>
    intro b x h _ hl _
    exact ⟨h.1, h.2.1, hl, ha, hta⟩
  | cons y l ih =>
    intro b x h hn hl ht
    obtain ⟨n1, n2⟩ := List.nodup_cons.mp hn
    refine ⟨h.1, h.2.1, ?_⟩
    rw [ht b List.mem_cons_self (fun z => n1 (z ▸ lastI_mem l y))]
    exact ih y _ h.2.2 n2 hl (fun w hw => ht w (List.mem_cons_of_mem _ hw))
theorem Chain_cut {t : Nat → Int32} : ∀ (j : Nat) (l : List Nat) (x : Int32), Chain t x l → j < l.length → l.Nodup → Chain (upd t (l.getD j 0) (-1)) x (l.take (j + 1)) ∧ Chain t (t (l.getD j 0)) (l.drop (j + 1)) := by
  intro j
  induction j with
  | zero =>
    intro l x h hj hn
    cases l with
    | nil => cases hj
    | cons a l => exact ⟨⟨h.1, h.2.1, pk_us⟩, h.2.2⟩
  | succ j ih =>
    intro l x h hj hn
    cases l with
    | nil => cases hj
    | cons a l =>
      obtain ⟨n1, n2⟩ := List.nodup_cons.mp hn
      have hj : j < l.length := by simpa using hj
      obtain ⟨h1, h2⟩ := ih l _ h.2.2 hj n2
      have hm : l.getD j 0 ∈ l := getD_mem hj
      refine ⟨⟨h.1, h.2.1, ?_⟩, h2⟩
      have e : upd t (l.getD j 0) (-1) a = t a := pk_un (fun z => n1 (z ▸ hm))
      show Chain (upd t (l.getD j 0) (-1)) (upd t (l.getD j 0) (-1) a) (l.take (j + 1))
      rw [e]
      exact h1
theorem nodup_one {a : Nat} : [a].Nodup := by simp
theorem nodup_snoc {l : List Nat} {a : Nat} (hn : l.Nodup) (ha : a ∉ l) : (l ++ [a]).Nodup := by
  induction l with
  | nil => exact nodup_one
  | cons b l ih =>
    obtain ⟨n1, n2⟩ := List.nodup_cons.mp hn
    refine List.nodup_cons.mpr ⟨fun h => ?_, ih n2 (fun h => ha (List.mem_cons_of_mem _ h))⟩
    rcases List.mem_append.mp h with h | h
    · exact n1 h
    · have : b = a := by simpa using h
      exact ha (this ▸ List.mem_cons_self)
theorem w4_0 {c : Nat → Int32} {j : Nat} {v0 v1 v2 v3 : Int32} : w4 c j v0 v1 v2 v3 (4 * j) = v0 := by unfold w4; rw [pk_un (by omega), pk_un (by omega), pk_un (by omega), pk_us]
theorem w4_1 {c : Nat → Int32} {j : Nat} {v0 v1 v2 v3 : Int32} : w4 c j v0 v1 v2 v3 (4 * j + 1) = v1 := by unfold w4; rw [pk_un (by omega), pk_un (by omega), pk_us]
theorem w4_i2 {c : Nat → Int32} {j : Nat} {v0 v1 v2 v3 : Int32} : w4 c j v0 v1 v2 v3 (4 * j + 2) = v2 := by unfold w4; rw [pk_un (by omega), pk_us]
theorem w4_i3 {c : Nat → Int32} {j : Nat} {v0 v1 v2 v3 : Int32} : w4 c j v0 v1 v2 v3 (4 * j + 3) = v3 := by unfold w4; rw [pk_us]
theorem J1.of {c t : Nat → Int32} {ch : Nat → List Nat} {R : Nat → Prop} {lv : Nat → Nat} (h : Inv True c t ch R lv) : J1 c t := ⟨ch, R, lv, h⟩
theorem I1.of {c t : Nat → Int32} {ch : Nat → List Nat} {R : Nat → Prop} {lv : Nat → Nat} (h : Inv False c t ch R lv) : I1 c t := ⟨ch, R, lv, h⟩
section OT
variable {Ls : Nat} {xs : Nat → Int32} {c t : Nat → Int32} {lf dn : Int32} {u : Prop} {ch : Nat → List Nat} {R : Nat → Prop} {lv : Nat → Nat}
theorem lv_le (h : Inv u c t ch R lv) {p q : Nat} (hp : p < 65536) (hw : wk c ch (p / 16) = some q) : lv q ≤ 3 := by
  have key : ∀ a d b, R a → d < 16 → stp c ch a d = some b → R b ∧ lv b ≤ lv a + 1 := by
    intro a d b ha hd hs
    unfold stp at hs
    split at hs
    · cases hs; exact ⟨ha, by omega⟩
    · rename_i hd0
      split at hs
      · rename_i hdir
        obtain ⟨h1, h2⟩ := lkO_some hs
        rcases (h.2.2.2.1 a ha hdir).2.2.1 b h1 with e | ⟨-, e1, e2, -⟩
        · rw [h2] at e
          exact absurd ((nI_eq (by omega) (by decide)).mp e) hd0
        · exact ⟨e1, by omega⟩
      · cases hs
  rw [wk16 hp] at hw
  obtain ⟨a1, e1, hw⟩ := Option.bind_eq_some_iff.mp hw
  obtain ⟨a2, e2, hw⟩ := Option.bind_eq_some_iff.mp hw
  obtain ⟨k1, k2⟩ := key _ _ _ h.r32 (dg_lt _ _) e1
  obtain ⟨k3, k4⟩ := key _ _ _ k1 (dg_lt _ _) e2
  obtain ⟨k5, k6⟩ := key _ _ _ k3 (dg_lt _ _) hw
  have := h.1.2
  omega
/-- a free cluster is written -/
theorem Inv.wfree (h : Inv u c t ch R lv) {a : Nat} {v0 v1 v2 v3 : Int32} (hf : t a = -2) : Inv u (w4 c a v0 v1 v2 v3) t ch R lv := by
  refine h.frame (fun _ _ _ _ => rfl) (fun p hp hd b hb i hi => w4_at (fun z => h.notIn hf p hp (z ▸ hb)) hi)
theorem Inv.tfree (h : Inv u c t ch R lv) {a : Nat} {v : Int32} (hf : ∀ p, R p → a ∉ ch p) : Inv u c (upd t a v) ch R lv :=
  h.frame (fun p hp b hb => pk_un (fun z => hf p hp (z ▸ hb))) (fun _ _ _ _ _ _ _ => rfl)
theorem op_make {a d : Int32} (hs : St c t dn) : Op Ls xs 15 51 [.int a, .int d] 4 c t lf dn := by
  rcases hs with ⟨rfl, ch, R, lv, h⟩ | ⟨rfl, h⟩
  · have hs : St c t 0 := Or.inl ⟨rfl, ch, R, lv, h⟩
    rcases path_cases a with hb | ⟨p, hp, rfl, ho⟩
    · exact Op.err 2 (x := 1) (by decide) (by decide) rfl hs (fun _ _ _ _ => e_make_bad hb) (fun P T cd mk hm he fr => ⟨_, _, _, _, m_make_bad rfl hb⟩)
    · cases hg : gH c ch p with
      | none =>
        refine Op.err 3 (x := 2) (by decide) (by decide) rfl hs (fun _ _ _ _ => ?_) (fun P T cd mk hm he fr => ?_)
        · rcases gH_none hp ho hg with hw | ⟨z, hw, hd⟩
          · exact e_make_no hp ho h.rc h.r32 hw
          · exact e_make_file hp ho h.rc h.r32 hw hd
        · obtain ⟨hm', he', hh⟩ := m_make_no (Ls := Ls) (xs := xs) (P := P) (T := T) (cd := cd) (hm := hm) (he := he) (fr := fr) (mk := mk) (s := (c, t, lf, 0)) (d := d) rfl h.rc h.r32 hp ho hg
          exact ⟨_, hm', he', fr, hh⟩
      | some q =>
        obtain ⟨hw, hqd⟩ := gH_some hp ho hg
        have hRq : R q := wk_R h.rc h.r32 hw
        have hlv := lv_le h hp hw
        have isThere : (p = 0 ∨ ∃ a, lkO c (p % 16) (ch q) = some a ∧ a < 32) → Op Ls xs 15 51 [.int (nI p), .int d] 4 c t lf 0 := fun hl =>
          Op.err 4 (x := 3) (by decide) (by decide) rfl hs (fun _ _ _ _ => e_make_is hp ho h.rc h.r32 hw hqd hl) (fun P T cd mk hm he fr => ⟨_, _, _, fr, m_make_is (s := (c, t, lf, 0)) rfl h.rc h.r32 hp ho hg hRq hqd hl⟩)
        by_cases h0 : p = 0
        · exact isThere (Or.inl h0)
        · cases hl : lkO c (p % 16) (ch q) with
          | some y => exact isThere (Or.inr ⟨y, hl, h.lt hRq (lkO_some hl).1⟩)
          | none =>
            have hlow := ok_low hp ho h0
            have hk : (if d = 0 then nI 1 else nI 2) = nI 1 ∨ (if d = 0 then nI 1 else nI 2) = nI 2 := by
              by_cases e : d = 0
              · rw [if_pos e]; exact Or.inl rfl
              · rw [if_neg e]; exact Or.inr rfl
            cases he0 : lkO c 0 (ch q) with
            | some a =>
              obtain ⟨a1, a2⟩ := lkO_some he0
              have a3 : a < 32 := h.lt hRq a1
              have aR : ¬ R a := by
                intro hR
                rcases (h.2.1 a hR).2.2 with e | ⟨-, r, -, -, -, e⟩
                · omega
                · exact e a2
              have hqa : q ≠ a := fun z => aR (z ▸ hRq)
              have hsafe : SafeW I1 J1 [wC a (nI (p % 16)) (if d = 0 then nI 1 else nI 2) (-1) (nI 0)] c t := by
                refine ⟨⟨ch, R, lv, h.weak⟩, ?_⟩
                refine J1.of <| h.add (c' := w4 c a (nI (p % 16)) (if d = 0 then nI 1 else nI 2) (-1) (nI 0)) (t' := t) (q := q) (a := a) (d := p % 16) (L := ch q) hRq hqd hlv aR a3 (fun r hr hrq hm => h.2.2.1 r q hr hRq hrq a hm a1) a1 (h.2.1 q hRq).2.1 (fun x hx => Or.inr hx) (fun x hx => hx) (fun r i hr hi _ => w4_at hr hi) (by omega) (by omega) w4_0 ?_ w4_i2 w4_i3 ?_ (fun _ _ _ _ _ => rfl) (fun x hx _ => lkO_none hl x hx)
                · rw [w4_1]; exact hk
                · rw [fsP_congr (w4_at hqa (by decide))]; exact h.chain hRq
              exact Op.wr (v := nI a) hsafe (fun _ _ _ _ => e_make_empty hp h0 ho h.rc h.r32 hw hqd hl he0 a3) (fun P T cd mk hm he fr => ⟨_, _, fr, m_make_empty (s := (c, t, lf, 0)) rfl h.rc h.r32 hp h0 ho hg hRq hqd hl he0 a3⟩)
            | none =>
              rcases free_cases t 32 with hf | ⟨a, a3, af, am⟩
              · exact Op.err 5 (x := 4) (by decide) (by decide) rfl hs (fun _ _ _ _ => e_make_full hp h0 ho h.rc h.r32 hw hqd hl he0 hf) (fun P T cd mk hm he fr => ⟨_, _, _, fr, m_make_full (s := (c, t, lf, 0)) rfl h.rc h.r32 hp h0 ho hg hRq hqd hl he0 hf⟩)
              · have aR : ¬ R a := h.notR a3 af
                have aN := h.notIn af
                have hqa : q ≠ a := fun z => aR (z ▸ hRq)
                have h1 : Inv True (w4 c a (nI (p % 16)) (if d = 0 then nI 1 else nI 2) (-1) (nI 0)) t ch R lv := h.wfree af
                have h2 : Inv True (w4 c a (nI (p % 16)) (if d = 0 then nI 1 else nI 2) (-1) (nI 0)) (upd t a (-1)) ch R lv := h1.tfree aN
                have hD := h.2.2.2.1 q hRq hqd
                cases hcq : ch q with
                | nil =>
                  have hq3 : q < 32 := by
                    have := h.le hRq
                    by_cases e : q = 32
                    · have hx := h.chain hRq
                      rw [hcq, e] at hx
                      exact absurd (show (nI 0 : Int32) = -1 from hx) (by decide)
                    · omega
                  have hq1 : c (4 * q + 2) = -1 := by
                    have hx := h.chain hRq
                    rw [hcq, fsP_lt hq3] at hx
                    exact hx
                  have hsafe : SafeW I1 J1 [wC a (nI (p % 16)) (if d = 0 then nI 1 else nI 2) (-1) (nI 0), wT a (-1), wK q 2 (nI a)] c t := by
                    refine ⟨⟨ch, R, lv, h.weak⟩, ⟨ch, R, lv, h1.weak⟩, ⟨ch, R, lv, h2.weak⟩, ?_⟩
                    show J1 (upd (w4 c a (nI (p % 16)) (if d = 0 then nI 1 else nI 2) (-1) (nI 0)) (4 * q + 2) (nI a)) (upd t a (-1))
                    refine J1.of <| h.add (q := q) (a := a) (d := p % 16) (L := [a]) hRq hqd hlv aR a3 (fun r hr _ => aN r hr) List.mem_cons_self nodup_one (fun x hx => Or.inl (by simpa using hx)) (fun x hx => by rw [hcq] at hx; cases hx) (fun r i hr hi hn => ?_) (by omega) (by omega) ?_ ?_ ?_ ?_ ?_ (fun r hr _ x hx => pk_un (fun z => aN r hr (z ▸ hx))) (fun x hx _ => lkO_none hl x hx)
                    · rw [pk_un (by omega)]; exact w4_at hr hi
                    · rw [pk_un (by omega)]; exact w4_0
                    · rw [pk_un (by omega), w4_1]; exact hk
                    · rw [pk_un (by omega)]; exact w4_i2
                    · rw [pk_un (by omega)]; exact w4_i3
                    · rw [fsP_lt hq3, pk_us]; exact ⟨rfl, a3, pk_us⟩
                  exact Op.wr (v := nI a) hsafe (fun _ _ _ _ => e_make_new0 hp h0 ho h.rc h.r32 hw hqd hl he0 a3 af am hq3 hq1 hqa) (fun P T cd mk hm he fr => ⟨_, _, fr, m_make_new0 (s := (c, t, lf, 0)) rfl h.rc h.r32 hp h0 ho hg hRq hqd hl he0 a3 af am hq3 hq1 (hD.2.2.2.2 hq3) hqa⟩)
                | cons b l =>
                  have hal : a ∉ b :: l := by rw [← hcq]; exact aN q hRq
                  have hlm : lastI b l ∈ ch q := by rw [hcq]; exact lastI_mem l b
                  have hla : lastI b l < 32 := h.lt hRq hlm
                  have hna : lastI b l ≠ a := fun z => aN q hRq (z ▸ hlm)
                  have hsafe : SafeW I1 J1 [wC a (nI (p % 16)) (if d = 0 then nI 1 else nI 2) (-1) (nI 0), wT a (-1), wT (lastI b l) (nI a)] c t := by
                    refine ⟨⟨ch, R, lv, h.weak⟩, ⟨ch, R, lv, h1.weak⟩, ⟨ch, R, lv, h2.weak⟩, ?_⟩
                    show J1 (w4 c a (nI (p % 16)) (if d = 0 then nI 1 else nI 2) (-1) (nI 0)) (upd (upd t a (-1)) (lastI b l) (nI a))
                    refine J1.of <| h.add (q := q) (a := a) (d := p % 16) (L := ch q ++ [a]) hRq hqd hlv aR a3 (fun r hr _ => aN r hr) (by simp) (nodup_snoc (h.2.1 q hRq).2.1 (aN q hRq)) (fun x hx => ?_) (fun x hx => List.mem_append.mpr (Or.inl hx)) (fun r i hr hi _ => w4_at hr hi) (by omega) (by omega) w4_0 ?_ w4_i2 w4_i3 ?_ (fun r hr hrq x hx => ?_) (fun x hx _ => lkO_none hl x hx)
                    · rcases List.mem_append.mp hx with hx | hx
                      · exact Or.inr hx
                      · exact Or.inl (by simpa using hx)
                    · rw [w4_1]; exact hk
                    · rw [fsP_congr (w4_at hqa (by decide))]
                      have hc := h.chain hRq
                      have hn := (h.2.1 q hRq).2.1
                      rw [hcq] at hc hn ⊢
                      refine Chain_snoc a3 ?_ l b _ hc hn pk_us (fun y hy hyl => ?_)
                      · rw [pk_un (Ne.symm hna), pk_us]
                      · rw [pk_un hyl, pk_un (show y ≠ a from fun z => hal (z ▸ hy))]
                    · rw [pk_un (show x ≠ lastI b l from fun z => h.2.2.1 r q hr hRq hrq x hx (z ▸ hlm)), pk_un (show x ≠ a from fun z => aN r hr (z ▸ hx))]
                  exact Op.wr (v := nI a) hsafe (fun _ _ _ _ => e_make_new1 hp h0 ho h.rc h.r32 hw hqd hl he0 a3 af am hcq hal hqa) (fun P T cd mk hm he fr => ⟨_, _, fr, m_make_new1 (s := (c, t, lf, 0)) rfl h.rc h.r32 hp h0 ho hg hRq hqd hl he0 a3 af am hcq hal hla⟩)
  · exact Op.err 1 (x := 0) (by decide) (by decide) rfl (Or.inr ⟨rfl, h⟩) (fun _ _ _ _ => e_make_down) (fun P T cd mk hm he fr => ⟨_, _, _, _, m_make_down (show ¬ (1 : Int32) = 0 by decide)⟩)
end OT
