/-! append, shorten on both sides -/
section OU
variable {Ls : Nat} {xs : Nat → Int32} {c t : Nat → Int32} {lf dn : Int32} {u : Prop} {ch : Nat → List Nat} {R : Nat → Prop} {lv : Nat → Nat}
theorem op_append {a v : Int32} (hs : St c t dn) : Op Ls xs 27 70 [.int a, .int v] 4 c t lf dn := by
  rcases hs with ⟨rfl, ch, R, lv, h⟩ | ⟨rfl, h⟩
  · have hs : St c t 0 := Or.inl ⟨rfl, ch, R, lv, h⟩
    rcases path_cases a with hb | ⟨p, hp, rfl, ho⟩
    · exact Op.err 2 (x := 1) (by decide) (by decide) rfl hs (fun _ _ _ _ => e_app_bad hb) (fun P T cd mk hm he fr => ⟨_, _, _, _, m_appL (m_lofL (m_lackB rfl hb) (by decide)) (by decide)⟩)
    · cases hw : wk c ch p with
      | none =>
        refine Op.err 3 (x := 2) (by decide) (by decide) rfl hs (fun _ _ _ _ => e_app_no hp ho h.rc h.r32 hw) (fun P T cd mk hm he fr => ?_)
        obtain ⟨hm', he', hh⟩ := m_lackN (Ls := Ls) (xs := xs) (P := P) (T := T) (cd := cd) (hm := hm) (he := he) (fr := fr) (mk := mk) (s := (c, t, lf, 0)) rfl h.rc h.r32 hp ho hw
        exact ⟨_, hm', he', fr, m_appL (m_lofL hh (by decide)) (by decide)⟩
      | some q =>
        have hRq : R q := wk_R h.rc h.r32 hw
        by_cases h0 : p = 0
        · subst h0
          rw [wk_0] at hw
          cases hw
          exact Op.err 4 (x := 3) (by decide) (by decide) rfl hs (fun _ _ _ _ => e_app_dir hp ho h.rc h.r32 wk_0 dirP_32) (fun P T cd mk hm he fr => ⟨_, _, _, _, m_appL (m_lof0 rfl) (by decide)⟩)
        · obtain ⟨z, hg, hz1, hz2, hz3, hz4, hz5, hq, -⟩ := wk_par h hp h0 ho hw
          have FKs := fun P T mk => m_FK (Ls := Ls) (xs := xs) (P := P) (T := T) (mk := mk) (s := (c, t, lf, 0)) rfl h.rc h.r32 hp h0 ho hw hq
          rcases b_cases (dirP c q) with hd | hd
          · refine Op.err 4 (x := 3) (by decide) (by decide) rfl hs (fun _ _ _ _ => e_app_dir hp ho h.rc h.r32 hw hd) (fun P T cd mk hm he fr => ?_)
            obtain ⟨z, -, -, -, hF⟩ := FKs P T mk
            exact ⟨_, _, _, fr, m_appL (m_lofD hF hp h0 hq hd) (by decide)⟩
          · obtain ⟨f1, f2, f3, len, f4, f5, f6⟩ := h.fil hRq hd
            have hqz : q ≠ z := by intro e; rw [e, hz3] at hd; cases hd
            have hqq : q ∉ ch q := fun hm => h.2.2.1 q z hRq hz2 hqz q hm hz4
            have hdne : ∀ r, dirP c r = true → r ≠ q := fun r hr e => by rw [e, hd] at hr; cases hr
            by_cases h4 : len % 4 = 0
            · rcases free_cases t 32 with hf | ⟨a, a3, af, am⟩
              · refine Op.err 5 (x := 4) (by decide) (by decide) rfl hs (fun _ _ _ _ => e_app_full hp ho h.rc h.r32 hw hq hd f4 f5 h4 hf) (fun P T cd mk hm he fr => ?_)
                obtain ⟨z, -, -, -, hF⟩ := FKs P T mk
                cases hcq : ch q with
                | nil =>
                  rw [hcq] at f1
                  exact ⟨_, _, _, fr, m_app_full (s := (c, t, lf, 0)) hF hp h0 hq hd f4 f5 h4 f1 m_lastOfN hf⟩
                | cons b l =>
                  rw [hcq] at f1
                  exact ⟨_, _, _, fr, m_app_full (s := (c, t, lf, 0)) hF hp h0 hq hd f4 f5 h4 f1.1 (m_lastOf f1.2.1 f1.2.2) hf⟩
              · have aR : ¬ R a := h.notR a3 af
                have aN := h.notIn af
                have hqa : q ≠ a := fun z => aR (z ▸ hRq)
                have h1 : Inv True (w4 c a v (nI 0) (nI 0) (nI 0)) t ch R lv := h.wfree af
                have h2 : Inv True (w4 c a v (nI 0) (nI 0) (nI 0)) (upd t a (-1)) ch R lv := h1.tfree aN
                have hd2 : dirP (w4 c a v (nI 0) (nI 0) (nI 0)) q = false := by rw [dirP_congr (w4_at hqa (by decide))]; exact hd
                by_cases hl0 : len = 0
                · subst hl0
                  have hcq : ch q = [] := by
                    cases hcq : ch q with
                    | nil => rfl
                    | cons b l => rw [hcq] at f6; simp at f6
                  have hfi : c (4 * q + 2) = -1 := by rw [hcq] at f1; exact f1
                  have hsafe : SafeW I1 J1 [wC a v (nI 0) (nI 0) (nI 0), wT a (-1), wC q (c (4 * q)) (c (4 * q + 1)) (nI a) (nI 1)] c t := by
                    refine ⟨⟨ch, R, lv, h.weak⟩, ⟨ch, R, lv, h1.weak⟩, ⟨ch, R, lv, h2.weak⟩, ?_⟩
                    show J1 (w4 (w4 c a v (nI 0) (nI 0) (nI 0)) q (c (4 * q)) (c (4 * q + 1)) (nI a) (nI 1)) (upd t a (-1))
                    refine J1.of <| h2.file (u' := True) (q := q) (len := 1) (L := [a]) (fun r hr _ hrd _ => h2.2.2.2.2 r hr hrd) hRq hd2 (fun r i hi hn => ?_) ?_ w4_i3 (by simp) (by omega) (fun _ => rfl) nodup_one (fun r hr _ x hx => ?_) (fun _ _ _ _ _ => rfl)
                    · by_cases e : r = q
                      · subst e
                        by_cases e0 : i = 0
                        · subst e0
                          show w4 _ r _ _ _ _ (4 * r) = w4 _ a _ _ _ _ (4 * r + 0)
                          rw [w4_0, w4_at hqa (by decide), Nat.add_zero]
                        · have e1 : i = 1 := by omega
                          subst e1
                          rw [w4_1, w4_at hqa (by decide)]
                      · rw [w4_at e hi]
                    · rw [w4_i2]; exact ⟨rfl, a3, pk_us⟩
                    · have : x = a := by simpa using hx
                      rw [this]; exact aN r hr
                  refine Op.wr (v := nI (0 + 1)) hsafe (fun _ _ _ _ => e_app_new0 hp ho h.rc h.r32 hw hq hd f4 a3 af am hqa) (fun P T cd mk hm he fr => ?_)
                  obtain ⟨z, -, -, -, hF⟩ := FKs P T mk
                  exact ⟨_, _, fr, m_app_new0 (s := (c, t, lf, 0)) hF hp h0 hq hd f4 hfi a3 af am hqa⟩
                · cases hcq : ch q with
                  | nil => rw [hcq] at f6; simp only [List.length_nil] at f6; omega
                  | cons b l =>
                    have hal : a ∉ b :: l := by rw [← hcq]; exact aN q hRq
                    have hlm : lastI b l ∈ ch q := by rw [hcq]; exact lastI_mem l b
                    have hla : lastI b l < 32 := h.lt hRq hlm
                    have hna : lastI b l ≠ a := fun z => aN q hRq (z ▸ hlm)
                    have f1' := f1
                    rw [hcq] at f1'
                    have hll : l.length ≤ 32 := by rw [hcq] at f3; simp only [List.length_cons] at f3; omega
                    have hlen : (ch q ++ [a]).length = (ch q).length + 1 := by simp
                    have hcc : Chain (upd (upd t a (-1)) (lastI b l) (nI a)) (nI b) (ch q ++ [a]) := by
                      rw [hcq]
                      refine Chain_snoc a3 ?_ l b _ (show Chain t (nI b) (b :: l) from ⟨rfl, f1'.2⟩) (hcq ▸ f2) pk_us (fun y hy hyl => ?_)
                      · rw [pk_un (Ne.symm hna), pk_us]
                      · rw [pk_un hyl, pk_un (show y ≠ a from fun z => hal (z ▸ hy))]
                    have hdis : ∀ r, R r → r ≠ q → ∀ x ∈ ch q ++ [a], x ∉ ch r := by
                      intro r hr hrq x hx hx2
                      rcases List.mem_append.mp hx with hx | hx
                      · exact h.2.2.1 q r hRq hr (Ne.symm hrq) x hx hx2
                      · have : x = a := by simpa using hx
                        exact aN r hr (this ▸ hx2)
                    have htt : ∀ r, R r → r ≠ q → ∀ x ∈ ch r, upd (upd t a (-1)) (lastI b l) (nI a) x = upd t a (-1) x := by
                      intro r hr hrq x hx
                      exact pk_un (fun z => h.2.2.1 r q hr hRq hrq x hx (z ▸ hlm))
                    have hsafe : SafeW I1 J1 [wC a v (nI 0) (nI 0) (nI 0), wT a (-1), wT (lastI b l) (nI a), wC q (c (4 * q)) (c (4 * q + 1)) (nI b) (nI (len + 1))] c t := by
                      refine ⟨⟨ch, R, lv, h.weak⟩, ⟨ch, R, lv, h1.weak⟩, ⟨ch, R, lv, h2.weak⟩, ?_, ?_⟩
                      · show I1 (w4 c a v (nI 0) (nI 0) (nI 0)) (upd (upd t a (-1)) (lastI b l) (nI a))
                        refine I1.of <| h2.file (u' := False) (q := q) (len := len) (L := ch q ++ [a]) (fun r hr _ hrd z => z.elim) hRq hd2 (fun r i hi hn => rfl) ?_ ?_ (by omega) (fun z => absurd z hl0) (fun z => z.elim) (nodup_snoc f2 (aN q hRq)) hdis htt
                        · rw [w4_at hqa (by decide), f1'.1]; exact hcc
                        · rw [w4_at hqa (by decide)]; exact f4
                      · show J1 (w4 (w4 c a v (nI 0) (nI 0) (nI 0)) q (c (4 * q)) (c (4 * q + 1)) (nI b) (nI (len + 1))) (upd (upd t a (-1)) (lastI b l) (nI a))
                        refine J1.of <| h2.file (u' := True) (q := q) (len := len + 1) (L := ch q ++ [a]) (fun r hr _ hrd _ => h2.2.2.2.2 r hr hrd) hRq hd2 (fun r i hi hn => ?_) ?_ w4_i3 (by omega) (by omega) (fun _ => by omega) (nodup_snoc f2 (aN q hRq)) hdis htt
                        · by_cases e : r = q
                          · subst e
                            by_cases e0 : i = 0
                            · subst e0
                              show w4 _ r _ _ _ _ (4 * r) = w4 _ a _ _ _ _ (4 * r + 0)
                              rw [w4_0, w4_at hqa (by decide), Nat.add_zero]
                            · have e1 : i = 1 := by omega
                              subst e1
                              rw [w4_1, w4_at hqa (by decide)]
                          · rw [w4_at e hi]
                        · rw [w4_i2]; exact hcc
                    refine Op.wr (v := nI (len + 1)) hsafe (fun _ _ _ _ => e_app_new1 hp ho h.rc h.r32 hw hq hd f4 f5 h4 hl0 a3 af am hqa f1'.1 f1'.2.1 f1'.2.2 hll hla hal) (fun P T cd mk hm he fr => ?_)
                    obtain ⟨z, -, -, -, hF⟩ := FKs P T mk
                    exact ⟨_, _, fr, m_app_new1 (s := (c, t, lf, 0)) hF hp h0 hq hd f4 f5 h4 hl0 f1'.1 f1'.2.1 f1'.2.2 hla a3 af am hqa⟩
            · cases hcq : ch q with
              | nil => rw [hcq] at f6; simp only [List.length_nil] at f6; omega
              | cons b l =>
                have hlm : lastI b l ∈ ch q := by rw [hcq]; exact lastI_mem l b
                have hla : lastI b l < 32 := h.lt hRq hlm
                have hql : q ≠ lastI b l := fun z => hqq (by rw [z] at hqq ⊢; exact absurd (z ▸ hlm) hqq)
                have f1' := f1
                rw [hcq] at f1'
                have hll : l.length ≤ 32 := by rw [hcq] at f3; simp only [List.length_cons] at f3; omega
                have h1 : Inv True (upd c (4 * lastI b l + len % 4) v) t ch R lv := by
                  refine h.frame (fun _ _ _ _ => rfl) (fun r hr hrd x hx i hi => pk_un (fun z => ?_))
                  have : x = lastI b l := by omega
                  exact h.2.2.1 r q hr hRq (hdne r hrd) x hx (this ▸ hlm)
                have hd2 : dirP (upd c (4 * lastI b l + len % 4) v) q = false := by rw [dirP_congr (pk_un (by omega))]; exact hd
                have hsafe : SafeW I1 J1 [wK (lastI b l) (len % 4) v, wK q 3 (nI (len + 1))] c t := by
                  refine ⟨⟨ch, R, lv, h.weak⟩, ⟨ch, R, lv, h1.weak⟩, ?_⟩
                  show J1 (upd (upd c (4 * lastI b l + len % 4) v) (4 * q + 3) (nI (len + 1))) t
                  refine J1.of <| h1.file (u' := True) (q := q) (len := len + 1) (L := ch q) (fun r hr _ hrd _ => h1.2.2.2.2 r hr hrd) hRq hd2 (fun r i hi hn => pk_un (by omega)) ?_ pk_us (by omega) (by omega) (fun _ => by omega) f2 (fun r hr hrq x hx hx2 => h.2.2.1 q r hRq hr (Ne.symm hrq) x hx hx2) (fun _ _ _ _ _ => rfl)
                  rw [pk_un (by omega), pk_un (by omega)]; exact f1
                refine Op.wr (v := nI (len + 1)) hsafe (fun _ _ _ _ => e_app_in hp ho h.rc h.r32 hw hq hd f4 f5 h4 f1'.1 f1'.2.1 f1'.2.2 hll hla) (fun P T cd mk hm he fr => ?_)
                obtain ⟨z, -, -, -, hF⟩ := FKs P T mk
                exact ⟨_, _, fr, m_app_in (s := (c, t, lf, 0)) hF hp h0 hq hd f4 f5 h4 f1'.1 f1'.2.1 f1'.2.2 hla hql⟩
  · exact Op.err 1 (x := 0) (by decide) (by decide) rfl (Or.inr ⟨rfl, h⟩) (fun _ _ _ _ => e_app_down) (fun P T cd mk hm he fr => ⟨_, _, _, _, m_appL (m_lofL (m_lackD (show ¬ (1 : Int32) = 0 by decide)) (by decide)) (by decide)⟩)
theorem w4_ext {c : Nat → Int32} {q : Nat} {x y : Int32} {r i : Nat} (hi : i < 4) (hn : ¬ (r = q ∧ 2 ≤ i)) : w4 c q (c (4 * q)) (c (4 * q + 1)) x y (4 * r + i) = c (4 * r + i) := by
  by_cases e : r = q
  · subst e
    by_cases e0 : i = 0
    · subst e0
      show w4 _ r _ _ _ _ (4 * r) = _
      rw [w4_0, Nat.add_zero]
    · have e1 : i = 1 := by omega
      subst e1
      rw [w4_1]
  · rw [w4_at e hi]
theorem getD_drop {l : List Nat} {k b : Nat} {l2 : List Nat} (h : l.drop k = b :: l2) : l.getD k 0 = b := by
  induction l generalizing k with
  | nil => simp at h
  | cons a l ih =>
    cases k with
    | zero => simp at h; exact h.1
    | succ k => exact ih (by simpa using h)
theorem op_shorten {a v : Int32} (hs : St c t dn) : Op Ls xs 34 76 [.int a, .int v] 5 c t lf dn := by
  rcases hs with ⟨rfl, ch, R, lv, h⟩ | ⟨rfl, h⟩
  · have hs : St c t 0 := Or.inl ⟨rfl, ch, R, lv, h⟩
    rcases path_cases a with hb | ⟨p, hp, rfl, ho⟩
    · exact Op.err 2 (x := 1) (by decide) (by decide) rfl hs (fun _ _ _ _ => e_sho_bad hb) (fun P T cd mk hm he fr => ⟨_, _, _, _, m_shoL (m_lofL (m_lackB rfl hb) (by decide)) (by decide)⟩)
    · cases hw : wk c ch p with
      | none =>
        refine Op.err 3 (x := 2) (by decide) (by decide) rfl hs (fun _ _ _ _ => e_sho_no hp ho h.rc h.r32 hw) (fun P T cd mk hm he fr => ?_)
        obtain ⟨hm', he', hh⟩ := m_lackN (Ls := Ls) (xs := xs) (P := P) (T := T) (cd := cd) (hm := hm) (he := he) (fr := fr) (mk := mk) (s := (c, t, lf, 0)) rfl h.rc h.r32 hp ho hw
        exact ⟨_, hm', he', fr, m_shoL (m_lofL hh (by decide)) (by decide)⟩
      | some q =>
        have hRq : R q := wk_R h.rc h.r32 hw
        by_cases h0 : p = 0
        · subst h0
          rw [wk_0] at hw
          cases hw
          exact Op.err 4 (x := 3) (by decide) (by decide) rfl hs (fun _ _ _ _ => e_sho_dir hp ho h.rc h.r32 wk_0 dirP_32) (fun P T cd mk hm he fr => ⟨_, _, _, _, m_shoL (m_lof0 rfl) (by decide)⟩)
        · obtain ⟨z, hg, hz1, hz2, hz3, hz4, hz5, hq, -⟩ := wk_par h hp h0 ho hw
          have FKs := fun P T mk => m_FK (Ls := Ls) (xs := xs) (P := P) (T := T) (mk := mk) (s := (c, t, lf, 0)) rfl h.rc h.r32 hp h0 ho hw hq
          rcases b_cases (dirP c q) with hd | hd
          · refine Op.err 4 (x := 3) (by decide) (by decide) rfl hs (fun _ _ _ _ => e_sho_dir hp ho h.rc h.r32 hw hd) (fun P T cd mk hm he fr => ?_)
            obtain ⟨z, -, -, -, hF⟩ := FKs P T mk
            exact ⟨_, _, _, fr, m_shoL (m_lofD hF hp h0 hq hd) (by decide)⟩
          · obtain ⟨f1, f2, f3, len, f4, f5, f6⟩ := h.fil hRq hd
            have bad : (v < 0 ∨ nI len < v) → Op Ls xs 34 76 [.int (nI p), .int v] 5 c t lf 0 := by
              intro hi
              refine Op.err 5 (x := 5) (by decide) (by decide) rfl hs (fun _ _ _ _ => e_sho_ix hp ho h.rc h.r32 hw hq hd f4 hi) (fun P T cd mk hm he fr => ?_)
              obtain ⟨z, -, -, -, hF⟩ := FKs P T mk
              exact ⟨_, _, _, fr, m_sho_ix (s := (c, t, lf, 0)) hF hp h0 hq hd f4 hi⟩
            have dis : ∀ r, R r → r ≠ q → ∀ x ∈ ch q, x ∉ ch r := fun r hr hrq x hx hx2 => h.2.2.1 q r hRq hr (Ne.symm hrq) x hx hx2
            rcases pk_ix v (n := len + 1) (by omega) with hi | hi | ⟨m, hm, rfl⟩
            · exact bad (Or.inl hi)
            · exact bad (Or.inr (Int32.lt_of_lt_of_le (nI_lt (by omega) (by omega)) hi))
            · by_cases hml : m = len
              · subst hml
                refine Op.val (v := nI 0) hs (fun _ _ _ _ => e_sho_same hp ho h.rc h.r32 hw hq hd f4 f5) (fun P T cd mk hm he fr => ?_)
                obtain ⟨z, -, -, -, hF⟩ := FKs P T mk
                exact ⟨_, _, fr, m_sho_same (s := (c, t, lf, 0)) hF hp h0 hq hd f4 f5⟩
              · have hml : m < len := by omega
                by_cases hm0 : m = 0
                · subst hm0
                  have hsafe : SafeW I1 J1 (wC q (c (4 * q)) (c (4 * q + 1)) (-1) (nI 0) :: wF (ch q)) c t := by
                    refine ⟨⟨ch, R, lv, h.weak⟩, ?_⟩
                    have h2 : Inv True (w4 c q (c (4 * q)) (c (4 * q + 1)) (-1) (nI 0)) t (fun x => if x = q then [] else ch x) R lv := by
                      refine h.file (u' := True) (q := q) (len := 0) (L := []) (fun r hr _ hrd _ => h.2.2.2.2 r hr hrd) hRq hd (fun r i hi hn => w4_ext hi hn) ?_ w4_i3 (by omega) (fun _ => rfl) (fun _ => rfl) List.nodup_nil (fun r hr _ x hx => by cases hx) (fun _ _ _ _ _ => rfl)
                      rw [w4_i2]; rfl
                    refine safe_free (ch q) t h2 (fun b hb r hr hm => ?_)
                    have hm : b ∈ (if r = q then [] else ch r) := hm
                    by_cases e : r = q
                    · rw [if_pos e] at hm; cases hm
                    · rw [if_neg e] at hm; exact dis r hr e b hb hm
                  refine Op.wr (v := nI (ch q).length) hsafe (fun _ _ _ _ => e_sho_all hp ho h.rc h.r32 hw hq hd f4 f5 (by omega) f1 f2 f3) (fun P T cd mk hm he fr => ?_)
                  obtain ⟨z, -, -, -, hF⟩ := FKs P T mk
                  exact ⟨_, _, _, m_sho_all (s := (c, t, lf, 0)) hF hp h0 hq hd f4 f5 (by omega) f1 f2 (by omega)⟩
                · have hj : (m - 1) / 4 < (ch q).length := by omega
                  have hjm := getD_mem hj
                  have hj3 : (ch q).getD ((m - 1) / 4) 0 < 32 := h.lt hRq hjm
                  obtain ⟨k1, k2⟩ := Chain_cut ((m - 1) / 4) (ch q) _ f1 hj f2
                  cases hdr : (ch q).drop ((m - 1) / 4 + 1) with
                  | nil =>
                    have e1 : (ch q).length ≤ (m - 1) / 4 + 1 := List.drop_eq_nil_iff.mp hdr
                    have hk : (m + 3) / 4 = (len + 3) / 4 := by omega
                    rw [hdr] at k2
                    have hsafe : SafeW I1 J1 [wC q (c (4 * q)) (c (4 * q + 1)) (c (4 * q + 2)) (nI m)] c t := by
                      refine ⟨⟨ch, R, lv, h.weak⟩, ?_⟩
                      refine J1.of <| h.file (c' := w4 c q (c (4 * q)) (c (4 * q + 1)) (c (4 * q + 2)) (nI m)) (t' := t) (u' := True) (q := q) (len := m) (L := ch q) (fun r hr _ hrd _ => h.2.2.2.2 r hr hrd) hRq hd (fun r i hi hn => w4_ext hi hn) ?_ w4_i3 (by omega) (by omega) (fun _ => by omega) f2 dis (fun _ _ _ _ _ => rfl)
                      rw [w4_i2]; exact f1
                    refine Op.wr (v := nI 0) hsafe (fun _ _ _ _ => e_sho_in hp ho h.rc h.r32 hw hq hd f4 f5 (by omega) hml f1 hj hj3 k2) (fun P T cd mk hm he fr => ?_)
                    obtain ⟨z, -, -, -, hF⟩ := FKs P T mk
                    exact ⟨_, _, _, m_sho_in (s := (c, t, lf, 0)) hF hp h0 hq hd f4 f5 (by omega) hml f1 hk f6.symm⟩
                  | cons b l2 =>
                    rw [hdr] at k2
                    have hlen2 : (ch q).length = (m - 1) / 4 + 1 + (l2.length + 1) := by
                      have e1 := congrArg List.length hdr
                      simp only [List.length_drop, List.length_cons] at e1
                      omega
                    have hap : (ch q).take ((m - 1) / 4 + 1) ++ b :: l2 = ch q := by rw [← hdr]; exact List.take_append_drop _ _
                    have hsub : ∀ x ∈ b :: l2, x ∈ ch q := fun x hx => by rw [← hap]; exact List.mem_append.mpr (Or.inr hx)
                    have hsub1 : ∀ x ∈ (ch q).take ((m - 1) / 4 + 1), x ∈ ch q := fun x hx => List.mem_of_mem_take hx
                    have hnd : ((ch q).take ((m - 1) / 4 + 1) ++ b :: l2).Nodup := by rw [hap]; exact f2
                    obtain ⟨nd1, nd2, nd3⟩ := List.nodup_append.mp hnd
                    have hjt : (ch q).getD ((m - 1) / 4) 0 ∈ (ch q).take ((m - 1) / 4 + 1) := by
                      have e1 : ((ch q).take ((m - 1) / 4 + 1)).getD ((m - 1) / 4) 0 = (ch q).getD ((m - 1) / 4) 0 := by
                        rw [List.getD_eq_getElem?_getD, List.getD_eq_getElem?_getD, List.getElem?_take_of_lt (by omega)]
                      rw [← e1]
                      exact getD_mem (by rw [List.length_take]; omega)
                    have hal : (ch q).getD ((m - 1) / 4) 0 ∉ b :: l2 := fun hx => nd3 _ hjt _ hx rfl
                    have hkl : (m + 3) / 4 < (len + 3) / 4 := by omega
                    have hbk : (ch q).getD ((m + 3) / 4) 0 = b := by
                      rw [show (m + 3) / 4 = (m - 1) / 4 + 1 by omega]
                      exact getD_drop hdr
                    have hlt : ((ch q).take ((m - 1) / 4 + 1)).length = (m - 1) / 4 + 1 := by rw [List.length_take]; omega
                    have hsafe : SafeW I1 J1 (wC q (c (4 * q)) (c (4 * q + 1)) (c (4 * q + 2)) (nI m) :: wT ((ch q).getD ((m - 1) / 4) 0) (-1) :: wF (b :: l2)) c t := by
                      refine ⟨⟨ch, R, lv, h.weak⟩, ?_, ?_⟩
                      · refine I1.of <| h.file (c' := w4 c q (c (4 * q)) (c (4 * q + 1)) (c (4 * q + 2)) (nI m)) (t' := t) (u' := False) (q := q) (len := m) (L := ch q) (fun r hr _ hrd z => z.elim) hRq hd (fun r i hi hn => w4_ext hi hn) ?_ w4_i3 (by omega) (by omega) (fun z => z.elim) f2 dis (fun _ _ _ _ _ => rfl)
                        rw [w4_i2]; exact f1
                      · have h2 : Inv True (w4 c q (c (4 * q)) (c (4 * q + 1)) (c (4 * q + 2)) (nI m)) (upd t ((ch q).getD ((m - 1) / 4) 0) (-1)) (fun x => if x = q then (ch q).take ((m - 1) / 4 + 1) else ch x) R lv := by
                          refine h.file (u' := True) (q := q) (len := m) (L := (ch q).take ((m - 1) / 4 + 1)) (fun r hr _ hrd _ => h.2.2.2.2 r hr hrd) hRq hd (fun r i hi hn => w4_ext hi hn) ?_ w4_i3 (by omega) (by omega) (fun _ => by omega) nd1 (fun r hr hrq x hx => dis r hr hrq x (hsub1 x hx)) (fun r hr hrq x hx => pk_un (fun z => dis r hr hrq _ hjm (z ▸ hx)))
                          rw [w4_i2]; exact k1
                        refine safe_free (b :: l2) _ h2 (fun y hy r hr hm => ?_)
                        have hm : y ∈ (if r = q then (ch q).take ((m - 1) / 4 + 1) else ch r) := hm
                        by_cases e : r = q
                        · rw [if_pos e] at hm; exact nd3 y hm y hy rfl
                        · rw [if_neg e] at hm; exact dis r hr e y (hsub y hy) hm
                    refine Op.wr (v := nI (l2.length + 1)) hsafe (fun _ _ _ _ => e_sho_cut hp ho h.rc h.r32 hw hq hd f4 f5 (by omega) hml f1 hj hj3 k2.1 k2.2.1 k2.2.2 nd2 hal (by omega)) (fun P T cd mk hm he fr => ?_)
                    obtain ⟨z, -, -, -, hF⟩ := FKs P T mk
                    exact ⟨_, _, _, m_sho_cut (s := (c, t, lf, 0)) hF hp h0 hq hd f4 f5 (by omega) hml f1 hkl f6.symm hbk k2.2.1 k2.2.2 nd2 hal⟩
  · exact Op.err 1 (x := 0) (by decide) (by decide) rfl (Or.inr ⟨rfl, h⟩) (fun _ _ _ _ => e_sho_down) (fun P T cd mk hm he fr => ⟨_, _, _, _, m_shoL (m_lofL (m_lackD (show ¬ (1 : Int32) = 0 by decide)) (by decide)) (by decide)⟩)
end OU
