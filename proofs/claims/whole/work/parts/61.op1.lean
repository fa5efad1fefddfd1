/-! reads on both sides -/
theorem gH_some {c : Nat → Int32} {ch : Nat → List Nat} {p z : Nat} (hp : p < 65536) (ho : okP p = true) (h : gH c ch p = some z) : wk c ch (p / 16) = some z ∧ dirP c z = true := by
  rw [gH_eq hp ho] at h
  obtain ⟨y, h1, h2⟩ := Option.bind_eq_some_iff.mp h
  split at h2
  · rename_i hd
    cases h2
    exact ⟨h1, hd⟩
  · cases h2
theorem gH_none {c : Nat → Int32} {ch : Nat → List Nat} {p : Nat} (hp : p < 65536) (ho : okP p = true) (h : gH c ch p = none) : wk c ch (p / 16) = none ∨ ∃ z, wk c ch (p / 16) = some z ∧ dirP c z = false := by
  rw [gH_eq hp ho] at h
  cases hw : wk c ch (p / 16) with
  | none => exact Or.inl rfl
  | some z =>
    refine Or.inr ⟨z, rfl, ?_⟩
    rw [hw, Option.bind_some] at h
    rcases b_cases (dirP c z) with hd | hd
    · rw [if_pos hd] at h; cases h
    · exact hd
theorem gH_of {c : Nat → Int32} {ch : Nat → List Nat} {p z : Nat} (hp : p < 65536) (ho : okP p = true) (hw : wk c ch (p / 16) = some z) (hd : dirP c z = true) : gH c ch p = some z := by
  rw [gH_eq hp ho, hw, Option.bind_some, if_pos hd]
section OR
variable {Ls : Nat} {xs : Nat → Int32} {c t : Nat → Int32} {lf dn : Int32} {u : Prop} {ch : Nat → List Nat} {R : Nat → Prop} {lv : Nat → Nat}
theorem wk_par (h : Inv u c t ch R lv) {p q : Nat} (hp : p < 65536) (h0 : ¬ p = 0) (ho : okP p = true) (hw : wk c ch p = some q) :
    ∃ z, gH c ch p = some z ∧ wk c ch (p / 16) = some z ∧ R z ∧ dirP c z = true ∧ q ∈ ch z ∧ c (4 * q) = nI (p % 16) ∧ q < 32 ∧ R q := by
  have hl := ok_low hp ho h0
  rw [wk_low hp ho h0] at hw
  obtain ⟨z, hg, hk⟩ := Option.bind_eq_some_iff.mp hw
  obtain ⟨h1, h2⟩ := gH_some hp ho hg
  have hz := wk_R h.rc h.r32 h1
  obtain ⟨k1, k2⟩ := lkO_some hk
  obtain ⟨k3, k4⟩ := ((h.rc z hz).2 h2).2.2 q k1 (by rw [k2]; intro e; exact hl ((nI_eq (by omega) (by decide)).mp e))
  exact ⟨z, hg, h1, hz, h2, k1, k2, k4, k3⟩
theorem op_free (hs : St c t dn) : Op Ls xs 38 79 [] 0 c t lf dn := by
  rcases hs with ⟨rfl, h⟩ | ⟨rfl, h⟩
  · refine Op.val (v := nI (cntF t 32)) (Or.inl ⟨rfl, h⟩) (fun _ _ _ _ => e_fre) (fun P T cd mk hm he fr => ⟨hm, he, fr, ?_⟩)
    have := m_fre (Ls := Ls) (xs := xs) (P := P) (T := T) (cd := cd) (mk := mk) (hm := hm) (he := he) (fr := fr) (s := (c, t, lf, 0))
    exact this
  · refine Op.err 1 (x := 0) (by decide) (by decide) rfl (Or.inr ⟨rfl, h⟩) (fun _ _ _ _ => e_fre_down) (fun P T cd mk hm he fr => ⟨nI 0, hm, he, fr, ?_⟩)
    have := m_fre (Ls := Ls) (xs := xs) (P := P) (T := T) (cd := cd) (mk := mk) (hm := hm) (he := he) (fr := fr) (s := (c, t, lf, 1))
    exact this
theorem op_names {a : Int32} (hs : St c t dn) : Op Ls xs 37 78 [.int a] 0 c t lf dn := by
  rcases hs with ⟨rfl, ch, R, lv, h⟩ | ⟨rfl, h⟩
  · have hs : St c t 0 := Or.inl ⟨rfl, ch, R, lv, h⟩
    rcases path_cases a with hb | ⟨p, hp, rfl, ho⟩
    · exact Op.err 2 (x := 1) (by decide) (by decide) rfl hs (fun _ _ _ _ => e_nam_bad hb) (fun P T cd mk hm he fr => ⟨_, _, _, _, m_namL (m_lackB rfl hb) (by decide)⟩)
    · cases hw : wk c ch p with
      | none =>
        refine Op.err 3 (x := 2) (by decide) (by decide) rfl hs (fun _ _ _ _ => e_nam_no hp ho h.rc h.r32 hw) (fun P T cd mk hm he fr => ?_)
        obtain ⟨hm', he', hh⟩ := m_lackN (Ls := Ls) (xs := xs) (P := P) (T := T) (cd := cd) (hm := hm) (he := he) (fr := fr) (mk := mk) (s := (c, t, lf, 0)) rfl h.rc h.r32 hp ho hw
        exact ⟨_, hm', he', fr, m_namL hh (by decide)⟩
      | some q =>
        have hRq : R q := wk_R h.rc h.r32 hw
        by_cases h0 : p = 0
        · subst h0
          rw [wk_0] at hw
          cases hw
          obtain ⟨m, -, m1, m2, -⟩ := names_all (okN_of h h.r32 dirP_32)
          refine Op.val (v := nI m) hs (fun re en n M => ?_) (fun P T cd mk hm he fr => ⟨hm, he, fr, ?_⟩)
          · rw [← m1]; exact e_nam hp ho h.rc h.r32 wk_0 dirP_32
          · rw [← m2]; exact m_nam_root (s := (c, t, lf, 0)) rfl (h.chain h.r32)
        · obtain ⟨z, hg, hz1, hz2, hz3, hz4, hz5, hq, -⟩ := wk_par h hp h0 ho hw
          rcases b_cases (dirP c q) with hd | hd
          · obtain ⟨m, -, m1, m2, -⟩ := names_all (okN_of h hRq hd)
            refine Op.val (v := nI m) hs (fun re en n M => ?_) (fun P T cd mk hm he fr => ?_)
            · rw [← m1]; exact e_nam hp ho h.rc h.r32 hw hd
            · obtain ⟨z, -, -, -, hF⟩ := m_FK (Ls := Ls) (xs := xs) (P := P) (T := T) (mk := mk) (s := (c, t, lf, 0)) rfl h.rc h.r32 hp h0 ho hw hq
              refine ⟨fsP c z, hE z, fr, ?_⟩
              rw [← m2]
              have hc := h.chain hRq
              rw [fsP_lt hq] at hc
              exact m_nam_dir hF hp h0 hq hd hc
          · refine Op.err 4 (x := 3) (by decide) (by decide) rfl hs (fun _ _ _ _ => e_nam_file hp ho h.rc h.r32 hw hd) (fun P T cd mk hm he fr => ?_)
            obtain ⟨z, -, -, -, hF⟩ := m_FK (Ls := Ls) (xs := xs) (P := P) (T := T) (mk := mk) (s := (c, t, lf, 0)) rfl h.rc h.r32 hp h0 ho hw hq
            exact ⟨_, _, _, fr, m_nam_file hF hp h0 hq hd⟩
  · exact Op.err 1 (x := 0) (by decide) (by decide) rfl (Or.inr ⟨rfl, h⟩) (fun _ _ _ _ => e_nam_down) (fun P T cd mk hm he fr => ⟨_, _, _, _, m_namL (m_lackD (show ¬ (1 : Int32) = 0 by decide)) (by decide)⟩)
theorem op_length {a : Int32} (hs : St c t dn) : Op Ls xs 36 77 [.int a] 0 c t lf dn := by
  rcases hs with ⟨rfl, ch, R, lv, h⟩ | ⟨rfl, h⟩
  · have hs : St c t 0 := Or.inl ⟨rfl, ch, R, lv, h⟩
    rcases path_cases a with hb | ⟨p, hp, rfl, ho⟩
    · exact Op.err 2 (x := 1) (by decide) (by decide) rfl hs (fun _ _ _ _ => e_lgt_bad hb) (fun P T cd mk hm he fr => ⟨_, _, _, _, m_lgtL (m_lackB rfl hb) (by decide)⟩)
    · cases hw : wk c ch p with
      | none =>
        refine Op.err 3 (x := 2) (by decide) (by decide) rfl hs (fun _ _ _ _ => e_lgt_no hp ho h.rc h.r32 hw) (fun P T cd mk hm he fr => ?_)
        obtain ⟨hm', he', hh⟩ := m_lackN (Ls := Ls) (xs := xs) (P := P) (T := T) (cd := cd) (hm := hm) (he := he) (fr := fr) (mk := mk) (s := (c, t, lf, 0)) rfl h.rc h.r32 hp ho hw
        exact ⟨_, hm', he', fr, m_lgtL hh (by decide)⟩
      | some q =>
        have hRq : R q := wk_R h.rc h.r32 hw
        by_cases h0 : p = 0
        · subst h0
          rw [wk_0] at hw
          cases hw
          obtain ⟨m, m0, m1, m2, m3⟩ := names_all (okN_of h h.r32 dirP_32)
          refine Op.val (v := -1 - nI (popc 16 m)) hs (fun re en n M => ?_) (fun P T cd mk hm he fr => ⟨hm, he, fr, ?_⟩)
          · exact e_lgt_dir hp ho h.rc h.r32 wk_0 dirP_32 (by rw [m1]; exact e_bc m0)
          · rw [m3]; exact m_lgt_root (s := (c, t, lf, 0)) rfl (h.chain h.r32)
        · obtain ⟨z, hg, hz1, hz2, hz3, hz4, hz5, hq, -⟩ := wk_par h hp h0 ho hw
          rcases b_cases (dirP c q) with hd | hd
          · obtain ⟨m, m0, m1, m2, m3⟩ := names_all (okN_of h hRq hd)
            refine Op.val (v := -1 - nI (popc 16 m)) hs (fun re en n M => ?_) (fun P T cd mk hm he fr => ?_)
            · exact e_lgt_dir hp ho h.rc h.r32 hw hd (by rw [m1]; exact e_bc m0)
            · obtain ⟨z, -, -, -, hF⟩ := m_FK (Ls := Ls) (xs := xs) (P := P) (T := T) (mk := mk) (s := (c, t, lf, 0)) rfl h.rc h.r32 hp h0 ho hw hq
              refine ⟨fsP c z, hE z, fr, ?_⟩
              rw [m3]
              have hc := h.chain hRq
              rw [fsP_lt hq] at hc
              exact m_lgt_dir hF hp h0 hq hd hc
          · refine Op.val (v := c (4 * q + 3)) hs (fun _ _ _ _ => e_lgt_file hp ho h.rc h.r32 hw hq hd) (fun P T cd mk hm he fr => ?_)
            obtain ⟨z, -, -, -, hF⟩ := m_FK (Ls := Ls) (xs := xs) (P := P) (T := T) (mk := mk) (s := (c, t, lf, 0)) rfl h.rc h.r32 hp h0 ho hw hq
            exact ⟨_, _, fr, m_lgt_file hF hp h0 hq hd⟩
  · exact Op.err 1 (x := 0) (by decide) (by decide) rfl (Or.inr ⟨rfl, h⟩) (fun _ _ _ _ => e_lgt_down) (fun P T cd mk hm he fr => ⟨_, _, _, _, m_lgtL (m_lackD (show ¬ (1 : Int32) = 0 by decide)) (by decide)⟩)
end OR
