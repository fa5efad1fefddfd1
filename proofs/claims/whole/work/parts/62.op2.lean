/-! get, put, rename, remove on both sides -/
theorem ix_bad {i : Int32} {len : Nat} (hl : len ≤ 128) (hi : i < 0 ∨ nI len ≤ i) : ¬ (nI 0 ≤ i ∧ i ≤ nI len - nI 1) := by
  rintro ⟨h1, h2⟩
  rcases hi with hi | hi
  · exact Int32.not_lt.mpr h1 hi
  · have h3 : nI len ≤ nI len - nI 1 := Int32.le_trans hi h2
    cases len with
    | zero => exact absurd h3 (by decide)
    | succ m =>
      rw [pk_sub (by omega)] at h3
      exact Int32.not_le.mpr (nI_lt (show m + 1 - 1 < m + 1 by omega) (by omega)) h3
theorem ix_good {i len : Nat} (hl : len ≤ 128) (hi : i < len) : nI 0 ≤ nI i ∧ nI i ≤ nI len - nI 1 := by
  refine ⟨nI_pos' (by omega), ?_⟩
  rw [pk_sub (by omega)]
  exact nI_le (by omega) (by omega)
theorem lkO_none {c : Nat → Int32} {d : Nat} {l : List Nat} (h : lkO c d l = none) : ∀ x ∈ l, ¬ c (4 * x) = nI d := by
  intro x hx hc
  unfold lkO at h
  rw [List.find?_eq_none] at h
  exact h x hx (by simpa using hc)
theorem cntN_ge {c : Nat → Int32} : ∀ (l : List Nat) (k : Nat), k ≤ cntN c k l := by
  intro l
  induction l with
  | nil => intro k; exact Nat.le_refl _
  | cons a l ih =>
    intro k
    rw [cntN]
    split
    · exact ih k
    · exact Nat.le_trans (by omega) (ih (k + 1))
theorem cntN_zero {c : Nat → Int32} : ∀ (l : List Nat), cntN c 0 l = 0 → ∀ a ∈ l, c (4 * a) ≤ 0 := by
  intro l
  induction l with
  | nil => intro _ a ha; cases ha
  | cons b l ih =>
    intro h a ha
    rw [cntN] at h
    split at h
    · rename_i hb
      rcases List.mem_cons.mp ha with rfl | ha
      · exact hb
      · exact ih h a ha
    · have := cntN_ge (c := c) l (0 + 1)
      omega
section OS
variable {Ls : Nat} {xs : Nat → Int32} {c t : Nat → Int32} {lf dn : Int32} {u : Prop} {ch : Nat → List Nat} {R : Nat → Prop} {lv : Nat → Nat}
/-- a file: its chain, its length -/
theorem Inv.fil (h : Inv True c t ch R lv) {q : Nat} (hq : R q) (hd : dirP c q = false) : Chain t (c (4 * q + 2)) (ch q) ∧ (ch q).Nodup ∧ (ch q).length ≤ 32 ∧ ∃ len, c (4 * q + 3) = nI len ∧ len ≤ 128 ∧ (ch q).length = (len + 3) / 4 := by
  obtain ⟨h1, len, h2, h3, h4, h5⟩ := h.2.2.2.2 q hq hd
  have := h.len hq
  exact ⟨h1, (h.2.1 q hq).2.1, this, len, h2, by omega, h5 trivial⟩
theorem op_get {a i : Int32} (hs : St c t dn) : Op Ls xs 31 72 [.int a, .int i] 5 c t lf dn := by
  rcases hs with ⟨rfl, ch, R, lv, h⟩ | ⟨rfl, h⟩
  · have hs : St c t 0 := Or.inl ⟨rfl, ch, R, lv, h⟩
    rcases path_cases a with hb | ⟨p, hp, rfl, ho⟩
    · exact Op.err 2 (x := 1) (by decide) (by decide) rfl hs (fun _ _ _ _ => e_get_bad hb) (fun P T cd mk hm he fr => ⟨_, _, _, _, m_getL (m_locL (m_lofL (m_lackB rfl hb) (by decide)) (by decide)) (by decide)⟩)
    · cases hw : wk c ch p with
      | none =>
        refine Op.err 3 (x := 2) (by decide) (by decide) rfl hs (fun _ _ _ _ => e_get_no hp ho h.rc h.r32 hw) (fun P T cd mk hm he fr => ?_)
        obtain ⟨hm', he', hh⟩ := m_lackN (Ls := Ls) (xs := xs) (P := P) (T := T) (cd := cd) (hm := hm) (he := he) (fr := fr) (mk := mk) (s := (c, t, lf, 0)) rfl h.rc h.r32 hp ho hw
        exact ⟨_, hm', he', fr, m_getL (m_locL (m_lofL hh (by decide)) (by decide)) (by decide)⟩
      | some q =>
        have hRq : R q := wk_R h.rc h.r32 hw
        by_cases h0 : p = 0
        · subst h0
          rw [wk_0] at hw
          cases hw
          exact Op.err 4 (x := 3) (by decide) (by decide) rfl hs (fun _ _ _ _ => e_get_dir hp ho h.rc h.r32 wk_0 dirP_32) (fun P T cd mk hm he fr => ⟨_, _, _, _, m_getL (m_locL (m_lof0 rfl) (by decide)) (by decide)⟩)
        · obtain ⟨z, hg, hz1, hz2, hz3, hz4, hz5, hq, -⟩ := wk_par h hp h0 ho hw
          have FKs := fun P T mk => m_FK (Ls := Ls) (xs := xs) (P := P) (T := T) (mk := mk) (s := (c, t, lf, 0)) rfl h.rc h.r32 hp h0 ho hw hq
          rcases b_cases (dirP c q) with hd | hd
          · refine Op.err 4 (x := 3) (by decide) (by decide) rfl hs (fun _ _ _ _ => e_get_dir hp ho h.rc h.r32 hw hd) (fun P T cd mk hm he fr => ?_)
            obtain ⟨z, -, -, -, hF⟩ := FKs P T mk
            exact ⟨_, _, _, fr, m_getL (m_locL (m_lofD hF hp h0 hq hd) (by decide)) (by decide)⟩
          · obtain ⟨f1, f2, f3, len, f4, f5, f6⟩ := h.fil hRq hd
            have bad : (i < 0 ∨ nI len ≤ i) → Op Ls xs 31 72 [.int (nI p), .int i] 5 c t lf 0 := by
              intro hi
              refine Op.err 5 (x := 5) (by decide) (by decide) rfl hs (fun _ _ _ _ => e_get_ix hp ho h.rc h.r32 hw hq hd f4 hi) (fun P T cd mk hm he fr => ?_)
              obtain ⟨z, -, -, -, hF⟩ := FKs P T mk
              have hl := m_loc (cd := cd) (hm := hm) (he := he) (fr := fr) (i := i) hF hp h0 hq hd f4
              rw [if_neg (ix_bad f5 hi)] at hl
              exact ⟨_, _, _, fr, m_getL hl (by decide)⟩
            rcases pk_ix i (n := len) (by omega) with hi | hi | ⟨j, hj, rfl⟩
            · exact bad (Or.inl hi)
            · exact bad (Or.inr hi)
            · refine Op.val (v := c (4 * (ch q).getD (j / 4) 0 + j % 4)) hs (fun _ _ _ _ => e_get hp ho h.rc h.r32 hw hq hd f4 f5 hj f1 (by omega)) (fun P T cd mk hm he fr => ?_)
              obtain ⟨z, -, -, -, hF⟩ := FKs P T mk
              have hl := m_loc (cd := cd) (hm := hm) (he := he) (fr := fr) (i := nI j) hF hp h0 hq hd f4
              rw [if_pos (ix_good f5 hj)] at hl
              exact ⟨_, _, fr, m_get hl hF hq (by omega) f1 (by omega)⟩
  · exact Op.err 1 (x := 0) (by decide) (by decide) rfl (Or.inr ⟨rfl, h⟩) (fun _ _ _ _ => e_get_down) (fun P T cd mk hm he fr => ⟨_, _, _, _, m_getL (m_locL (m_lofL (m_lackD (show ¬ (1 : Int32) = 0 by decide)) (by decide)) (by decide)) (by decide)⟩)
theorem op_put {a i v : Int32} (hs : St c t dn) : Op Ls xs 33 75 [.int a, .int i, .int v] 5 c t lf dn := by
  rcases hs with ⟨rfl, ch, R, lv, h⟩ | ⟨rfl, h⟩
  · have hs : St c t 0 := Or.inl ⟨rfl, ch, R, lv, h⟩
    rcases path_cases a with hb | ⟨p, hp, rfl, ho⟩
    · exact Op.err 2 (x := 1) (by decide) (by decide) rfl hs (fun _ _ _ _ => e_put_bad hb) (fun P T cd mk hm he fr => ⟨_, _, _, _, m_putL (m_locL (m_lofL (m_lackB rfl hb) (by decide)) (by decide)) (by decide)⟩)
    · cases hw : wk c ch p with
      | none =>
        refine Op.err 3 (x := 2) (by decide) (by decide) rfl hs (fun _ _ _ _ => e_put_no hp ho h.rc h.r32 hw) (fun P T cd mk hm he fr => ?_)
        obtain ⟨hm', he', hh⟩ := m_lackN (Ls := Ls) (xs := xs) (P := P) (T := T) (cd := cd) (hm := hm) (he := he) (fr := fr) (mk := mk) (s := (c, t, lf, 0)) rfl h.rc h.r32 hp ho hw
        exact ⟨_, hm', he', fr, m_putL (m_locL (m_lofL hh (by decide)) (by decide)) (by decide)⟩
      | some q =>
        have hRq : R q := wk_R h.rc h.r32 hw
        by_cases h0 : p = 0
        · subst h0
          rw [wk_0] at hw
          cases hw
          exact Op.err 4 (x := 3) (by decide) (by decide) rfl hs (fun _ _ _ _ => e_put_dir hp ho h.rc h.r32 wk_0 dirP_32) (fun P T cd mk hm he fr => ⟨_, _, _, _, m_putL (m_locL (m_lof0 rfl) (by decide)) (by decide)⟩)
        · obtain ⟨z, hg, hz1, hz2, hz3, hz4, hz5, hq, -⟩ := wk_par h hp h0 ho hw
          have FKs := fun P T mk => m_FK (Ls := Ls) (xs := xs) (P := P) (T := T) (mk := mk) (s := (c, t, lf, 0)) rfl h.rc h.r32 hp h0 ho hw hq
          rcases b_cases (dirP c q) with hd | hd
          · refine Op.err 4 (x := 3) (by decide) (by decide) rfl hs (fun _ _ _ _ => e_put_dir hp ho h.rc h.r32 hw hd) (fun P T cd mk hm he fr => ?_)
            obtain ⟨z, -, -, -, hF⟩ := FKs P T mk
            exact ⟨_, _, _, fr, m_putL (m_locL (m_lofD hF hp h0 hq hd) (by decide)) (by decide)⟩
          · obtain ⟨f1, f2, f3, len, f4, f5, f6⟩ := h.fil hRq hd
            have bad : (i < 0 ∨ nI len ≤ i) → Op Ls xs 33 75 [.int (nI p), .int i, .int v] 5 c t lf 0 := by
              intro hi
              refine Op.err 5 (x := 5) (by decide) (by decide) rfl hs (fun _ _ _ _ => e_put_ix hp ho h.rc h.r32 hw hq hd f4 hi) (fun P T cd mk hm he fr => ?_)
              obtain ⟨z, -, -, -, hF⟩ := FKs P T mk
              have hl := m_loc (cd := cd) (hm := hm) (he := he) (fr := fr) (i := i) hF hp h0 hq hd f4
              rw [if_neg (ix_bad f5 hi)] at hl
              exact ⟨_, _, _, fr, m_putL hl (by decide)⟩
            rcases pk_ix i (n := len) (by omega) with hi | hi | ⟨j, hj, rfl⟩
            · exact bad (Or.inl hi)
            · exact bad (Or.inr hi)
            · have hmem : (ch q).getD (j / 4) 0 ∈ ch q := getD_mem (by omega)
              have hsafe : SafeW I1 J1 [wK ((ch q).getD (j / 4) 0) (j % 4) v] c t := by
                refine ⟨⟨ch, R, lv, h.weak⟩, ch, R, lv, ?_⟩
                refine h.frame (fun _ _ _ _ => rfl) (fun p' hp' hd' b hb e he => ?_)
                have hne : p' ≠ q := by intro z; rw [z, hd] at hd'; cases hd'
                have hbn : b ≠ (ch q).getD (j / 4) 0 := by intro z; exact h.2.2.1 p' q hp' hRq hne b hb (z ▸ hmem)
                show upd c _ v (4 * b + e) = c (4 * b + e)
                exact pk_un (by omega)
              refine Op.wr (v := c (4 * (ch q).getD (j / 4) 0 + j % 4)) hsafe (fun _ _ _ _ => e_put hp ho h.rc h.r32 hw hq hd f4 f5 hj f1 (by omega)) (fun P T cd mk hm he fr => ?_)
              obtain ⟨z, -, -, -, hF⟩ := FKs P T mk
              have hl := m_loc (cd := cd) (hm := hm) (he := he) (fr := fr) (i := nI j) hF hp h0 hq hd f4
              rw [if_pos (ix_good f5 hj)] at hl
              exact ⟨_, _, fr, m_put hl hF hq (by omega) f1 (by omega)⟩
  · exact Op.err 1 (x := 0) (by decide) (by decide) rfl (Or.inr ⟨rfl, h⟩) (fun _ _ _ _ => e_put_down) (fun P T cd mk hm he fr => ⟨_, _, _, _, m_putL (m_locL (m_lofL (m_lackD (show ¬ (1 : Int32) = 0 by decide)) (by decide)) (by decide)) (by decide)⟩)
theorem ren_val {p b : Nat} (hp : p < 65536) (hb : b ≤ 15) : (nI (p / 16) <<< (nI 4 &&& 31)) ||| nI b = nI p - (nI p &&& nI 15) + nI b := by
  have h1 : nI (p / 16) <<< (nI 4 &&& 31) = nI (p / 16 * 2 ^ 4) := pk_shlN _ 4 (by decide) (by omega)
  have h2 : p / 16 * 2 ^ 4 ||| b = p / 16 * 2 ^ 4 + b := by
    have := Nat.two_pow_add_eq_or_of_lt (i := 4) (b := b) (by omega) (p / 16)
    rw [Nat.mul_comm (p / 16)]
    exact this.symm
  rw [h1, nI_or (by omega) (by omega), h2, an15 hp, pk_sub (by omega), nI_add]
  congr 1
  omega
theorem op_rename {a b : Int32} (hs : St c t dn) : Op Ls xs 26 68 [.int a, .int b] 0 c t lf dn := by
  rcases hs with ⟨rfl, ch, R, lv, h⟩ | ⟨rfl, h⟩
  · have hs : St c t 0 := Or.inl ⟨rfl, ch, R, lv, h⟩
    rcases path_cases a with hb | ⟨p, hp, rfl, ho⟩
    · exact Op.err 2 (x := 1) (by decide) (by decide) rfl hs (fun _ _ _ _ => e_ren_bad hb) (fun P T cd mk hm he fr => ⟨_, _, _, _, m_ren_bad rfl hb⟩)
    · have bad : (b < nI 1 ∨ nI 15 < b) → Op Ls xs 26 68 [.int (nI p), .int b] 0 c t lf 0 := by
        intro hb
        exact Op.err 2 (x := 1) (by decide) (by decide) rfl hs (fun _ _ _ _ => e_ren_name hp ho hb) (fun P T cd mk hm he fr => ⟨_, _, _, _, m_ren_name rfl hp ho hb⟩)
      rcases pk_ix b (n := 16) (by decide) with hb | hb | ⟨j, hj, rfl⟩
      · exact bad (Or.inl (Int32.lt_of_lt_of_le hb (by decide)))
      · exact bad (Or.inr (Int32.lt_of_lt_of_le (by decide) hb))
      · by_cases hj0 : j = 0
        · exact bad (Or.inl (by rw [hj0]; decide))
        · have hj1 : 1 ≤ j := by omega
          have hj2 : j ≤ 15 := by omega
          cases hw : wk c ch p with
          | none =>
            refine Op.err 3 (x := 2) (by decide) (by decide) rfl hs (fun _ _ _ _ => e_ren_no hp ho hj1 hj2 h.rc h.r32 hw) (fun P T cd mk hm he fr => ?_)
            obtain ⟨hm', he', hh⟩ := m_ren_no (Ls := Ls) (xs := xs) (P := P) (T := T) (cd := cd) (hm := hm) (he := he) (fr := fr) (mk := mk) (s := (c, t, lf, 0)) rfl h.rc h.r32 hp ho hj1 hj2 hw
            exact ⟨_, hm', he', fr, hh⟩
          | some q =>
            by_cases h0 : p = 0
            · subst h0
              rw [wk_0] at hw
              cases hw
              exact Op.err 4 (x := 3) (by decide) (by decide) rfl hs (fun _ _ _ _ => e_ren_root hp ho hj1 hj2 h.rc h.r32 wk_0) (fun P T cd mk hm he fr => ⟨_, _, _, _, m_ren_root rfl hj1 hj2⟩)
            · obtain ⟨z, hg, hz1, hz2, hz3, hz4, hz5, hq, hRq⟩ := wk_par h hp h0 ho hw
              have hl := ok_low hp ho h0
              have hcz := h.chain hz2
              cases hlk : lkO c j (ch z) with
              | some y =>
                have hy : y < 32 := hcz.lt y (lkO_some hlk).1
                refine Op.err 4 (x := 3) (by decide) (by decide) rfl hs (fun _ _ _ _ => e_ren_is hp ho hj1 hj2 h.rc h.r32 hw hq hz1 hz3 hlk hy) (fun P T cd mk hm he fr => ?_)
                obtain ⟨z', hg', -, -, hF⟩ := m_FK (Ls := Ls) (xs := xs) (P := P) (T := T) (mk := mk) (s := (c, t, lf, 0)) rfl h.rc h.r32 hp h0 ho hw hq
                have hg' : gH c ch p = some z' := hg'
                have ez : z' = z := by rw [hg] at hg'; cases hg'; rfl
                subst ez
                exact ⟨_, _, _, fr, m_ren_is rfl hF hp h0 ho hj1 hj2 hcz hlk hy⟩
              | none =>
                have hsafe : SafeW I1 J1 [wK q 0 (nI j)] c t := by
                  refine ⟨⟨ch, R, lv, h.weak⟩, ch, R, lv, ?_⟩
                  refine h.ren hz2 hz3 hz4 (by rw [hz5]; intro e; exact hl ((nI_eq (by omega) (by decide)).mp e)) hj1 hj2 (lkO_none hlk) (fun p' e he hne => ?_) ?_
                  · show upd c (4 * q + 0) _ (4 * p' + e) = _
                    exact pk_un (by omega)
                  · show upd c (4 * q + 0) _ (4 * q) = _
                    exact pk_us
                refine Op.wr (v := (nI (p / 16) <<< (nI 4 &&& 31)) ||| nI j) hsafe (fun _ _ _ _ => e_ren hp ho hj1 hj2 h.rc h.r32 hw hq hz1 hz3 hlk) (fun P T cd mk hm he fr => ?_)
                obtain ⟨z', hg', -, -, hF⟩ := m_FK (Ls := Ls) (xs := xs) (P := P) (T := T) (mk := mk) (s := (c, t, lf, 0)) rfl h.rc h.r32 hp h0 ho hw hq
                have hg' : gH c ch p = some z' := hg'
                have ez : z' = z := by rw [hg] at hg'; cases hg'; rfl
                subst ez
                rw [ren_val hp hj2]
                exact ⟨_, _, fr, m_ren rfl hF hq hp h0 ho hj1 hj2 hcz hlk⟩
  · exact Op.err 1 (x := 0) (by decide) (by decide) rfl (Or.inr ⟨rfl, h⟩) (fun _ _ _ _ => e_ren_down) (fun P T cd mk hm he fr => ⟨_, _, _, _, m_ren_down (show ¬ (1 : Int32) = 0 by decide)⟩)
/-- clusters that nobody owns are freed -/
theorem safe_free : ∀ (l : List Nat) (t : Nat → Int32), Inv True c t ch R lv → (∀ a ∈ l, ∀ p, R p → a ∉ ch p) → SafeW I1 J1 (wF l) c t := by
  intro l
  induction l with
  | nil => intro t h _; exact ⟨ch, R, lv, h⟩
  | cons a l ih =>
    intro t h hl
    refine ⟨⟨ch, R, lv, h.weak⟩, ?_⟩
    refine ih (upd t a (-2)) (h.frame (fun p hp b hb => pk_un (fun z => hl a List.mem_cons_self p hp (z ▸ hb))) (fun _ _ _ _ _ _ _ => rfl)) (fun b hb => hl b (List.mem_cons_of_mem _ hb))
theorem op_remove {a : Int32} (hs : St c t dn) : Op Ls xs 23 63 [.int a] 0 c t lf dn := by
  rcases hs with ⟨rfl, ch, R, lv, h⟩ | ⟨rfl, h⟩
  · have hs : St c t 0 := Or.inl ⟨rfl, ch, R, lv, h⟩
    rcases path_cases a with hb | ⟨p, hp, rfl, ho⟩
    · exact Op.err 2 (x := 1) (by decide) (by decide) rfl hs (fun _ _ _ _ => e_rem_bad hb) (fun P T cd mk hm he fr => ⟨_, _, _, _, m_remL (m_lackB rfl hb) (by decide)⟩)
    · cases hw : wk c ch p with
      | none =>
        refine Op.err 3 (x := 2) (by decide) (by decide) rfl hs (fun _ _ _ _ => e_rem_no hp ho h.rc h.r32 hw) (fun P T cd mk hm he fr => ?_)
        obtain ⟨hm', he', hh⟩ := m_lackN (Ls := Ls) (xs := xs) (P := P) (T := T) (cd := cd) (hm := hm) (he := he) (fr := fr) (mk := mk) (s := (c, t, lf, 0)) rfl h.rc h.r32 hp ho hw
        exact ⟨_, hm', he', fr, m_remL hh (by decide)⟩
      | some q =>
        by_cases h0 : p = 0
        · subst h0
          rw [wk_0] at hw
          cases hw
          exact Op.err 4 (x := 3) (by decide) (by decide) rfl hs (fun _ _ _ _ => e_rem_root hp ho h.rc h.r32 wk_0) (fun P T cd mk hm he fr => ⟨_, _, _, _, m_rem_root rfl⟩)
        · obtain ⟨z, hg, hz1, hz2, hz3, hz4, hz5, hq, hRq⟩ := wk_par h hp h0 ho hw
          have hcq := h.chain hRq
          have hcq' : Chain t (c (4 * q + 2)) (ch q) := by rw [fsP_lt hq] at hcq; exact hcq
          have go : (dirP c q = true → nmsI c (nI 0) (ch q) &&& (-2) = 0 ∧ nmsM c (nI 0) (ch q) ≤ 0 ∧ ∀ x ∈ ch q, c (4 * x) = nI 0) → Op Ls xs 23 63 [.int (nI p)] 0 c t lf 0 := by
            intro hno
            have hsafe : SafeW I1 J1 (wC q (nI 0) (nI 0) (nI 0) (nI 0) :: wF (ch q)) c t := by
              refine ⟨⟨ch, R, lv, h.weak⟩, ?_⟩
              have h2 : Inv True (w4 c q (nI 0) (nI 0) (nI 0) (nI 0)) t ch (fun x => R x ∧ x ≠ q) lv := by
                refine h.del hRq hq (fun hd => (hno hd).2.2) (fun p' i hp' hi => w4_at hp' hi) ?_
                unfold w4
                rw [pk_un (by omega), pk_un (by omega), pk_un (by omega), pk_us]
              exact safe_free (ch q) t h2 (fun b hb p' hp' hm => h.2.2.1 q p' hRq hp'.1 (Ne.symm hp'.2) b hb hm)
            have d1 : dirP c q = false ∨ nmsI c (nI 0) (ch q) &&& (-2) = 0 := by
              rcases b_cases (dirP c q) with hd | hd
              · exact Or.inr (hno hd).1
              · exact Or.inl hd
            have d2 : dirP c q = false ∨ nmsM c (nI 0) (ch q) ≤ 0 := by
              rcases b_cases (dirP c q) with hd | hd
              · exact Or.inr (hno hd).2.1
              · exact Or.inl hd
            refine Op.wr (v := nI (ch q).length) hsafe (fun _ _ _ _ => e_rem hp ho h.rc h.r32 hw hq d1 hcq (h.2.1 q hRq).2.1 (h.len hRq)) (fun P T cd mk hm he fr => ?_)
            obtain ⟨hm', he', hh⟩ := m_rem (Ls := Ls) (xs := xs) (P := P) (T := T) (cd := cd) (hm := hm) (he := he) (fr := fr) (mk := mk) (s := (c, t, lf, 0)) rfl h.rc h.r32 hp h0 ho hw hq d2 hcq' (h.2.1 q hRq).2.1
            exact ⟨hm', he', _, hh⟩
          rcases b_cases (dirP c q) with hd | hd
          · obtain ⟨m, m0, m1, m2, m3⟩ := names_all (okN_of h hRq hd)
            by_cases hm0 : m = 0
            · subst hm0
              refine go (fun _ => ⟨m1, by rw [m2]; decide, fun x hx => ?_⟩)
              have hz : popc 16 0 = 0 := by decide
              have h1 := cntN_zero (ch q) (m3.symm.trans hz) x hx
              rcases (h.2.2.2.1 q hRq hd).2.2.1 x hx with e | ⟨⟨d, e1, e2, e3⟩, -⟩
              · exact e
              · rw [e3] at h1
                exact absurd h1 (nI_nle (by omega) (by omega))
            · refine Op.err 4 (x := 3) (by decide) (by decide) rfl hs (fun _ _ _ _ => e_rem_names hp ho h.rc h.r32 hw hq hd (by rw [m1]; exact nI_ne0 (by omega) (by omega))) (fun P T cd mk hm he fr => ?_)
              obtain ⟨hm', he', hh⟩ := m_rem_names (Ls := Ls) (xs := xs) (P := P) (T := T) (cd := cd) (hm := hm) (he := he) (fr := fr) (mk := mk) (s := (c, t, lf, 0)) rfl h.rc h.r32 hp h0 ho hw hq hd hcq' (by show ¬ nmsM c (nI 0) (ch q) ≤ 0; rw [m2]; exact nI_nle (by omega) (by omega))
              exact ⟨_, hm', he', _, hh⟩
          · exact go (fun hd' => by rw [hd] at hd'; cases hd')
  · exact Op.err 1 (x := 0) (by decide) (by decide) rfl (Or.inr ⟨rfl, h⟩) (fun _ _ _ _ => e_rem_down) (fun P T cd mk hm he fr => ⟨_, _, _, _, m_remL (m_lackD (show ¬ (1 : Int32) = 0 by decide)) (by decide)⟩)
end OS
