def fls (Ls : Nat) (xs : Nat → Int32) : List (List (List (Nat × List (Nat × mF)))) := [[fl_0 Ls xs, fl_1 Ls xs, fl_2 Ls xs, fl_3 Ls xs, fl_4 Ls xs, fl_5 Ls xs, fl_6 Ls xs, fl_7 Ls xs, fl_8 Ls xs, fl_9 Ls xs], [fl_10 Ls xs, fl_11 Ls xs, fl_12 Ls xs, fl_13 Ls xs, fl_14 Ls xs, fl_15 Ls xs, fl_16 Ls xs, fl_17 Ls xs, fl_18 Ls xs, fl_19 Ls xs], [fl_20 Ls xs, fl_21 Ls xs, fl_22 Ls xs, fl_23 Ls xs, fl_24 Ls xs, fl_25 Ls xs, fl_26 Ls xs, fl_27 Ls xs, fl_28 Ls xs, fl_29 Ls xs], [fl_30 Ls xs, fl_31 Ls xs, fl_32 Ls xs, fl_33 Ls xs, fl_34 Ls xs, fl_35 Ls xs, fl_36 Ls xs, fl_37 Ls xs, fl_38 Ls xs, fl_39 Ls xs], [fl_40 Ls xs, fl_41 Ls xs, fl_42 Ls xs, fl_43 Ls xs, fl_44 Ls xs, fl_45 Ls xs, fl_46 Ls xs, fl_47 Ls xs, fl_48 Ls xs, fl_49 Ls xs], [fl_50 Ls xs, fl_51 Ls xs, fl_52 Ls xs, fl_53 Ls xs, fl_54 Ls xs, fl_55 Ls xs, fl_56 Ls xs, fl_57 Ls xs, fl_58 Ls xs, fl_59 Ls xs], [fl_60 Ls xs, fl_61 Ls xs, fl_62 Ls xs, fl_63 Ls xs, fl_64 Ls xs, fl_65 Ls xs, fl_66 Ls xs, fl_67 Ls xs, fl_68 Ls xs, fl_69 Ls xs], [fl_70 Ls xs, fl_71 Ls xs, fl_72 Ls xs, fl_73 Ls xs, fl_74 Ls xs, fl_75 Ls xs, fl_76 Ls xs, fl_77 Ls xs, fl_78 Ls xs, fl_79 Ls xs], [fl_80 Ls xs, fl_81 Ls xs, fl_82 Ls xs, fl_83 Ls xs, fl_84 Ls xs, fl_85 Ls xs, fl_86 Ls xs, fl_87 Ls xs, fl_88 Ls xs, fl_89 Ls xs], [fl_90 Ls xs, fl_91 Ls xs, fl_92 Ls xs, fl_93 Ls xs, fl_94 Ls xs, fl_95 Ls xs, fl_96 Ls xs, fl_97 Ls xs, fl_98 Ls xs, fl_99 Ls xs]]
def fRec (Ls : Nat) (xs : Nat → Int32) (k : Nat) : Option (List (Nat × List (Nat × mF))) :=
  match (fls Ls xs)[k / 10]? with
  | some l => l[k % 10]?
  | none => none
def fStep (Ls : Nat) (xs : Nat → Int32) (k : Nat) : mS → Option mX
  | (pc, L, S, h) =>
    match fRec Ls xs k with
    | some r =>
      match fLook r pc with
      | some f => f L S h
      | none => none
    | none => none
theorem fRecA (Ls : Nat) (xs : Nat → Int32) : ∀ k, k < 100 → fRec Ls xs k = (mRec? k).map (fun r => fMap Ls xs k r.1)
  | 0, _ => congrArg some (fle_0 Ls xs)
  | 1, _ => congrArg some (fle_1 Ls xs)
  | 2, _ => congrArg some (fle_2 Ls xs)
  | 3, _ => congrArg some (fle_3 Ls xs)
  | 4, _ => congrArg some (fle_4 Ls xs)
  | 5, _ => congrArg some (fle_5 Ls xs)
  | 6, _ => congrArg some (fle_6 Ls xs)
  | 7, _ => congrArg some (fle_7 Ls xs)
  | 8, _ => congrArg some (fle_8 Ls xs)
  | 9, _ => congrArg some (fle_9 Ls xs)
  | 10, _ => congrArg some (fle_10 Ls xs)
  | 11, _ => congrArg some (fle_11 Ls xs)
  | 12, _ => congrArg some (fle_12 Ls xs)
  | 13, _ => congrArg some (fle_13 Ls xs)
  | 14, _ => congrArg some (fle_14 Ls xs)
  | 15, _ => congrArg some (fle_15 Ls xs)
  | 16, _ => congrArg some (fle_16 Ls xs)
  | 17, _ => congrArg some (fle_17 Ls xs)
  | 18, _ => congrArg some (fle_18 Ls xs)
  | 19, _ => congrArg some (fle_19 Ls xs)
  | 20, _ => congrArg some (fle_20 Ls xs)
  | 21, _ => congrArg some (fle_21 Ls xs)
  | 22, _ => congrArg some (fle_22 Ls xs)
  | 23, _ => congrArg some (fle_23 Ls xs)
  | 24, _ => congrArg some (fle_24 Ls xs)
  | 25, _ => congrArg some (fle_25 Ls xs)
  | 26, _ => congrArg some (fle_26 Ls xs)
  | 27, _ => congrArg some (fle_27 Ls xs)
  | 28, _ => congrArg some (fle_28 Ls xs)
  | 29, _ => congrArg some (fle_29 Ls xs)
  | 30, _ => congrArg some (fle_30 Ls xs)
  | 31, _ => congrArg some (fle_31 Ls xs)
  | 32, _ => congrArg some (fle_32 Ls xs)
  | 33, _ => congrArg some (fle_33 Ls xs)
  | 34, _ => congrArg some (fle_34 Ls xs)
  | 35, _ => congrArg some (fle_35 Ls xs)
  | 36, _ => congrArg some (fle_36 Ls xs)
  | 37, _ => congrArg some (fle_37 Ls xs)
  | 38, _ => congrArg some (fle_38 Ls xs)
  | 39, _ => congrArg some (fle_39 Ls xs)
  | 40, _ => congrArg some (fle_40 Ls xs)
  | 41, _ => congrArg some (fle_41 Ls xs)
  | 42, _ => congrArg some (fle_42 Ls xs)
  | 43, _ => congrArg some (fle_43 Ls xs)
  | 44, _ => congrArg some (fle_44 Ls xs)
  | 45, _ => congrArg some (fle_45 Ls xs)
  | 46, _ => congrArg some (fle_46 Ls xs)
  | 47, _ => congrArg some (fle_47 Ls xs)
  | 48, _ => congrArg some (fle_48 Ls xs)
  | 49, _ => congrArg some (fle_49 Ls xs)
  | 50, _ => congrArg some (fle_50 Ls xs)
  | 51, _ => congrArg some (fle_51 Ls xs)
  | 52, _ => congrArg some (fle_52 Ls xs)
  | 53, _ => congrArg some (fle_53 Ls xs)
  | 54, _ => congrArg some (fle_54 Ls xs)
  | 55, _ => congrArg some (fle_55 Ls xs)
  | 56, _ => congrArg some (fle_56 Ls xs)
  | 57, _ => congrArg some (fle_57 Ls xs)
  | 58, _ => congrArg some (fle_58 Ls xs)
  | 59, _ => congrArg some (fle_59 Ls xs)
  | 60, _ => congrArg some (fle_60 Ls xs)
  | 61, _ => congrArg some (fle_61 Ls xs)
  | 62, _ => congrArg some (fle_62 Ls xs)
  | 63, _ => congrArg some (fle_63 Ls xs)
  | 64, _ => congrArg some (fle_64 Ls xs)
  | 65, _ => congrArg some (fle_65 Ls xs)
  | 66, _ => congrArg some (fle_66 Ls xs)
  | 67, _ => congrArg some (fle_67 Ls xs)
  | 68, _ => congrArg some (fle_68 Ls xs)
  | 69, _ => congrArg some (fle_69 Ls xs)
  | 70, _ => congrArg some (fle_70 Ls xs)
  | 71, _ => congrArg some (fle_71 Ls xs)
  | 72, _ => congrArg some (fle_72 Ls xs)
  | 73, _ => congrArg some (fle_73 Ls xs)
  | 74, _ => congrArg some (fle_74 Ls xs)
  | 75, _ => congrArg some (fle_75 Ls xs)
  | 76, _ => congrArg some (fle_76 Ls xs)
  | 77, _ => congrArg some (fle_77 Ls xs)
  | 78, _ => congrArg some (fle_78 Ls xs)
  | 79, _ => congrArg some (fle_79 Ls xs)
  | 80, _ => congrArg some (fle_80 Ls xs)
  | 81, _ => congrArg some (fle_81 Ls xs)
  | 82, _ => congrArg some (fle_82 Ls xs)
  | 83, _ => congrArg some (fle_83 Ls xs)
  | 84, _ => congrArg some (fle_84 Ls xs)
  | 85, _ => congrArg some (fle_85 Ls xs)
  | 86, _ => congrArg some (fle_86 Ls xs)
  | 87, _ => congrArg some (fle_87 Ls xs)
  | 88, _ => congrArg some (fle_88 Ls xs)
  | 89, _ => congrArg some (fle_89 Ls xs)
  | 90, _ => congrArg some (fle_90 Ls xs)
  | 91, _ => congrArg some (fle_91 Ls xs)
  | 92, _ => congrArg some (fle_92 Ls xs)
  | 93, _ => congrArg some (fle_93 Ls xs)
  | 94, _ => congrArg some (fle_94 Ls xs)
  | 95, _ => congrArg some (fle_95 Ls xs)
  | 96, _ => congrArg some (fle_96 Ls xs)
  | 97, _ => congrArg some (fle_97 Ls xs)
  | 98, _ => congrArg some (fle_98 Ls xs)
  | 99, _ => congrArg some (fle_99 Ls xs)
  | k + 100, h => absurd h (by omega)
theorem fRec_none {Ls : Nat} {xs : Nat → Int32} {k : Nat} (h : 100 ≤ k) : fRec Ls xs k = none := by
  have h1 : (fls Ls xs).length ≤ k / 10 := by
    have : (fls Ls xs).length = 10 := rfl
    omega
  unfold fRec
  rw [List.getElem?_eq_none h1]
theorem fStep_eq {Ls : Nat} {xs : Nat → Int32} {k : Nat} {st : mS} : fStep Ls xs k st = mStep Ls xs k st := by
  obtain ⟨pc, L, S, h⟩ := st
  simp only [fStep, mStep, mCode]
  by_cases hk : k < 100
  · rw [fRecA Ls xs k hk]
    cases mRec? k with
    | none => rfl
    | some r =>
      simp only [Option.map_some, fLook_map]
      cases mLook r.1 pc with
      | none => rfl
      | some q => rfl
  · rw [fRec_none (Nat.not_lt.mp hk), mRec_none (Nat.not_lt.mp hk)]
