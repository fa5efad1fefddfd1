def mChkA (k : Nat) : Bool :=
  match mRec? k with
  | some r => mChkL k r.1
  | none => true
theorem mckA : ∀ k, k < 100 → mChkA k = true
  | 0, _ => mck_0
  | 1, _ => mck_1
  | 2, _ => mck_2
  | 3, _ => mck_3
  | 4, _ => mck_4
  | 5, _ => mck_5
  | 6, _ => mck_6
  | 7, _ => mck_7
  | 8, _ => mck_8
  | 9, _ => mck_9
  | 10, _ => mck_10
  | 11, _ => mck_11
  | 12, _ => mck_12
  | 13, _ => mck_13
  | 14, _ => mck_14
  | 15, _ => mck_15
  | 16, _ => mck_16
  | 17, _ => mck_17
  | 18, _ => mck_18
  | 19, _ => mck_19
  | 20, _ => mck_20
  | 21, _ => mck_21
  | 22, _ => mck_22
  | 23, _ => mck_23
  | 24, _ => mck_24
  | 25, _ => mck_25
  | 26, _ => mck_26
  | 27, _ => mck_27
  | 28, _ => mck_28
  | 29, _ => mck_29
  | 30, _ => mck_30
  | 31, _ => mck_31
  | 32, _ => mck_32
  | 33, _ => mck_33
  | 34, _ => mck_34
  | 35, _ => mck_35
  | 36, _ => mck_36
  | 37, _ => mck_37
  | 38, _ => mck_38
  | 39, _ => mck_39
  | 40, _ => mck_40
  | 41, _ => mck_41
  | 42, _ => mck_42
  | 43, _ => mck_43
  | 44, _ => mck_44
  | 45, _ => mck_45
  | 46, _ => mck_46
  | 47, _ => mck_47
  | 48, _ => mck_48
  | 49, _ => mck_49
  | 50, _ => mck_50
  | 51, _ => mck_51
  | 52, _ => mck_52
  | 53, _ => mck_53
  | 54, _ => mck_54
  | 55, _ => mck_55
  | 56, _ => mck_56
  | 57, _ => mck_57
  | 58, _ => mck_58
  | 59, _ => mck_59
  | 60, _ => mck_60
  | 61, _ => mck_61
  | 62, _ => mck_62
  | 63, _ => mck_63
  | 64, _ => mck_64
  | 65, _ => mck_65
  | 66, _ => mck_66
  | 67, _ => mck_67
  | 68, _ => mck_68
  | 69, _ => mck_69
  | 70, _ => mck_70
  | 71, _ => mck_71
  | 72, _ => mck_72
  | 73, _ => mck_73
  | 74, _ => mck_74
  | 75, _ => mck_75
  | 76, _ => mck_76
  | 77, _ => mck_77
  | 78, _ => mck_78
  | 79, _ => mck_79
  | 80, _ => mck_80
  | 81, _ => mck_81
  | 82, _ => mck_82
  | 83, _ => mck_83
  | 84, _ => mck_84
  | 85, _ => mck_85
  | 86, _ => mck_86
  | 87, _ => mck_87
  | 88, _ => mck_88
  | 89, _ => mck_89
  | 90, _ => mck_90
  | 91, _ => mck_91
  | 92, _ => mck_92
  | 93, _ => mck_93
  | 94, _ => mck_94
  | 95, _ => mck_95
  | 96, _ => mck_96
  | 97, _ => mck_97
  | 98, _ => mck_98
  | 99, _ => mck_99
  | k + 100, h => absurd h (by omega)
theorem mRec_none {k : Nat} (h : 100 ≤ k) : mRec? k = none := by
  have h1 : mRecs.length ≤ k / 10 := by
    have : mRecs.length = 10 := by decide +kernel
    omega
  unfold mRec?
  rw [List.getElem?_eq_none h1]
theorem mFacts {k pc nx x y : Nat} {i : Instr} (h : mCode k pc = some (i, nx, x, y)) : mFact k pc i nx x y := by
  unfold mCode at h
  cases hr : mRec? k with
  | none => rw [hr] at h; cases h
  | some r =>
    rw [hr] at h
    by_cases hk : k < 100
    · have := mckA k hk
      unfold mChkA at this
      rw [hr] at this
      exact mChkL_spec this h
    · rw [mRec_none (Nat.not_lt.mp hk)] at hr
      cases hr
