/-! facts of the tables, written by a text program: each by the kernel -/
def mPl (c j : Nat) : Nat :=
  match c with
  | 0 => match j with
    | 1 => 62
    | 7 => 65
    | 9 => 67
    | 10 => 85
    | 16 => 86
    | 20 => 87
    | 24 => 88
    | 28 => 266
    | 31 => 273
    | 35 => 294
    | 39 => 143
    | 43 => 302
    | 50 => 298
    | 54 => 319
    | 59 => 335
    | 63 => 339
    | 67 => 163
    | 71 => 359
    | 76 => 379
    | 81 => 159
    | 84 => 384
    | 87 => 277
    | 96 => 363
    | 100 => 405
    | 103 => 151
    | 106 => 410
    | 109 => 367
    | 112 => 426
    | 115 => 155
    | 118 => 139
    | 121 => 430
    | 126 => 414
    | 129 => 461
    | 132 => 472
    | 139 => 134
    | 142 => 103
    | 145 => 111
    | 149 => 119
    | 152 => 123
    | 155 => 242
    | 158 => 131
    | 161 => 270
    | 166 => 276
    | 177 => 343
    | 182 => 127
    | 186 => 147
    | _ => 0
  | 1 => match j with
    | 3 => 70
    | 9 => 71
    | 15 => 72
    | 18 => 73
    | 22 => 74
    | 26 => 138
    | 30 => 167
    | 33 => 171
    | _ => 0
  | 2 => match j with
    | 1 => 498
    | 7 => 500
    | 13 => 501
    | 16 => 503
    | 20 => 504
    | 24 => 499
    | 27 => 502
    | 31 => 562
    | 35 => 558
    | 39 => 538
    | 40 => 539
    | 44 => 505
    | 47 => 506
    | 50 => 546
    | 54 => 550
    | 58 => 542
    | 61 => 535
    | 64 => 586
    | 68 => 582
    | 71 => 554
    | 75 => 566
    | 79 => 570
    | 82 => 574
    | 86 => 507
    | 89 => 590
    | 92 => 594
    | 96 => 602
    | 99 => 610
    | 102 => 618
    | 105 => 622
    | 108 => 662
    | 111 => 666
    | 114 => 658
    | _ => 0
  | 3 => match j with
    | 7 => 262
    | 8 => 57
    | 23 => 374
    | 27 => 391
    | 31 => 401
    | 34 => 422
    | 39 => 449
    | 43 => 456
    | 46 => 468
    | 49 => 481
    | 52 => 489
    | 56 => 59
    | 57 => 493
    | 59 => 495
    | 60 => 254
    | 65 => 531
    | 66 => 527
    | 69 => 371
    | 72 => 578
    | 73 => 388
    | 76 => 598
    | 77 => 398
    | 79 => 606
    | 80 => 418
    | 82 => 614
    | 83 => 446
    | 86 => 626
    | 87 => 453
    | 89 => 630
    | 90 => 465
    | 92 => 634
    | 93 => 478
    | 95 => 638
    | 96 => 486
    | 99 => 642
    | 100 => 99
    | 104 => 646
    | 105 => 107
    | 109 => 650
    | 110 => 115
    | 113 => 654
    | 114 => 246
    | 117 => 670
    | 118 => 250
    | 121 => 674
    | _ => 0
  | 4 => match j with
    | 265 => 475
    | 266 => 476
    | 267 => 477
    | _ => 0
  | _ => 0
def mPs : List Nat := [0, 0, 0, 0, 0, 0, 132, 0, 0, 0, 0, 0, 0, 0, 0, 0, 0, 274, 0, 0, 0, 0, 0, 0, 0, 0, 0, 0, 0, 0, 0, 0, 0, 0, 0, 0, 0, 0, 0, 0, 0, 0, 0, 0, 0, 0, 0, 0, 0, 0, 0, 0, 536, 540, 0, 0, 0, 0, 0, 0, 0, 0, 0, 0, 0, 0, 0, 0, 0, 0, 0, 0, 0, 0, 0, 0, 0, 0, 0, 0, 0, 0, 0, 0, 0, 0, 0, 0, 255, 372, 389, 399, 419, 447, 454, 466, 479, 487, 473, 0]
def mPi : List Nat := [60, 100, 108, 116, 125, 129, 0, 145, 149, 153, 157, 161, 244, 247, 251, 263, 268, 0, 296, 300, 341, 361, 369, 375, 381, 386, 392, 402, 407, 412, 416, 423, 428, 450, 457, 463, 469, 482, 490, 68, 104, 112, 120, 135, 140, 164, 169, 336, 364, 496, 528, 532, 0, 0, 544, 548, 552, 556, 560, 564, 568, 572, 576, 579, 584, 588, 592, 596, 599, 604, 607, 612, 615, 620, 624, 627, 631, 635, 639, 643, 647, 651, 655, 660, 664, 668, 671, 675, 0, 0, 0, 0, 0, 0, 0, 0, 0, 0, 0, 0]
def mPe : List Nat := [0, 101, 109, 117, 0, 1, 0, 2, 3, 4, 5, 6, 9, 248, 252, 264, 10, 0, 11, 12, 13, 14, 15, 376, 16, 17, 393, 403, 18, 19, 20, 424, 21, 451, 458, 22, 470, 483, 491, 0, 105, 113, 121, 136, 141, 165, 7, 337, 365, 0, 529, 533, 0, 0, 23, 24, 25, 26, 27, 28, 29, 30, 31, 580, 32, 33, 34, 35, 600, 36, 608, 37, 616, 38, 39, 628, 632, 636, 640, 644, 648, 652, 656, 40, 41, 42, 672, 676, 0, 0, 0, 0, 0, 0, 0, 0, 0, 0, 0, 0]
def mOws : List Nat := [0, 0, 0, 0, 0, 0, 0, 0, 0, 0, 0, 0, 0, 0, 0, 0, 0, 0, 0, 0, 0, 0, 0, 0, 0, 0, 0, 0, 0, 0, 0, 0, 0, 0, 0, 0, 0, 0, 0, 1, 1, 1, 1, 1, 1, 1, 1, 1, 1, 2, 2, 2, 2, 2, 2, 2, 2, 2, 2, 2, 2, 2, 2, 2, 2, 2, 2, 2, 2, 2, 2, 2, 2, 2, 2, 2, 2, 2, 2, 2, 2, 2, 2, 2, 2, 2, 2, 2, 3, 3, 3, 3, 3, 3, 3, 3, 3, 3, 4, 3]
def mStr (c j : Nat) : Nat × String :=
  match c with
  | 0 => match j with
    | 45 => (318, "a file is on the way")
    | 56 => (328, "the path is there already")
    | 74 => (378, "the root stays")
    | 79 => (383, "the directory has names")
    | 89 => (395, "a name is 1 to 15")
    | 92 => (396, "the root has no name")
    | 94 => (397, "the name is there already")
    | 123 => (460, "a file is cut to 0 up to its own length")
    | 137 => (485, "a file has no names")
    | 163 => (271, "the volume is down")
    | 167 => (286, "a path has at most four digits")
    | 169 => (293, "a digit of a path is 0")
    | 171 => (439, "the file has no such cell")
    | 173 => (311, "the path leads nowhere")
    | 175 => (409, "a file is needed")
    | 179 => (352, "no cluster is free")
    | _ => (0, "")
  | 1 => match j with
    | 35 => (215, "the power is lost")
    | _ => (0, "")
  | _ => (0, "")
def mRx (x : Nat) : Nat × ByteArray :=
  match x with
  | 0 => (7, prog_8_method_2_code)
  | 1 => (7, prog_7_method_2_code)
  | 2 => (13, prog_15_method_4_code)
  | 3 => (7, prog_14_method_2_code)
  | 4 => (7, prog_5_method_2_code)
  | _ => (7, prog_9_method_2_code)
def mAtW (n : Nat) (w : Jvm.Cond) : Bool := decide (lw_tbl[n]? = some w) && goodWord w
def mAtV (n : Nat) (w : Jvm.Cond) : Bool := decide (lw_tbl[n]? = some w) && mVk w
theorem mAtW_in {n : Nat} {w : Jvm.Cond} (h : mAtW n w = true) : w ∈ mWs := by
  simp only [mAtW, Bool.and_eq_true] at h
  exact mWs_in (of_decide_eq_true h.1) h.2
theorem mAtV_in {n : Nat} {w : Jvm.Cond} (h : mAtV n w = true) : w ∈ mVs := by
  simp only [mAtV, Bool.and_eq_true] at h
  exact mVs_in (of_decide_eq_true h.1) h.2
def mOk2 (L : List Jvm.Cond) : Bool := L.all fun w => decide (w ∈ lw_tbl) && (goodWord w || mVk w)
theorem mOk2_in {L : List Jvm.Cond} (h : mOk2 L = true) : ∀ w ∈ L, w ∈ mWs ∨ w ∈ mVs := by
  intro w hw
  have h1 := List.all_eq_true.mp h w hw
  simp only [Bool.and_eq_true, Bool.or_eq_true, decide_eq_true_eq] at h1
  rcases h1.2 with h2 | h2
  · exact Or.inl (List.mem_filter.mpr ⟨h1.1, h2⟩)
  · exact Or.inr (List.mem_append_left _ (List.mem_filter.mpr ⟨h1.1, h2⟩))
theorem mTh_0_0 : mOk2 (xAll "ClusterVolume" 165 "java/lang/IllegalStateException" (mRx 0).1 (mRx 0).2) = true := by decide +kernel
theorem mTh_0_1 : mOk2 (xAll "ClusterVolume" 91 "java/lang/IllegalArgumentException" (mRx 1).1 (mRx 1).2) = true := by decide +kernel
theorem mTh_0_2 : mOk2 (xAll "ClusterVolume" 47 "java/util/NoSuchElementException" (mRx 2).1 (mRx 2).2) = true := by decide +kernel
theorem mTh_0_3 : mOk2 (xAll "ClusterVolume" 58 "java/lang/UnsupportedOperationException" (mRx 3).1 (mRx 3).2) = true := by decide +kernel
theorem mTh_0_4 : mOk2 (xAll "ClusterVolume" 181 "java/lang/ArithmeticException" (mRx 4).1 (mRx 4).2) = true := by decide +kernel
theorem mTh_0_5 : mOk2 (xAll "ClusterVolume" 125 "java/lang/IndexOutOfBoundsException" (mRx 5).1 (mRx 5).2) = true := by decide +kernel
theorem mTh_1_0 : mOk2 (xAll "ClusterVolume$Disk" 37 "java/lang/IllegalStateException" (mRx 0).1 (mRx 0).2) = true := by decide +kernel
theorem mRxd_0 : decode (mRx 0).2 0 = .ok (.aload_n 0, 1) ∧ decode (mRx 0).2 1 = .ok (.aload_n 1, 1) ∧ decode (mRx 0).2 2 = .ok (.invokespecial (mRx 0).1, 3) ∧ decode (mRx 0).2 5 = .ok (.return_, 1) := by decide +kernel
theorem mRxd_1 : decode (mRx 1).2 0 = .ok (.aload_n 0, 1) ∧ decode (mRx 1).2 1 = .ok (.aload_n 1, 1) ∧ decode (mRx 1).2 2 = .ok (.invokespecial (mRx 1).1, 3) ∧ decode (mRx 1).2 5 = .ok (.return_, 1) := by decide +kernel
theorem mRxd_2 : decode (mRx 2).2 0 = .ok (.aload_n 0, 1) ∧ decode (mRx 2).2 1 = .ok (.aload_n 1, 1) ∧ decode (mRx 2).2 2 = .ok (.invokespecial (mRx 2).1, 3) ∧ decode (mRx 2).2 5 = .ok (.return_, 1) := by decide +kernel
theorem mRxd_3 : decode (mRx 3).2 0 = .ok (.aload_n 0, 1) ∧ decode (mRx 3).2 1 = .ok (.aload_n 1, 1) ∧ decode (mRx 3).2 2 = .ok (.invokespecial (mRx 3).1, 3) ∧ decode (mRx 3).2 5 = .ok (.return_, 1) := by decide +kernel
theorem mRxd_4 : decode (mRx 4).2 0 = .ok (.aload_n 0, 1) ∧ decode (mRx 4).2 1 = .ok (.aload_n 1, 1) ∧ decode (mRx 4).2 2 = .ok (.invokespecial (mRx 4).1, 3) ∧ decode (mRx 4).2 5 = .ok (.return_, 1) := by decide +kernel
theorem mRxd_5 : decode (mRx 5).2 0 = .ok (.aload_n 0, 1) ∧ decode (mRx 5).2 1 = .ok (.aload_n 1, 1) ∧ decode (mRx 5).2 2 = .ok (.invokespecial (mRx 5).1, 3) ∧ decode (mRx 5).2 5 = .ok (.return_, 1) := by decide +kernel
set_option maxRecDepth 100000 in
theorem mMe_0 : mMeth 0 := ⟨Or.inl ⟨rfl, mWs_in (n := 61) (w := Jvm.Cond.code (mY 0) (mBy 0) (mNL 0) (mRet 0)) rfl rfl⟩, mWs_in (n := 44) (w := .initialized (mY 0).cls) rfl rfl, by decide, by decide, by decide +kernel⟩
set_option maxRecDepth 100000 in
theorem mMe_1 : mMeth 1 := ⟨Or.inl ⟨rfl, mWs_in (n := 102) (w := Jvm.Cond.code (mY 1) (mBy 1) (mNL 1) (mRet 1)) rfl rfl⟩, mWs_in (n := 44) (w := .initialized (mY 1).cls) rfl rfl, by decide, by decide, by decide +kernel⟩
set_option maxRecDepth 100000 in
theorem mMe_2 : mMeth 2 := ⟨Or.inl ⟨rfl, mWs_in (n := 110) (w := Jvm.Cond.code (mY 2) (mBy 2) (mNL 2) (mRet 2)) rfl rfl⟩, mWs_in (n := 44) (w := .initialized (mY 2).cls) rfl rfl, by decide, by decide, by decide +kernel⟩
set_option maxRecDepth 100000 in
theorem mMe_3 : mMeth 3 := ⟨Or.inl ⟨rfl, mWs_in (n := 118) (w := Jvm.Cond.code (mY 3) (mBy 3) (mNL 3) (mRet 3)) rfl rfl⟩, mWs_in (n := 44) (w := .initialized (mY 3).cls) rfl rfl, by decide, by decide, by decide +kernel⟩
set_option maxRecDepth 100000 in
theorem mMe_4 : mMeth 4 := ⟨Or.inl ⟨rfl, mWs_in (n := 126) (w := Jvm.Cond.code (mY 4) (mBy 4) (mNL 4) (mRet 4)) rfl rfl⟩, mWs_in (n := 44) (w := .initialized (mY 4).cls) rfl rfl, by decide, by decide, by decide +kernel⟩
set_option maxRecDepth 100000 in
theorem mMe_5 : mMeth 5 := ⟨Or.inl ⟨rfl, mWs_in (n := 130) (w := Jvm.Cond.code (mY 5) (mBy 5) (mNL 5) (mRet 5)) rfl rfl⟩, mWs_in (n := 44) (w := .initialized (mY 5).cls) rfl rfl, by decide, by decide, by decide +kernel⟩
set_option maxRecDepth 100000 in
theorem mMe_6 : mMeth 6 := ⟨Or.inl ⟨rfl, mWs_in (n := 133) (w := Jvm.Cond.code (mY 6) (mBy 6) (mNL 6) (mRet 6)) rfl rfl⟩, mWs_in (n := 44) (w := .initialized (mY 6).cls) rfl rfl, by decide, by decide, by decide +kernel⟩
set_option maxRecDepth 100000 in
theorem mMe_7 : mMeth 7 := ⟨Or.inl ⟨rfl, mWs_in (n := 146) (w := Jvm.Cond.code (mY 7) (mBy 7) (mNL 7) (mRet 7)) rfl rfl⟩, mWs_in (n := 44) (w := .initialized (mY 7).cls) rfl rfl, by decide, by decide, by decide +kernel⟩
set_option maxRecDepth 100000 in
theorem mMe_8 : mMeth 8 := ⟨Or.inl ⟨rfl, mWs_in (n := 150) (w := Jvm.Cond.code (mY 8) (mBy 8) (mNL 8) (mRet 8)) rfl rfl⟩, mWs_in (n := 44) (w := .initialized (mY 8).cls) rfl rfl, by decide, by decide, by decide +kernel⟩
set_option maxRecDepth 100000 in
theorem mMe_9 : mMeth 9 := ⟨Or.inl ⟨rfl, mWs_in (n := 154) (w := Jvm.Cond.code (mY 9) (mBy 9) (mNL 9) (mRet 9)) rfl rfl⟩, mWs_in (n := 44) (w := .initialized (mY 9).cls) rfl rfl, by decide, by decide, by decide +kernel⟩
set_option maxRecDepth 100000 in
theorem mMe_10 : mMeth 10 := ⟨Or.inl ⟨rfl, mWs_in (n := 158) (w := Jvm.Cond.code (mY 10) (mBy 10) (mNL 10) (mRet 10)) rfl rfl⟩, mWs_in (n := 44) (w := .initialized (mY 10).cls) rfl rfl, by decide, by decide, by decide +kernel⟩
set_option maxRecDepth 100000 in
theorem mMe_11 : mMeth 11 := ⟨Or.inl ⟨rfl, mWs_in (n := 162) (w := Jvm.Cond.code (mY 11) (mBy 11) (mNL 11) (mRet 11)) rfl rfl⟩, mWs_in (n := 44) (w := .initialized (mY 11).cls) rfl rfl, by decide, by decide, by decide +kernel⟩
set_option maxRecDepth 100000 in
theorem mMe_12 : mMeth 12 := ⟨Or.inl ⟨rfl, mWs_in (n := 245) (w := Jvm.Cond.code (mY 12) (mBy 12) (mNL 12) (mRet 12)) rfl rfl⟩, mWs_in (n := 44) (w := .initialized (mY 12).cls) rfl rfl, by decide, by decide, by decide +kernel⟩
set_option maxRecDepth 100000 in
theorem mMe_13 : mMeth 13 := ⟨Or.inl ⟨rfl, mWs_in (n := 249) (w := Jvm.Cond.code (mY 13) (mBy 13) (mNL 13) (mRet 13)) rfl rfl⟩, mWs_in (n := 44) (w := .initialized (mY 13).cls) rfl rfl, by decide, by decide, by decide +kernel⟩
set_option maxRecDepth 100000 in
theorem mMe_14 : mMeth 14 := ⟨Or.inl ⟨rfl, mWs_in (n := 253) (w := Jvm.Cond.code (mY 14) (mBy 14) (mNL 14) (mRet 14)) rfl rfl⟩, mWs_in (n := 44) (w := .initialized (mY 14).cls) rfl rfl, by decide, by decide, by decide +kernel⟩
set_option maxRecDepth 100000 in
theorem mMe_15 : mMeth 15 := ⟨Or.inl ⟨rfl, mWs_in (n := 265) (w := Jvm.Cond.code (mY 15) (mBy 15) (mNL 15) (mRet 15)) rfl rfl⟩, mWs_in (n := 44) (w := .initialized (mY 15).cls) rfl rfl, by decide, by decide, by decide +kernel⟩
set_option maxRecDepth 100000 in
theorem mMe_16 : mMeth 16 := ⟨Or.inl ⟨rfl, mWs_in (n := 269) (w := Jvm.Cond.code (mY 16) (mBy 16) (mNL 16) (mRet 16)) rfl rfl⟩, mWs_in (n := 44) (w := .initialized (mY 16).cls) rfl rfl, by decide, by decide, by decide +kernel⟩
set_option maxRecDepth 100000 in
theorem mMe_17 : mMeth 17 := ⟨Or.inl ⟨rfl, mWs_in (n := 275) (w := Jvm.Cond.code (mY 17) (mBy 17) (mNL 17) (mRet 17)) rfl rfl⟩, mWs_in (n := 44) (w := .initialized (mY 17).cls) rfl rfl, by decide, by decide, by decide +kernel⟩
set_option maxRecDepth 100000 in
theorem mMe_18 : mMeth 18 := ⟨Or.inl ⟨rfl, mWs_in (n := 297) (w := Jvm.Cond.code (mY 18) (mBy 18) (mNL 18) (mRet 18)) rfl rfl⟩, mWs_in (n := 44) (w := .initialized (mY 18).cls) rfl rfl, by decide, by decide, by decide +kernel⟩
set_option maxRecDepth 100000 in
theorem mMe_19 : mMeth 19 := ⟨Or.inl ⟨rfl, mWs_in (n := 301) (w := Jvm.Cond.code (mY 19) (mBy 19) (mNL 19) (mRet 19)) rfl rfl⟩, mWs_in (n := 44) (w := .initialized (mY 19).cls) rfl rfl, by decide, by decide, by decide +kernel⟩
set_option maxRecDepth 100000 in
theorem mMe_20 : mMeth 20 := ⟨Or.inl ⟨rfl, mWs_in (n := 342) (w := Jvm.Cond.code (mY 20) (mBy 20) (mNL 20) (mRet 20)) rfl rfl⟩, mWs_in (n := 44) (w := .initialized (mY 20).cls) rfl rfl, by decide, by decide, by decide +kernel⟩
set_option maxRecDepth 100000 in
theorem mMe_21 : mMeth 21 := ⟨Or.inl ⟨rfl, mWs_in (n := 362) (w := Jvm.Cond.code (mY 21) (mBy 21) (mNL 21) (mRet 21)) rfl rfl⟩, mWs_in (n := 44) (w := .initialized (mY 21).cls) rfl rfl, by decide, by decide, by decide +kernel⟩
set_option maxRecDepth 100000 in
theorem mMe_22 : mMeth 22 := ⟨Or.inl ⟨rfl, mWs_in (n := 370) (w := Jvm.Cond.code (mY 22) (mBy 22) (mNL 22) (mRet 22)) rfl rfl⟩, mWs_in (n := 44) (w := .initialized (mY 22).cls) rfl rfl, by decide, by decide, by decide +kernel⟩
set_option maxRecDepth 100000 in
theorem mMe_23 : mMeth 23 := ⟨Or.inl ⟨rfl, mWs_in (n := 377) (w := Jvm.Cond.code (mY 23) (mBy 23) (mNL 23) (mRet 23)) rfl rfl⟩, mWs_in (n := 44) (w := .initialized (mY 23).cls) rfl rfl, by decide, by decide, by decide +kernel⟩
set_option maxRecDepth 100000 in
theorem mMe_24 : mMeth 24 := ⟨Or.inl ⟨rfl, mWs_in (n := 382) (w := Jvm.Cond.code (mY 24) (mBy 24) (mNL 24) (mRet 24)) rfl rfl⟩, mWs_in (n := 44) (w := .initialized (mY 24).cls) rfl rfl, by decide, by decide, by decide +kernel⟩
set_option maxRecDepth 100000 in
theorem mMe_25 : mMeth 25 := ⟨Or.inl ⟨rfl, mWs_in (n := 387) (w := Jvm.Cond.code (mY 25) (mBy 25) (mNL 25) (mRet 25)) rfl rfl⟩, mWs_in (n := 44) (w := .initialized (mY 25).cls) rfl rfl, by decide, by decide, by decide +kernel⟩
set_option maxRecDepth 100000 in
theorem mMe_26 : mMeth 26 := ⟨Or.inl ⟨rfl, mWs_in (n := 394) (w := Jvm.Cond.code (mY 26) (mBy 26) (mNL 26) (mRet 26)) rfl rfl⟩, mWs_in (n := 44) (w := .initialized (mY 26).cls) rfl rfl, by decide, by decide, by decide +kernel⟩
set_option maxRecDepth 100000 in
theorem mMe_27 : mMeth 27 := ⟨Or.inl ⟨rfl, mWs_in (n := 404) (w := Jvm.Cond.code (mY 27) (mBy 27) (mNL 27) (mRet 27)) rfl rfl⟩, mWs_in (n := 44) (w := .initialized (mY 27).cls) rfl rfl, by decide, by decide, by decide +kernel⟩
set_option maxRecDepth 100000 in
theorem mMe_28 : mMeth 28 := ⟨Or.inl ⟨rfl, mWs_in (n := 408) (w := Jvm.Cond.code (mY 28) (mBy 28) (mNL 28) (mRet 28)) rfl rfl⟩, mWs_in (n := 44) (w := .initialized (mY 28).cls) rfl rfl, by decide, by decide, by decide +kernel⟩
set_option maxRecDepth 100000 in
theorem mMe_29 : mMeth 29 := ⟨Or.inl ⟨rfl, mWs_in (n := 413) (w := Jvm.Cond.code (mY 29) (mBy 29) (mNL 29) (mRet 29)) rfl rfl⟩, mWs_in (n := 44) (w := .initialized (mY 29).cls) rfl rfl, by decide, by decide, by decide +kernel⟩
set_option maxRecDepth 100000 in
theorem mMe_30 : mMeth 30 := ⟨Or.inl ⟨rfl, mWs_in (n := 417) (w := Jvm.Cond.code (mY 30) (mBy 30) (mNL 30) (mRet 30)) rfl rfl⟩, mWs_in (n := 44) (w := .initialized (mY 30).cls) rfl rfl, by decide, by decide, by decide +kernel⟩
set_option maxRecDepth 100000 in
theorem mMe_31 : mMeth 31 := ⟨Or.inl ⟨rfl, mWs_in (n := 425) (w := Jvm.Cond.code (mY 31) (mBy 31) (mNL 31) (mRet 31)) rfl rfl⟩, mWs_in (n := 44) (w := .initialized (mY 31).cls) rfl rfl, by decide, by decide, by decide +kernel⟩
set_option maxRecDepth 100000 in
theorem mMe_32 : mMeth 32 := ⟨Or.inl ⟨rfl, mWs_in (n := 429) (w := Jvm.Cond.code (mY 32) (mBy 32) (mNL 32) (mRet 32)) rfl rfl⟩, mWs_in (n := 44) (w := .initialized (mY 32).cls) rfl rfl, by decide, by decide, by decide +kernel⟩
set_option maxRecDepth 100000 in
theorem mMe_33 : mMeth 33 := ⟨Or.inl ⟨rfl, mWs_in (n := 452) (w := Jvm.Cond.code (mY 33) (mBy 33) (mNL 33) (mRet 33)) rfl rfl⟩, mWs_in (n := 44) (w := .initialized (mY 33).cls) rfl rfl, by decide, by decide, by decide +kernel⟩
set_option maxRecDepth 100000 in
theorem mMe_34 : mMeth 34 := ⟨Or.inl ⟨rfl, mWs_in (n := 459) (w := Jvm.Cond.code (mY 34) (mBy 34) (mNL 34) (mRet 34)) rfl rfl⟩, mWs_in (n := 44) (w := .initialized (mY 34).cls) rfl rfl, by decide, by decide, by decide +kernel⟩
set_option maxRecDepth 100000 in
theorem mMe_35 : mMeth 35 := ⟨Or.inl ⟨rfl, mWs_in (n := 464) (w := Jvm.Cond.code (mY 35) (mBy 35) (mNL 35) (mRet 35)) rfl rfl⟩, mWs_in (n := 44) (w := .initialized (mY 35).cls) rfl rfl, by decide, by decide, by decide +kernel⟩
set_option maxRecDepth 100000 in
theorem mMe_36 : mMeth 36 := ⟨Or.inl ⟨rfl, mWs_in (n := 471) (w := Jvm.Cond.code (mY 36) (mBy 36) (mNL 36) (mRet 36)) rfl rfl⟩, mWs_in (n := 44) (w := .initialized (mY 36).cls) rfl rfl, by decide, by decide, by decide +kernel⟩
set_option maxRecDepth 100000 in
theorem mMe_37 : mMeth 37 := ⟨Or.inl ⟨rfl, mWs_in (n := 484) (w := Jvm.Cond.code (mY 37) (mBy 37) (mNL 37) (mRet 37)) rfl rfl⟩, mWs_in (n := 44) (w := .initialized (mY 37).cls) rfl rfl, by decide, by decide, by decide +kernel⟩
set_option maxRecDepth 100000 in
theorem mMe_38 : mMeth 38 := ⟨Or.inl ⟨rfl, mWs_in (n := 492) (w := Jvm.Cond.code (mY 38) (mBy 38) (mNL 38) (mRet 38)) rfl rfl⟩, mWs_in (n := 44) (w := .initialized (mY 38).cls) rfl rfl, by decide, by decide, by decide +kernel⟩
set_option maxRecDepth 100000 in
theorem mMe_39 : mMeth 39 := ⟨Or.inl ⟨rfl, mWs_in (n := 69) (w := Jvm.Cond.code (mY 39) (mBy 39) (mNL 39) (mRet 39)) rfl rfl⟩, mWs_in (n := 45) (w := .initialized (mY 39).cls) rfl rfl, by decide, by decide, by decide +kernel⟩
set_option maxRecDepth 100000 in
theorem mMe_40 : mMeth 40 := ⟨Or.inl ⟨rfl, mWs_in (n := 106) (w := Jvm.Cond.code (mY 40) (mBy 40) (mNL 40) (mRet 40)) rfl rfl⟩, mWs_in (n := 45) (w := .initialized (mY 40).cls) rfl rfl, by decide, by decide, by decide +kernel⟩
set_option maxRecDepth 100000 in
theorem mMe_41 : mMeth 41 := ⟨Or.inl ⟨rfl, mWs_in (n := 114) (w := Jvm.Cond.code (mY 41) (mBy 41) (mNL 41) (mRet 41)) rfl rfl⟩, mWs_in (n := 45) (w := .initialized (mY 41).cls) rfl rfl, by decide, by decide, by decide +kernel⟩
set_option maxRecDepth 100000 in
theorem mMe_42 : mMeth 42 := ⟨Or.inl ⟨rfl, mWs_in (n := 122) (w := Jvm.Cond.code (mY 42) (mBy 42) (mNL 42) (mRet 42)) rfl rfl⟩, mWs_in (n := 45) (w := .initialized (mY 42).cls) rfl rfl, by decide, by decide, by decide +kernel⟩
set_option maxRecDepth 100000 in
theorem mMe_43 : mMeth 43 := ⟨Or.inl ⟨rfl, mWs_in (n := 137) (w := Jvm.Cond.code (mY 43) (mBy 43) (mNL 43) (mRet 43)) rfl rfl⟩, mWs_in (n := 45) (w := .initialized (mY 43).cls) rfl rfl, by decide, by decide, by decide +kernel⟩
set_option maxRecDepth 100000 in
theorem mMe_44 : mMeth 44 := ⟨Or.inl ⟨rfl, mWs_in (n := 142) (w := Jvm.Cond.code (mY 44) (mBy 44) (mNL 44) (mRet 44)) rfl rfl⟩, mWs_in (n := 45) (w := .initialized (mY 44).cls) rfl rfl, by decide, by decide, by decide +kernel⟩
set_option maxRecDepth 100000 in
theorem mMe_45 : mMeth 45 := ⟨Or.inl ⟨rfl, mWs_in (n := 166) (w := Jvm.Cond.code (mY 45) (mBy 45) (mNL 45) (mRet 45)) rfl rfl⟩, mWs_in (n := 45) (w := .initialized (mY 45).cls) rfl rfl, by decide, by decide, by decide +kernel⟩
set_option maxRecDepth 100000 in
theorem mMe_46 : mMeth 46 := ⟨Or.inl ⟨rfl, mWs_in (n := 170) (w := Jvm.Cond.code (mY 46) (mBy 46) (mNL 46) (mRet 46)) rfl rfl⟩, mWs_in (n := 45) (w := .initialized (mY 46).cls) rfl rfl, by decide, by decide, by decide +kernel⟩
set_option maxRecDepth 100000 in
theorem mMe_47 : mMeth 47 := ⟨Or.inl ⟨rfl, mWs_in (n := 338) (w := Jvm.Cond.code (mY 47) (mBy 47) (mNL 47) (mRet 47)) rfl rfl⟩, mWs_in (n := 45) (w := .initialized (mY 47).cls) rfl rfl, by decide, by decide, by decide +kernel⟩
set_option maxRecDepth 100000 in
theorem mMe_48 : mMeth 48 := ⟨Or.inl ⟨rfl, mWs_in (n := 366) (w := Jvm.Cond.code (mY 48) (mBy 48) (mNL 48) (mRet 48)) rfl rfl⟩, mWs_in (n := 45) (w := .initialized (mY 48).cls) rfl rfl, by decide, by decide, by decide +kernel⟩
set_option maxRecDepth 100000 in
theorem mMe_49 : mMeth 49 := ⟨Or.inl ⟨rfl, mWs_in (n := 497) (w := Jvm.Cond.code (mY 49) (mBy 49) (mNL 49) (mRet 49)) rfl rfl⟩, mWs_in (n := 46) (w := .initialized (mY 49).cls) rfl rfl, by decide, by decide, by decide +kernel⟩
set_option maxRecDepth 100000 in
theorem mMe_50 : mMeth 50 := ⟨Or.inl ⟨rfl, mWs_in (n := 530) (w := Jvm.Cond.code (mY 50) (mBy 50) (mNL 50) (mRet 50)) rfl rfl⟩, mWs_in (n := 46) (w := .initialized (mY 50).cls) rfl rfl, by decide, by decide, by decide +kernel⟩
set_option maxRecDepth 100000 in
theorem mMe_51 : mMeth 51 := ⟨Or.inl ⟨rfl, mWs_in (n := 534) (w := Jvm.Cond.code (mY 51) (mBy 51) (mNL 51) (mRet 51)) rfl rfl⟩, mWs_in (n := 46) (w := .initialized (mY 51).cls) rfl rfl, by decide, by decide, by decide +kernel⟩
set_option maxRecDepth 100000 in
theorem mMe_52 : mMeth 52 := ⟨Or.inl ⟨rfl, mWs_in (n := 537) (w := Jvm.Cond.code (mY 52) (mBy 52) (mNL 52) (mRet 52)) rfl rfl⟩, mWs_in (n := 46) (w := .initialized (mY 52).cls) rfl rfl, by decide, by decide, by decide +kernel⟩
set_option maxRecDepth 100000 in
theorem mMe_53 : mMeth 53 := ⟨Or.inl ⟨rfl, mWs_in (n := 541) (w := Jvm.Cond.code (mY 53) (mBy 53) (mNL 53) (mRet 53)) rfl rfl⟩, mWs_in (n := 46) (w := .initialized (mY 53).cls) rfl rfl, by decide, by decide, by decide +kernel⟩
set_option maxRecDepth 100000 in
theorem mMe_54 : mMeth 54 := ⟨Or.inl ⟨rfl, mWs_in (n := 545) (w := Jvm.Cond.code (mY 54) (mBy 54) (mNL 54) (mRet 54)) rfl rfl⟩, mWs_in (n := 46) (w := .initialized (mY 54).cls) rfl rfl, by decide, by decide, by decide +kernel⟩
set_option maxRecDepth 100000 in
theorem mMe_55 : mMeth 55 := ⟨Or.inl ⟨rfl, mWs_in (n := 549) (w := Jvm.Cond.code (mY 55) (mBy 55) (mNL 55) (mRet 55)) rfl rfl⟩, mWs_in (n := 46) (w := .initialized (mY 55).cls) rfl rfl, by decide, by decide, by decide +kernel⟩
set_option maxRecDepth 100000 in
theorem mMe_56 : mMeth 56 := ⟨Or.inl ⟨rfl, mWs_in (n := 553) (w := Jvm.Cond.code (mY 56) (mBy 56) (mNL 56) (mRet 56)) rfl rfl⟩, mWs_in (n := 46) (w := .initialized (mY 56).cls) rfl rfl, by decide, by decide, by decide +kernel⟩
set_option maxRecDepth 100000 in
theorem mMe_57 : mMeth 57 := ⟨Or.inl ⟨rfl, mWs_in (n := 557) (w := Jvm.Cond.code (mY 57) (mBy 57) (mNL 57) (mRet 57)) rfl rfl⟩, mWs_in (n := 46) (w := .initialized (mY 57).cls) rfl rfl, by decide, by decide, by decide +kernel⟩
set_option maxRecDepth 100000 in
theorem mMe_58 : mMeth 58 := ⟨Or.inl ⟨rfl, mWs_in (n := 561) (w := Jvm.Cond.code (mY 58) (mBy 58) (mNL 58) (mRet 58)) rfl rfl⟩, mWs_in (n := 46) (w := .initialized (mY 58).cls) rfl rfl, by decide, by decide, by decide +kernel⟩
set_option maxRecDepth 100000 in
theorem mMe_59 : mMeth 59 := ⟨Or.inl ⟨rfl, mWs_in (n := 565) (w := Jvm.Cond.code (mY 59) (mBy 59) (mNL 59) (mRet 59)) rfl rfl⟩, mWs_in (n := 46) (w := .initialized (mY 59).cls) rfl rfl, by decide, by decide, by decide +kernel⟩
set_option maxRecDepth 100000 in
theorem mMe_60 : mMeth 60 := ⟨Or.inl ⟨rfl, mWs_in (n := 569) (w := Jvm.Cond.code (mY 60) (mBy 60) (mNL 60) (mRet 60)) rfl rfl⟩, mWs_in (n := 46) (w := .initialized (mY 60).cls) rfl rfl, by decide, by decide, by decide +kernel⟩
set_option maxRecDepth 100000 in
theorem mMe_61 : mMeth 61 := ⟨Or.inl ⟨rfl, mWs_in (n := 573) (w := Jvm.Cond.code (mY 61) (mBy 61) (mNL 61) (mRet 61)) rfl rfl⟩, mWs_in (n := 46) (w := .initialized (mY 61).cls) rfl rfl, by decide, by decide, by decide +kernel⟩
set_option maxRecDepth 100000 in
theorem mMe_62 : mMeth 62 := ⟨Or.inl ⟨rfl, mWs_in (n := 577) (w := Jvm.Cond.code (mY 62) (mBy 62) (mNL 62) (mRet 62)) rfl rfl⟩, mWs_in (n := 46) (w := .initialized (mY 62).cls) rfl rfl, by decide, by decide, by decide +kernel⟩
set_option maxRecDepth 100000 in
theorem mMe_63 : mMeth 63 := ⟨Or.inl ⟨rfl, mWs_in (n := 581) (w := Jvm.Cond.code (mY 63) (mBy 63) (mNL 63) (mRet 63)) rfl rfl⟩, mWs_in (n := 46) (w := .initialized (mY 63).cls) rfl rfl, by decide, by decide, by decide +kernel⟩
set_option maxRecDepth 100000 in
theorem mMe_64 : mMeth 64 := ⟨Or.inl ⟨rfl, mWs_in (n := 585) (w := Jvm.Cond.code (mY 64) (mBy 64) (mNL 64) (mRet 64)) rfl rfl⟩, mWs_in (n := 46) (w := .initialized (mY 64).cls) rfl rfl, by decide, by decide, by decide +kernel⟩
set_option maxRecDepth 100000 in
theorem mMe_65 : mMeth 65 := ⟨Or.inl ⟨rfl, mWs_in (n := 589) (w := Jvm.Cond.code (mY 65) (mBy 65) (mNL 65) (mRet 65)) rfl rfl⟩, mWs_in (n := 46) (w := .initialized (mY 65).cls) rfl rfl, by decide, by decide, by decide +kernel⟩
set_option maxRecDepth 100000 in
theorem mMe_66 : mMeth 66 := ⟨Or.inl ⟨rfl, mWs_in (n := 593) (w := Jvm.Cond.code (mY 66) (mBy 66) (mNL 66) (mRet 66)) rfl rfl⟩, mWs_in (n := 46) (w := .initialized (mY 66).cls) rfl rfl, by decide, by decide, by decide +kernel⟩
set_option maxRecDepth 100000 in
theorem mMe_67 : mMeth 67 := ⟨Or.inl ⟨rfl, mWs_in (n := 597) (w := Jvm.Cond.code (mY 67) (mBy 67) (mNL 67) (mRet 67)) rfl rfl⟩, mWs_in (n := 46) (w := .initialized (mY 67).cls) rfl rfl, by decide, by decide, by decide +kernel⟩
set_option maxRecDepth 100000 in
theorem mMe_68 : mMeth 68 := ⟨Or.inl ⟨rfl, mWs_in (n := 601) (w := Jvm.Cond.code (mY 68) (mBy 68) (mNL 68) (mRet 68)) rfl rfl⟩, mWs_in (n := 46) (w := .initialized (mY 68).cls) rfl rfl, by decide, by decide, by decide +kernel⟩
set_option maxRecDepth 100000 in
theorem mMe_69 : mMeth 69 := ⟨Or.inl ⟨rfl, mWs_in (n := 605) (w := Jvm.Cond.code (mY 69) (mBy 69) (mNL 69) (mRet 69)) rfl rfl⟩, mWs_in (n := 46) (w := .initialized (mY 69).cls) rfl rfl, by decide, by decide, by decide +kernel⟩
set_option maxRecDepth 100000 in
theorem mMe_70 : mMeth 70 := ⟨Or.inl ⟨rfl, mWs_in (n := 609) (w := Jvm.Cond.code (mY 70) (mBy 70) (mNL 70) (mRet 70)) rfl rfl⟩, mWs_in (n := 46) (w := .initialized (mY 70).cls) rfl rfl, by decide, by decide, by decide +kernel⟩
set_option maxRecDepth 100000 in
theorem mMe_71 : mMeth 71 := ⟨Or.inl ⟨rfl, mWs_in (n := 613) (w := Jvm.Cond.code (mY 71) (mBy 71) (mNL 71) (mRet 71)) rfl rfl⟩, mWs_in (n := 46) (w := .initialized (mY 71).cls) rfl rfl, by decide, by decide, by decide +kernel⟩
set_option maxRecDepth 100000 in
theorem mMe_72 : mMeth 72 := ⟨Or.inl ⟨rfl, mWs_in (n := 617) (w := Jvm.Cond.code (mY 72) (mBy 72) (mNL 72) (mRet 72)) rfl rfl⟩, mWs_in (n := 46) (w := .initialized (mY 72).cls) rfl rfl, by decide, by decide, by decide +kernel⟩
set_option maxRecDepth 100000 in
theorem mMe_73 : mMeth 73 := ⟨Or.inl ⟨rfl, mWs_in (n := 621) (w := Jvm.Cond.code (mY 73) (mBy 73) (mNL 73) (mRet 73)) rfl rfl⟩, mWs_in (n := 46) (w := .initialized (mY 73).cls) rfl rfl, by decide, by decide, by decide +kernel⟩
set_option maxRecDepth 100000 in
theorem mMe_74 : mMeth 74 := ⟨Or.inl ⟨rfl, mWs_in (n := 625) (w := Jvm.Cond.code (mY 74) (mBy 74) (mNL 74) (mRet 74)) rfl rfl⟩, mWs_in (n := 46) (w := .initialized (mY 74).cls) rfl rfl, by decide, by decide, by decide +kernel⟩
set_option maxRecDepth 100000 in
theorem mMe_75 : mMeth 75 := ⟨Or.inl ⟨rfl, mWs_in (n := 629) (w := Jvm.Cond.code (mY 75) (mBy 75) (mNL 75) (mRet 75)) rfl rfl⟩, mWs_in (n := 46) (w := .initialized (mY 75).cls) rfl rfl, by decide, by decide, by decide +kernel⟩
set_option maxRecDepth 100000 in
theorem mMe_76 : mMeth 76 := ⟨Or.inl ⟨rfl, mWs_in (n := 633) (w := Jvm.Cond.code (mY 76) (mBy 76) (mNL 76) (mRet 76)) rfl rfl⟩, mWs_in (n := 46) (w := .initialized (mY 76).cls) rfl rfl, by decide, by decide, by decide +kernel⟩
set_option maxRecDepth 100000 in
theorem mMe_77 : mMeth 77 := ⟨Or.inl ⟨rfl, mWs_in (n := 637) (w := Jvm.Cond.code (mY 77) (mBy 77) (mNL 77) (mRet 77)) rfl rfl⟩, mWs_in (n := 46) (w := .initialized (mY 77).cls) rfl rfl, by decide, by decide, by decide +kernel⟩
set_option maxRecDepth 100000 in
theorem mMe_78 : mMeth 78 := ⟨Or.inl ⟨rfl, mWs_in (n := 641) (w := Jvm.Cond.code (mY 78) (mBy 78) (mNL 78) (mRet 78)) rfl rfl⟩, mWs_in (n := 46) (w := .initialized (mY 78).cls) rfl rfl, by decide, by decide, by decide +kernel⟩
set_option maxRecDepth 100000 in
theorem mMe_79 : mMeth 79 := ⟨Or.inl ⟨rfl, mWs_in (n := 645) (w := Jvm.Cond.code (mY 79) (mBy 79) (mNL 79) (mRet 79)) rfl rfl⟩, mWs_in (n := 46) (w := .initialized (mY 79).cls) rfl rfl, by decide, by decide, by decide +kernel⟩
set_option maxRecDepth 100000 in
theorem mMe_80 : mMeth 80 := ⟨Or.inl ⟨rfl, mWs_in (n := 649) (w := Jvm.Cond.code (mY 80) (mBy 80) (mNL 80) (mRet 80)) rfl rfl⟩, mWs_in (n := 46) (w := .initialized (mY 80).cls) rfl rfl, by decide, by decide, by decide +kernel⟩
set_option maxRecDepth 100000 in
theorem mMe_81 : mMeth 81 := ⟨Or.inl ⟨rfl, mWs_in (n := 653) (w := Jvm.Cond.code (mY 81) (mBy 81) (mNL 81) (mRet 81)) rfl rfl⟩, mWs_in (n := 46) (w := .initialized (mY 81).cls) rfl rfl, by decide, by decide, by decide +kernel⟩
set_option maxRecDepth 100000 in
theorem mMe_82 : mMeth 82 := ⟨Or.inl ⟨rfl, mWs_in (n := 657) (w := Jvm.Cond.code (mY 82) (mBy 82) (mNL 82) (mRet 82)) rfl rfl⟩, mWs_in (n := 46) (w := .initialized (mY 82).cls) rfl rfl, by decide, by decide, by decide +kernel⟩
set_option maxRecDepth 100000 in
theorem mMe_83 : mMeth 83 := ⟨Or.inl ⟨rfl, mWs_in (n := 661) (w := Jvm.Cond.code (mY 83) (mBy 83) (mNL 83) (mRet 83)) rfl rfl⟩, mWs_in (n := 46) (w := .initialized (mY 83).cls) rfl rfl, by decide, by decide, by decide +kernel⟩
set_option maxRecDepth 100000 in
theorem mMe_84 : mMeth 84 := ⟨Or.inl ⟨rfl, mWs_in (n := 665) (w := Jvm.Cond.code (mY 84) (mBy 84) (mNL 84) (mRet 84)) rfl rfl⟩, mWs_in (n := 46) (w := .initialized (mY 84).cls) rfl rfl, by decide, by decide, by decide +kernel⟩
set_option maxRecDepth 100000 in
theorem mMe_85 : mMeth 85 := ⟨Or.inl ⟨rfl, mWs_in (n := 669) (w := Jvm.Cond.code (mY 85) (mBy 85) (mNL 85) (mRet 85)) rfl rfl⟩, mWs_in (n := 46) (w := .initialized (mY 85).cls) rfl rfl, by decide, by decide, by decide +kernel⟩
set_option maxRecDepth 100000 in
theorem mMe_86 : mMeth 86 := ⟨Or.inl ⟨rfl, mWs_in (n := 673) (w := Jvm.Cond.code (mY 86) (mBy 86) (mNL 86) (mRet 86)) rfl rfl⟩, mWs_in (n := 46) (w := .initialized (mY 86).cls) rfl rfl, by decide, by decide, by decide +kernel⟩
set_option maxRecDepth 100000 in
theorem mMe_87 : mMeth 87 := ⟨Or.inl ⟨rfl, mWs_in (n := 677) (w := Jvm.Cond.code (mY 87) (mBy 87) (mNL 87) (mRet 87)) rfl rfl⟩, mWs_in (n := 46) (w := .initialized (mY 87).cls) rfl rfl, by decide, by decide, by decide +kernel⟩
set_option maxRecDepth 100000 in
theorem mMe_88 : mMeth 88 := ⟨Or.inr ⟨by decide, mWs_in (n := 256) (w := Jvm.Cond.codeWith (mY 88) (mBy 88) (mNL 88) (mRet 88) (mHH 88)) rfl rfl⟩, mWs_in (n := 43) (w := .initialized (mY 88).cls) rfl rfl, by decide, by decide, by decide +kernel⟩
set_option maxRecDepth 100000 in
theorem mMe_89 : mMeth 89 := ⟨Or.inr ⟨by decide, mWs_in (n := 373) (w := Jvm.Cond.codeWith (mY 89) (mBy 89) (mNL 89) (mRet 89) (mHH 89)) rfl rfl⟩, mWs_in (n := 43) (w := .initialized (mY 89).cls) rfl rfl, by decide, by decide, by decide +kernel⟩
set_option maxRecDepth 100000 in
theorem mMe_90 : mMeth 90 := ⟨Or.inr ⟨by decide, mWs_in (n := 390) (w := Jvm.Cond.codeWith (mY 90) (mBy 90) (mNL 90) (mRet 90) (mHH 90)) rfl rfl⟩, mWs_in (n := 43) (w := .initialized (mY 90).cls) rfl rfl, by decide, by decide, by decide +kernel⟩
set_option maxRecDepth 100000 in
theorem mMe_91 : mMeth 91 := ⟨Or.inr ⟨by decide, mWs_in (n := 400) (w := Jvm.Cond.codeWith (mY 91) (mBy 91) (mNL 91) (mRet 91) (mHH 91)) rfl rfl⟩, mWs_in (n := 43) (w := .initialized (mY 91).cls) rfl rfl, by decide, by decide, by decide +kernel⟩
set_option maxRecDepth 100000 in
theorem mMe_92 : mMeth 92 := ⟨Or.inr ⟨by decide, mWs_in (n := 420) (w := Jvm.Cond.codeWith (mY 92) (mBy 92) (mNL 92) (mRet 92) (mHH 92)) rfl rfl⟩, mWs_in (n := 43) (w := .initialized (mY 92).cls) rfl rfl, by decide, by decide, by decide +kernel⟩
set_option maxRecDepth 100000 in
theorem mMe_93 : mMeth 93 := ⟨Or.inr ⟨by decide, mWs_in (n := 448) (w := Jvm.Cond.codeWith (mY 93) (mBy 93) (mNL 93) (mRet 93) (mHH 93)) rfl rfl⟩, mWs_in (n := 43) (w := .initialized (mY 93).cls) rfl rfl, by decide, by decide, by decide +kernel⟩
set_option maxRecDepth 100000 in
theorem mMe_94 : mMeth 94 := ⟨Or.inr ⟨by decide, mWs_in (n := 455) (w := Jvm.Cond.codeWith (mY 94) (mBy 94) (mNL 94) (mRet 94) (mHH 94)) rfl rfl⟩, mWs_in (n := 43) (w := .initialized (mY 94).cls) rfl rfl, by decide, by decide, by decide +kernel⟩
set_option maxRecDepth 100000 in
theorem mMe_95 : mMeth 95 := ⟨Or.inr ⟨by decide, mWs_in (n := 467) (w := Jvm.Cond.codeWith (mY 95) (mBy 95) (mNL 95) (mRet 95) (mHH 95)) rfl rfl⟩, mWs_in (n := 43) (w := .initialized (mY 95).cls) rfl rfl, by decide, by decide, by decide +kernel⟩
set_option maxRecDepth 100000 in
theorem mMe_96 : mMeth 96 := ⟨Or.inr ⟨by decide, mWs_in (n := 480) (w := Jvm.Cond.codeWith (mY 96) (mBy 96) (mNL 96) (mRet 96) (mHH 96)) rfl rfl⟩, mWs_in (n := 43) (w := .initialized (mY 96).cls) rfl rfl, by decide, by decide, by decide +kernel⟩
set_option maxRecDepth 100000 in
theorem mMe_97 : mMeth 97 := ⟨Or.inr ⟨by decide, mWs_in (n := 488) (w := Jvm.Cond.codeWith (mY 97) (mBy 97) (mNL 97) (mRet 97) (mHH 97)) rfl rfl⟩, mWs_in (n := 43) (w := .initialized (mY 97).cls) rfl rfl, by decide, by decide, by decide +kernel⟩
set_option maxRecDepth 100000 in
theorem mMe_98 : mMeth 98 := ⟨Or.inl ⟨rfl, mWs_in (n := 474) (w := Jvm.Cond.code (mY 98) (mBy 98) (mNL 98) (mRet 98)) rfl rfl⟩, mWs_in (n := 56) (w := .initialized (mY 98).cls) rfl rfl, by decide, by decide, by decide +kernel⟩
theorem mMeths : ∀ k, k < 99 → mMeth k
  | 0, _ => mMe_0
  | 1, _ => mMe_1
  | 2, _ => mMe_2
  | 3, _ => mMe_3
  | 4, _ => mMe_4
  | 5, _ => mMe_5
  | 6, _ => mMe_6
  | 7, _ => mMe_7
  | 8, _ => mMe_8
  | 9, _ => mMe_9
  | 10, _ => mMe_10
  | 11, _ => mMe_11
  | 12, _ => mMe_12
  | 13, _ => mMe_13
  | 14, _ => mMe_14
  | 15, _ => mMe_15
  | 16, _ => mMe_16
  | 17, _ => mMe_17
  | 18, _ => mMe_18
  | 19, _ => mMe_19
  | 20, _ => mMe_20
  | 21, _ => mMe_21
  | 22, _ => mMe_22
  | 23, _ => mMe_23
  | 24, _ => mMe_24
  | 25, _ => mMe_25
  | 26, _ => mMe_26
  | 27, _ => mMe_27
  | 28, _ => mMe_28
  | 29, _ => mMe_29
  | 30, _ => mMe_30
  | 31, _ => mMe_31
  | 32, _ => mMe_32
  | 33, _ => mMe_33
  | 34, _ => mMe_34
  | 35, _ => mMe_35
  | 36, _ => mMe_36
  | 37, _ => mMe_37
  | 38, _ => mMe_38
  | 39, _ => mMe_39
  | 40, _ => mMe_40
  | 41, _ => mMe_41
  | 42, _ => mMe_42
  | 43, _ => mMe_43
  | 44, _ => mMe_44
  | 45, _ => mMe_45
  | 46, _ => mMe_46
  | 47, _ => mMe_47
  | 48, _ => mMe_48
  | 49, _ => mMe_49
  | 50, _ => mMe_50
  | 51, _ => mMe_51
  | 52, _ => mMe_52
  | 53, _ => mMe_53
  | 54, _ => mMe_54
  | 55, _ => mMe_55
  | 56, _ => mMe_56
  | 57, _ => mMe_57
  | 58, _ => mMe_58
  | 59, _ => mMe_59
  | 60, _ => mMe_60
  | 61, _ => mMe_61
  | 62, _ => mMe_62
  | 63, _ => mMe_63
  | 64, _ => mMe_64
  | 65, _ => mMe_65
  | 66, _ => mMe_66
  | 67, _ => mMe_67
  | 68, _ => mMe_68
  | 69, _ => mMe_69
  | 70, _ => mMe_70
  | 71, _ => mMe_71
  | 72, _ => mMe_72
  | 73, _ => mMe_73
  | 74, _ => mMe_74
  | 75, _ => mMe_75
  | 76, _ => mMe_76
  | 77, _ => mMe_77
  | 78, _ => mMe_78
  | 79, _ => mMe_79
  | 80, _ => mMe_80
  | 81, _ => mMe_81
  | 82, _ => mMe_82
  | 83, _ => mMe_83
  | 84, _ => mMe_84
  | 85, _ => mMe_85
  | 86, _ => mMe_86
  | 87, _ => mMe_87
  | 88, _ => mMe_88
  | 89, _ => mMe_89
  | 90, _ => mMe_90
  | 91, _ => mMe_91
  | 92, _ => mMe_92
  | 93, _ => mMe_93
  | 94, _ => mMe_94
  | 95, _ => mMe_95
  | 96, _ => mMe_96
  | 97, _ => mMe_97
  | 98, _ => mMe_98
  | k + 99, h => absurd h (by omega)
