set_option maxRecDepth 100000 in
theorem mck_99_7 : mChkL 99 mc_99_7 = true := by decide +kernel
set_option maxRecDepth 100000 in
theorem mck_99_8 : mChkL 99 mc_99_8 = true := by decide +kernel
set_option maxRecDepth 100000 in
theorem mck_99_9 : mChkL 99 mc_99_9 = true := by decide +kernel
set_option maxRecDepth 100000 in
theorem mck_99_10 : mChkL 99 mc_99_10 = true := by decide +kernel
theorem mck_99 : mChkL 99 mc_99 = true := (mChkL_app mck_99_0 (mChkL_app mck_99_1 (mChkL_app mck_99_2 (mChkL_app mck_99_3 (mChkL_app mck_99_4 (mChkL_app mck_99_5 (mChkL_app mck_99_6 (mChkL_app mck_99_7 (mChkL_app mck_99_8 (mChkL_app mck_99_9 mck_99_10))))))))))
