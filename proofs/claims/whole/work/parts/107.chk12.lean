set_option maxRecDepth 100000 in
theorem mck_99_1 : mChkL 99 mc_99_1 = true := by decide +kernel
set_option maxRecDepth 100000 in
theorem mck_99_2 : mChkL 99 mc_99_2 = true := by decide +kernel
set_option maxRecDepth 100000 in
theorem mck_99_3 : mChkL 99 mc_99_3 = true := by decide +kernel
set_option maxRecDepth 100000 in
theorem mck_99_4 : mChkL 99 mc_99_4 = true := by decide +kernel
set_option maxRecDepth 100000 in
theorem mck_99_5 : mChkL 99 mc_99_5 = true := by decide +kernel
set_option maxRecDepth 100000 in
theorem mck_99_6 : mChkL 99 mc_99_6 = true := by decide +kernel
