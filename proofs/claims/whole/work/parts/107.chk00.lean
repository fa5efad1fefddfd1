set_option maxRecDepth 100000 in
theorem mck_0 : mChkL 0 mc_0 = true := by decide +kernel
set_option maxRecDepth 100000 in
theorem mck_1 : mChkL 1 mc_1 = true := by decide +kernel
set_option maxRecDepth 100000 in
theorem mck_2 : mChkL 2 mc_2 = true := by decide +kernel
set_option maxRecDepth 100000 in
theorem mck_3 : mChkL 3 mc_3 = true := by decide +kernel
set_option maxRecDepth 100000 in
theorem mck_4 : mChkL 4 mc_4 = true := by decide +kernel
set_option maxRecDepth 100000 in
theorem mck_5 : mChkL 5 mc_5 = true := by decide +kernel
set_option maxRecDepth 100000 in
theorem mck_6 : mChkL 6 mc_6 = true := by decide +kernel
set_option maxRecDepth 100000 in
theorem mck_7 : mChkL 7 mc_7 = true := by decide +kernel
set_option maxRecDepth 100000 in
theorem mck_8 : mChkL 8 mc_8 = true := by decide +kernel
set_option maxRecDepth 100000 in
theorem mck_9 : mChkL 9 mc_9 = true := by decide +kernel
set_option maxRecDepth 100000 in
theorem mck_10 : mChkL 10 mc_10 = true := by decide +kernel
set_option maxRecDepth 100000 in
theorem mck_11 : mChkL 11 mc_11 = true := by decide +kernel
set_option maxRecDepth 100000 in
theorem mck_12 : mChkL 12 mc_12 = true := by decide +kernel
set_option maxRecDepth 100000 in
theorem mck_13 : mChkL 13 mc_13 = true := by decide +kernel
set_option maxRecDepth 100000 in
theorem mck_14 : mChkL 14 mc_14 = true := by decide +kernel
