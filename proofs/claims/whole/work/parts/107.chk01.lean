set_option maxRecDepth 100000 in
theorem mck_15 : mChkL 15 mc_15 = true := by decide +kernel
set_option maxRecDepth 100000 in
theorem mck_16 : mChkL 16 mc_16 = true := by decide +kernel
set_option maxRecDepth 100000 in
theorem mck_17 : mChkL 17 mc_17 = true := by decide +kernel
set_option maxRecDepth 100000 in
theorem mck_18 : mChkL 18 mc_18 = true := by decide +kernel
set_option maxRecDepth 100000 in
theorem mck_19 : mChkL 19 mc_19 = true := by decide +kernel
set_option maxRecDepth 100000 in
theorem mck_20 : mChkL 20 mc_20 = true := by decide +kernel
set_option maxRecDepth 100000 in
theorem mck_21 : mChkL 21 mc_21 = true := by decide +kernel
set_option maxRecDepth 100000 in
theorem mck_22 : mChkL 22 mc_22 = true := by decide +kernel
set_option maxRecDepth 100000 in
theorem mck_23 : mChkL 23 mc_23 = true := by decide +kernel
