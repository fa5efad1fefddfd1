set_option maxRecDepth 100000 in
theorem mck_24 : mChkL 24 mc_24 = true := by decide +kernel
set_option maxRecDepth 100000 in
theorem mck_25 : mChkL 25 mc_25 = true := by decide +kernel
set_option maxRecDepth 100000 in
theorem mck_26 : mChkL 26 mc_26 = true := by decide +kernel
set_option maxRecDepth 100000 in
theorem mck_27 : mChkL 27 mc_27 = true := by decide +kernel
set_option maxRecDepth 100000 in
theorem mck_28 : mChkL 28 mc_28 = true := by decide +kernel
set_option maxRecDepth 100000 in
theorem mck_29 : mChkL 29 mc_29 = true := by decide +kernel
set_option maxRecDepth 100000 in
theorem mck_30 : mChkL 30 mc_30 = true := by decide +kernel
set_option maxRecDepth 100000 in
theorem mck_31 : mChkL 31 mc_31 = true := by decide +kernel
set_option maxRecDepth 100000 in
theorem mck_32 : mChkL 32 mc_32 = true := by decide +kernel
