set_option maxRecDepth 100000 in
theorem mck_46 : mChkL 46 mc_46 = true := by decide +kernel
set_option maxRecDepth 100000 in
theorem mck_47 : mChkL 47 mc_47 = true := by decide +kernel
set_option maxRecDepth 100000 in
theorem mck_48 : mChkL 48 mc_48 = true := by decide +kernel
set_option maxRecDepth 100000 in
theorem mck_49_0 : mChkL 49 mc_49_0 = true := by decide +kernel
set_option maxRecDepth 100000 in
theorem mck_49_1 : mChkL 49 mc_49_1 = true := by decide +kernel
set_option maxRecDepth 100000 in
theorem mck_49_2 : mChkL 49 mc_49_2 = true := by decide +kernel
set_option maxRecDepth 100000 in
theorem mck_49_3 : mChkL 49 mc_49_3 = true := by decide +kernel
