set_option maxRecDepth 100000 in
theorem mck_83 : mChkL 83 mc_83 = true := by decide +kernel
set_option maxRecDepth 100000 in
theorem mck_84 : mChkL 84 mc_84 = true := by decide +kernel
set_option maxRecDepth 100000 in
theorem mck_85 : mChkL 85 mc_85 = true := by decide +kernel
set_option maxRecDepth 100000 in
theorem mck_86 : mChkL 86 mc_86 = true := by decide +kernel
set_option maxRecDepth 100000 in
theorem mck_87 : mChkL 87 mc_87 = true := by decide +kernel
set_option maxRecDepth 100000 in
theorem mck_88 : mChkL 88 mc_88 = true := by decide +kernel
set_option maxRecDepth 100000 in
theorem mck_89 : mChkL 89 mc_89 = true := by decide +kernel
