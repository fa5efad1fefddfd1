set_option maxRecDepth 100000 in
theorem mck_90 : mChkL 90 mc_90 = true := by decide +kernel
set_option maxRecDepth 100000 in
theorem mck_91 : mChkL 91 mc_91 = true := by decide +kernel
set_option maxRecDepth 100000 in
theorem mck_92 : mChkL 92 mc_92 = true := by decide +kernel
set_option maxRecDepth 100000 in
theorem mck_93 : mChkL 93 mc_93 = true := by decide +kernel
set_option maxRecDepth 100000 in
theorem mck_94 : mChkL 94 mc_94 = true := by decide +kernel
set_option maxRecDepth 100000 in
theorem mck_95 : mChkL 95 mc_95 = true := by decide +kernel
set_option maxRecDepth 100000 in
theorem mck_96 : mChkL 96 mc_96 = true := by decide +kernel
set_option maxRecDepth 100000 in
theorem mck_97 : mChkL 97 mc_97 = true := by decide +kernel
set_option maxRecDepth 100000 in
theorem mck_98 : mChkL 98 mc_98 = true := by decide +kernel
set_option maxRecDepth 100000 in
theorem mck_99_0 : mChkL 99 mc_99_0 = true := by decide +kernel
