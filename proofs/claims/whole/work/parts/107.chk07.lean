set_option maxRecDepth 100000 in
theorem mck_66 : mChkL 66 mc_66 = true := by decide +kernel
set_option maxRecDepth 100000 in
theorem mck_67 : mChkL 67 mc_67 = true := by decide +kernel
set_option maxRecDepth 100000 in
theorem mck_68 : mChkL 68 mc_68 = true := by decide +kernel
set_option maxRecDepth 100000 in
theorem mck_69 : mChkL 69 mc_69 = true := by decide +kernel
set_option maxRecDepth 100000 in
theorem mck_70_0 : mChkL 70 mc_70_0 = true := by decide +kernel
set_option maxRecDepth 100000 in
theorem mck_70_1 : mChkL 70 mc_70_1 = true := by decide +kernel
set_option maxRecDepth 100000 in
theorem mck_70_2 : mChkL 70 mc_70_2 = true := by decide +kernel
