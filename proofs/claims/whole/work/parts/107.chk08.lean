theorem mck_70 : mChkL 70 mc_70 = true := (mChkL_app mck_70_0 (mChkL_app mck_70_1 mck_70_2))
set_option maxRecDepth 100000 in
theorem mck_71 : mChkL 71 mc_71 = true := by decide +kernel
set_option maxRecDepth 100000 in
theorem mck_72 : mChkL 72 mc_72 = true := by decide +kernel
set_option maxRecDepth 100000 in
theorem mck_73 : mChkL 73 mc_73 = true := by decide +kernel
set_option maxRecDepth 100000 in
theorem mck_74 : mChkL 74 mc_74 = true := by decide +kernel
set_option maxRecDepth 100000 in
theorem mck_75 : mChkL 75 mc_75 = true := by decide +kernel
set_option maxRecDepth 100000 in
theorem mck_76_0 : mChkL 76 mc_76_0 = true := by decide +kernel
set_option maxRecDepth 100000 in
theorem mck_76_1 : mChkL 76 mc_76_1 = true := by decide +kernel
