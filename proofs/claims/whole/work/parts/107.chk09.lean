set_option maxRecDepth 100000 in
theorem mck_76_2 : mChkL 76 mc_76_2 = true := by decide +kernel
theorem mck_76 : mChkL 76 mc_76 = true := (mChkL_app mck_76_0 (mChkL_app mck_76_1 mck_76_2))
set_option maxRecDepth 100000 in
theorem mck_77 : mChkL 77 mc_77 = true := by decide +kernel
set_option maxRecDepth 100000 in
theorem mck_78 : mChkL 78 mc_78 = true := by decide +kernel
set_option maxRecDepth 100000 in
theorem mck_79 : mChkL 79 mc_79 = true := by decide +kernel
set_option maxRecDepth 100000 in
theorem mck_80 : mChkL 80 mc_80 = true := by decide +kernel
set_option maxRecDepth 100000 in
theorem mck_81 : mChkL 81 mc_81 = true := by decide +kernel
set_option maxRecDepth 100000 in
theorem mck_82 : mChkL 82 mc_82 = true := by decide +kernel
