theorem mck_49 : mChkL 49 mc_49 = true := (mChkL_app mck_49_0 (mChkL_app mck_49_1 (mChkL_app mck_49_2 mck_49_3)))
set_option maxRecDepth 100000 in
theorem mck_50 : mChkL 50 mc_50 = true := by decide +kernel
set_option maxRecDepth 100000 in
theorem mck_51_0 : mChkL 51 mc_51_0 = true := by decide +kernel
set_option maxRecDepth 100000 in
theorem mck_51_1 : mChkL 51 mc_51_1 = true := by decide +kernel
set_option maxRecDepth 100000 in
theorem mck_51_2 : mChkL 51 mc_51_2 = true := by decide +kernel
theorem mck_51 : mChkL 51 mc_51 = true := (mChkL_app mck_51_0 (mChkL_app mck_51_1 mck_51_2))
set_option maxRecDepth 100000 in
theorem mck_52 : mChkL 52 mc_52 = true := by decide +kernel
set_option maxRecDepth 100000 in
theorem mck_53 : mChkL 53 mc_53 = true := by decide +kernel
set_option maxRecDepth 100000 in
theorem mck_54 : mChkL 54 mc_54 = true := by decide +kernel
set_option maxRecDepth 100000 in
theorem mck_55 : mChkL 55 mc_55 = true := by decide +kernel
