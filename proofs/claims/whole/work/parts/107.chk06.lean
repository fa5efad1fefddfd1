set_option maxRecDepth 100000 in
theorem mck_56 : mChkL 56 mc_56 = true := by decide +kernel
set_option maxRecDepth 100000 in
theorem mck_57 : mChkL 57 mc_57 = true := by decide +kernel
set_option maxRecDepth 100000 in
theorem mck_58 : mChkL 58 mc_58 = true := by decide +kernel
set_option maxRecDepth 100000 in
theorem mck_59 : mChkL 59 mc_59 = true := by decide +kernel
set_option maxRecDepth 100000 in
theorem mck_60 : mChkL 60 mc_60 = true := by decide +kernel
set_option maxRecDepth 100000 in
theorem mck_61 : mChkL 61 mc_61 = true := by decide +kernel
set_option maxRecDepth 100000 in
theorem mck_62 : mChkL 62 mc_62 = true := by decide +kernel
set_option maxRecDepth 100000 in
theorem mck_63 : mChkL 63 mc_63 = true := by decide +kernel
set_option maxRecDepth 100000 in
theorem mck_64 : mChkL 64 mc_64 = true := by decide +kernel
set_option maxRecDepth 100000 in
theorem mck_65 : mChkL 65 mc_65 = true := by decide +kernel
