set_option maxRecDepth 100000 in
theorem mck_33 : mChkL 33 mc_33 = true := by decide +kernel
set_option maxRecDepth 100000 in
theorem mck_34 : mChkL 34 mc_34 = true := by decide +kernel
set_option maxRecDepth 100000 in
theorem mck_35 : mChkL 35 mc_35 = true := by decide +kernel
set_option maxRecDepth 100000 in
theorem mck_36 : mChkL 36 mc_36 = true := by decide +kernel
set_option maxRecDepth 100000 in
theorem mck_37 : mChkL 37 mc_37 = true := by decide +kernel
set_option maxRecDepth 100000 in
theorem mck_38 : mChkL 38 mc_38 = true := by decide +kernel
set_option maxRecDepth 100000 in
theorem mck_39 : mChkL 39 mc_39 = true := by decide +kernel
set_option maxRecDepth 100000 in
theorem mck_40 : mChkL 40 mc_40 = true := by decide +kernel
set_option maxRecDepth 100000 in
theorem mck_41 : mChkL 41 mc_41 = true := by decide +kernel
set_option maxRecDepth 100000 in
theorem mck_42 : mChkL 42 mc_42 = true := by decide +kernel
set_option maxRecDepth 100000 in
theorem mck_43 : mChkL 43 mc_43 = true := by decide +kernel
set_option maxRecDepth 100000 in
theorem mck_44 : mChkL 44 mc_44 = true := by decide +kernel
set_option maxRecDepth 100000 in
theorem mck_45 : mChkL 45 mc_45 = true := by decide +kernel
