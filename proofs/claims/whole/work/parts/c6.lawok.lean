set_option maxRecDepth 100000 in
theorem lc_11_ok : lc_11.all (mm_okI code 7 p_law) = true := by decide +kernel
set_option maxRecDepth 100000 in
theorem lc_12_ok : lc_12.all (mm_okI code 7 p_law) = true := by decide +kernel
set_option maxRecDepth 100000 in
theorem lc_13_ok : lc_13.all (mm_okI code 7 p_law) = true := by decide +kernel
set_option maxRecDepth 100000 in
theorem lc_14_ok : lc_14.all (mm_okI code 7 p_law) = true := by decide +kernel
set_option maxRecDepth 100000 in
theorem lc_15_ok : lc_15.all (mm_okI code 7 p_law) = true := by decide +kernel
set_option maxRecDepth 100000 in
theorem lc_16_ok : lc_16.all (mm_okI code 7 p_law) = true := by decide +kernel
set_option maxRecDepth 100000 in
theorem lc_17_ok : lc_17.all (mm_okI code 7 p_law) = true := by decide +kernel
set_option maxRecDepth 100000 in
theorem lc_18_ok : lc_18.all (mm_okI code 7 p_law) = true := by decide +kernel
set_option maxRecDepth 100000 in
theorem lc_19_ok : lc_19.all (mm_okI code 7 p_law) = true := by decide +kernel
set_option maxRecDepth 100000 in
theorem lc_20_ok : lc_20.all (mm_okI code 7 p_law) = true := by decide +kernel
set_option maxRecDepth 100000 in
theorem lc_21_ok : lc_21.all (mm_okI code 7 p_law) = true := by decide +kernel
