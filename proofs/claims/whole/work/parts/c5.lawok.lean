set_option maxRecDepth 100000 in
theorem lc_0_ok : lc_0.all (mm_okI code 7 p_law) = true := by decide +kernel
set_option maxRecDepth 100000 in
theorem lc_1_ok : lc_1.all (mm_okI code 7 p_law) = true := by decide +kernel
set_option maxRecDepth 100000 in
theorem lc_2_ok : lc_2.all (mm_okI code 7 p_law) = true := by decide +kernel
set_option maxRecDepth 100000 in
theorem lc_3_ok : lc_3.all (mm_okI code 7 p_law) = true := by decide +kernel
set_option maxRecDepth 100000 in
theorem lc_4_ok : lc_4.all (mm_okI code 7 p_law) = true := by decide +kernel
set_option maxRecDepth 100000 in
theorem lc_5_ok : lc_5.all (mm_okI code 7 p_law) = true := by decide +kernel
set_option maxRecDepth 100000 in
theorem lc_6_ok : lc_6.all (mm_okI code 7 p_law) = true := by decide +kernel
set_option maxRecDepth 100000 in
theorem lc_7_ok : lc_7.all (mm_okI code 7 p_law) = true := by decide +kernel
set_option maxRecDepth 100000 in
theorem lc_8_ok : lc_8.all (mm_okI code 7 p_law) = true := by decide +kernel
set_option maxRecDepth 100000 in
theorem lc_9_ok : lc_9.all (mm_okI code 7 p_law) = true := by decide +kernel
set_option maxRecDepth 100000 in
theorem lc_10_ok : lc_10.all (mm_okI code 7 p_law) = true := by decide +kernel
