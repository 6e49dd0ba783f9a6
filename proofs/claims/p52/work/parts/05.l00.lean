/-! ===== the law's table holds ===== -/
set_option maxRecDepth 100000 in
theorem am_ok_129_0 : am_okR 129 0 100 = true := by decide +kernel
set_option maxRecDepth 100000 in
theorem am_ok_129_1 : am_okR 129 100 100 = true := by decide +kernel
set_option maxRecDepth 100000 in
theorem am_ok_129_2 : am_okR 129 200 100 = true := by decide +kernel
set_option maxRecDepth 100000 in
theorem am_ok_129_3 : am_okR 129 300 100 = true := by decide +kernel
set_option maxRecDepth 100000 in
theorem am_ok_129_4 : am_okR 129 400 100 = true := by decide +kernel
set_option maxRecDepth 100000 in
theorem am_ok_129_5 : am_okR 129 500 100 = true := by decide +kernel
set_option maxRecDepth 100000 in
theorem am_ok_129_6 : am_okR 129 600 100 = true := by decide +kernel
set_option maxRecDepth 100000 in
theorem am_ok_129_7 : am_okR 129 700 100 = true := by decide +kernel
set_option maxRecDepth 100000 in
theorem am_ok_129_8 : am_okR 129 800 100 = true := by decide +kernel
set_option maxRecDepth 100000 in
theorem am_ok_129_9 : am_okR 129 900 3 = true := by decide +kernel
theorem am_ok_129 : am_okM 129 := am_chk (lo := 900) (n := 3) (am_chk (lo := 800) (n := 100) (am_chk (lo := 700) (n := 100) (am_chk (lo := 600) (n := 100) (am_chk (lo := 500) (n := 100) (am_chk (lo := 400) (n := 100) (am_chk (lo := 300) (n := 100) (am_chk (lo := 200) (n := 100) (am_chk (lo := 100) (n := 100) (am_chk (lo := 0) (n := 100) (am_ch0) am_ok_129_0) am_ok_129_1) am_ok_129_2) am_ok_129_3) am_ok_129_4) am_ok_129_5) am_ok_129_6) am_ok_129_7) am_ok_129_8) am_ok_129_9
