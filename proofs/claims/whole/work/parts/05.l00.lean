/-! ===== the law's table holds ===== -/
set_option maxRecDepth 100000 in
theorem am_ok_252_0 : am_okR 252 0 100 = true := by decide +kernel
set_option maxRecDepth 100000 in
theorem am_ok_252_1 : am_okR 252 100 100 = true := by decide +kernel
set_option maxRecDepth 100000 in
theorem am_ok_252_2 : am_okR 252 200 100 = true := by decide +kernel
set_option maxRecDepth 100000 in
theorem am_ok_252_3 : am_okR 252 300 100 = true := by decide +kernel
set_option maxRecDepth 100000 in
theorem am_ok_252_4 : am_okR 252 400 100 = true := by decide +kernel
set_option maxRecDepth 100000 in
theorem am_ok_252_5 : am_okR 252 500 100 = true := by decide +kernel
set_option maxRecDepth 100000 in
theorem am_ok_252_6 : am_okR 252 600 100 = true := by decide +kernel
set_option maxRecDepth 100000 in
theorem am_ok_252_7 : am_okR 252 700 100 = true := by decide +kernel
set_option maxRecDepth 100000 in
theorem am_ok_252_8 : am_okR 252 800 100 = true := by decide +kernel
set_option maxRecDepth 100000 in
theorem am_ok_252_9 : am_okR 252 900 100 = true := by decide +kernel
set_option maxRecDepth 100000 in
theorem am_ok_252_10 : am_okR 252 1000 100 = true := by decide +kernel
set_option maxRecDepth 100000 in
theorem am_ok_252_11 : am_okR 252 1100 100 = true := by decide +kernel
set_option maxRecDepth 100000 in
theorem am_ok_252_12 : am_okR 252 1200 100 = true := by decide +kernel
set_option maxRecDepth 100000 in
theorem am_ok_252_13 : am_okR 252 1300 100 = true := by decide +kernel
set_option maxRecDepth 100000 in
theorem am_ok_252_14 : am_okR 252 1400 100 = true := by decide +kernel
set_option maxRecDepth 100000 in
theorem am_ok_252_15 : am_okR 252 1500 100 = true := by decide +kernel
set_option maxRecDepth 100000 in
theorem am_ok_252_16 : am_okR 252 1600 100 = true := by decide +kernel
set_option maxRecDepth 100000 in
theorem am_ok_252_17 : am_okR 252 1700 24 = true := by decide +kernel
theorem am_ok_252 : am_okM 252 := am_chk (lo := 1700) (n := 24) (am_chk (lo := 1600) (n := 100) (am_chk (lo := 1500) (n := 100) (am_chk (lo := 1400) (n := 100) (am_chk (lo := 1300) (n := 100) (am_chk (lo := 1200) (n := 100) (am_chk (lo := 1100) (n := 100) (am_chk (lo := 1000) (n := 100) (am_chk (lo := 900) (n := 100) (am_chk (lo := 800) (n := 100) (am_chk (lo := 700) (n := 100) (am_chk (lo := 600) (n := 100) (am_chk (lo := 500) (n := 100) (am_chk (lo := 400) (n := 100) (am_chk (lo := 300) (n := 100) (am_chk (lo := 200) (n := 100) (am_chk (lo := 100) (n := 100) (am_chk (lo := 0) (n := 100) (am_ch0) am_ok_252_0) am_ok_252_1) am_ok_252_2) am_ok_252_3) am_ok_252_4) am_ok_252_5) am_ok_252_6) am_ok_252_7) am_ok_252_8) am_ok_252_9) am_ok_252_10) am_ok_252_11) am_ok_252_12) am_ok_252_13) am_ok_252_14) am_ok_252_15) am_ok_252_16) am_ok_252_17
