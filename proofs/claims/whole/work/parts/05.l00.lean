/-! ===== the law's table holds ===== -/
set_option maxRecDepth 100000 in
theorem am_ok_242_0 : am_okR 242 0 100 = true := by decide +kernel
set_option maxRecDepth 100000 in
theorem am_ok_242_1 : am_okR 242 100 100 = true := by decide +kernel
set_option maxRecDepth 100000 in
theorem am_ok_242_2 : am_okR 242 200 100 = true := by decide +kernel
set_option maxRecDepth 100000 in
theorem am_ok_242_3 : am_okR 242 300 100 = true := by decide +kernel
set_option maxRecDepth 100000 in
theorem am_ok_242_4 : am_okR 242 400 100 = true := by decide +kernel
set_option maxRecDepth 100000 in
theorem am_ok_242_5 : am_okR 242 500 100 = true := by decide +kernel
set_option maxRecDepth 100000 in
theorem am_ok_242_6 : am_okR 242 600 100 = true := by decide +kernel
set_option maxRecDepth 100000 in
theorem am_ok_242_7 : am_okR 242 700 100 = true := by decide +kernel
set_option maxRecDepth 100000 in
theorem am_ok_242_8 : am_okR 242 800 100 = true := by decide +kernel
set_option maxRecDepth 100000 in
theorem am_ok_242_9 : am_okR 242 900 100 = true := by decide +kernel
set_option maxRecDepth 100000 in
theorem am_ok_242_10 : am_okR 242 1000 100 = true := by decide +kernel
set_option maxRecDepth 100000 in
theorem am_ok_242_11 : am_okR 242 1100 100 = true := by decide +kernel
set_option maxRecDepth 100000 in
theorem am_ok_242_12 : am_okR 242 1200 100 = true := by decide +kernel
set_option maxRecDepth 100000 in
theorem am_ok_242_13 : am_okR 242 1300 100 = true := by decide +kernel
set_option maxRecDepth 100000 in
theorem am_ok_242_14 : am_okR 242 1400 100 = true := by decide +kernel
set_option maxRecDepth 100000 in
theorem am_ok_242_15 : am_okR 242 1500 100 = true := by decide +kernel
set_option maxRecDepth 100000 in
theorem am_ok_242_16 : am_okR 242 1600 100 = true := by decide +kernel
set_option maxRecDepth 100000 in
theorem am_ok_242_17 : am_okR 242 1700 24 = true := by decide +kernel
theorem am_ok_242 : am_okM 242 := am_chk (lo := 1700) (n := 24) (am_chk (lo := 1600) (n := 100) (am_chk (lo := 1500) (n := 100) (am_chk (lo := 1400) (n := 100) (am_chk (lo := 1300) (n := 100) (am_chk (lo := 1200) (n := 100) (am_chk (lo := 1100) (n := 100) (am_chk (lo := 1000) (n := 100) (am_chk (lo := 900) (n := 100) (am_chk (lo := 800) (n := 100) (am_chk (lo := 700) (n := 100) (am_chk (lo := 600) (n := 100) (am_chk (lo := 500) (n := 100) (am_chk (lo := 400) (n := 100) (am_chk (lo := 300) (n := 100) (am_chk (lo := 200) (n := 100) (am_chk (lo := 100) (n := 100) (am_chk (lo := 0) (n := 100) (am_ch0) am_ok_242_0) am_ok_242_1) am_ok_242_2) am_ok_242_3) am_ok_242_4) am_ok_242_5) am_ok_242_6) am_ok_242_7) am_ok_242_8) am_ok_242_9) am_ok_242_10) am_ok_242_11) am_ok_242_12) am_ok_242_13) am_ok_242_14) am_ok_242_15) am_ok_242_16) am_ok_242_17
