/-! ===== the tables hold, method by method (kernel): 125 to 128 ===== -/
set_option maxRecDepth 100000 in
theorem am_ok_125_0 : am_okR 125 0 100 = true := by decide +kernel
set_option maxRecDepth 100000 in
theorem am_ok_125_1 : am_okR 125 100 46 = true := by decide +kernel
theorem am_ok_125 : am_okM 125 := am_chk (lo := 100) (n := 46) (am_chk (lo := 0) (n := 100) (am_ch0) am_ok_125_0) am_ok_125_1
theorem am_mk_125 : am_mok 125 := ⟨am_sub_in 3 _ (List.mem_of_getElem? (i := 168) rfl), am_sub_in 3 _ (List.mem_of_getElem? (i := 167) rfl), fun e => absurd e (by decide), fun e => absurd e (by decide), fun e => absurd e (by decide), am_sub_in 0 _ (List.mem_of_getElem? (i := 0) rfl), ⟨by decide +kernel, by decide +kernel, by decide +kernel⟩, by decide, by decide +kernel, fun e => absurd e (by decide), fun e => absurd e (by decide)⟩
set_option maxRecDepth 100000 in
theorem am_ok_126_0 : am_okR 126 0 67 = true := by decide +kernel
theorem am_ok_126 : am_okM 126 := am_chk (lo := 0) (n := 67) (am_ch0) am_ok_126_0
theorem am_mk_126 : am_mok 126 := ⟨am_sub_in 3 _ (List.mem_of_getElem? (i := 165) rfl), am_sub_in 3 _ (List.mem_of_getElem? (i := 164) rfl), fun e => absurd e (by decide), fun e => absurd e (by decide), fun e => absurd e (by decide), am_sub_in 0 _ (List.mem_of_getElem? (i := 0) rfl), ⟨by decide +kernel, by decide +kernel, by decide +kernel⟩, by decide, by decide +kernel, fun e => absurd e (by decide), fun e => absurd e (by decide)⟩
set_option maxRecDepth 100000 in
theorem am_ok_127_0 : am_okR 127 0 27 = true := by decide +kernel
theorem am_ok_127 : am_okM 127 := am_chk (lo := 0) (n := 27) (am_ch0) am_ok_127_0
theorem am_mk_127 : am_mok 127 := ⟨am_sub_in 3 _ (List.mem_of_getElem? (i := 173) rfl), am_sub_in 3 _ (List.mem_of_getElem? (i := 172) rfl), fun e => absurd e (by decide), fun e => absurd e (by decide), fun e => absurd e (by decide), am_sub_in 0 _ (List.mem_of_getElem? (i := 0) rfl), ⟨by decide +kernel, by decide +kernel, by decide +kernel⟩, by decide, by decide +kernel, fun e => absurd e (by decide), fun e => absurd e (by decide)⟩
set_option maxRecDepth 100000 in
theorem am_ok_128_0 : am_okR 128 0 81 = true := by decide +kernel
theorem am_ok_128 : am_okM 128 := am_chk (lo := 0) (n := 81) (am_ch0) am_ok_128_0
theorem am_mk_128 : am_mok 128 := ⟨am_sub_in 3 _ (List.mem_of_getElem? (i := 176) rfl), am_sub_in 3 _ (List.mem_of_getElem? (i := 175) rfl), fun e => absurd e (by decide), fun e => absurd e (by decide), fun e => absurd e (by decide), am_sub_in 0 _ (List.mem_of_getElem? (i := 0) rfl), ⟨by decide +kernel, by decide +kernel, by decide +kernel⟩, by decide, by decide +kernel, fun e => absurd e (by decide), fun e => absurd e (by decide)⟩
