/-! ===== the tables hold, method by method (kernel): 0 to 15 ===== -/
set_option maxRecDepth 100000 in
theorem am_ok_0_0 : am_okR 0 0 18 = true := by decide +kernel
theorem am_ok_0 : am_okM 0 := am_chk (lo := 0) (n := 18) (am_ch0) am_ok_0_0
theorem am_mk_0 : am_mok 0 := ⟨am_sub_in 1 _ (List.mem_of_getElem? (i := 112) rfl), am_sub_in 1 _ (List.mem_of_getElem? (i := 111) rfl), fun e => absurd e (by decide), fun e => absurd e (by decide), fun _ => ⟨rfl, rfl⟩, am_sub_in 0 _ (List.mem_of_getElem? (i := 12) rfl), ⟨by decide +kernel, by decide +kernel, by decide +kernel⟩, by decide, by decide +kernel, fun e => absurd e (by decide), fun e => absurd e (by decide)⟩
set_option maxRecDepth 100000 in
theorem am_ok_1_0 : am_okR 1 0 57 = true := by decide +kernel
theorem am_ok_1 : am_okM 1 := am_chk (lo := 0) (n := 57) (am_ch0) am_ok_1_0
theorem am_mk_1 : am_mok 1 := ⟨am_sub_in 2 _ (List.mem_of_getElem? (i := 124) rfl), am_sub_in 2 _ (List.mem_of_getElem? (i := 123) rfl), fun e => absurd e (by decide), fun e => absurd e (by decide), fun e => absurd e (by decide), am_sub_in 0 _ (List.mem_of_getElem? (i := 14) rfl), ⟨by decide +kernel, by decide +kernel, by decide +kernel⟩, by decide, by decide +kernel, fun e => absurd e (by decide), fun e => absurd e (by decide)⟩
set_option maxRecDepth 100000 in
theorem am_ok_2_0 : am_okR 2 0 54 = true := by decide +kernel
theorem am_ok_2 : am_okM 2 := am_chk (lo := 0) (n := 54) (am_ch0) am_ok_2_0
theorem am_mk_2 : am_mok 2 := ⟨am_sub_in 2 _ (List.mem_of_getElem? (i := 117) rfl), am_sub_in 2 _ (List.mem_of_getElem? (i := 116) rfl), fun e => absurd e (by decide), fun e => absurd e (by decide), fun e => absurd e (by decide), am_sub_in 0 _ (List.mem_of_getElem? (i := 14) rfl), ⟨by decide +kernel, by decide +kernel, by decide +kernel⟩, by decide, by decide +kernel, fun e => absurd e (by decide), fun e => absurd e (by decide)⟩
set_option maxRecDepth 100000 in
theorem am_ok_3_0 : am_okR 3 0 27 = true := by decide +kernel
theorem am_ok_3 : am_okM 3 := am_chk (lo := 0) (n := 27) (am_ch0) am_ok_3_0
theorem am_mk_3 : am_mok 3 := ⟨am_sub_in 2 _ (List.mem_of_getElem? (i := 114) rfl), am_sub_in 2 _ (List.mem_of_getElem? (i := 113) rfl), fun e => absurd e (by decide), fun e => absurd e (by decide), fun e => absurd e (by decide), am_sub_in 0 _ (List.mem_of_getElem? (i := 14) rfl), ⟨by decide +kernel, by decide +kernel, by decide +kernel⟩, by decide, by decide +kernel, fun e => absurd e (by decide), fun e => absurd e (by decide)⟩
set_option maxRecDepth 100000 in
theorem am_ok_4_0 : am_okR 4 0 100 = true := by decide +kernel
set_option maxRecDepth 100000 in
theorem am_ok_4_1 : am_okR 4 100 28 = true := by decide +kernel
theorem am_ok_4 : am_okM 4 := am_chk (lo := 100) (n := 28) (am_chk (lo := 0) (n := 100) (am_ch0) am_ok_4_0) am_ok_4_1
theorem am_mk_4 : am_mok 4 := ⟨am_sub_in 0 _ (List.mem_of_getElem? (i := 97) rfl), am_sub_in 0 _ (List.mem_of_getElem? (i := 96) rfl), fun e => absurd e (by decide), fun e => absurd e (by decide), fun _ => ⟨rfl, rfl⟩, am_sub_in 0 _ (List.mem_of_getElem? (i := 3) rfl), ⟨by decide +kernel, by decide +kernel, by decide +kernel⟩, by decide, by decide +kernel, fun e => absurd e (by decide), fun e => absurd e (by decide)⟩
set_option maxRecDepth 100000 in
theorem am_ok_5_0 : am_okR 5 0 51 = true := by decide +kernel
theorem am_ok_5 : am_okM 5 := am_chk (lo := 0) (n := 51) (am_ch0) am_ok_5_0
theorem am_mk_5 : am_mok 5 := ⟨am_sub_in 3 _ (List.mem_of_getElem? (i := 146) rfl), am_sub_in 3 _ (List.mem_of_getElem? (i := 144) rfl), fun _ => am_sub_in 3 _ (List.mem_of_getElem? (i := 145) rfl), fun _ => ⟨rfl, by decide⟩, fun e => absurd e (by decide), am_sub_in 0 _ (List.mem_of_getElem? (i := 3) rfl), ⟨by decide +kernel, by decide +kernel, by decide +kernel⟩, by decide, by decide +kernel, fun e => absurd e (by decide), fun e => absurd e (by decide)⟩
set_option maxRecDepth 100000 in
theorem am_ok_6_0 : am_okR 6 0 100 = true := by decide +kernel
set_option maxRecDepth 100000 in
theorem am_ok_6_1 : am_okR 6 100 16 = true := by decide +kernel
theorem am_ok_6 : am_okM 6 := am_chk (lo := 100) (n := 16) (am_chk (lo := 0) (n := 100) (am_ch0) am_ok_6_0) am_ok_6_1
theorem am_mk_6 : am_mok 6 := ⟨am_sub_in 2 _ (List.mem_of_getElem? (i := 7) rfl), am_sub_in 2 _ (List.mem_of_getElem? (i := 5) rfl), fun _ => am_sub_in 2 _ (List.mem_of_getElem? (i := 6) rfl), fun _ => ⟨rfl, by decide⟩, fun e => absurd e (by decide), am_sub_in 0 _ (List.mem_of_getElem? (i := 3) rfl), ⟨by decide +kernel, by decide +kernel, by decide +kernel⟩, by decide, by decide +kernel, fun e => absurd e (by decide), fun e => absurd e (by decide)⟩
set_option maxRecDepth 100000 in
theorem am_ok_7_0 : am_okR 7 0 18 = true := by decide +kernel
theorem am_ok_7 : am_okM 7 := am_chk (lo := 0) (n := 18) (am_ch0) am_ok_7_0
theorem am_mk_7 : am_mok 7 := ⟨am_sub_in 2 _ (List.mem_of_getElem? (i := 3) rfl), am_sub_in 2 _ (List.mem_of_getElem? (i := 1) rfl), fun _ => am_sub_in 2 _ (List.mem_of_getElem? (i := 2) rfl), fun _ => ⟨rfl, by decide⟩, fun e => absurd e (by decide), am_sub_in 0 _ (List.mem_of_getElem? (i := 3) rfl), ⟨by decide +kernel, by decide +kernel, by decide +kernel⟩, by decide, by decide +kernel, fun e => absurd e (by decide), fun e => absurd e (by decide)⟩
set_option maxRecDepth 100000 in
theorem am_ok_8_0 : am_okR 8 0 100 = true := by decide +kernel
set_option maxRecDepth 100000 in
theorem am_ok_8_1 : am_okR 8 100 98 = true := by decide +kernel
theorem am_ok_8 : am_okM 8 := am_chk (lo := 100) (n := 98) (am_chk (lo := 0) (n := 100) (am_ch0) am_ok_8_0) am_ok_8_1
theorem am_mk_8 : am_mok 8 := ⟨am_sub_in 2 _ (List.mem_of_getElem? (i := 12) rfl), am_sub_in 2 _ (List.mem_of_getElem? (i := 11) rfl), fun _ => am_sub_in 4 _ (List.mem_of_getElem? (i := 10) rfl), fun _ => ⟨rfl, by decide⟩, fun e => absurd e (by decide), am_sub_in 0 _ (List.mem_of_getElem? (i := 3) rfl), ⟨by decide +kernel, by decide +kernel, by decide +kernel⟩, by decide, by decide +kernel, fun e => absurd e (by decide), fun e => absurd e (by decide)⟩
set_option maxRecDepth 100000 in
theorem am_ok_9_0 : am_okR 9 0 100 = true := by decide +kernel
set_option maxRecDepth 100000 in
theorem am_ok_9_1 : am_okR 9 100 14 = true := by decide +kernel
theorem am_ok_9 : am_okM 9 := am_chk (lo := 100) (n := 14) (am_chk (lo := 0) (n := 100) (am_ch0) am_ok_9_0) am_ok_9_1
theorem am_mk_9 : am_mok 9 := ⟨am_sub_in 2 _ (List.mem_of_getElem? (i := 18) rfl), am_sub_in 2 _ (List.mem_of_getElem? (i := 17) rfl), fun e => absurd e (by decide), fun e => absurd e (by decide), fun e => absurd e (by decide), am_sub_in 0 _ (List.mem_of_getElem? (i := 3) rfl), ⟨by decide +kernel, by decide +kernel, by decide +kernel⟩, by decide, by decide +kernel, fun e => absurd e (by decide), fun e => absurd e (by decide)⟩
set_option maxRecDepth 100000 in
theorem am_ok_10_0 : am_okR 10 0 10 = true := by decide +kernel
theorem am_ok_10 : am_okM 10 := am_chk (lo := 0) (n := 10) (am_ch0) am_ok_10_0
theorem am_mk_10 : am_mok 10 := ⟨am_sub_in 2 _ (List.mem_of_getElem? (i := 15) rfl), am_sub_in 2 _ (List.mem_of_getElem? (i := 14) rfl), fun e => absurd e (by decide), fun e => absurd e (by decide), fun e => absurd e (by decide), am_sub_in 0 _ (List.mem_of_getElem? (i := 3) rfl), ⟨by decide +kernel, by decide +kernel, by decide +kernel⟩, by decide, by decide +kernel, fun e => absurd e (by decide), fun e => absurd e (by decide)⟩
set_option maxRecDepth 100000 in
theorem am_ok_11_0 : am_okR 11 0 36 = true := by decide +kernel
theorem am_ok_11 : am_okM 11 := am_chk (lo := 0) (n := 36) (am_ch0) am_ok_11_0
theorem am_mk_11 : am_mok 11 := ⟨am_sub_in 1 _ (List.mem_of_getElem? (i := 93) rfl), am_sub_in 1 _ (List.mem_of_getElem? (i := 92) rfl), fun e => absurd e (by decide), fun e => absurd e (by decide), fun _ => ⟨rfl, rfl⟩, am_sub_in 0 _ (List.mem_of_getElem? (i := 11) rfl), ⟨by decide +kernel, by decide +kernel, by decide +kernel⟩, by decide, by decide +kernel, fun e => absurd e (by decide), fun e => absurd e (by decide)⟩
set_option maxRecDepth 100000 in
theorem am_ok_12_0 : am_okR 12 0 100 = true := by decide +kernel
set_option maxRecDepth 100000 in
theorem am_ok_12_1 : am_okR 12 100 43 = true := by decide +kernel
theorem am_ok_12 : am_okM 12 := am_chk (lo := 100) (n := 43) (am_chk (lo := 0) (n := 100) (am_ch0) am_ok_12_0) am_ok_12_1
theorem am_mk_12 : am_mok 12 := ⟨am_sub_in 2 _ (List.mem_of_getElem? (i := 54) rfl), am_sub_in 2 _ (List.mem_of_getElem? (i := 53) rfl), fun _ => am_sub_in 4 _ (List.mem_of_getElem? (i := 11) rfl), fun _ => ⟨rfl, by decide⟩, fun e => absurd e (by decide), am_sub_in 0 _ (List.mem_of_getElem? (i := 11) rfl), ⟨by decide +kernel, by decide +kernel, by decide +kernel⟩, by decide, by decide +kernel, fun e => absurd e (by decide), fun e => absurd e (by decide)⟩
set_option maxRecDepth 100000 in
theorem am_ok_13_0 : am_okR 13 0 80 = true := by decide +kernel
theorem am_ok_13 : am_okM 13 := am_chk (lo := 0) (n := 80) (am_ch0) am_ok_13_0
theorem am_mk_13 : am_mok 13 := ⟨am_sub_in 2 _ (List.mem_of_getElem? (i := 50) rfl), am_sub_in 2 _ (List.mem_of_getElem? (i := 48) rfl), fun _ => am_sub_in 2 _ (List.mem_of_getElem? (i := 49) rfl), fun _ => ⟨rfl, by decide⟩, fun e => absurd e (by decide), am_sub_in 0 _ (List.mem_of_getElem? (i := 11) rfl), ⟨by decide +kernel, by decide +kernel, by decide +kernel⟩, by decide, by decide +kernel, fun e => absurd e (by decide), fun e => absurd e (by decide)⟩
set_option maxRecDepth 100000 in
theorem am_ok_14_0 : am_okR 14 0 90 = true := by decide +kernel
theorem am_ok_14 : am_okM 14 := am_chk (lo := 0) (n := 90) (am_ch0) am_ok_14_0
theorem am_mk_14 : am_mok 14 := ⟨am_sub_in 2 _ (List.mem_of_getElem? (i := 61) rfl), am_sub_in 2 _ (List.mem_of_getElem? (i := 59) rfl), fun _ => am_sub_in 2 _ (List.mem_of_getElem? (i := 60) rfl), fun _ => ⟨rfl, by decide⟩, fun e => absurd e (by decide), am_sub_in 0 _ (List.mem_of_getElem? (i := 11) rfl), ⟨by decide +kernel, by decide +kernel, by decide +kernel⟩, by decide, by decide +kernel, fun e => absurd e (by decide), fun e => absurd e (by decide)⟩
set_option maxRecDepth 100000 in
theorem am_ok_15_0 : am_okR 15 0 86 = true := by decide +kernel
theorem am_ok_15 : am_okM 15 := am_chk (lo := 0) (n := 86) (am_ch0) am_ok_15_0
theorem am_mk_15 : am_mok 15 := ⟨am_sub_in 0 _ (List.mem_of_getElem? (i := 34) rfl), am_sub_in 0 _ (List.mem_of_getElem? (i := 33) rfl), fun e => absurd e (by decide), fun e => absurd e (by decide), fun _ => ⟨rfl, rfl⟩, am_sub_in 0 _ (List.mem_of_getElem? (i := 2) rfl), ⟨by decide +kernel, by decide +kernel, by decide +kernel⟩, by decide, by decide +kernel, fun e => absurd e (by decide), fun e => absurd e (by decide)⟩
