/-! ===== the tables hold, method by method (kernel): 0 to 19 ===== -/
set_option maxRecDepth 100000 in
theorem am_ok_0_0 : am_okR 0 0 18 = true := by decide +kernel
theorem am_ok_0 : am_okM 0 := am_chk (lo := 0) (n := 18) (am_ch0) am_ok_0_0
theorem am_mk_0 : am_mok 0 := ⟨am_sub_in 1 _ (List.mem_of_getElem? (i := 114) rfl), am_sub_in 1 _ (List.mem_of_getElem? (i := 113) rfl), fun e => absurd e (by decide), fun e => absurd e (by decide), fun _ => ⟨rfl, rfl⟩, am_sub_in 0 _ (List.mem_of_getElem? (i := 12) rfl), ⟨by decide +kernel, by decide +kernel, by decide +kernel⟩, by decide, by decide +kernel⟩
set_option maxRecDepth 100000 in
theorem am_ok_1_0 : am_okR 1 0 100 = true := by decide +kernel
set_option maxRecDepth 100000 in
theorem am_ok_1_1 : am_okR 1 100 8 = true := by decide +kernel
theorem am_ok_1 : am_okM 1 := am_chk (lo := 100) (n := 8) (am_chk (lo := 0) (n := 100) (am_ch0) am_ok_1_0) am_ok_1_1
theorem am_mk_1 : am_mok 1 := ⟨am_sub_in 2 _ (List.mem_of_getElem? (i := 199) rfl), am_sub_in 2 _ (List.mem_of_getElem? (i := 197) rfl), fun _ => am_sub_in 2 _ (List.mem_of_getElem? (i := 198) rfl), fun _ => Or.inl ⟨rfl, by decide⟩, fun e => absurd e (by decide), am_sub_in 0 _ (List.mem_of_getElem? (i := 12) rfl), ⟨by decide +kernel, by decide +kernel, by decide +kernel⟩, by decide, by decide +kernel⟩
set_option maxRecDepth 100000 in
theorem am_ok_2_0 : am_okR 2 0 67 = true := by decide +kernel
theorem am_ok_2 : am_okM 2 := am_chk (lo := 0) (n := 67) (am_ch0) am_ok_2_0
theorem am_mk_2 : am_mok 2 := ⟨am_sub_in 2 _ (List.mem_of_getElem? (i := 203) rfl), am_sub_in 2 _ (List.mem_of_getElem? (i := 202) rfl), fun _ => am_sub_in 7 _ (List.mem_of_getElem? (i := 14) rfl), fun _ => Or.inl ⟨rfl, by decide⟩, fun e => absurd e (by decide), am_sub_in 0 _ (List.mem_of_getElem? (i := 12) rfl), ⟨by decide +kernel, by decide +kernel, by decide +kernel⟩, by decide, by decide +kernel⟩
set_option maxRecDepth 100000 in
theorem am_ok_3_0 : am_okR 3 0 35 = true := by decide +kernel
theorem am_ok_3 : am_okM 3 := am_chk (lo := 0) (n := 35) (am_ch0) am_ok_3_0
theorem am_mk_3 : am_mok 3 := ⟨am_sub_in 2 _ (List.mem_of_getElem? (i := 209) rfl), am_sub_in 2 _ (List.mem_of_getElem? (i := 208) rfl), fun _ => am_sub_in 7 _ (List.mem_of_getElem? (i := 15) rfl), fun _ => Or.inl ⟨rfl, by decide⟩, fun e => absurd e (by decide), am_sub_in 0 _ (List.mem_of_getElem? (i := 12) rfl), ⟨by decide +kernel, by decide +kernel, by decide +kernel⟩, by decide, by decide +kernel⟩
set_option maxRecDepth 100000 in
theorem am_ok_4_0 : am_okR 4 0 47 = true := by decide +kernel
theorem am_ok_4 : am_okM 4 := am_chk (lo := 0) (n := 47) (am_ch0) am_ok_4_0
theorem am_mk_4 : am_mok 4 := ⟨am_sub_in 3 _ (List.mem_of_getElem? (i := 128) rfl), am_sub_in 3 _ (List.mem_of_getElem? (i := 126) rfl), fun _ => am_sub_in 3 _ (List.mem_of_getElem? (i := 127) rfl), fun _ => Or.inl ⟨rfl, by decide⟩, fun e => absurd e (by decide), am_sub_in 0 _ (List.mem_of_getElem? (i := 12) rfl), ⟨by decide +kernel, by decide +kernel, by decide +kernel⟩, by decide, by decide +kernel⟩
set_option maxRecDepth 100000 in
theorem am_ok_5_0 : am_okR 5 0 57 = true := by decide +kernel
theorem am_ok_5 : am_okM 5 := am_chk (lo := 0) (n := 57) (am_ch0) am_ok_5_0
theorem am_mk_5 : am_mok 5 := ⟨am_sub_in 2 _ (List.mem_of_getElem? (i := 26) rfl), am_sub_in 2 _ (List.mem_of_getElem? (i := 25) rfl), fun e => absurd e (by decide), fun e => absurd e (by decide), fun e => absurd e (by decide), am_sub_in 0 _ (List.mem_of_getElem? (i := 16) rfl), ⟨by decide +kernel, by decide +kernel, by decide +kernel⟩, by decide, by decide +kernel⟩
set_option maxRecDepth 100000 in
theorem am_ok_6_0 : am_okR 6 0 54 = true := by decide +kernel
theorem am_ok_6 : am_okM 6 := am_chk (lo := 0) (n := 54) (am_ch0) am_ok_6_0
theorem am_mk_6 : am_mok 6 := ⟨am_sub_in 3 _ (List.mem_of_getElem? (i := 24) rfl), am_sub_in 3 _ (List.mem_of_getElem? (i := 23) rfl), fun e => absurd e (by decide), fun e => absurd e (by decide), fun e => absurd e (by decide), am_sub_in 0 _ (List.mem_of_getElem? (i := 16) rfl), ⟨by decide +kernel, by decide +kernel, by decide +kernel⟩, by decide, by decide +kernel⟩
set_option maxRecDepth 100000 in
theorem am_ok_7_0 : am_okR 7 0 54 = true := by decide +kernel
theorem am_ok_7 : am_okM 7 := am_chk (lo := 0) (n := 54) (am_ch0) am_ok_7_0
theorem am_mk_7 : am_mok 7 := ⟨am_sub_in 2 _ (List.mem_of_getElem? (i := 16) rfl), am_sub_in 2 _ (List.mem_of_getElem? (i := 15) rfl), fun e => absurd e (by decide), fun e => absurd e (by decide), fun e => absurd e (by decide), am_sub_in 0 _ (List.mem_of_getElem? (i := 16) rfl), ⟨by decide +kernel, by decide +kernel, by decide +kernel⟩, by decide, by decide +kernel⟩
set_option maxRecDepth 100000 in
theorem am_ok_8_0 : am_okR 8 0 27 = true := by decide +kernel
theorem am_ok_8 : am_okM 8 := am_chk (lo := 0) (n := 27) (am_ch0) am_ok_8_0
theorem am_mk_8 : am_mok 8 := ⟨am_sub_in 2 _ (List.mem_of_getElem? (i := 13) rfl), am_sub_in 2 _ (List.mem_of_getElem? (i := 12) rfl), fun e => absurd e (by decide), fun e => absurd e (by decide), fun e => absurd e (by decide), am_sub_in 0 _ (List.mem_of_getElem? (i := 16) rfl), ⟨by decide +kernel, by decide +kernel, by decide +kernel⟩, by decide, by decide +kernel⟩
set_option maxRecDepth 100000 in
theorem am_ok_9_0 : am_okR 9 0 41 = true := by decide +kernel
theorem am_ok_9 : am_okM 9 := am_chk (lo := 0) (n := 41) (am_ch0) am_ok_9_0
theorem am_mk_9 : am_mok 9 := ⟨am_sub_in 3 _ (List.mem_of_getElem? (i := 183) rfl), am_sub_in 3 _ (List.mem_of_getElem? (i := 182) rfl), fun e => absurd e (by decide), fun e => absurd e (by decide), fun e => absurd e (by decide), am_sub_in 0 _ (List.mem_of_getElem? (i := 16) rfl), ⟨by decide +kernel, by decide +kernel, by decide +kernel⟩, by decide, by decide +kernel⟩
set_option maxRecDepth 100000 in
theorem am_ok_10_0 : am_okR 10 0 100 = true := by decide +kernel
set_option maxRecDepth 100000 in
theorem am_ok_10_1 : am_okR 10 100 28 = true := by decide +kernel
theorem am_ok_10 : am_okM 10 := am_chk (lo := 100) (n := 28) (am_chk (lo := 0) (n := 100) (am_ch0) am_ok_10_0) am_ok_10_1
theorem am_mk_10 : am_mok 10 := ⟨am_sub_in 0 _ (List.mem_of_getElem? (i := 99) rfl), am_sub_in 0 _ (List.mem_of_getElem? (i := 98) rfl), fun e => absurd e (by decide), fun e => absurd e (by decide), fun _ => ⟨rfl, rfl⟩, am_sub_in 0 _ (List.mem_of_getElem? (i := 3) rfl), ⟨by decide +kernel, by decide +kernel, by decide +kernel⟩, by decide, by decide +kernel⟩
set_option maxRecDepth 100000 in
theorem am_ok_11_0 : am_okR 11 0 51 = true := by decide +kernel
theorem am_ok_11 : am_okM 11 := am_chk (lo := 0) (n := 51) (am_ch0) am_ok_11_0
theorem am_mk_11 : am_mok 11 := ⟨am_sub_in 1 _ (List.mem_of_getElem? (i := 194) rfl), am_sub_in 1 _ (List.mem_of_getElem? (i := 192) rfl), fun _ => am_sub_in 1 _ (List.mem_of_getElem? (i := 193) rfl), fun _ => Or.inl ⟨rfl, by decide⟩, fun e => absurd e (by decide), am_sub_in 0 _ (List.mem_of_getElem? (i := 3) rfl), ⟨by decide +kernel, by decide +kernel, by decide +kernel⟩, by decide, by decide +kernel⟩
set_option maxRecDepth 100000 in
theorem am_ok_12_0 : am_okR 12 0 100 = true := by decide +kernel
set_option maxRecDepth 100000 in
theorem am_ok_12_1 : am_okR 12 100 16 = true := by decide +kernel
theorem am_ok_12 : am_okM 12 := am_chk (lo := 100) (n := 16) (am_chk (lo := 0) (n := 100) (am_ch0) am_ok_12_0) am_ok_12_1
theorem am_mk_12 : am_mok 12 := ⟨am_sub_in 1 _ (List.mem_of_getElem? (i := 217) rfl), am_sub_in 1 _ (List.mem_of_getElem? (i := 215) rfl), fun _ => am_sub_in 1 _ (List.mem_of_getElem? (i := 216) rfl), fun _ => Or.inl ⟨rfl, by decide⟩, fun e => absurd e (by decide), am_sub_in 0 _ (List.mem_of_getElem? (i := 3) rfl), ⟨by decide +kernel, by decide +kernel, by decide +kernel⟩, by decide, by decide +kernel⟩
set_option maxRecDepth 100000 in
theorem am_ok_13_0 : am_okR 13 0 18 = true := by decide +kernel
theorem am_ok_13 : am_okM 13 := am_chk (lo := 0) (n := 18) (am_ch0) am_ok_13_0
theorem am_mk_13 : am_mok 13 := ⟨am_sub_in 2 _ (List.mem_of_getElem? (i := 113) rfl), am_sub_in 2 _ (List.mem_of_getElem? (i := 111) rfl), fun _ => am_sub_in 2 _ (List.mem_of_getElem? (i := 112) rfl), fun _ => Or.inl ⟨rfl, by decide⟩, fun e => absurd e (by decide), am_sub_in 0 _ (List.mem_of_getElem? (i := 3) rfl), ⟨by decide +kernel, by decide +kernel, by decide +kernel⟩, by decide, by decide +kernel⟩
set_option maxRecDepth 100000 in
theorem am_ok_14_0 : am_okR 14 0 34 = true := by decide +kernel
theorem am_ok_14 : am_okM 14 := am_chk (lo := 0) (n := 34) (am_ch0) am_ok_14_0
theorem am_mk_14 : am_mok 14 := ⟨am_sub_in 3 _ (List.mem_of_getElem? (i := 21) rfl), am_sub_in 3 _ (List.mem_of_getElem? (i := 19) rfl), fun _ => am_sub_in 3 _ (List.mem_of_getElem? (i := 20) rfl), fun _ => Or.inl ⟨rfl, by decide⟩, fun e => absurd e (by decide), am_sub_in 0 _ (List.mem_of_getElem? (i := 3) rfl), ⟨by decide +kernel, by decide +kernel, by decide +kernel⟩, by decide, by decide +kernel⟩
set_option maxRecDepth 100000 in
theorem am_ok_15_0 : am_okR 15 0 13 = true := by decide +kernel
theorem am_ok_15 : am_okM 15 := am_chk (lo := 0) (n := 13) (am_ch0) am_ok_15_0
theorem am_mk_15 : am_mok 15 := ⟨am_sub_in 2 _ (List.mem_of_getElem? (i := 222) rfl), am_sub_in 2 _ (List.mem_of_getElem? (i := 220) rfl), fun _ => am_sub_in 2 _ (List.mem_of_getElem? (i := 221) rfl), fun _ => Or.inl ⟨rfl, by decide⟩, fun e => absurd e (by decide), am_sub_in 0 _ (List.mem_of_getElem? (i := 3) rfl), ⟨by decide +kernel, by decide +kernel, by decide +kernel⟩, by decide, by decide +kernel⟩
set_option maxRecDepth 100000 in
theorem am_ok_16_0 : am_okR 16 0 100 = true := by decide +kernel
set_option maxRecDepth 100000 in
theorem am_ok_16_1 : am_okR 16 100 98 = true := by decide +kernel
theorem am_ok_16 : am_okM 16 := am_chk (lo := 100) (n := 98) (am_chk (lo := 0) (n := 100) (am_ch0) am_ok_16_0) am_ok_16_1
theorem am_mk_16 : am_mok 16 := ⟨am_sub_in 1 _ (List.mem_of_getElem? (i := 227) rfl), am_sub_in 1 _ (List.mem_of_getElem? (i := 226) rfl), fun _ => am_sub_in 7 _ (List.mem_of_getElem? (i := 10) rfl), fun _ => Or.inl ⟨rfl, by decide⟩, fun e => absurd e (by decide), am_sub_in 0 _ (List.mem_of_getElem? (i := 3) rfl), ⟨by decide +kernel, by decide +kernel, by decide +kernel⟩, by decide, by decide +kernel⟩
set_option maxRecDepth 100000 in
theorem am_ok_17_0 : am_okR 17 0 100 = true := by decide +kernel
set_option maxRecDepth 100000 in
theorem am_ok_17_1 : am_okR 17 100 14 = true := by decide +kernel
theorem am_ok_17 : am_okM 17 := am_chk (lo := 100) (n := 14) (am_chk (lo := 0) (n := 100) (am_ch0) am_ok_17_0) am_ok_17_1
theorem am_mk_17 : am_mok 17 := ⟨am_sub_in 1 _ (List.mem_of_getElem? (i := 233) rfl), am_sub_in 1 _ (List.mem_of_getElem? (i := 232) rfl), fun e => absurd e (by decide), fun e => absurd e (by decide), fun e => absurd e (by decide), am_sub_in 0 _ (List.mem_of_getElem? (i := 3) rfl), ⟨by decide +kernel, by decide +kernel, by decide +kernel⟩, by decide, by decide +kernel⟩
set_option maxRecDepth 100000 in
theorem am_ok_18_0 : am_okR 18 0 10 = true := by decide +kernel
theorem am_ok_18 : am_okM 18 := am_chk (lo := 0) (n := 10) (am_ch0) am_ok_18_0
theorem am_mk_18 : am_mok 18 := ⟨am_sub_in 1 _ (List.mem_of_getElem? (i := 230) rfl), am_sub_in 1 _ (List.mem_of_getElem? (i := 229) rfl), fun e => absurd e (by decide), fun e => absurd e (by decide), fun e => absurd e (by decide), am_sub_in 0 _ (List.mem_of_getElem? (i := 3) rfl), ⟨by decide +kernel, by decide +kernel, by decide +kernel⟩, by decide, by decide +kernel⟩
set_option maxRecDepth 100000 in
theorem am_ok_19_0 : am_okR 19 0 36 = true := by decide +kernel
theorem am_ok_19 : am_okM 19 := am_chk (lo := 0) (n := 36) (am_ch0) am_ok_19_0
theorem am_mk_19 : am_mok 19 := ⟨am_sub_in 1 _ (List.mem_of_getElem? (i := 95) rfl), am_sub_in 1 _ (List.mem_of_getElem? (i := 94) rfl), fun e => absurd e (by decide), fun e => absurd e (by decide), fun _ => ⟨rfl, rfl⟩, am_sub_in 0 _ (List.mem_of_getElem? (i := 11) rfl), ⟨by decide +kernel, by decide +kernel, by decide +kernel⟩, by decide, by decide +kernel⟩
