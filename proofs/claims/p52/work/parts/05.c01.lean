/-! ===== the tables hold, method by method (kernel): 16 to 40 ===== -/
set_option maxRecDepth 100000 in
theorem am_ok_16_0 : am_okR 16 0 18 = true := by decide +kernel
theorem am_ok_16 : am_okM 16 := am_chk (lo := 0) (n := 18) (am_ch0) am_ok_16_0
theorem am_mk_16 : am_mok 16 := ⟨am_sub_in 1 _ (List.mem_of_getElem? (i := 180) rfl), am_sub_in 1 _ (List.mem_of_getElem? (i := 178) rfl), fun _ => am_sub_in 1 _ (List.mem_of_getElem? (i := 179) rfl), fun _ => ⟨rfl, by decide⟩, fun e => absurd e (by decide), am_sub_in 0 _ (List.mem_of_getElem? (i := 2) rfl), ⟨by decide +kernel, by decide +kernel, by decide +kernel⟩, by decide, by decide +kernel, fun e => absurd e (by decide), fun e => absurd e (by decide)⟩
set_option maxRecDepth 100000 in
theorem am_ok_17_0 : am_okR 17 0 18 = true := by decide +kernel
theorem am_ok_17 : am_okM 17 := am_chk (lo := 0) (n := 18) (am_ch0) am_ok_17_0
theorem am_mk_17 : am_mok 17 := ⟨am_sub_in 1 _ (List.mem_of_getElem? (i := 195) rfl), am_sub_in 1 _ (List.mem_of_getElem? (i := 193) rfl), fun _ => am_sub_in 1 _ (List.mem_of_getElem? (i := 194) rfl), fun _ => ⟨rfl, by decide⟩, fun e => absurd e (by decide), am_sub_in 0 _ (List.mem_of_getElem? (i := 2) rfl), ⟨by decide +kernel, by decide +kernel, by decide +kernel⟩, by decide, by decide +kernel, fun e => absurd e (by decide), fun e => absurd e (by decide)⟩
set_option maxRecDepth 100000 in
theorem am_ok_18_0 : am_okR 18 0 9 = true := by decide +kernel
theorem am_ok_18 : am_okM 18 := am_chk (lo := 0) (n := 9) (am_ch0) am_ok_18_0
theorem am_mk_18 : am_mok 18 := ⟨am_sub_in 1 _ (List.mem_of_getElem? (i := 184) rfl), am_sub_in 1 _ (List.mem_of_getElem? (i := 182) rfl), fun _ => am_sub_in 1 _ (List.mem_of_getElem? (i := 183) rfl), fun _ => ⟨rfl, by decide⟩, fun e => absurd e (by decide), am_sub_in 0 _ (List.mem_of_getElem? (i := 2) rfl), ⟨by decide +kernel, by decide +kernel, by decide +kernel⟩, by decide, by decide +kernel, fun e => absurd e (by decide), fun e => absurd e (by decide)⟩
set_option maxRecDepth 100000 in
theorem am_ok_19_0 : am_okR 19 0 33 = true := by decide +kernel
theorem am_ok_19 : am_okM 19 := am_chk (lo := 0) (n := 33) (am_ch0) am_ok_19_0
theorem am_mk_19 : am_mok 19 := ⟨am_sub_in 1 _ (List.mem_of_getElem? (i := 199) rfl), am_sub_in 1 _ (List.mem_of_getElem? (i := 197) rfl), fun _ => am_sub_in 1 _ (List.mem_of_getElem? (i := 198) rfl), fun _ => ⟨rfl, by decide⟩, fun e => absurd e (by decide), am_sub_in 0 _ (List.mem_of_getElem? (i := 2) rfl), ⟨by decide +kernel, by decide +kernel, by decide +kernel⟩, by decide, by decide +kernel, fun e => absurd e (by decide), fun e => absurd e (by decide)⟩
set_option maxRecDepth 100000 in
theorem am_ok_20_0 : am_okR 20 0 25 = true := by decide +kernel
theorem am_ok_20 : am_okM 20 := am_chk (lo := 0) (n := 25) (am_ch0) am_ok_20_0
theorem am_mk_20 : am_mok 20 := ⟨am_sub_in 2 _ (List.mem_of_getElem? (i := 147) rfl), am_sub_in 2 _ (List.mem_of_getElem? (i := 145) rfl), fun _ => am_sub_in 2 _ (List.mem_of_getElem? (i := 146) rfl), fun _ => ⟨rfl, by decide⟩, fun e => absurd e (by decide), am_sub_in 0 _ (List.mem_of_getElem? (i := 2) rfl), ⟨by decide +kernel, by decide +kernel, by decide +kernel⟩, by decide, by decide +kernel, fun e => absurd e (by decide), fun e => absurd e (by decide)⟩
set_option maxRecDepth 100000 in
theorem am_ok_21_0 : am_okR 21 0 9 = true := by decide +kernel
theorem am_ok_21 : am_okM 21 := am_chk (lo := 0) (n := 9) (am_ch0) am_ok_21_0
theorem am_mk_21 : am_mok 21 := ⟨am_sub_in 1 _ (List.mem_of_getElem? (i := 224) rfl), am_sub_in 1 _ (List.mem_of_getElem? (i := 222) rfl), fun _ => am_sub_in 1 _ (List.mem_of_getElem? (i := 223) rfl), fun _ => ⟨rfl, by decide⟩, fun e => absurd e (by decide), am_sub_in 0 _ (List.mem_of_getElem? (i := 2) rfl), ⟨by decide +kernel, by decide +kernel, by decide +kernel⟩, by decide, by decide +kernel, fun e => absurd e (by decide), fun e => absurd e (by decide)⟩
set_option maxRecDepth 100000 in
theorem am_ok_22_0 : am_okR 22 0 40 = true := by decide +kernel
theorem am_ok_22 : am_okM 22 := am_chk (lo := 0) (n := 40) (am_ch0) am_ok_22_0
theorem am_mk_22 : am_mok 22 := ⟨am_sub_in 2 _ (List.mem_of_getElem? (i := 107) rfl), am_sub_in 2 _ (List.mem_of_getElem? (i := 105) rfl), fun _ => am_sub_in 2 _ (List.mem_of_getElem? (i := 106) rfl), fun _ => ⟨rfl, by decide⟩, fun e => absurd e (by decide), am_sub_in 0 _ (List.mem_of_getElem? (i := 2) rfl), ⟨by decide +kernel, by decide +kernel, by decide +kernel⟩, by decide, by decide +kernel, fun e => absurd e (by decide), fun e => absurd e (by decide)⟩
set_option maxRecDepth 100000 in
theorem am_ok_23_0 : am_okR 23 0 67 = true := by decide +kernel
theorem am_ok_23 : am_okM 23 := am_chk (lo := 0) (n := 67) (am_ch0) am_ok_23_0
theorem am_mk_23 : am_mok 23 := ⟨am_sub_in 2 _ (List.mem_of_getElem? (i := 111) rfl), am_sub_in 2 _ (List.mem_of_getElem? (i := 109) rfl), fun _ => am_sub_in 2 _ (List.mem_of_getElem? (i := 110) rfl), fun _ => ⟨rfl, by decide⟩, fun e => absurd e (by decide), am_sub_in 0 _ (List.mem_of_getElem? (i := 2) rfl), ⟨by decide +kernel, by decide +kernel, by decide +kernel⟩, by decide, by decide +kernel, fun e => absurd e (by decide), fun e => absurd e (by decide)⟩
set_option maxRecDepth 100000 in
theorem am_ok_24_0 : am_okR 24 0 40 = true := by decide +kernel
theorem am_ok_24 : am_okM 24 := am_chk (lo := 0) (n := 40) (am_ch0) am_ok_24_0
theorem am_mk_24 : am_mok 24 := ⟨am_sub_in 2 _ (List.mem_of_getElem? (i := 151) rfl), am_sub_in 2 _ (List.mem_of_getElem? (i := 149) rfl), fun _ => am_sub_in 2 _ (List.mem_of_getElem? (i := 150) rfl), fun _ => ⟨rfl, by decide⟩, fun e => absurd e (by decide), am_sub_in 0 _ (List.mem_of_getElem? (i := 2) rfl), ⟨by decide +kernel, by decide +kernel, by decide +kernel⟩, by decide, by decide +kernel, fun e => absurd e (by decide), fun e => absurd e (by decide)⟩
set_option maxRecDepth 100000 in
theorem am_ok_25_0 : am_okR 25 0 13 = true := by decide +kernel
theorem am_ok_25 : am_okM 25 := am_chk (lo := 0) (n := 13) (am_ch0) am_ok_25_0
theorem am_mk_25 : am_mok 25 := ⟨am_sub_in 2 _ (List.mem_of_getElem? (i := 155) rfl), am_sub_in 2 _ (List.mem_of_getElem? (i := 153) rfl), fun _ => am_sub_in 2 _ (List.mem_of_getElem? (i := 154) rfl), fun _ => ⟨rfl, by decide⟩, fun e => absurd e (by decide), am_sub_in 0 _ (List.mem_of_getElem? (i := 2) rfl), ⟨by decide +kernel, by decide +kernel, by decide +kernel⟩, by decide, by decide +kernel, fun e => absurd e (by decide), fun e => absurd e (by decide)⟩
set_option maxRecDepth 100000 in
theorem am_ok_26_0 : am_okR 26 0 69 = true := by decide +kernel
theorem am_ok_26 : am_okM 26 := am_chk (lo := 0) (n := 69) (am_ch0) am_ok_26_0
theorem am_mk_26 : am_mok 26 := ⟨am_sub_in 2 _ (List.mem_of_getElem? (i := 121) rfl), am_sub_in 2 _ (List.mem_of_getElem? (i := 120) rfl), fun _ => am_sub_in 4 _ (List.mem_of_getElem? (i := 14) rfl), fun _ => ⟨rfl, by decide⟩, fun e => absurd e (by decide), am_sub_in 0 _ (List.mem_of_getElem? (i := 2) rfl), ⟨by decide +kernel, by decide +kernel, by decide +kernel⟩, by decide, by decide +kernel, fun e => absurd e (by decide), fun e => absurd e (by decide)⟩
set_option maxRecDepth 100000 in
theorem am_ok_27_0 : am_okR 27 0 59 = true := by decide +kernel
theorem am_ok_27 : am_okM 27 := am_chk (lo := 0) (n := 59) (am_ch0) am_ok_27_0
theorem am_mk_27 : am_mok 27 := ⟨am_sub_in 1 _ (List.mem_of_getElem? (i := 211) rfl), am_sub_in 1 _ (List.mem_of_getElem? (i := 209) rfl), fun _ => am_sub_in 1 _ (List.mem_of_getElem? (i := 210) rfl), fun _ => ⟨rfl, by decide⟩, fun e => absurd e (by decide), am_sub_in 0 _ (List.mem_of_getElem? (i := 2) rfl), ⟨by decide +kernel, by decide +kernel, by decide +kernel⟩, by decide, by decide +kernel, fun e => absurd e (by decide), fun e => absurd e (by decide)⟩
set_option maxRecDepth 100000 in
theorem am_ok_28_0 : am_okR 28 0 49 = true := by decide +kernel
theorem am_ok_28 : am_okM 28 := am_chk (lo := 0) (n := 49) (am_ch0) am_ok_28_0
theorem am_mk_28 : am_mok 28 := ⟨am_sub_in 1 _ (List.mem_of_getElem? (i := 207) rfl), am_sub_in 1 _ (List.mem_of_getElem? (i := 205) rfl), fun _ => am_sub_in 1 _ (List.mem_of_getElem? (i := 206) rfl), fun _ => ⟨rfl, by decide⟩, fun e => absurd e (by decide), am_sub_in 0 _ (List.mem_of_getElem? (i := 2) rfl), ⟨by decide +kernel, by decide +kernel, by decide +kernel⟩, by decide, by decide +kernel, fun e => absurd e (by decide), fun e => absurd e (by decide)⟩
set_option maxRecDepth 100000 in
theorem am_ok_29_0 : am_okR 29 0 53 = true := by decide +kernel
theorem am_ok_29 : am_okM 29 := am_chk (lo := 0) (n := 53) (am_ch0) am_ok_29_0
theorem am_mk_29 : am_mok 29 := ⟨am_sub_in 2 _ (List.mem_of_getElem? (i := 28) rfl), am_sub_in 2 _ (List.mem_of_getElem? (i := 26) rfl), fun _ => am_sub_in 2 _ (List.mem_of_getElem? (i := 27) rfl), fun _ => ⟨rfl, by decide⟩, fun e => absurd e (by decide), am_sub_in 0 _ (List.mem_of_getElem? (i := 2) rfl), ⟨by decide +kernel, by decide +kernel, by decide +kernel⟩, by decide, by decide +kernel, fun e => absurd e (by decide), fun e => absurd e (by decide)⟩
set_option maxRecDepth 100000 in
theorem am_ok_30_0 : am_okR 30 0 100 = true := by decide +kernel
set_option maxRecDepth 100000 in
theorem am_ok_30_1 : am_okR 30 100 16 = true := by decide +kernel
theorem am_ok_30 : am_okM 30 := am_chk (lo := 100) (n := 16) (am_chk (lo := 0) (n := 100) (am_ch0) am_ok_30_0) am_ok_30_1
theorem am_mk_30 : am_mok 30 := ⟨am_sub_in 1 _ (List.mem_of_getElem? (i := 220) rfl), am_sub_in 1 _ (List.mem_of_getElem? (i := 218) rfl), fun _ => am_sub_in 1 _ (List.mem_of_getElem? (i := 219) rfl), fun _ => ⟨rfl, by decide⟩, fun e => absurd e (by decide), am_sub_in 0 _ (List.mem_of_getElem? (i := 2) rfl), ⟨by decide +kernel, by decide +kernel, by decide +kernel⟩, by decide, by decide +kernel, fun e => absurd e (by decide), fun e => absurd e (by decide)⟩
set_option maxRecDepth 100000 in
theorem am_ok_31_0 : am_okR 31 0 47 = true := by decide +kernel
theorem am_ok_31 : am_okM 31 := am_chk (lo := 0) (n := 47) (am_ch0) am_ok_31_0
theorem am_mk_31 : am_mok 31 := ⟨am_sub_in 2 _ (List.mem_of_getElem? (i := 38) rfl), am_sub_in 2 _ (List.mem_of_getElem? (i := 36) rfl), fun _ => am_sub_in 2 _ (List.mem_of_getElem? (i := 37) rfl), fun _ => ⟨rfl, by decide⟩, fun e => absurd e (by decide), am_sub_in 0 _ (List.mem_of_getElem? (i := 2) rfl), ⟨by decide +kernel, by decide +kernel, by decide +kernel⟩, by decide, by decide +kernel, fun e => absurd e (by decide), fun e => absurd e (by decide)⟩
set_option maxRecDepth 100000 in
theorem am_ok_32_0 : am_okR 32 0 56 = true := by decide +kernel
theorem am_ok_32 : am_okM 32 := am_chk (lo := 0) (n := 56) (am_ch0) am_ok_32_0
theorem am_mk_32 : am_mok 32 := ⟨am_sub_in 0 _ (List.mem_of_getElem? (i := 103) rfl), am_sub_in 0 _ (List.mem_of_getElem? (i := 102) rfl), fun e => absurd e (by decide), fun e => absurd e (by decide), fun _ => ⟨rfl, rfl⟩, am_sub_in 0 _ (List.mem_of_getElem? (i := 4) rfl), ⟨by decide +kernel, by decide +kernel, by decide +kernel⟩, by decide, by decide +kernel, fun e => absurd e (by decide), fun e => absurd e (by decide)⟩
set_option maxRecDepth 100000 in
theorem am_ok_33_0 : am_okR 33 0 31 = true := by decide +kernel
theorem am_ok_33 : am_okM 33 := am_chk (lo := 0) (n := 31) (am_ch0) am_ok_33_0
theorem am_mk_33 : am_mok 33 := ⟨am_sub_in 0 _ (List.mem_of_getElem? (i := 189) rfl), am_sub_in 0 _ (List.mem_of_getElem? (i := 187) rfl), fun _ => am_sub_in 0 _ (List.mem_of_getElem? (i := 188) rfl), fun _ => ⟨rfl, by decide⟩, fun e => absurd e (by decide), am_sub_in 0 _ (List.mem_of_getElem? (i := 4) rfl), ⟨by decide +kernel, by decide +kernel, by decide +kernel⟩, by decide, by decide +kernel, fun e => absurd e (by decide), fun e => absurd e (by decide)⟩
set_option maxRecDepth 100000 in
theorem am_ok_34_0 : am_okR 34 0 97 = true := by decide +kernel
theorem am_ok_34 : am_okM 34 := am_chk (lo := 0) (n := 97) (am_ch0) am_ok_34_0
theorem am_mk_34 : am_mok 34 := ⟨am_sub_in 0 _ (List.mem_of_getElem? (i := 193) rfl), am_sub_in 0 _ (List.mem_of_getElem? (i := 191) rfl), fun _ => am_sub_in 0 _ (List.mem_of_getElem? (i := 192) rfl), fun _ => ⟨rfl, by decide⟩, fun e => absurd e (by decide), am_sub_in 0 _ (List.mem_of_getElem? (i := 4) rfl), ⟨by decide +kernel, by decide +kernel, by decide +kernel⟩, by decide, by decide +kernel, fun e => absurd e (by decide), fun e => absurd e (by decide)⟩
set_option maxRecDepth 100000 in
theorem am_ok_35_0 : am_okR 35 0 13 = true := by decide +kernel
theorem am_ok_35 : am_okM 35 := am_chk (lo := 0) (n := 13) (am_ch0) am_ok_35_0
theorem am_mk_35 : am_mok 35 := ⟨am_sub_in 1 _ (List.mem_of_getElem? (i := 43) rfl), am_sub_in 1 _ (List.mem_of_getElem? (i := 42) rfl), fun _ => am_sub_in 4 _ (List.mem_of_getElem? (i := 5) rfl), fun _ => ⟨rfl, by decide⟩, fun e => absurd e (by decide), am_sub_in 0 _ (List.mem_of_getElem? (i := 4) rfl), ⟨by decide +kernel, by decide +kernel, by decide +kernel⟩, by decide, by decide +kernel, fun e => absurd e (by decide), fun e => absurd e (by decide)⟩
set_option maxRecDepth 100000 in
theorem am_ok_36_0 : am_okR 36 0 20 = true := by decide +kernel
theorem am_ok_36 : am_okM 36 := am_chk (lo := 0) (n := 20) (am_ch0) am_ok_36_0
theorem am_mk_36 : am_mok 36 := ⟨am_sub_in 1 _ (List.mem_of_getElem? (i := 39) rfl), am_sub_in 1 _ (List.mem_of_getElem? (i := 38) rfl), fun _ => am_sub_in 4 _ (List.mem_of_getElem? (i := 4) rfl), fun _ => ⟨rfl, by decide⟩, fun e => absurd e (by decide), am_sub_in 0 _ (List.mem_of_getElem? (i := 4) rfl), ⟨by decide +kernel, by decide +kernel, by decide +kernel⟩, by decide, by decide +kernel, fun e => absurd e (by decide), fun e => absurd e (by decide)⟩
set_option maxRecDepth 100000 in
theorem am_ok_37_0 : am_okR 37 0 40 = true := by decide +kernel
theorem am_ok_37 : am_okM 37 := am_chk (lo := 0) (n := 40) (am_ch0) am_ok_37_0
theorem am_mk_37 : am_mok 37 := ⟨am_sub_in 1 _ (List.mem_of_getElem? (i := 55) rfl), am_sub_in 1 _ (List.mem_of_getElem? (i := 54) rfl), fun _ => am_sub_in 4 _ (List.mem_of_getElem? (i := 8) rfl), fun _ => ⟨rfl, by decide⟩, fun e => absurd e (by decide), am_sub_in 0 _ (List.mem_of_getElem? (i := 4) rfl), ⟨by decide +kernel, by decide +kernel, by decide +kernel⟩, by decide, by decide +kernel, fun e => absurd e (by decide), fun e => absurd e (by decide)⟩
set_option maxRecDepth 100000 in
theorem am_ok_38_0 : am_okR 38 0 100 = true := by decide +kernel
set_option maxRecDepth 100000 in
theorem am_ok_38_1 : am_okR 38 100 28 = true := by decide +kernel
theorem am_ok_38 : am_okM 38 := am_chk (lo := 100) (n := 28) (am_chk (lo := 0) (n := 100) (am_ch0) am_ok_38_0) am_ok_38_1
theorem am_mk_38 : am_mok 38 := ⟨am_sub_in 1 _ (List.mem_of_getElem? (i := 47) rfl), am_sub_in 1 _ (List.mem_of_getElem? (i := 46) rfl), fun _ => am_sub_in 4 _ (List.mem_of_getElem? (i := 6) rfl), fun _ => ⟨rfl, by decide⟩, fun e => absurd e (by decide), am_sub_in 0 _ (List.mem_of_getElem? (i := 4) rfl), ⟨by decide +kernel, by decide +kernel, by decide +kernel⟩, by decide, by decide +kernel, fun e => absurd e (by decide), fun e => absurd e (by decide)⟩
set_option maxRecDepth 100000 in
theorem am_ok_39_0 : am_okR 39 0 100 = true := by decide +kernel
set_option maxRecDepth 100000 in
theorem am_ok_39_1 : am_okR 39 100 42 = true := by decide +kernel
theorem am_ok_39 : am_okM 39 := am_chk (lo := 100) (n := 42) (am_chk (lo := 0) (n := 100) (am_ch0) am_ok_39_0) am_ok_39_1
theorem am_mk_39 : am_mok 39 := ⟨am_sub_in 1 _ (List.mem_of_getElem? (i := 59) rfl), am_sub_in 1 _ (List.mem_of_getElem? (i := 58) rfl), fun _ => am_sub_in 4 _ (List.mem_of_getElem? (i := 9) rfl), fun _ => ⟨rfl, by decide⟩, fun e => absurd e (by decide), am_sub_in 0 _ (List.mem_of_getElem? (i := 4) rfl), ⟨by decide +kernel, by decide +kernel, by decide +kernel⟩, by decide, by decide +kernel, fun e => absurd e (by decide), fun e => absurd e (by decide)⟩
set_option maxRecDepth 100000 in
theorem am_ok_40_0 : am_okR 40 0 100 = true := by decide +kernel
set_option maxRecDepth 100000 in
theorem am_ok_40_1 : am_okR 40 100 42 = true := by decide +kernel
theorem am_ok_40 : am_okM 40 := am_chk (lo := 100) (n := 42) (am_chk (lo := 0) (n := 100) (am_ch0) am_ok_40_0) am_ok_40_1
theorem am_mk_40 : am_mok 40 := ⟨am_sub_in 1 _ (List.mem_of_getElem? (i := 51) rfl), am_sub_in 1 _ (List.mem_of_getElem? (i := 50) rfl), fun _ => am_sub_in 4 _ (List.mem_of_getElem? (i := 7) rfl), fun _ => ⟨rfl, by decide⟩, fun e => absurd e (by decide), am_sub_in 0 _ (List.mem_of_getElem? (i := 4) rfl), ⟨by decide +kernel, by decide +kernel, by decide +kernel⟩, by decide, by decide +kernel, fun e => absurd e (by decide), fun e => absurd e (by decide)⟩
