/-! ===== the tables hold, method by method (kernel): 55 to 83 ===== -/
set_option maxRecDepth 100000 in
theorem am_ok_55_0 : am_okR 55 0 100 = true := by decide +kernel
set_option maxRecDepth 100000 in
theorem am_ok_55_1 : am_okR 55 100 10 = true := by decide +kernel
theorem am_ok_55 : am_okM 55 := am_chk (lo := 100) (n := 10) (am_chk (lo := 0) (n := 100) (am_ch0) am_ok_55_0) am_ok_55_1
theorem am_mk_55 : am_mok 55 := ⟨am_sub_in 1 _ (List.mem_of_getElem? (i := 191) rfl), am_sub_in 1 _ (List.mem_of_getElem? (i := 189) rfl), fun _ => am_sub_in 1 _ (List.mem_of_getElem? (i := 190) rfl), fun _ => ⟨rfl, by decide⟩, fun e => absurd e (by decide), am_sub_in 0 _ (List.mem_of_getElem? (i := 1) rfl), ⟨by decide +kernel, by decide +kernel, by decide +kernel⟩, by decide, by decide +kernel, fun e => absurd e (by decide), fun e => absurd e (by decide)⟩
set_option maxRecDepth 100000 in
theorem am_ok_56_0 : am_okR 56 0 25 = true := by decide +kernel
theorem am_ok_56 : am_okM 56 := am_chk (lo := 0) (n := 25) (am_ch0) am_ok_56_0
theorem am_mk_56 : am_mok 56 := ⟨am_sub_in 1 _ (List.mem_of_getElem? (i := 203) rfl), am_sub_in 1 _ (List.mem_of_getElem? (i := 201) rfl), fun _ => am_sub_in 1 _ (List.mem_of_getElem? (i := 202) rfl), fun _ => ⟨rfl, by decide⟩, fun e => absurd e (by decide), am_sub_in 0 _ (List.mem_of_getElem? (i := 1) rfl), ⟨by decide +kernel, by decide +kernel, by decide +kernel⟩, by decide, by decide +kernel, fun e => absurd e (by decide), fun e => absurd e (by decide)⟩
set_option maxRecDepth 100000 in
theorem am_ok_57_0 : am_okR 57 0 22 = true := by decide +kernel
theorem am_ok_57 : am_okM 57 := am_chk (lo := 0) (n := 22) (am_ch0) am_ok_57_0
theorem am_mk_57 : am_mok 57 := ⟨am_sub_in 1 _ (List.mem_of_getElem? (i := 216) rfl), am_sub_in 1 _ (List.mem_of_getElem? (i := 214) rfl), fun _ => am_sub_in 1 _ (List.mem_of_getElem? (i := 215) rfl), fun _ => ⟨rfl, by decide⟩, fun e => absurd e (by decide), am_sub_in 0 _ (List.mem_of_getElem? (i := 1) rfl), ⟨by decide +kernel, by decide +kernel, by decide +kernel⟩, by decide, by decide +kernel, fun e => absurd e (by decide), fun e => absurd e (by decide)⟩
set_option maxRecDepth 100000 in
theorem am_ok_58_0 : am_okR 58 0 79 = true := by decide +kernel
theorem am_ok_58 : am_okM 58 := am_chk (lo := 0) (n := 79) (am_ch0) am_ok_58_0
theorem am_mk_58 : am_mok 58 := ⟨am_sub_in 1 _ (List.mem_of_getElem? (i := 228) rfl), am_sub_in 1 _ (List.mem_of_getElem? (i := 226) rfl), fun _ => am_sub_in 1 _ (List.mem_of_getElem? (i := 227) rfl), fun _ => ⟨rfl, by decide⟩, fun e => absurd e (by decide), am_sub_in 0 _ (List.mem_of_getElem? (i := 1) rfl), ⟨by decide +kernel, by decide +kernel, by decide +kernel⟩, by decide, by decide +kernel, fun e => absurd e (by decide), fun e => absurd e (by decide)⟩
set_option maxRecDepth 100000 in
theorem am_ok_59_0 : am_okR 59 0 59 = true := by decide +kernel
theorem am_ok_59 : am_okM 59 := am_chk (lo := 0) (n := 59) (am_ch0) am_ok_59_0
theorem am_mk_59 : am_mok 59 := ⟨am_sub_in 1 _ (List.mem_of_getElem? (i := 239) rfl), am_sub_in 1 _ (List.mem_of_getElem? (i := 237) rfl), fun _ => am_sub_in 1 _ (List.mem_of_getElem? (i := 238) rfl), fun _ => ⟨rfl, by decide⟩, fun e => absurd e (by decide), am_sub_in 0 _ (List.mem_of_getElem? (i := 1) rfl), ⟨by decide +kernel, by decide +kernel, by decide +kernel⟩, by decide, by decide +kernel, fun e => absurd e (by decide), fun e => absurd e (by decide)⟩
set_option maxRecDepth 100000 in
theorem am_ok_60_0 : am_okR 60 0 25 = true := by decide +kernel
theorem am_ok_60 : am_okM 60 := am_chk (lo := 0) (n := 25) (am_ch0) am_ok_60_0
theorem am_mk_60 : am_mok 60 := ⟨am_sub_in 2 _ (List.mem_of_getElem? (i := 24) rfl), am_sub_in 2 _ (List.mem_of_getElem? (i := 22) rfl), fun _ => am_sub_in 2 _ (List.mem_of_getElem? (i := 23) rfl), fun _ => ⟨rfl, by decide⟩, fun e => absurd e (by decide), am_sub_in 0 _ (List.mem_of_getElem? (i := 1) rfl), ⟨by decide +kernel, by decide +kernel, by decide +kernel⟩, by decide, by decide +kernel, fun e => absurd e (by decide), fun e => absurd e (by decide)⟩
set_option maxRecDepth 100000 in
theorem am_ok_61_0 : am_okR 61 0 25 = true := by decide +kernel
theorem am_ok_61 : am_okM 61 := am_chk (lo := 0) (n := 25) (am_ch0) am_ok_61_0
theorem am_mk_61 : am_mok 61 := ⟨am_sub_in 2 _ (List.mem_of_getElem? (i := 33) rfl), am_sub_in 2 _ (List.mem_of_getElem? (i := 31) rfl), fun _ => am_sub_in 2 _ (List.mem_of_getElem? (i := 32) rfl), fun _ => ⟨rfl, by decide⟩, fun e => absurd e (by decide), am_sub_in 0 _ (List.mem_of_getElem? (i := 1) rfl), ⟨by decide +kernel, by decide +kernel, by decide +kernel⟩, by decide, by decide +kernel, fun e => absurd e (by decide), fun e => absurd e (by decide)⟩
set_option maxRecDepth 100000 in
theorem am_ok_62_0 : am_okR 62 0 62 = true := by decide +kernel
theorem am_ok_62 : am_okM 62 := am_chk (lo := 0) (n := 62) (am_ch0) am_ok_62_0
theorem am_mk_62 : am_mok 62 := ⟨am_sub_in 2 _ (List.mem_of_getElem? (i := 43) rfl), am_sub_in 2 _ (List.mem_of_getElem? (i := 41) rfl), fun _ => am_sub_in 2 _ (List.mem_of_getElem? (i := 42) rfl), fun _ => ⟨rfl, by decide⟩, fun e => absurd e (by decide), am_sub_in 0 _ (List.mem_of_getElem? (i := 1) rfl), ⟨by decide +kernel, by decide +kernel, by decide +kernel⟩, by decide, by decide +kernel, fun e => absurd e (by decide), fun e => absurd e (by decide)⟩
set_option maxRecDepth 100000 in
theorem am_ok_63_0 : am_okR 63 0 35 = true := by decide +kernel
theorem am_ok_63 : am_okM 63 := am_chk (lo := 0) (n := 35) (am_ch0) am_ok_63_0
theorem am_mk_63 : am_mok 63 := ⟨am_sub_in 2 _ (List.mem_of_getElem? (i := 67) rfl), am_sub_in 2 _ (List.mem_of_getElem? (i := 65) rfl), fun _ => am_sub_in 2 _ (List.mem_of_getElem? (i := 66) rfl), fun _ => ⟨rfl, by decide⟩, fun e => absurd e (by decide), am_sub_in 0 _ (List.mem_of_getElem? (i := 1) rfl), ⟨by decide +kernel, by decide +kernel, by decide +kernel⟩, by decide, by decide +kernel, fun e => absurd e (by decide), fun e => absurd e (by decide)⟩
set_option maxRecDepth 100000 in
theorem am_ok_64_0 : am_okR 64 0 14 = true := by decide +kernel
theorem am_ok_64 : am_okM 64 := am_chk (lo := 0) (n := 14) (am_ch0) am_ok_64_0
theorem am_mk_64 : am_mok 64 := ⟨am_sub_in 1 _ (List.mem_of_getElem? (i := 187) rfl), am_sub_in 1 _ (List.mem_of_getElem? (i := 186) rfl), fun e => absurd e (by decide), fun e => absurd e (by decide), fun e => absurd e (by decide), am_sub_in 0 _ (List.mem_of_getElem? (i := 1) rfl), ⟨by decide +kernel, by decide +kernel, by decide +kernel⟩, by decide, by decide +kernel, fun e => absurd e (by decide), fun e => absurd e (by decide)⟩
set_option maxRecDepth 100000 in
theorem am_ok_65_0 : am_okR 65 0 17 = true := by decide +kernel
theorem am_ok_65 : am_okM 65 := am_chk (lo := 0) (n := 17) (am_ch0) am_ok_65_0
theorem am_mk_65 : am_mok 65 := ⟨am_sub_in 3 _ (List.mem_of_getElem? (i := 137) rfl), am_sub_in 3 _ (List.mem_of_getElem? (i := 136) rfl), fun e => absurd e (by decide), fun e => absurd e (by decide), fun e => absurd e (by decide), am_sub_in 0 _ (List.mem_of_getElem? (i := 1) rfl), ⟨by decide +kernel, by decide +kernel, by decide +kernel⟩, by decide, by decide +kernel, fun e => absurd e (by decide), fun e => absurd e (by decide)⟩
set_option maxRecDepth 100000 in
theorem am_ok_66_0 : am_okR 66 0 15 = true := by decide +kernel
theorem am_ok_66 : am_okM 66 := am_chk (lo := 0) (n := 15) (am_ch0) am_ok_66_0
theorem am_mk_66 : am_mok 66 := ⟨am_sub_in 2 _ (List.mem_of_getElem? (i := 46) rfl), am_sub_in 2 _ (List.mem_of_getElem? (i := 45) rfl), fun e => absurd e (by decide), fun e => absurd e (by decide), fun e => absurd e (by decide), am_sub_in 0 _ (List.mem_of_getElem? (i := 1) rfl), ⟨by decide +kernel, by decide +kernel, by decide +kernel⟩, by decide, by decide +kernel, fun e => absurd e (by decide), fun e => absurd e (by decide)⟩
set_option maxRecDepth 100000 in
theorem am_ok_67_0 : am_okR 67 0 16 = true := by decide +kernel
theorem am_ok_67 : am_okM 67 := am_chk (lo := 0) (n := 16) (am_ch0) am_ok_67_0
theorem am_mk_67 : am_mok 67 := ⟨am_sub_in 2 _ (List.mem_of_getElem? (i := 103) rfl), am_sub_in 2 _ (List.mem_of_getElem? (i := 102) rfl), fun e => absurd e (by decide), fun e => absurd e (by decide), fun e => absurd e (by decide), am_sub_in 0 _ (List.mem_of_getElem? (i := 1) rfl), ⟨by decide +kernel, by decide +kernel, by decide +kernel⟩, by decide, by decide +kernel, fun e => absurd e (by decide), fun e => absurd e (by decide)⟩
set_option maxRecDepth 100000 in
theorem am_ok_68_0 : am_okR 68 0 16 = true := by decide +kernel
theorem am_ok_68 : am_okM 68 := am_chk (lo := 0) (n := 16) (am_ch0) am_ok_68_0
theorem am_mk_68 : am_mok 68 := ⟨am_sub_in 2 _ (List.mem_of_getElem? (i := 100) rfl), am_sub_in 2 _ (List.mem_of_getElem? (i := 99) rfl), fun e => absurd e (by decide), fun e => absurd e (by decide), fun e => absurd e (by decide), am_sub_in 0 _ (List.mem_of_getElem? (i := 1) rfl), ⟨by decide +kernel, by decide +kernel, by decide +kernel⟩, by decide, by decide +kernel, fun e => absurd e (by decide), fun e => absurd e (by decide)⟩
set_option maxRecDepth 100000 in
theorem am_ok_69_0 : am_okR 69 0 15 = true := by decide +kernel
theorem am_ok_69 : am_okM 69 := am_chk (lo := 0) (n := 15) (am_ch0) am_ok_69_0
theorem am_mk_69 : am_mok 69 := ⟨am_sub_in 2 _ (List.mem_of_getElem? (i := 143) rfl), am_sub_in 2 _ (List.mem_of_getElem? (i := 142) rfl), fun e => absurd e (by decide), fun e => absurd e (by decide), fun e => absurd e (by decide), am_sub_in 0 _ (List.mem_of_getElem? (i := 1) rfl), ⟨by decide +kernel, by decide +kernel, by decide +kernel⟩, by decide, by decide +kernel, fun e => absurd e (by decide), fun e => absurd e (by decide)⟩
set_option maxRecDepth 100000 in
theorem am_ok_70_0 : am_okR 70 0 100 = true := by decide +kernel
set_option maxRecDepth 100000 in
theorem am_ok_70_1 : am_okR 70 100 66 = true := by decide +kernel
theorem am_ok_70 : am_okM 70 := am_chk (lo := 100) (n := 66) (am_chk (lo := 0) (n := 100) (am_ch0) am_ok_70_0) am_ok_70_1
theorem am_mk_70 : am_mok 70 := ⟨am_sub_in 2 _ (List.mem_of_getElem? (i := 71) rfl), am_sub_in 2 _ (List.mem_of_getElem? (i := 70) rfl), fun _ => am_sub_in 4 _ (List.mem_of_getElem? (i := 12) rfl), fun _ => ⟨rfl, by decide⟩, fun e => absurd e (by decide), am_sub_in 0 _ (List.mem_of_getElem? (i := 1) rfl), ⟨by decide +kernel, by decide +kernel, by decide +kernel⟩, by decide, by decide +kernel, fun e => absurd e (by decide), fun e => absurd e (by decide)⟩
set_option maxRecDepth 100000 in
theorem am_ok_71_0 : am_okR 71 0 44 = true := by decide +kernel
theorem am_ok_71 : am_okM 71 := am_chk (lo := 0) (n := 44) (am_ch0) am_ok_71_0
theorem am_mk_71 : am_mok 71 := ⟨am_sub_in 2 _ (List.mem_of_getElem? (i := 75) rfl), am_sub_in 2 _ (List.mem_of_getElem? (i := 74) rfl), fun _ => am_sub_in 4 _ (List.mem_of_getElem? (i := 13) rfl), fun _ => ⟨rfl, by decide⟩, fun e => absurd e (by decide), am_sub_in 0 _ (List.mem_of_getElem? (i := 1) rfl), ⟨by decide +kernel, by decide +kernel, by decide +kernel⟩, by decide, by decide +kernel, fun e => absurd e (by decide), fun e => absurd e (by decide)⟩
set_option maxRecDepth 100000 in
theorem am_ok_72_0 : am_okR 72 0 39 = true := by decide +kernel
theorem am_ok_72 : am_okM 72 := am_chk (lo := 0) (n := 39) (am_ch0) am_ok_72_0
theorem am_mk_72 : am_mok 72 := ⟨am_sub_in 2 _ (List.mem_of_getElem? (i := 169) rfl), am_sub_in 2 _ (List.mem_of_getElem? (i := 168) rfl), fun e => absurd e (by decide), fun e => absurd e (by decide), fun _ => ⟨rfl, rfl⟩, am_sub_in 0 _ (List.mem_of_getElem? (i := 16) rfl), ⟨by decide +kernel, by decide +kernel, by decide +kernel⟩, by decide, by decide +kernel, fun e => absurd e (by decide), fun e => absurd e (by decide)⟩
set_option maxRecDepth 100000 in
theorem am_ok_73_0 : am_okR 73 0 5 = true := by decide +kernel
theorem am_ok_73 : am_okM 73 := am_chk (lo := 0) (n := 5) (am_ch0) am_ok_73_0
theorem am_mk_73 : am_mok 73 := ⟨am_sub_in 3 _ (List.mem_of_getElem? (i := 94) rfl), am_sub_in 3 _ (List.mem_of_getElem? (i := 88) rfl), fun e => absurd e (by decide), fun e => absurd e (by decide), fun e => absurd e (by decide), am_sub_in 0 _ (List.mem_of_getElem? (i := 16) rfl), ⟨by decide +kernel, by decide +kernel, by decide +kernel⟩, by decide, by decide +kernel, fun e => absurd e (by decide), fun _ => ⟨rfl, by decide +kernel, am_sub_in 3 _ (List.mem_of_getElem? (i := 89) rfl)⟩⟩
set_option maxRecDepth 100000 in
theorem am_ok_74_0 : am_okR 74 0 39 = true := by decide +kernel
theorem am_ok_74 : am_okM 74 := am_chk (lo := 0) (n := 39) (am_ch0) am_ok_74_0
theorem am_mk_74 : am_mok 74 := ⟨am_sub_in 2 _ (List.mem_of_getElem? (i := 207) rfl), am_sub_in 2 _ (List.mem_of_getElem? (i := 206) rfl), fun e => absurd e (by decide), fun e => absurd e (by decide), fun e => absurd e (by decide), am_sub_in 0 _ (List.mem_of_getElem? (i := 16) rfl), ⟨by decide +kernel, by decide +kernel, by decide +kernel⟩, by decide, by decide +kernel, fun _ => ⟨rfl, am_sub_in 3 _ (List.mem_of_getElem? (i := 186) rfl), am_sub_in 5 _ (List.mem_of_getElem? (i := 0) rfl)⟩, fun e => absurd e (by decide)⟩
set_option maxRecDepth 100000 in
theorem am_ok_75_0 : am_okR 75 0 59 = true := by decide +kernel
theorem am_ok_75 : am_okM 75 := am_chk (lo := 0) (n := 59) (am_ch0) am_ok_75_0
theorem am_mk_75 : am_mok 75 := ⟨am_sub_in 2 _ (List.mem_of_getElem? (i := 211) rfl), am_sub_in 2 _ (List.mem_of_getElem? (i := 210) rfl), fun e => absurd e (by decide), fun e => absurd e (by decide), fun e => absurd e (by decide), am_sub_in 0 _ (List.mem_of_getElem? (i := 16) rfl), ⟨by decide +kernel, by decide +kernel, by decide +kernel⟩, by decide, by decide +kernel, fun _ => ⟨rfl, am_sub_in 3 _ (List.mem_of_getElem? (i := 187) rfl), am_sub_in 5 _ (List.mem_of_getElem? (i := 1) rfl)⟩, fun e => absurd e (by decide)⟩
set_option maxRecDepth 100000 in
theorem am_ok_76_0 : am_okR 76 0 45 = true := by decide +kernel
theorem am_ok_76 : am_okM 76 := am_chk (lo := 0) (n := 45) (am_ch0) am_ok_76_0
theorem am_mk_76 : am_mok 76 := ⟨am_sub_in 2 _ (List.mem_of_getElem? (i := 199) rfl), am_sub_in 2 _ (List.mem_of_getElem? (i := 198) rfl), fun e => absurd e (by decide), fun e => absurd e (by decide), fun e => absurd e (by decide), am_sub_in 0 _ (List.mem_of_getElem? (i := 16) rfl), ⟨by decide +kernel, by decide +kernel, by decide +kernel⟩, by decide, by decide +kernel, fun e => absurd e (by decide), fun _ => ⟨rfl, by decide +kernel, am_sub_in 3 _ (List.mem_of_getElem? (i := 184) rfl)⟩⟩
set_option maxRecDepth 100000 in
theorem am_ok_77_0 : am_okR 77 0 55 = true := by decide +kernel
theorem am_ok_77 : am_okM 77 := am_chk (lo := 0) (n := 55) (am_ch0) am_ok_77_0
theorem am_mk_77 : am_mok 77 := ⟨am_sub_in 3 _ (List.mem_of_getElem? (i := 47) rfl), am_sub_in 3 _ (List.mem_of_getElem? (i := 46) rfl), fun e => absurd e (by decide), fun e => absurd e (by decide), fun e => absurd e (by decide), am_sub_in 0 _ (List.mem_of_getElem? (i := 16) rfl), ⟨by decide +kernel, by decide +kernel, by decide +kernel⟩, by decide, by decide +kernel, fun e => absurd e (by decide), fun _ => ⟨rfl, by decide +kernel, am_sub_in 3 _ (List.mem_of_getElem? (i := 191) rfl)⟩⟩
set_option maxRecDepth 100000 in
theorem am_ok_78_0 : am_okR 78 0 5 = true := by decide +kernel
theorem am_ok_78 : am_okM 78 := am_chk (lo := 0) (n := 5) (am_ch0) am_ok_78_0
theorem am_mk_78 : am_mok 78 := ⟨am_sub_in 3 _ (List.mem_of_getElem? (i := 86) rfl), am_sub_in 3 _ (List.mem_of_getElem? (i := 83) rfl), fun e => absurd e (by decide), fun e => absurd e (by decide), fun e => absurd e (by decide), am_sub_in 0 _ (List.mem_of_getElem? (i := 16) rfl), ⟨by decide +kernel, by decide +kernel, by decide +kernel⟩, by decide, by decide +kernel, fun _ => ⟨rfl, am_sub_in 3 _ (List.mem_of_getElem? (i := 84) rfl), am_sub_in 3 _ (List.mem_of_getElem? (i := 85) rfl)⟩, fun e => absurd e (by decide)⟩
set_option maxRecDepth 100000 in
theorem am_ok_79_0 : am_okR 79 0 19 = true := by decide +kernel
theorem am_ok_79 : am_okM 79 := am_chk (lo := 0) (n := 19) (am_ch0) am_ok_79_0
theorem am_mk_79 : am_mok 79 := ⟨am_sub_in 2 _ (List.mem_of_getElem? (i := 239) rfl), am_sub_in 2 _ (List.mem_of_getElem? (i := 236) rfl), fun e => absurd e (by decide), fun e => absurd e (by decide), fun e => absurd e (by decide), am_sub_in 0 _ (List.mem_of_getElem? (i := 16) rfl), ⟨by decide +kernel, by decide +kernel, by decide +kernel⟩, by decide, by decide +kernel, fun _ => ⟨rfl, am_sub_in 2 _ (List.mem_of_getElem? (i := 237) rfl), am_sub_in 2 _ (List.mem_of_getElem? (i := 238) rfl)⟩, fun e => absurd e (by decide)⟩
set_option maxRecDepth 100000 in
theorem am_ok_80_0 : am_okR 80 0 22 = true := by decide +kernel
theorem am_ok_80 : am_okM 80 := am_chk (lo := 0) (n := 22) (am_ch0) am_ok_80_0
theorem am_mk_80 : am_mok 80 := ⟨am_sub_in 3 _ (List.mem_of_getElem? (i := 14) rfl), am_sub_in 3 _ (List.mem_of_getElem? (i := 13) rfl), fun e => absurd e (by decide), fun e => absurd e (by decide), fun e => absurd e (by decide), am_sub_in 0 _ (List.mem_of_getElem? (i := 16) rfl), ⟨by decide +kernel, by decide +kernel, by decide +kernel⟩, by decide, by decide +kernel, fun _ => ⟨rfl, am_sub_in 3 _ (List.mem_of_getElem? (i := 189) rfl), am_sub_in 5 _ (List.mem_of_getElem? (i := 3) rfl)⟩, fun e => absurd e (by decide)⟩
set_option maxRecDepth 100000 in
theorem am_ok_81_0 : am_okR 81 0 19 = true := by decide +kernel
theorem am_ok_81 : am_okM 81 := am_chk (lo := 0) (n := 19) (am_ch0) am_ok_81_0
theorem am_mk_81 : am_mok 81 := ⟨am_sub_in 3 _ (List.mem_of_getElem? (i := 10) rfl), am_sub_in 3 _ (List.mem_of_getElem? (i := 9) rfl), fun e => absurd e (by decide), fun e => absurd e (by decide), fun e => absurd e (by decide), am_sub_in 0 _ (List.mem_of_getElem? (i := 16) rfl), ⟨by decide +kernel, by decide +kernel, by decide +kernel⟩, by decide, by decide +kernel, fun _ => ⟨rfl, am_sub_in 3 _ (List.mem_of_getElem? (i := 188) rfl), am_sub_in 5 _ (List.mem_of_getElem? (i := 2) rfl)⟩, fun e => absurd e (by decide)⟩
set_option maxRecDepth 100000 in
theorem am_ok_82_0 : am_okR 82 0 100 = true := by decide +kernel
set_option maxRecDepth 100000 in
theorem am_ok_82_1 : am_okR 82 100 21 = true := by decide +kernel
theorem am_ok_82 : am_okM 82 := am_chk (lo := 100) (n := 21) (am_chk (lo := 0) (n := 100) (am_ch0) am_ok_82_0) am_ok_82_1
theorem am_mk_82 : am_mok 82 := ⟨am_sub_in 3 _ (List.mem_of_getElem? (i := 53) rfl), am_sub_in 3 _ (List.mem_of_getElem? (i := 52) rfl), fun e => absurd e (by decide), fun e => absurd e (by decide), fun e => absurd e (by decide), am_sub_in 0 _ (List.mem_of_getElem? (i := 15) rfl), ⟨by decide +kernel, by decide +kernel, by decide +kernel⟩, by decide, by decide +kernel, fun e => absurd e (by decide), fun e => absurd e (by decide)⟩
set_option maxRecDepth 100000 in
theorem am_ok_83_0 : am_okR 83 0 47 = true := by decide +kernel
theorem am_ok_83 : am_okM 83 := am_chk (lo := 0) (n := 47) (am_ch0) am_ok_83_0
theorem am_mk_83 : am_mok 83 := ⟨am_sub_in 3 _ (List.mem_of_getElem? (i := 50) rfl), am_sub_in 3 _ (List.mem_of_getElem? (i := 49) rfl), fun e => absurd e (by decide), fun e => absurd e (by decide), fun e => absurd e (by decide), am_sub_in 0 _ (List.mem_of_getElem? (i := 15) rfl), ⟨by decide +kernel, by decide +kernel, by decide +kernel⟩, by decide, by decide +kernel, fun e => absurd e (by decide), fun e => absurd e (by decide)⟩
