/-! ===== the tables hold, method by method (kernel): 58 to 77 ===== -/
set_option maxRecDepth 100000 in
theorem am_ok_58_0 : am_okR 58 0 82 = true := by decide +kernel
theorem am_ok_58 : am_okM 58 := am_chk (lo := 0) (n := 82) (am_ch0) am_ok_58_0
theorem am_mk_58 : am_mok 58 := ⟨am_sub_in 0 _ (List.mem_of_getElem? (i := 206) rfl), am_sub_in 0 _ (List.mem_of_getElem? (i := 205) rfl), fun _ => am_sub_in 7 _ (List.mem_of_getElem? (i := 1) rfl), fun _ => Or.inl ⟨rfl, by decide⟩, fun e => absurd e (by decide), am_sub_in 0 _ (List.mem_of_getElem? (i := 4) rfl), ⟨by decide +kernel, by decide +kernel, by decide +kernel⟩, by decide, by decide +kernel⟩
set_option maxRecDepth 100000 in
theorem am_ok_59_0 : am_okR 59 0 95 = true := by decide +kernel
theorem am_ok_59 : am_okM 59 := am_chk (lo := 0) (n := 95) (am_ch0) am_ok_59_0
theorem am_mk_59 : am_mok 59 := ⟨am_sub_in 0 _ (List.mem_of_getElem? (i := 217) rfl), am_sub_in 0 _ (List.mem_of_getElem? (i := 216) rfl), fun _ => am_sub_in 7 _ (List.mem_of_getElem? (i := 3) rfl), fun _ => Or.inl ⟨rfl, by decide⟩, fun e => absurd e (by decide), am_sub_in 0 _ (List.mem_of_getElem? (i := 4) rfl), ⟨by decide +kernel, by decide +kernel, by decide +kernel⟩, by decide, by decide +kernel⟩
set_option maxRecDepth 100000 in
theorem am_ok_60_0 : am_okR 60 0 100 = true := by decide +kernel
set_option maxRecDepth 100000 in
theorem am_ok_60_1 : am_okR 60 100 5 = true := by decide +kernel
theorem am_ok_60 : am_okM 60 := am_chk (lo := 100) (n := 5) (am_chk (lo := 0) (n := 100) (am_ch0) am_ok_60_0) am_ok_60_1
theorem am_mk_60 : am_mok 60 := ⟨am_sub_in 0 _ (List.mem_of_getElem? (i := 210) rfl), am_sub_in 0 _ (List.mem_of_getElem? (i := 209) rfl), fun _ => am_sub_in 7 _ (List.mem_of_getElem? (i := 2) rfl), fun _ => Or.inl ⟨rfl, by decide⟩, fun e => absurd e (by decide), am_sub_in 0 _ (List.mem_of_getElem? (i := 4) rfl), ⟨by decide +kernel, by decide +kernel, by decide +kernel⟩, by decide, by decide +kernel⟩
set_option maxRecDepth 100000 in
theorem am_ok_61_0 : am_okR 61 0 16 = true := by decide +kernel
theorem am_ok_61 : am_okM 61 := am_chk (lo := 0) (n := 16) (am_ch0) am_ok_61_0
theorem am_mk_61 : am_mok 61 := ⟨am_sub_in 0 _ (List.mem_of_getElem? (i := 202) rfl), am_sub_in 0 _ (List.mem_of_getElem? (i := 201) rfl), fun e => absurd e (by decide), fun e => absurd e (by decide), fun e => absurd e (by decide), am_sub_in 0 _ (List.mem_of_getElem? (i := 4) rfl), ⟨by decide +kernel, by decide +kernel, by decide +kernel⟩, by decide, by decide +kernel⟩
set_option maxRecDepth 100000 in
theorem am_ok_62_0 : am_okR 62 0 23 = true := by decide +kernel
theorem am_ok_62 : am_okM 62 := am_chk (lo := 0) (n := 23) (am_ch0) am_ok_62_0
theorem am_mk_62 : am_mok 62 := ⟨am_sub_in 1 _ (List.mem_of_getElem? (i := 129) rfl), am_sub_in 1 _ (List.mem_of_getElem? (i := 128) rfl), fun e => absurd e (by decide), fun e => absurd e (by decide), fun _ => ⟨rfl, rfl⟩, am_sub_in 0 _ (List.mem_of_getElem? (i := 13) rfl), ⟨by decide +kernel, by decide +kernel, by decide +kernel⟩, by decide, by decide +kernel⟩
set_option maxRecDepth 100000 in
theorem am_ok_63_0 : am_okR 63 0 14 = true := by decide +kernel
theorem am_ok_63 : am_okM 63 := am_chk (lo := 0) (n := 14) (am_ch0) am_ok_63_0
theorem am_mk_63 : am_mok 63 := ⟨am_sub_in 3 _ (List.mem_of_getElem? (i := 74) rfl), am_sub_in 3 _ (List.mem_of_getElem? (i := 72) rfl), fun _ => am_sub_in 3 _ (List.mem_of_getElem? (i := 73) rfl), fun _ => Or.inl ⟨rfl, by decide⟩, fun e => absurd e (by decide), am_sub_in 0 _ (List.mem_of_getElem? (i := 13) rfl), ⟨by decide +kernel, by decide +kernel, by decide +kernel⟩, by decide, by decide +kernel⟩
set_option maxRecDepth 100000 in
theorem am_ok_64_0 : am_okR 64 0 18 = true := by decide +kernel
theorem am_ok_64 : am_okM 64 := am_chk (lo := 0) (n := 18) (am_ch0) am_ok_64_0
theorem am_mk_64 : am_mok 64 := ⟨am_sub_in 3 _ (List.mem_of_getElem? (i := 163) rfl), am_sub_in 3 _ (List.mem_of_getElem? (i := 161) rfl), fun _ => am_sub_in 3 _ (List.mem_of_getElem? (i := 162) rfl), fun _ => Or.inl ⟨rfl, by decide⟩, fun e => absurd e (by decide), am_sub_in 0 _ (List.mem_of_getElem? (i := 13) rfl), ⟨by decide +kernel, by decide +kernel, by decide +kernel⟩, by decide, by decide +kernel⟩
set_option maxRecDepth 100000 in
theorem am_ok_65_0 : am_okR 65 0 32 = true := by decide +kernel
theorem am_ok_65 : am_okM 65 := am_chk (lo := 0) (n := 32) (am_ch0) am_ok_65_0
theorem am_mk_65 : am_mok 65 := ⟨am_sub_in 3 _ (List.mem_of_getElem? (i := 171) rfl), am_sub_in 3 _ (List.mem_of_getElem? (i := 169) rfl), fun _ => am_sub_in 3 _ (List.mem_of_getElem? (i := 170) rfl), fun _ => Or.inl ⟨rfl, by decide⟩, fun e => absurd e (by decide), am_sub_in 0 _ (List.mem_of_getElem? (i := 13) rfl), ⟨by decide +kernel, by decide +kernel, by decide +kernel⟩, by decide, by decide +kernel⟩
set_option maxRecDepth 100000 in
theorem am_ok_66_0 : am_okR 66 0 32 = true := by decide +kernel
theorem am_ok_66 : am_okM 66 := am_chk (lo := 0) (n := 32) (am_ch0) am_ok_66_0
theorem am_mk_66 : am_mok 66 := ⟨am_sub_in 3 _ (List.mem_of_getElem? (i := 111) rfl), am_sub_in 3 _ (List.mem_of_getElem? (i := 109) rfl), fun _ => am_sub_in 3 _ (List.mem_of_getElem? (i := 110) rfl), fun _ => Or.inl ⟨rfl, by decide⟩, fun e => absurd e (by decide), am_sub_in 0 _ (List.mem_of_getElem? (i := 13) rfl), ⟨by decide +kernel, by decide +kernel, by decide +kernel⟩, by decide, by decide +kernel⟩
set_option maxRecDepth 100000 in
theorem am_ok_67_0 : am_okR 67 0 33 = true := by decide +kernel
theorem am_ok_67 : am_okM 67 := am_chk (lo := 0) (n := 33) (am_ch0) am_ok_67_0
theorem am_mk_67 : am_mok 67 := ⟨am_sub_in 3 _ (List.mem_of_getElem? (i := 115) rfl), am_sub_in 3 _ (List.mem_of_getElem? (i := 113) rfl), fun _ => am_sub_in 3 _ (List.mem_of_getElem? (i := 114) rfl), fun _ => Or.inl ⟨rfl, by decide⟩, fun e => absurd e (by decide), am_sub_in 0 _ (List.mem_of_getElem? (i := 13) rfl), ⟨by decide +kernel, by decide +kernel, by decide +kernel⟩, by decide, by decide +kernel⟩
set_option maxRecDepth 100000 in
theorem am_ok_68_0 : am_okR 68 0 100 = true := by decide +kernel
set_option maxRecDepth 100000 in
theorem am_ok_68_1 : am_okR 68 100 32 = true := by decide +kernel
theorem am_ok_68 : am_okM 68 := am_chk (lo := 100) (n := 32) (am_chk (lo := 0) (n := 100) (am_ch0) am_ok_68_0) am_ok_68_1
theorem am_mk_68 : am_mok 68 := ⟨am_sub_in 0 _ (List.mem_of_getElem? (i := 22) rfl), am_sub_in 0 _ (List.mem_of_getElem? (i := 21) rfl), fun e => absurd e (by decide), fun e => absurd e (by decide), fun _ => ⟨rfl, rfl⟩, am_sub_in 0 _ (List.mem_of_getElem? (i := 1) rfl), ⟨by decide +kernel, by decide +kernel, by decide +kernel⟩, by decide, by decide +kernel⟩
set_option maxRecDepth 100000 in
theorem am_ok_69_0 : am_okR 69 0 100 = true := by decide +kernel
set_option maxRecDepth 100000 in
theorem am_ok_69_1 : am_okR 69 100 6 = true := by decide +kernel
theorem am_ok_69 : am_okM 69 := am_chk (lo := 100) (n := 6) (am_chk (lo := 0) (n := 100) (am_ch0) am_ok_69_0) am_ok_69_1
theorem am_mk_69 : am_mok 69 := ⟨am_sub_in 1 _ (List.mem_of_getElem? (i := 178) rfl), am_sub_in 1 _ (List.mem_of_getElem? (i := 176) rfl), fun _ => am_sub_in 1 _ (List.mem_of_getElem? (i := 177) rfl), fun _ => Or.inl ⟨rfl, by decide⟩, fun e => absurd e (by decide), am_sub_in 0 _ (List.mem_of_getElem? (i := 1) rfl), ⟨by decide +kernel, by decide +kernel, by decide +kernel⟩, by decide, by decide +kernel⟩
set_option maxRecDepth 100000 in
theorem am_ok_70_0 : am_okR 70 0 100 = true := by decide +kernel
set_option maxRecDepth 100000 in
theorem am_ok_70_1 : am_okR 70 100 51 = true := by decide +kernel
theorem am_ok_70 : am_okM 70 := am_chk (lo := 100) (n := 51) (am_chk (lo := 0) (n := 100) (am_ch0) am_ok_70_0) am_ok_70_1
theorem am_mk_70 : am_mok 70 := ⟨am_sub_in 1 _ (List.mem_of_getElem? (i := 182) rfl), am_sub_in 1 _ (List.mem_of_getElem? (i := 180) rfl), fun _ => am_sub_in 1 _ (List.mem_of_getElem? (i := 181) rfl), fun _ => Or.inl ⟨rfl, by decide⟩, fun e => absurd e (by decide), am_sub_in 0 _ (List.mem_of_getElem? (i := 1) rfl), ⟨by decide +kernel, by decide +kernel, by decide +kernel⟩, by decide, by decide +kernel⟩
set_option maxRecDepth 100000 in
theorem am_ok_71_0 : am_okR 71 0 51 = true := by decide +kernel
theorem am_ok_71 : am_okM 71 := am_chk (lo := 0) (n := 51) (am_ch0) am_ok_71_0
theorem am_mk_71 : am_mok 71 := ⟨am_sub_in 1 _ (List.mem_of_getElem? (i := 190) rfl), am_sub_in 1 _ (List.mem_of_getElem? (i := 188) rfl), fun _ => am_sub_in 1 _ (List.mem_of_getElem? (i := 189) rfl), fun _ => Or.inl ⟨rfl, by decide⟩, fun e => absurd e (by decide), am_sub_in 0 _ (List.mem_of_getElem? (i := 1) rfl), ⟨by decide +kernel, by decide +kernel, by decide +kernel⟩, by decide, by decide +kernel⟩
set_option maxRecDepth 100000 in
theorem am_ok_72_0 : am_okR 72 0 36 = true := by decide +kernel
theorem am_ok_72 : am_okM 72 := am_chk (lo := 0) (n := 36) (am_ch0) am_ok_72_0
theorem am_mk_72 : am_mok 72 := ⟨am_sub_in 1 _ (List.mem_of_getElem? (i := 198) rfl), am_sub_in 1 _ (List.mem_of_getElem? (i := 196) rfl), fun _ => am_sub_in 1 _ (List.mem_of_getElem? (i := 197) rfl), fun _ => Or.inl ⟨rfl, by decide⟩, fun e => absurd e (by decide), am_sub_in 0 _ (List.mem_of_getElem? (i := 1) rfl), ⟨by decide +kernel, by decide +kernel, by decide +kernel⟩, by decide, by decide +kernel⟩
set_option maxRecDepth 100000 in
theorem am_ok_73_0 : am_okR 73 0 70 = true := by decide +kernel
theorem am_ok_73 : am_okM 73 := am_chk (lo := 0) (n := 70) (am_ch0) am_ok_73_0
theorem am_mk_73 : am_mok 73 := ⟨am_sub_in 1 _ (List.mem_of_getElem? (i := 202) rfl), am_sub_in 1 _ (List.mem_of_getElem? (i := 200) rfl), fun _ => am_sub_in 1 _ (List.mem_of_getElem? (i := 201) rfl), fun _ => Or.inl ⟨rfl, by decide⟩, fun e => absurd e (by decide), am_sub_in 0 _ (List.mem_of_getElem? (i := 1) rfl), ⟨by decide +kernel, by decide +kernel, by decide +kernel⟩, by decide, by decide +kernel⟩
set_option maxRecDepth 100000 in
theorem am_ok_74_0 : am_okR 74 0 62 = true := by decide +kernel
theorem am_ok_74 : am_okM 74 := am_chk (lo := 0) (n := 62) (am_ch0) am_ok_74_0
theorem am_mk_74 : am_mok 74 := ⟨am_sub_in 1 _ (List.mem_of_getElem? (i := 239) rfl), am_sub_in 1 _ (List.mem_of_getElem? (i := 237) rfl), fun _ => am_sub_in 1 _ (List.mem_of_getElem? (i := 238) rfl), fun _ => Or.inl ⟨rfl, by decide⟩, fun e => absurd e (by decide), am_sub_in 0 _ (List.mem_of_getElem? (i := 1) rfl), ⟨by decide +kernel, by decide +kernel, by decide +kernel⟩, by decide, by decide +kernel⟩
set_option maxRecDepth 100000 in
theorem am_ok_75_0 : am_okR 75 0 46 = true := by decide +kernel
theorem am_ok_75 : am_okM 75 := am_chk (lo := 0) (n := 46) (am_ch0) am_ok_75_0
theorem am_mk_75 : am_mok 75 := ⟨am_sub_in 2 _ (List.mem_of_getElem? (i := 30) rfl), am_sub_in 2 _ (List.mem_of_getElem? (i := 28) rfl), fun _ => am_sub_in 2 _ (List.mem_of_getElem? (i := 29) rfl), fun _ => Or.inl ⟨rfl, by decide⟩, fun e => absurd e (by decide), am_sub_in 0 _ (List.mem_of_getElem? (i := 1) rfl), ⟨by decide +kernel, by decide +kernel, by decide +kernel⟩, by decide, by decide +kernel⟩
set_option maxRecDepth 100000 in
theorem am_ok_76_0 : am_okR 76 0 94 = true := by decide +kernel
theorem am_ok_76 : am_okM 76 := am_chk (lo := 0) (n := 94) (am_ch0) am_ok_76_0
theorem am_mk_76 : am_mok 76 := ⟨am_sub_in 2 _ (List.mem_of_getElem? (i := 34) rfl), am_sub_in 2 _ (List.mem_of_getElem? (i := 32) rfl), fun _ => am_sub_in 2 _ (List.mem_of_getElem? (i := 33) rfl), fun _ => Or.inl ⟨rfl, by decide⟩, fun e => absurd e (by decide), am_sub_in 0 _ (List.mem_of_getElem? (i := 1) rfl), ⟨by decide +kernel, by decide +kernel, by decide +kernel⟩, by decide, by decide +kernel⟩
set_option maxRecDepth 100000 in
theorem am_ok_77_0 : am_okR 77 0 86 = true := by decide +kernel
theorem am_ok_77 : am_okM 77 := am_chk (lo := 0) (n := 86) (am_ch0) am_ok_77_0
theorem am_mk_77 : am_mok 77 := ⟨am_sub_in 2 _ (List.mem_of_getElem? (i := 42) rfl), am_sub_in 2 _ (List.mem_of_getElem? (i := 40) rfl), fun _ => am_sub_in 2 _ (List.mem_of_getElem? (i := 41) rfl), fun _ => Or.inl ⟨rfl, by decide⟩, fun e => absurd e (by decide), am_sub_in 0 _ (List.mem_of_getElem? (i := 1) rfl), ⟨by decide +kernel, by decide +kernel, by decide +kernel⟩, by decide, by decide +kernel⟩
