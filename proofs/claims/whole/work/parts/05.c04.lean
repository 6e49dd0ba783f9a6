/-! ===== the tables hold, method by method (kernel): 78 to 97 ===== -/
set_option maxRecDepth 100000 in
theorem am_ok_78_0 : am_okR 78 0 100 = true := by decide +kernel
set_option maxRecDepth 100000 in
theorem am_ok_78_1 : am_okR 78 100 34 = true := by decide +kernel
theorem am_ok_78 : am_okM 78 := am_chk (lo := 100) (n := 34) (am_chk (lo := 0) (n := 100) (am_ch0) am_ok_78_0) am_ok_78_1
theorem am_mk_78 : am_mok 78 := ⟨am_sub_in 2 _ (List.mem_of_getElem? (i := 65) rfl), am_sub_in 2 _ (List.mem_of_getElem? (i := 63) rfl), fun _ => am_sub_in 2 _ (List.mem_of_getElem? (i := 64) rfl), fun _ => Or.inl ⟨rfl, by decide⟩, fun e => absurd e (by decide), am_sub_in 0 _ (List.mem_of_getElem? (i := 1) rfl), ⟨by decide +kernel, by decide +kernel, by decide +kernel⟩, by decide, by decide +kernel⟩
set_option maxRecDepth 100000 in
theorem am_ok_79_0 : am_okR 79 0 100 = true := by decide +kernel
set_option maxRecDepth 100000 in
theorem am_ok_79_1 : am_okR 79 100 10 = true := by decide +kernel
theorem am_ok_79 : am_okM 79 := am_chk (lo := 100) (n := 10) (am_chk (lo := 0) (n := 100) (am_ch0) am_ok_79_0) am_ok_79_1
theorem am_mk_79 : am_mok 79 := ⟨am_sub_in 2 _ (List.mem_of_getElem? (i := 74) rfl), am_sub_in 2 _ (List.mem_of_getElem? (i := 72) rfl), fun _ => am_sub_in 2 _ (List.mem_of_getElem? (i := 73) rfl), fun _ => Or.inl ⟨rfl, by decide⟩, fun e => absurd e (by decide), am_sub_in 0 _ (List.mem_of_getElem? (i := 1) rfl), ⟨by decide +kernel, by decide +kernel, by decide +kernel⟩, by decide, by decide +kernel⟩
set_option maxRecDepth 100000 in
theorem am_ok_80_0 : am_okR 80 0 25 = true := by decide +kernel
theorem am_ok_80 : am_okM 80 := am_chk (lo := 0) (n := 25) (am_ch0) am_ok_80_0
theorem am_mk_80 : am_mok 80 := ⟨am_sub_in 2 _ (List.mem_of_getElem? (i := 82) rfl), am_sub_in 2 _ (List.mem_of_getElem? (i := 80) rfl), fun _ => am_sub_in 2 _ (List.mem_of_getElem? (i := 81) rfl), fun _ => Or.inl ⟨rfl, by decide⟩, fun e => absurd e (by decide), am_sub_in 0 _ (List.mem_of_getElem? (i := 1) rfl), ⟨by decide +kernel, by decide +kernel, by decide +kernel⟩, by decide, by decide +kernel⟩
set_option maxRecDepth 100000 in
theorem am_ok_81_0 : am_okR 81 0 22 = true := by decide +kernel
theorem am_ok_81 : am_okM 81 := am_chk (lo := 0) (n := 22) (am_ch0) am_ok_81_0
theorem am_mk_81 : am_mok 81 := ⟨am_sub_in 2 _ (List.mem_of_getElem? (i := 95) rfl), am_sub_in 2 _ (List.mem_of_getElem? (i := 93) rfl), fun _ => am_sub_in 2 _ (List.mem_of_getElem? (i := 94) rfl), fun _ => Or.inl ⟨rfl, by decide⟩, fun e => absurd e (by decide), am_sub_in 0 _ (List.mem_of_getElem? (i := 1) rfl), ⟨by decide +kernel, by decide +kernel, by decide +kernel⟩, by decide, by decide +kernel⟩
set_option maxRecDepth 100000 in
theorem am_ok_82_0 : am_okR 82 0 79 = true := by decide +kernel
theorem am_ok_82 : am_okM 82 := am_chk (lo := 0) (n := 79) (am_ch0) am_ok_82_0
theorem am_mk_82 : am_mok 82 := ⟨am_sub_in 2 _ (List.mem_of_getElem? (i := 103) rfl), am_sub_in 2 _ (List.mem_of_getElem? (i := 101) rfl), fun _ => am_sub_in 2 _ (List.mem_of_getElem? (i := 102) rfl), fun _ => Or.inl ⟨rfl, by decide⟩, fun e => absurd e (by decide), am_sub_in 0 _ (List.mem_of_getElem? (i := 1) rfl), ⟨by decide +kernel, by decide +kernel, by decide +kernel⟩, by decide, by decide +kernel⟩
set_option maxRecDepth 100000 in
theorem am_ok_83_0 : am_okR 83 0 59 = true := by decide +kernel
theorem am_ok_83 : am_okM 83 := am_chk (lo := 0) (n := 59) (am_ch0) am_ok_83_0
theorem am_mk_83 : am_mok 83 := ⟨am_sub_in 2 _ (List.mem_of_getElem? (i := 109) rfl), am_sub_in 2 _ (List.mem_of_getElem? (i := 107) rfl), fun _ => am_sub_in 2 _ (List.mem_of_getElem? (i := 108) rfl), fun _ => Or.inl ⟨rfl, by decide⟩, fun e => absurd e (by decide), am_sub_in 0 _ (List.mem_of_getElem? (i := 1) rfl), ⟨by decide +kernel, by decide +kernel, by decide +kernel⟩, by decide, by decide +kernel⟩
set_option maxRecDepth 100000 in
theorem am_ok_84_0 : am_okR 84 0 25 = true := by decide +kernel
theorem am_ok_84 : am_okM 84 := am_chk (lo := 0) (n := 25) (am_ch0) am_ok_84_0
theorem am_mk_84 : am_mok 84 := ⟨am_sub_in 2 _ (List.mem_of_getElem? (i := 118) rfl), am_sub_in 2 _ (List.mem_of_getElem? (i := 116) rfl), fun _ => am_sub_in 2 _ (List.mem_of_getElem? (i := 117) rfl), fun _ => Or.inl ⟨rfl, by decide⟩, fun e => absurd e (by decide), am_sub_in 0 _ (List.mem_of_getElem? (i := 1) rfl), ⟨by decide +kernel, by decide +kernel, by decide +kernel⟩, by decide, by decide +kernel⟩
set_option maxRecDepth 100000 in
theorem am_ok_85_0 : am_okR 85 0 25 = true := by decide +kernel
theorem am_ok_85 : am_okM 85 := am_chk (lo := 0) (n := 25) (am_ch0) am_ok_85_0
theorem am_mk_85 : am_mok 85 := ⟨am_sub_in 2 _ (List.mem_of_getElem? (i := 127) rfl), am_sub_in 2 _ (List.mem_of_getElem? (i := 125) rfl), fun _ => am_sub_in 2 _ (List.mem_of_getElem? (i := 126) rfl), fun _ => Or.inl ⟨rfl, by decide⟩, fun e => absurd e (by decide), am_sub_in 0 _ (List.mem_of_getElem? (i := 1) rfl), ⟨by decide +kernel, by decide +kernel, by decide +kernel⟩, by decide, by decide +kernel⟩
set_option maxRecDepth 100000 in
theorem am_ok_86_0 : am_okR 86 0 62 = true := by decide +kernel
theorem am_ok_86 : am_okM 86 := am_chk (lo := 0) (n := 62) (am_ch0) am_ok_86_0
theorem am_mk_86 : am_mok 86 := ⟨am_sub_in 2 _ (List.mem_of_getElem? (i := 137) rfl), am_sub_in 2 _ (List.mem_of_getElem? (i := 135) rfl), fun _ => am_sub_in 2 _ (List.mem_of_getElem? (i := 136) rfl), fun _ => Or.inl ⟨rfl, by decide⟩, fun e => absurd e (by decide), am_sub_in 0 _ (List.mem_of_getElem? (i := 1) rfl), ⟨by decide +kernel, by decide +kernel, by decide +kernel⟩, by decide, by decide +kernel⟩
set_option maxRecDepth 100000 in
theorem am_ok_87_0 : am_okR 87 0 52 = true := by decide +kernel
theorem am_ok_87 : am_okM 87 := am_chk (lo := 0) (n := 52) (am_ch0) am_ok_87_0
theorem am_mk_87 : am_mok 87 := ⟨am_sub_in 2 _ (List.mem_of_getElem? (i := 161) rfl), am_sub_in 2 _ (List.mem_of_getElem? (i := 159) rfl), fun _ => am_sub_in 2 _ (List.mem_of_getElem? (i := 160) rfl), fun _ => Or.inl ⟨rfl, by decide⟩, fun e => absurd e (by decide), am_sub_in 0 _ (List.mem_of_getElem? (i := 1) rfl), ⟨by decide +kernel, by decide +kernel, by decide +kernel⟩, by decide, by decide +kernel⟩
set_option maxRecDepth 100000 in
theorem am_ok_88_0 : am_okR 88 0 28 = true := by decide +kernel
theorem am_ok_88 : am_okM 88 := am_chk (lo := 0) (n := 28) (am_ch0) am_ok_88_0
theorem am_mk_88 : am_mok 88 := ⟨am_sub_in 2 _ (List.mem_of_getElem? (i := 175) rfl), am_sub_in 2 _ (List.mem_of_getElem? (i := 173) rfl), fun _ => am_sub_in 2 _ (List.mem_of_getElem? (i := 174) rfl), fun _ => Or.inl ⟨rfl, by decide⟩, fun e => absurd e (by decide), am_sub_in 0 _ (List.mem_of_getElem? (i := 1) rfl), ⟨by decide +kernel, by decide +kernel, by decide +kernel⟩, by decide, by decide +kernel⟩
set_option maxRecDepth 100000 in
theorem am_ok_89_0 : am_okR 89 0 23 = true := by decide +kernel
theorem am_ok_89 : am_okM 89 := am_chk (lo := 0) (n := 23) (am_ch0) am_ok_89_0
theorem am_mk_89 : am_mok 89 := ⟨am_sub_in 2 _ (List.mem_of_getElem? (i := 184) rfl), am_sub_in 2 _ (List.mem_of_getElem? (i := 182) rfl), fun _ => am_sub_in 2 _ (List.mem_of_getElem? (i := 183) rfl), fun _ => Or.inl ⟨rfl, by decide⟩, fun e => absurd e (by decide), am_sub_in 0 _ (List.mem_of_getElem? (i := 1) rfl), ⟨by decide +kernel, by decide +kernel, by decide +kernel⟩, by decide, by decide +kernel⟩
set_option maxRecDepth 100000 in
theorem am_ok_90_0 : am_okR 90 0 88 = true := by decide +kernel
theorem am_ok_90 : am_okM 90 := am_chk (lo := 0) (n := 88) (am_ch0) am_ok_90_0
theorem am_mk_90 : am_mok 90 := ⟨am_sub_in 2 _ (List.mem_of_getElem? (i := 188) rfl), am_sub_in 2 _ (List.mem_of_getElem? (i := 186) rfl), fun _ => am_sub_in 2 _ (List.mem_of_getElem? (i := 187) rfl), fun _ => Or.inl ⟨rfl, by decide⟩, fun e => absurd e (by decide), am_sub_in 0 _ (List.mem_of_getElem? (i := 1) rfl), ⟨by decide +kernel, by decide +kernel, by decide +kernel⟩, by decide, by decide +kernel⟩
set_option maxRecDepth 100000 in
theorem am_ok_91_0 : am_okR 91 0 52 = true := by decide +kernel
theorem am_ok_91 : am_okM 91 := am_chk (lo := 0) (n := 52) (am_ch0) am_ok_91_0
theorem am_mk_91 : am_mok 91 := ⟨am_sub_in 2 _ (List.mem_of_getElem? (i := 195) rfl), am_sub_in 2 _ (List.mem_of_getElem? (i := 193) rfl), fun _ => am_sub_in 2 _ (List.mem_of_getElem? (i := 194) rfl), fun _ => Or.inl ⟨rfl, by decide⟩, fun e => absurd e (by decide), am_sub_in 0 _ (List.mem_of_getElem? (i := 1) rfl), ⟨by decide +kernel, by decide +kernel, by decide +kernel⟩, by decide, by decide +kernel⟩
set_option maxRecDepth 100000 in
theorem am_ok_92_0 : am_okR 92 0 100 = true := by decide +kernel
set_option maxRecDepth 100000 in
theorem am_ok_92_1 : am_okR 92 100 13 = true := by decide +kernel
theorem am_ok_92 : am_okM 92 := am_chk (lo := 100) (n := 13) (am_chk (lo := 0) (n := 100) (am_ch0) am_ok_92_0) am_ok_92_1
theorem am_mk_92 : am_mok 92 := ⟨am_sub_in 2 _ (List.mem_of_getElem? (i := 214) rfl), am_sub_in 2 _ (List.mem_of_getElem? (i := 212) rfl), fun _ => am_sub_in 2 _ (List.mem_of_getElem? (i := 213) rfl), fun _ => Or.inl ⟨rfl, by decide⟩, fun e => absurd e (by decide), am_sub_in 0 _ (List.mem_of_getElem? (i := 1) rfl), ⟨by decide +kernel, by decide +kernel, by decide +kernel⟩, by decide, by decide +kernel⟩
set_option maxRecDepth 100000 in
theorem am_ok_93_0 : am_okR 93 0 93 = true := by decide +kernel
theorem am_ok_93 : am_okM 93 := am_chk (lo := 0) (n := 93) (am_ch0) am_ok_93_0
theorem am_mk_93 : am_mok 93 := ⟨am_sub_in 2 _ (List.mem_of_getElem? (i := 226) rfl), am_sub_in 2 _ (List.mem_of_getElem? (i := 224) rfl), fun _ => am_sub_in 2 _ (List.mem_of_getElem? (i := 225) rfl), fun _ => Or.inl ⟨rfl, by decide⟩, fun e => absurd e (by decide), am_sub_in 0 _ (List.mem_of_getElem? (i := 1) rfl), ⟨by decide +kernel, by decide +kernel, by decide +kernel⟩, by decide, by decide +kernel⟩
set_option maxRecDepth 100000 in
theorem am_ok_94_0 : am_okR 94 0 35 = true := by decide +kernel
theorem am_ok_94 : am_okM 94 := am_chk (lo := 0) (n := 35) (am_ch0) am_ok_94_0
theorem am_mk_94 : am_mok 94 := ⟨am_sub_in 2 _ (List.mem_of_getElem? (i := 230) rfl), am_sub_in 2 _ (List.mem_of_getElem? (i := 228) rfl), fun _ => am_sub_in 2 _ (List.mem_of_getElem? (i := 229) rfl), fun _ => Or.inl ⟨rfl, by decide⟩, fun e => absurd e (by decide), am_sub_in 0 _ (List.mem_of_getElem? (i := 1) rfl), ⟨by decide +kernel, by decide +kernel, by decide +kernel⟩, by decide, by decide +kernel⟩
set_option maxRecDepth 100000 in
theorem am_ok_95_0 : am_okR 95 0 25 = true := by decide +kernel
theorem am_ok_95 : am_okM 95 := am_chk (lo := 0) (n := 25) (am_ch0) am_ok_95_0
theorem am_mk_95 : am_mok 95 := ⟨am_sub_in 3 _ (List.mem_of_getElem? (i := 2) rfl), am_sub_in 3 _ (List.mem_of_getElem? (i := 0) rfl), fun _ => am_sub_in 3 _ (List.mem_of_getElem? (i := 1) rfl), fun _ => Or.inl ⟨rfl, by decide⟩, fun e => absurd e (by decide), am_sub_in 0 _ (List.mem_of_getElem? (i := 1) rfl), ⟨by decide +kernel, by decide +kernel, by decide +kernel⟩, by decide, by decide +kernel⟩
set_option maxRecDepth 100000 in
theorem am_ok_96_0 : am_okR 96 0 100 = true := by decide +kernel
set_option maxRecDepth 100000 in
theorem am_ok_96_1 : am_okR 96 100 2 = true := by decide +kernel
theorem am_ok_96 : am_okM 96 := am_chk (lo := 100) (n := 2) (am_chk (lo := 0) (n := 100) (am_ch0) am_ok_96_0) am_ok_96_1
theorem am_mk_96 : am_mok 96 := ⟨am_sub_in 3 _ (List.mem_of_getElem? (i := 6) rfl), am_sub_in 3 _ (List.mem_of_getElem? (i := 4) rfl), fun _ => am_sub_in 3 _ (List.mem_of_getElem? (i := 5) rfl), fun _ => Or.inl ⟨rfl, by decide⟩, fun e => absurd e (by decide), am_sub_in 0 _ (List.mem_of_getElem? (i := 1) rfl), ⟨by decide +kernel, by decide +kernel, by decide +kernel⟩, by decide, by decide +kernel⟩
set_option maxRecDepth 100000 in
theorem am_ok_97_0 : am_okR 97 0 100 = true := by decide +kernel
set_option maxRecDepth 100000 in
theorem am_ok_97_1 : am_okR 97 100 72 = true := by decide +kernel
theorem am_ok_97 : am_okM 97 := am_chk (lo := 100) (n := 72) (am_chk (lo := 0) (n := 100) (am_ch0) am_ok_97_0) am_ok_97_1
theorem am_mk_97 : am_mok 97 := ⟨am_sub_in 3 _ (List.mem_of_getElem? (i := 10) rfl), am_sub_in 3 _ (List.mem_of_getElem? (i := 8) rfl), fun _ => am_sub_in 3 _ (List.mem_of_getElem? (i := 9) rfl), fun _ => Or.inl ⟨rfl, by decide⟩, fun e => absurd e (by decide), am_sub_in 0 _ (List.mem_of_getElem? (i := 1) rfl), ⟨by decide +kernel, by decide +kernel, by decide +kernel⟩, by decide, by decide +kernel⟩
