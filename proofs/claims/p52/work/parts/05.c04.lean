/-! ===== the tables hold, method by method (kernel): 84 to 124 ===== -/
set_option maxRecDepth 100000 in
theorem am_ok_84_0 : am_okR 84 0 53 = true := by decide +kernel
theorem am_ok_84 : am_okM 84 := am_chk (lo := 0) (n := 53) (am_ch0) am_ok_84_0
theorem am_mk_84 : am_mok 84 := ⟨am_sub_in 1 _ (List.mem_of_getElem? (i := 232) rfl), am_sub_in 1 _ (List.mem_of_getElem? (i := 231) rfl), fun e => absurd e (by decide), fun e => absurd e (by decide), fun e => absurd e (by decide), am_sub_in 0 _ (List.mem_of_getElem? (i := 15) rfl), ⟨by decide +kernel, by decide +kernel, by decide +kernel⟩, by decide, by decide +kernel, fun e => absurd e (by decide), fun e => absurd e (by decide)⟩
set_option maxRecDepth 100000 in
theorem am_ok_85_0 : am_okR 85 0 61 = true := by decide +kernel
theorem am_ok_85 : am_okM 85 := am_chk (lo := 0) (n := 61) (am_ch0) am_ok_85_0
theorem am_mk_85 : am_mok 85 := ⟨am_sub_in 3 _ (List.mem_of_getElem? (i := 179) rfl), am_sub_in 3 _ (List.mem_of_getElem? (i := 178) rfl), fun e => absurd e (by decide), fun e => absurd e (by decide), fun e => absurd e (by decide), am_sub_in 0 _ (List.mem_of_getElem? (i := 21) rfl), ⟨by decide +kernel, by decide +kernel, by decide +kernel⟩, by decide, by decide +kernel, fun e => absurd e (by decide), fun e => absurd e (by decide)⟩
set_option maxRecDepth 100000 in
theorem am_ok_86_0 : am_okR 86 0 7 = true := by decide +kernel
theorem am_ok_86 : am_okM 86 := am_chk (lo := 0) (n := 7) (am_ch0) am_ok_86_0
theorem am_mk_86 : am_mok 86 := ⟨am_sub_in 3 _ (List.mem_of_getElem? (i := 77) rfl), am_sub_in 3 _ (List.mem_of_getElem? (i := 76) rfl), fun e => absurd e (by decide), fun e => absurd e (by decide), fun _ => ⟨rfl, rfl⟩, am_sub_in 0 _ (List.mem_of_getElem? (i := 5) rfl), ⟨by decide +kernel, by decide +kernel, by decide +kernel⟩, by decide, by decide +kernel, fun e => absurd e (by decide), fun e => absurd e (by decide)⟩
set_option maxRecDepth 100000 in
theorem am_ok_87_0 : am_okR 87 0 11 = true := by decide +kernel
theorem am_ok_87 : am_okM 87 := am_chk (lo := 0) (n := 11) (am_ch0) am_ok_87_0
theorem am_mk_87 : am_mok 87 := ⟨am_sub_in 0 _ (List.mem_of_getElem? (i := 141) rfl), am_sub_in 0 _ (List.mem_of_getElem? (i := 139) rfl), fun _ => am_sub_in 0 _ (List.mem_of_getElem? (i := 140) rfl), fun _ => ⟨rfl, by decide⟩, fun e => absurd e (by decide), am_sub_in 0 _ (List.mem_of_getElem? (i := 5) rfl), ⟨by decide +kernel, by decide +kernel, by decide +kernel⟩, by decide, by decide +kernel, fun e => absurd e (by decide), fun e => absurd e (by decide)⟩
set_option maxRecDepth 100000 in
theorem am_ok_88_0 : am_okR 88 0 25 = true := by decide +kernel
theorem am_ok_88 : am_okM 88 := am_chk (lo := 0) (n := 25) (am_ch0) am_ok_88_0
theorem am_mk_88 : am_mok 88 := ⟨am_sub_in 0 _ (List.mem_of_getElem? (i := 151) rfl), am_sub_in 0 _ (List.mem_of_getElem? (i := 149) rfl), fun _ => am_sub_in 0 _ (List.mem_of_getElem? (i := 150) rfl), fun _ => ⟨rfl, by decide⟩, fun e => absurd e (by decide), am_sub_in 0 _ (List.mem_of_getElem? (i := 5) rfl), ⟨by decide +kernel, by decide +kernel, by decide +kernel⟩, by decide, by decide +kernel, fun e => absurd e (by decide), fun e => absurd e (by decide)⟩
set_option maxRecDepth 100000 in
theorem am_ok_89_0 : am_okR 89 0 7 = true := by decide +kernel
theorem am_ok_89 : am_okM 89 := am_chk (lo := 0) (n := 7) (am_ch0) am_ok_89_0
theorem am_mk_89 : am_mok 89 := ⟨am_sub_in 0 _ (List.mem_of_getElem? (i := 220) rfl), am_sub_in 0 _ (List.mem_of_getElem? (i := 218) rfl), fun _ => am_sub_in 0 _ (List.mem_of_getElem? (i := 219) rfl), fun _ => ⟨rfl, by decide⟩, fun e => absurd e (by decide), am_sub_in 0 _ (List.mem_of_getElem? (i := 5) rfl), ⟨by decide +kernel, by decide +kernel, by decide +kernel⟩, by decide, by decide +kernel, fun e => absurd e (by decide), fun e => absurd e (by decide)⟩
set_option maxRecDepth 100000 in
theorem am_ok_90_0 : am_okR 90 0 37 = true := by decide +kernel
theorem am_ok_90 : am_okM 90 := am_chk (lo := 0) (n := 37) (am_ch0) am_ok_90_0
theorem am_mk_90 : am_mok 90 := ⟨am_sub_in 0 _ (List.mem_of_getElem? (i := 224) rfl), am_sub_in 0 _ (List.mem_of_getElem? (i := 222) rfl), fun _ => am_sub_in 0 _ (List.mem_of_getElem? (i := 223) rfl), fun _ => ⟨rfl, by decide⟩, fun e => absurd e (by decide), am_sub_in 0 _ (List.mem_of_getElem? (i := 5) rfl), ⟨by decide +kernel, by decide +kernel, by decide +kernel⟩, by decide, by decide +kernel, fun e => absurd e (by decide), fun e => absurd e (by decide)⟩
set_option maxRecDepth 100000 in
theorem am_ok_91_0 : am_okR 91 0 44 = true := by decide +kernel
theorem am_ok_91 : am_okM 91 := am_chk (lo := 0) (n := 44) (am_ch0) am_ok_91_0
theorem am_mk_91 : am_mok 91 := ⟨am_sub_in 3 _ (List.mem_of_getElem? (i := 38) rfl), am_sub_in 3 _ (List.mem_of_getElem? (i := 36) rfl), fun _ => am_sub_in 3 _ (List.mem_of_getElem? (i := 37) rfl), fun _ => ⟨rfl, by decide⟩, fun e => absurd e (by decide), am_sub_in 0 _ (List.mem_of_getElem? (i := 5) rfl), ⟨by decide +kernel, by decide +kernel, by decide +kernel⟩, by decide, by decide +kernel, fun e => absurd e (by decide), fun e => absurd e (by decide)⟩
set_option maxRecDepth 100000 in
theorem am_ok_92_0 : am_okR 92 0 98 = true := by decide +kernel
theorem am_ok_92 : am_okM 92 := am_chk (lo := 0) (n := 98) (am_ch0) am_ok_92_0
theorem am_mk_92 : am_mok 92 := ⟨am_sub_in 3 _ (List.mem_of_getElem? (i := 80) rfl), am_sub_in 3 _ (List.mem_of_getElem? (i := 79) rfl), fun e => absurd e (by decide), fun e => absurd e (by decide), fun _ => ⟨rfl, rfl⟩, am_sub_in 0 _ (List.mem_of_getElem? (i := 5) rfl), ⟨by decide +kernel, by decide +kernel, by decide +kernel⟩, by decide, by decide +kernel, fun e => absurd e (by decide), fun e => absurd e (by decide)⟩
set_option maxRecDepth 100000 in
theorem am_ok_93_0 : am_okR 93 0 15 = true := by decide +kernel
theorem am_ok_93 : am_okM 93 := am_chk (lo := 0) (n := 15) (am_ch0) am_ok_93_0
theorem am_mk_93 : am_mok 93 := ⟨am_sub_in 0 _ (List.mem_of_getElem? (i := 145) rfl), am_sub_in 0 _ (List.mem_of_getElem? (i := 143) rfl), fun _ => am_sub_in 0 _ (List.mem_of_getElem? (i := 144) rfl), fun _ => ⟨rfl, by decide⟩, fun e => absurd e (by decide), am_sub_in 0 _ (List.mem_of_getElem? (i := 5) rfl), ⟨by decide +kernel, by decide +kernel, by decide +kernel⟩, by decide, by decide +kernel, fun e => absurd e (by decide), fun e => absurd e (by decide)⟩
set_option maxRecDepth 100000 in
theorem am_ok_94_0 : am_okR 94 0 19 = true := by decide +kernel
theorem am_ok_94 : am_okM 94 := am_chk (lo := 0) (n := 19) (am_ch0) am_ok_94_0
theorem am_mk_94 : am_mok 94 := ⟨am_sub_in 0 _ (List.mem_of_getElem? (i := 155) rfl), am_sub_in 0 _ (List.mem_of_getElem? (i := 153) rfl), fun _ => am_sub_in 0 _ (List.mem_of_getElem? (i := 154) rfl), fun _ => ⟨rfl, by decide⟩, fun e => absurd e (by decide), am_sub_in 0 _ (List.mem_of_getElem? (i := 5) rfl), ⟨by decide +kernel, by decide +kernel, by decide +kernel⟩, by decide, by decide +kernel, fun e => absurd e (by decide), fun e => absurd e (by decide)⟩
set_option maxRecDepth 100000 in
theorem am_ok_95_0 : am_okR 95 0 7 = true := by decide +kernel
theorem am_ok_95 : am_okM 95 := am_chk (lo := 0) (n := 7) (am_ch0) am_ok_95_0
theorem am_mk_95 : am_mok 95 := ⟨am_sub_in 2 _ (List.mem_of_getElem? (i := 166) rfl), am_sub_in 2 _ (List.mem_of_getElem? (i := 165) rfl), fun e => absurd e (by decide), fun e => absurd e (by decide), fun _ => ⟨rfl, rfl⟩, am_sub_in 0 _ (List.mem_of_getElem? (i := 17) rfl), ⟨by decide +kernel, by decide +kernel, by decide +kernel⟩, by decide, by decide +kernel, fun e => absurd e (by decide), fun e => absurd e (by decide)⟩
set_option maxRecDepth 100000 in
theorem am_ok_96_0 : am_okR 96 0 8 = true := by decide +kernel
theorem am_ok_96 : am_okM 96 := am_chk (lo := 0) (n := 8) (am_ch0) am_ok_96_0
theorem am_mk_96 : am_mok 96 := ⟨am_sub_in 2 _ (List.mem_of_getElem? (i := 196) rfl), am_sub_in 2 _ (List.mem_of_getElem? (i := 194) rfl), fun _ => am_sub_in 2 _ (List.mem_of_getElem? (i := 195) rfl), fun _ => ⟨rfl, by decide⟩, fun e => absurd e (by decide), am_sub_in 0 _ (List.mem_of_getElem? (i := 17) rfl), ⟨by decide +kernel, by decide +kernel, by decide +kernel⟩, by decide, by decide +kernel, fun e => absurd e (by decide), fun e => absurd e (by decide)⟩
set_option maxRecDepth 100000 in
theorem am_ok_97_0 : am_okR 97 0 8 = true := by decide +kernel
theorem am_ok_97 : am_okM 97 := am_chk (lo := 0) (n := 8) (am_ch0) am_ok_97_0
theorem am_mk_97 : am_mok 97 := ⟨am_sub_in 3 _ (List.mem_of_getElem? (i := 44) rfl), am_sub_in 3 _ (List.mem_of_getElem? (i := 42) rfl), fun _ => am_sub_in 3 _ (List.mem_of_getElem? (i := 43) rfl), fun _ => ⟨rfl, by decide⟩, fun e => absurd e (by decide), am_sub_in 0 _ (List.mem_of_getElem? (i := 17) rfl), ⟨by decide +kernel, by decide +kernel, by decide +kernel⟩, by decide, by decide +kernel, fun e => absurd e (by decide), fun e => absurd e (by decide)⟩
set_option maxRecDepth 100000 in
theorem am_ok_98_0 : am_okR 98 0 9 = true := by decide +kernel
theorem am_ok_98 : am_okM 98 := am_chk (lo := 0) (n := 9) (am_ch0) am_ok_98_0
theorem am_mk_98 : am_mok 98 := ⟨am_sub_in 3 _ (List.mem_of_getElem? (i := 72) rfl), am_sub_in 3 _ (List.mem_of_getElem? (i := 70) rfl), fun _ => am_sub_in 3 _ (List.mem_of_getElem? (i := 71) rfl), fun _ => ⟨rfl, by decide⟩, fun e => absurd e (by decide), am_sub_in 0 _ (List.mem_of_getElem? (i := 17) rfl), ⟨by decide +kernel, by decide +kernel, by decide +kernel⟩, by decide, by decide +kernel, fun e => absurd e (by decide), fun e => absurd e (by decide)⟩
set_option maxRecDepth 100000 in
theorem am_ok_99_0 : am_okR 99 0 5 = true := by decide +kernel
theorem am_ok_99 : am_okM 99 := am_chk (lo := 0) (n := 5) (am_ch0) am_ok_99_0
theorem am_mk_99 : am_mok 99 := ⟨am_sub_in 3 _ (List.mem_of_getElem? (i := 92) rfl), am_sub_in 3 _ (List.mem_of_getElem? (i := 91) rfl), fun e => absurd e (by decide), fun e => absurd e (by decide), fun e => absurd e (by decide), am_sub_in 0 _ (List.mem_of_getElem? (i := 17) rfl), ⟨by decide +kernel, by decide +kernel, by decide +kernel⟩, by decide, by decide +kernel, fun e => absurd e (by decide), fun e => absurd e (by decide)⟩
set_option maxRecDepth 100000 in
theorem am_ok_100_0 : am_okR 100 0 15 = true := by decide +kernel
theorem am_ok_100 : am_okM 100 := am_chk (lo := 0) (n := 15) (am_ch0) am_ok_100_0
theorem am_mk_100 : am_mok 100 := ⟨am_sub_in 0 _ (List.mem_of_getElem? (i := 158) rfl), am_sub_in 0 _ (List.mem_of_getElem? (i := 157) rfl), fun e => absurd e (by decide), fun e => absurd e (by decide), fun e => absurd e (by decide), am_sub_in 0 _ (List.mem_of_getElem? (i := 6) rfl), ⟨by decide +kernel, by decide +kernel, by decide +kernel⟩, by decide, by decide +kernel, fun e => absurd e (by decide), fun e => absurd e (by decide)⟩
set_option maxRecDepth 100000 in
theorem am_ok_101_0 : am_okR 101 0 17 = true := by decide +kernel
theorem am_ok_101 : am_okM 101 := am_chk (lo := 0) (n := 17) (am_ch0) am_ok_101_0
theorem am_mk_101 : am_mok 101 := ⟨am_sub_in 0 _ (List.mem_of_getElem? (i := 231) rfl), am_sub_in 0 _ (List.mem_of_getElem? (i := 230) rfl), fun e => absurd e (by decide), fun e => absurd e (by decide), fun e => absurd e (by decide), am_sub_in 0 _ (List.mem_of_getElem? (i := 6) rfl), ⟨by decide +kernel, by decide +kernel, by decide +kernel⟩, by decide, by decide +kernel, fun e => absurd e (by decide), fun e => absurd e (by decide)⟩
set_option maxRecDepth 100000 in
theorem am_ok_102_0 : am_okR 102 0 37 = true := by decide +kernel
theorem am_ok_102 : am_okM 102 := am_chk (lo := 0) (n := 37) (am_ch0) am_ok_102_0
theorem am_mk_102 : am_mok 102 := ⟨am_sub_in 0 _ (List.mem_of_getElem? (i := 228) rfl), am_sub_in 0 _ (List.mem_of_getElem? (i := 227) rfl), fun e => absurd e (by decide), fun e => absurd e (by decide), fun e => absurd e (by decide), am_sub_in 0 _ (List.mem_of_getElem? (i := 6) rfl), ⟨by decide +kernel, by decide +kernel, by decide +kernel⟩, by decide, by decide +kernel, fun e => absurd e (by decide), fun e => absurd e (by decide)⟩
set_option maxRecDepth 100000 in
theorem am_ok_103_0 : am_okR 103 0 33 = true := by decide +kernel
theorem am_ok_103 : am_okM 103 := am_chk (lo := 0) (n := 33) (am_ch0) am_ok_103_0
theorem am_mk_103 : am_mok 103 := ⟨am_sub_in 1 _ (List.mem_of_getElem? (i := 0) rfl), am_sub_in 0 _ (List.mem_of_getElem? (i := 239) rfl), fun e => absurd e (by decide), fun e => absurd e (by decide), fun e => absurd e (by decide), am_sub_in 0 _ (List.mem_of_getElem? (i := 6) rfl), ⟨by decide +kernel, by decide +kernel, by decide +kernel⟩, by decide, by decide +kernel, fun e => absurd e (by decide), fun e => absurd e (by decide)⟩
set_option maxRecDepth 100000 in
theorem am_ok_104_0 : am_okR 104 0 33 = true := by decide +kernel
theorem am_ok_104 : am_okM 104 := am_chk (lo := 0) (n := 33) (am_ch0) am_ok_104_0
theorem am_mk_104 : am_mok 104 := ⟨am_sub_in 2 _ (List.mem_of_getElem? (i := 223) rfl), am_sub_in 2 _ (List.mem_of_getElem? (i := 222) rfl), fun e => absurd e (by decide), fun e => absurd e (by decide), fun e => absurd e (by decide), am_sub_in 0 _ (List.mem_of_getElem? (i := 19) rfl), ⟨by decide +kernel, by decide +kernel, by decide +kernel⟩, by decide, by decide +kernel, fun e => absurd e (by decide), fun e => absurd e (by decide)⟩
set_option maxRecDepth 100000 in
theorem am_ok_105_0 : am_okR 105 0 38 = true := by decide +kernel
theorem am_ok_105 : am_okM 105 := am_chk (lo := 0) (n := 38) (am_ch0) am_ok_105_0
theorem am_mk_105 : am_mok 105 := ⟨am_sub_in 3 _ (List.mem_of_getElem? (i := 104) rfl), am_sub_in 3 _ (List.mem_of_getElem? (i := 103) rfl), fun e => absurd e (by decide), fun e => absurd e (by decide), fun e => absurd e (by decide), am_sub_in 0 _ (List.mem_of_getElem? (i := 19) rfl), ⟨by decide +kernel, by decide +kernel, by decide +kernel⟩, by decide, by decide +kernel, fun e => absurd e (by decide), fun e => absurd e (by decide)⟩
set_option maxRecDepth 100000 in
theorem am_ok_106_0 : am_okR 106 0 25 = true := by decide +kernel
theorem am_ok_106 : am_okM 106 := am_chk (lo := 0) (n := 25) (am_ch0) am_ok_106_0
theorem am_mk_106 : am_mok 106 := ⟨am_sub_in 3 _ (List.mem_of_getElem? (i := 98) rfl), am_sub_in 3 _ (List.mem_of_getElem? (i := 97) rfl), fun e => absurd e (by decide), fun e => absurd e (by decide), fun e => absurd e (by decide), am_sub_in 0 _ (List.mem_of_getElem? (i := 19) rfl), ⟨by decide +kernel, by decide +kernel, by decide +kernel⟩, by decide, by decide +kernel, fun e => absurd e (by decide), fun e => absurd e (by decide)⟩
set_option maxRecDepth 100000 in
theorem am_ok_107_0 : am_okR 107 0 33 = true := by decide +kernel
theorem am_ok_107 : am_okM 107 := am_chk (lo := 0) (n := 33) (am_ch0) am_ok_107_0
theorem am_mk_107 : am_mok 107 := ⟨am_sub_in 3 _ (List.mem_of_getElem? (i := 101) rfl), am_sub_in 3 _ (List.mem_of_getElem? (i := 100) rfl), fun e => absurd e (by decide), fun e => absurd e (by decide), fun e => absurd e (by decide), am_sub_in 0 _ (List.mem_of_getElem? (i := 19) rfl), ⟨by decide +kernel, by decide +kernel, by decide +kernel⟩, by decide, by decide +kernel, fun e => absurd e (by decide), fun e => absurd e (by decide)⟩
set_option maxRecDepth 100000 in
theorem am_ok_108_0 : am_okR 108 0 27 = true := by decide +kernel
theorem am_ok_108 : am_okM 108 := am_chk (lo := 0) (n := 27) (am_ch0) am_ok_108_0
theorem am_mk_108 : am_mok 108 := ⟨am_sub_in 2 _ (List.mem_of_getElem? (i := 214) rfl), am_sub_in 2 _ (List.mem_of_getElem? (i := 213) rfl), fun e => absurd e (by decide), fun e => absurd e (by decide), fun e => absurd e (by decide), am_sub_in 0 _ (List.mem_of_getElem? (i := 18) rfl), ⟨by decide +kernel, by decide +kernel, by decide +kernel⟩, by decide, by decide +kernel, fun e => absurd e (by decide), fun e => absurd e (by decide)⟩
set_option maxRecDepth 100000 in
theorem am_ok_109_0 : am_okR 109 0 14 = true := by decide +kernel
theorem am_ok_109 : am_okM 109 := am_chk (lo := 0) (n := 14) (am_ch0) am_ok_109_0
theorem am_mk_109 : am_mok 109 := ⟨am_sub_in 2 _ (List.mem_of_getElem? (i := 78) rfl), am_sub_in 2 _ (List.mem_of_getElem? (i := 77) rfl), fun e => absurd e (by decide), fun e => absurd e (by decide), fun e => absurd e (by decide), am_sub_in 0 _ (List.mem_of_getElem? (i := 0) rfl), ⟨by decide +kernel, by decide +kernel, by decide +kernel⟩, by decide, by decide +kernel, fun e => absurd e (by decide), fun e => absurd e (by decide)⟩
set_option maxRecDepth 100000 in
theorem am_ok_110_0 : am_okR 110 0 32 = true := by decide +kernel
theorem am_ok_110 : am_okM 110 := am_chk (lo := 0) (n := 32) (am_ch0) am_ok_110_0
theorem am_mk_110 : am_mok 110 := ⟨am_sub_in 3 _ (List.mem_of_getElem? (i := 128) rfl), am_sub_in 3 _ (List.mem_of_getElem? (i := 127) rfl), fun e => absurd e (by decide), fun e => absurd e (by decide), fun e => absurd e (by decide), am_sub_in 0 _ (List.mem_of_getElem? (i := 0) rfl), ⟨by decide +kernel, by decide +kernel, by decide +kernel⟩, by decide, by decide +kernel, fun e => absurd e (by decide), fun e => absurd e (by decide)⟩
set_option maxRecDepth 100000 in
theorem am_ok_111_0 : am_okR 111 0 100 = true := by decide +kernel
set_option maxRecDepth 100000 in
theorem am_ok_111_1 : am_okR 111 100 86 = true := by decide +kernel
theorem am_ok_111 : am_okM 111 := am_chk (lo := 100) (n := 86) (am_chk (lo := 0) (n := 100) (am_ch0) am_ok_111_0) am_ok_111_1
theorem am_mk_111 : am_mok 111 := ⟨am_sub_in 2 _ (List.mem_of_getElem? (i := 81) rfl), am_sub_in 2 _ (List.mem_of_getElem? (i := 80) rfl), fun e => absurd e (by decide), fun e => absurd e (by decide), fun e => absurd e (by decide), am_sub_in 0 _ (List.mem_of_getElem? (i := 0) rfl), ⟨by decide +kernel, by decide +kernel, by decide +kernel⟩, by decide, by decide +kernel, fun e => absurd e (by decide), fun e => absurd e (by decide)⟩
set_option maxRecDepth 100000 in
theorem am_ok_112_0 : am_okR 112 0 18 = true := by decide +kernel
theorem am_ok_112 : am_okM 112 := am_chk (lo := 0) (n := 18) (am_ch0) am_ok_112_0
theorem am_mk_112 : am_mok 112 := ⟨am_sub_in 2 _ (List.mem_of_getElem? (i := 161) rfl), am_sub_in 2 _ (List.mem_of_getElem? (i := 160) rfl), fun e => absurd e (by decide), fun e => absurd e (by decide), fun e => absurd e (by decide), am_sub_in 0 _ (List.mem_of_getElem? (i := 0) rfl), ⟨by decide +kernel, by decide +kernel, by decide +kernel⟩, by decide, by decide +kernel, fun e => absurd e (by decide), fun e => absurd e (by decide)⟩
set_option maxRecDepth 100000 in
theorem am_ok_113_0 : am_okR 113 0 10 = true := by decide +kernel
theorem am_ok_113 : am_okM 113 := am_chk (lo := 0) (n := 10) (am_ch0) am_ok_113_0
theorem am_mk_113 : am_mok 113 := ⟨am_sub_in 2 _ (List.mem_of_getElem? (i := 84) rfl), am_sub_in 2 _ (List.mem_of_getElem? (i := 83) rfl), fun e => absurd e (by decide), fun e => absurd e (by decide), fun e => absurd e (by decide), am_sub_in 0 _ (List.mem_of_getElem? (i := 0) rfl), ⟨by decide +kernel, by decide +kernel, by decide +kernel⟩, by decide, by decide +kernel, fun e => absurd e (by decide), fun e => absurd e (by decide)⟩
set_option maxRecDepth 100000 in
theorem am_ok_114_0 : am_okR 114 0 14 = true := by decide +kernel
theorem am_ok_114 : am_okM 114 := am_chk (lo := 0) (n := 14) (am_ch0) am_ok_114_0
theorem am_mk_114 : am_mok 114 := ⟨am_sub_in 2 _ (List.mem_of_getElem? (i := 127) rfl), am_sub_in 2 _ (List.mem_of_getElem? (i := 126) rfl), fun e => absurd e (by decide), fun e => absurd e (by decide), fun e => absurd e (by decide), am_sub_in 0 _ (List.mem_of_getElem? (i := 0) rfl), ⟨by decide +kernel, by decide +kernel, by decide +kernel⟩, by decide, by decide +kernel, fun e => absurd e (by decide), fun e => absurd e (by decide)⟩
set_option maxRecDepth 100000 in
theorem am_ok_115_0 : am_okR 115 0 14 = true := by decide +kernel
theorem am_ok_115 : am_okM 115 := am_chk (lo := 0) (n := 14) (am_ch0) am_ok_115_0
theorem am_mk_115 : am_mok 115 := ⟨am_sub_in 2 _ (List.mem_of_getElem? (i := 87) rfl), am_sub_in 2 _ (List.mem_of_getElem? (i := 86) rfl), fun e => absurd e (by decide), fun e => absurd e (by decide), fun e => absurd e (by decide), am_sub_in 0 _ (List.mem_of_getElem? (i := 0) rfl), ⟨by decide +kernel, by decide +kernel, by decide +kernel⟩, by decide, by decide +kernel, fun e => absurd e (by decide), fun e => absurd e (by decide)⟩
set_option maxRecDepth 100000 in
theorem am_ok_116_0 : am_okR 116 0 16 = true := by decide +kernel
theorem am_ok_116 : am_okM 116 := am_chk (lo := 0) (n := 16) (am_ch0) am_ok_116_0
theorem am_mk_116 : am_mok 116 := ⟨am_sub_in 2 _ (List.mem_of_getElem? (i := 90) rfl), am_sub_in 2 _ (List.mem_of_getElem? (i := 89) rfl), fun e => absurd e (by decide), fun e => absurd e (by decide), fun e => absurd e (by decide), am_sub_in 0 _ (List.mem_of_getElem? (i := 0) rfl), ⟨by decide +kernel, by decide +kernel, by decide +kernel⟩, by decide, by decide +kernel, fun e => absurd e (by decide), fun e => absurd e (by decide)⟩
set_option maxRecDepth 100000 in
theorem am_ok_117_0 : am_okR 117 0 17 = true := by decide +kernel
theorem am_ok_117 : am_okM 117 := am_chk (lo := 0) (n := 17) (am_ch0) am_ok_117_0
theorem am_mk_117 : am_mok 117 := ⟨am_sub_in 2 _ (List.mem_of_getElem? (i := 93) rfl), am_sub_in 2 _ (List.mem_of_getElem? (i := 92) rfl), fun e => absurd e (by decide), fun e => absurd e (by decide), fun e => absurd e (by decide), am_sub_in 0 _ (List.mem_of_getElem? (i := 0) rfl), ⟨by decide +kernel, by decide +kernel, by decide +kernel⟩, by decide, by decide +kernel, fun e => absurd e (by decide), fun e => absurd e (by decide)⟩
set_option maxRecDepth 100000 in
theorem am_ok_118_0 : am_okR 118 0 15 = true := by decide +kernel
theorem am_ok_118 : am_okM 118 := am_chk (lo := 0) (n := 15) (am_ch0) am_ok_118_0
theorem am_mk_118 : am_mok 118 := ⟨am_sub_in 2 _ (List.mem_of_getElem? (i := 130) rfl), am_sub_in 2 _ (List.mem_of_getElem? (i := 129) rfl), fun e => absurd e (by decide), fun e => absurd e (by decide), fun e => absurd e (by decide), am_sub_in 0 _ (List.mem_of_getElem? (i := 0) rfl), ⟨by decide +kernel, by decide +kernel, by decide +kernel⟩, by decide, by decide +kernel, fun e => absurd e (by decide), fun e => absurd e (by decide)⟩
set_option maxRecDepth 100000 in
theorem am_ok_119_0 : am_okR 119 0 14 = true := by decide +kernel
theorem am_ok_119 : am_okM 119 := am_chk (lo := 0) (n := 14) (am_ch0) am_ok_119_0
theorem am_mk_119 : am_mok 119 := ⟨am_sub_in 2 _ (List.mem_of_getElem? (i := 133) rfl), am_sub_in 2 _ (List.mem_of_getElem? (i := 132) rfl), fun e => absurd e (by decide), fun e => absurd e (by decide), fun e => absurd e (by decide), am_sub_in 0 _ (List.mem_of_getElem? (i := 0) rfl), ⟨by decide +kernel, by decide +kernel, by decide +kernel⟩, by decide, by decide +kernel, fun e => absurd e (by decide), fun e => absurd e (by decide)⟩
set_option maxRecDepth 100000 in
theorem am_ok_120_0 : am_okR 120 0 45 = true := by decide +kernel
theorem am_ok_120 : am_okM 120 := am_chk (lo := 0) (n := 45) (am_ch0) am_ok_120_0
theorem am_mk_120 : am_mok 120 := ⟨am_sub_in 2 _ (List.mem_of_getElem? (i := 136) rfl), am_sub_in 2 _ (List.mem_of_getElem? (i := 135) rfl), fun e => absurd e (by decide), fun e => absurd e (by decide), fun e => absurd e (by decide), am_sub_in 0 _ (List.mem_of_getElem? (i := 0) rfl), ⟨by decide +kernel, by decide +kernel, by decide +kernel⟩, by decide, by decide +kernel, fun e => absurd e (by decide), fun e => absurd e (by decide)⟩
set_option maxRecDepth 100000 in
theorem am_ok_121_0 : am_okR 121 0 24 = true := by decide +kernel
theorem am_ok_121 : am_okM 121 := am_chk (lo := 0) (n := 24) (am_ch0) am_ok_121_0
theorem am_mk_121 : am_mok 121 := ⟨am_sub_in 2 _ (List.mem_of_getElem? (i := 158) rfl), am_sub_in 2 _ (List.mem_of_getElem? (i := 157) rfl), fun e => absurd e (by decide), fun e => absurd e (by decide), fun e => absurd e (by decide), am_sub_in 0 _ (List.mem_of_getElem? (i := 0) rfl), ⟨by decide +kernel, by decide +kernel, by decide +kernel⟩, by decide, by decide +kernel, fun e => absurd e (by decide), fun e => absurd e (by decide)⟩
set_option maxRecDepth 100000 in
theorem am_ok_122_0 : am_okR 122 0 10 = true := by decide +kernel
theorem am_ok_122 : am_okM 122 := am_chk (lo := 0) (n := 10) (am_ch0) am_ok_122_0
theorem am_mk_122 : am_mok 122 := ⟨am_sub_in 3 _ (List.mem_of_getElem? (i := 157) rfl), am_sub_in 3 _ (List.mem_of_getElem? (i := 156) rfl), fun e => absurd e (by decide), fun e => absurd e (by decide), fun e => absurd e (by decide), am_sub_in 0 _ (List.mem_of_getElem? (i := 0) rfl), ⟨by decide +kernel, by decide +kernel, by decide +kernel⟩, by decide, by decide +kernel, fun e => absurd e (by decide), fun e => absurd e (by decide)⟩
set_option maxRecDepth 100000 in
theorem am_ok_123_0 : am_okR 123 0 49 = true := by decide +kernel
theorem am_ok_123 : am_okM 123 := am_chk (lo := 0) (n := 49) (am_ch0) am_ok_123_0
theorem am_mk_123 : am_mok 123 := ⟨am_sub_in 3 _ (List.mem_of_getElem? (i := 153) rfl), am_sub_in 3 _ (List.mem_of_getElem? (i := 152) rfl), fun e => absurd e (by decide), fun e => absurd e (by decide), fun e => absurd e (by decide), am_sub_in 0 _ (List.mem_of_getElem? (i := 0) rfl), ⟨by decide +kernel, by decide +kernel, by decide +kernel⟩, by decide, by decide +kernel, fun e => absurd e (by decide), fun e => absurd e (by decide)⟩
set_option maxRecDepth 100000 in
theorem am_ok_124_0 : am_okR 124 0 100 = true := by decide +kernel
set_option maxRecDepth 100000 in
theorem am_ok_124_1 : am_okR 124 100 27 = true := by decide +kernel
theorem am_ok_124 : am_okM 124 := am_chk (lo := 100) (n := 27) (am_chk (lo := 0) (n := 100) (am_ch0) am_ok_124_0) am_ok_124_1
theorem am_mk_124 : am_mok 124 := ⟨am_sub_in 3 _ (List.mem_of_getElem? (i := 162) rfl), am_sub_in 3 _ (List.mem_of_getElem? (i := 161) rfl), fun e => absurd e (by decide), fun e => absurd e (by decide), fun e => absurd e (by decide), am_sub_in 0 _ (List.mem_of_getElem? (i := 0) rfl), ⟨by decide +kernel, by decide +kernel, by decide +kernel⟩, by decide, by decide +kernel, fun e => absurd e (by decide), fun e => absurd e (by decide)⟩
