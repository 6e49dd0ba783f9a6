/-! ===== the tables hold, method by method (kernel): 113 to 132 ===== -/
set_option maxRecDepth 100000 in
theorem am_ok_113_0 : am_okR 113 0 69 = true := by decide +kernel
theorem am_ok_113 : am_okM 113 := am_chk (lo := 0) (n := 69) (am_ch0) am_ok_113_0
theorem am_mk_113 : am_mok 113 := ⟨am_sub_in 3 _ (List.mem_of_getElem? (i := 155) rfl), am_sub_in 3 _ (List.mem_of_getElem? (i := 153) rfl), fun _ => am_sub_in 3 _ (List.mem_of_getElem? (i := 154) rfl), fun _ => Or.inl ⟨rfl, by decide⟩, fun e => absurd e (by decide), am_sub_in 0 _ (List.mem_of_getElem? (i := 1) rfl), ⟨by decide +kernel, by decide +kernel, by decide +kernel⟩, by decide, by decide +kernel⟩
set_option maxRecDepth 100000 in
theorem am_ok_114_0 : am_okR 114 0 44 = true := by decide +kernel
theorem am_ok_114 : am_okM 114 := am_chk (lo := 0) (n := 44) (am_ch0) am_ok_114_0
theorem am_mk_114 : am_mok 114 := ⟨am_sub_in 3 _ (List.mem_of_getElem? (i := 159) rfl), am_sub_in 3 _ (List.mem_of_getElem? (i := 157) rfl), fun _ => am_sub_in 3 _ (List.mem_of_getElem? (i := 158) rfl), fun _ => Or.inl ⟨rfl, by decide⟩, fun e => absurd e (by decide), am_sub_in 0 _ (List.mem_of_getElem? (i := 1) rfl), ⟨by decide +kernel, by decide +kernel, by decide +kernel⟩, by decide, by decide +kernel⟩
set_option maxRecDepth 100000 in
theorem am_ok_115_0 : am_okR 115 0 100 = true := by decide +kernel
set_option maxRecDepth 100000 in
theorem am_ok_115_1 : am_okR 115 100 15 = true := by decide +kernel
theorem am_ok_115 : am_okM 115 := am_chk (lo := 100) (n := 15) (am_chk (lo := 0) (n := 100) (am_ch0) am_ok_115_0) am_ok_115_1
theorem am_mk_115 : am_mok 115 := ⟨am_sub_in 3 _ (List.mem_of_getElem? (i := 167) rfl), am_sub_in 3 _ (List.mem_of_getElem? (i := 165) rfl), fun _ => am_sub_in 3 _ (List.mem_of_getElem? (i := 166) rfl), fun _ => Or.inl ⟨rfl, by decide⟩, fun e => absurd e (by decide), am_sub_in 0 _ (List.mem_of_getElem? (i := 1) rfl), ⟨by decide +kernel, by decide +kernel, by decide +kernel⟩, by decide, by decide +kernel⟩
set_option maxRecDepth 100000 in
theorem am_ok_116_0 : am_okR 116 0 100 = true := by decide +kernel
set_option maxRecDepth 100000 in
theorem am_ok_116_1 : am_okR 116 100 42 = true := by decide +kernel
theorem am_ok_116 : am_okM 116 := am_chk (lo := 100) (n := 42) (am_chk (lo := 0) (n := 100) (am_ch0) am_ok_116_0) am_ok_116_1
theorem am_mk_116 : am_mok 116 := ⟨am_sub_in 3 _ (List.mem_of_getElem? (i := 175) rfl), am_sub_in 3 _ (List.mem_of_getElem? (i := 173) rfl), fun _ => am_sub_in 3 _ (List.mem_of_getElem? (i := 174) rfl), fun _ => Or.inl ⟨rfl, by decide⟩, fun e => absurd e (by decide), am_sub_in 0 _ (List.mem_of_getElem? (i := 1) rfl), ⟨by decide +kernel, by decide +kernel, by decide +kernel⟩, by decide, by decide +kernel⟩
set_option maxRecDepth 100000 in
theorem am_ok_117_0 : am_okR 117 0 100 = true := by decide +kernel
set_option maxRecDepth 100000 in
theorem am_ok_117_1 : am_okR 117 100 23 = true := by decide +kernel
theorem am_ok_117 : am_okM 117 := am_chk (lo := 100) (n := 23) (am_chk (lo := 0) (n := 100) (am_ch0) am_ok_117_0) am_ok_117_1
theorem am_mk_117 : am_mok 117 := ⟨am_sub_in 3 _ (List.mem_of_getElem? (i := 180) rfl), am_sub_in 3 _ (List.mem_of_getElem? (i := 178) rfl), fun _ => am_sub_in 3 _ (List.mem_of_getElem? (i := 179) rfl), fun _ => Or.inl ⟨rfl, by decide⟩, fun e => absurd e (by decide), am_sub_in 0 _ (List.mem_of_getElem? (i := 1) rfl), ⟨by decide +kernel, by decide +kernel, by decide +kernel⟩, by decide, by decide +kernel⟩
set_option maxRecDepth 100000 in
theorem am_ok_118_0 : am_okR 118 0 14 = true := by decide +kernel
theorem am_ok_118 : am_okM 118 := am_chk (lo := 0) (n := 14) (am_ch0) am_ok_118_0
theorem am_mk_118 : am_mok 118 := ⟨am_sub_in 2 _ (List.mem_of_getElem? (i := 23) rfl), am_sub_in 2 _ (List.mem_of_getElem? (i := 22) rfl), fun e => absurd e (by decide), fun e => absurd e (by decide), fun e => absurd e (by decide), am_sub_in 0 _ (List.mem_of_getElem? (i := 1) rfl), ⟨by decide +kernel, by decide +kernel, by decide +kernel⟩, by decide, by decide +kernel⟩
set_option maxRecDepth 100000 in
theorem am_ok_119_0 : am_okR 119 0 26 = true := by decide +kernel
theorem am_ok_119 : am_okM 119 := am_chk (lo := 0) (n := 26) (am_ch0) am_ok_119_0
theorem am_mk_119 : am_mok 119 := ⟨am_sub_in 2 _ (List.mem_of_getElem? (i := 191) rfl), am_sub_in 2 _ (List.mem_of_getElem? (i := 190) rfl), fun e => absurd e (by decide), fun e => absurd e (by decide), fun e => absurd e (by decide), am_sub_in 0 _ (List.mem_of_getElem? (i := 1) rfl), ⟨by decide +kernel, by decide +kernel, by decide +kernel⟩, by decide, by decide +kernel⟩
set_option maxRecDepth 100000 in
theorem am_ok_120_0 : am_okR 120 0 17 = true := by decide +kernel
theorem am_ok_120 : am_okM 120 := am_chk (lo := 0) (n := 17) (am_ch0) am_ok_120_0
theorem am_mk_120 : am_mok 120 := ⟨am_sub_in 1 _ (List.mem_of_getElem? (i := 185) rfl), am_sub_in 1 _ (List.mem_of_getElem? (i := 184) rfl), fun e => absurd e (by decide), fun e => absurd e (by decide), fun e => absurd e (by decide), am_sub_in 0 _ (List.mem_of_getElem? (i := 1) rfl), ⟨by decide +kernel, by decide +kernel, by decide +kernel⟩, by decide, by decide +kernel⟩
set_option maxRecDepth 100000 in
theorem am_ok_121_0 : am_okR 121 0 15 = true := by decide +kernel
theorem am_ok_121 : am_okM 121 := am_chk (lo := 0) (n := 15) (am_ch0) am_ok_121_0
theorem am_mk_121 : am_mok 121 := ⟨am_sub_in 2 _ (List.mem_of_getElem? (i := 140) rfl), am_sub_in 2 _ (List.mem_of_getElem? (i := 139) rfl), fun e => absurd e (by decide), fun e => absurd e (by decide), fun e => absurd e (by decide), am_sub_in 0 _ (List.mem_of_getElem? (i := 1) rfl), ⟨by decide +kernel, by decide +kernel, by decide +kernel⟩, by decide, by decide +kernel⟩
set_option maxRecDepth 100000 in
theorem am_ok_122_0 : am_okR 122 0 16 = true := by decide +kernel
theorem am_ok_122 : am_okM 122 := am_chk (lo := 0) (n := 16) (am_ch0) am_ok_122_0
theorem am_mk_122 : am_mok 122 := ⟨am_sub_in 1 _ (List.mem_of_getElem? (i := 209) rfl), am_sub_in 1 _ (List.mem_of_getElem? (i := 208) rfl), fun e => absurd e (by decide), fun e => absurd e (by decide), fun e => absurd e (by decide), am_sub_in 0 _ (List.mem_of_getElem? (i := 1) rfl), ⟨by decide +kernel, by decide +kernel, by decide +kernel⟩, by decide, by decide +kernel⟩
set_option maxRecDepth 100000 in
theorem am_ok_123_0 : am_okR 123 0 16 = true := by decide +kernel
theorem am_ok_123 : am_okM 123 := am_chk (lo := 0) (n := 16) (am_ch0) am_ok_123_0
theorem am_mk_123 : am_mok 123 := ⟨am_sub_in 2 _ (List.mem_of_getElem? (i := 2) rfl), am_sub_in 2 _ (List.mem_of_getElem? (i := 1) rfl), fun e => absurd e (by decide), fun e => absurd e (by decide), fun e => absurd e (by decide), am_sub_in 0 _ (List.mem_of_getElem? (i := 1) rfl), ⟨by decide +kernel, by decide +kernel, by decide +kernel⟩, by decide, by decide +kernel⟩
set_option maxRecDepth 100000 in
theorem am_ok_124_0 : am_okR 124 0 15 = true := by decide +kernel
theorem am_ok_124 : am_okM 124 := am_chk (lo := 0) (n := 15) (am_ch0) am_ok_124_0
theorem am_mk_124 : am_mok 124 := ⟨am_sub_in 2 _ (List.mem_of_getElem? (i := 45) rfl), am_sub_in 2 _ (List.mem_of_getElem? (i := 44) rfl), fun e => absurd e (by decide), fun e => absurd e (by decide), fun e => absurd e (by decide), am_sub_in 0 _ (List.mem_of_getElem? (i := 1) rfl), ⟨by decide +kernel, by decide +kernel, by decide +kernel⟩, by decide, by decide +kernel⟩
set_option maxRecDepth 100000 in
theorem am_ok_125_0 : am_okR 125 0 15 = true := by decide +kernel
theorem am_ok_125 : am_okM 125 := am_chk (lo := 0) (n := 15) (am_ch0) am_ok_125_0
theorem am_mk_125 : am_mok 125 := ⟨am_sub_in 3 _ (List.mem_of_getElem? (i := 70) rfl), am_sub_in 3 _ (List.mem_of_getElem? (i := 69) rfl), fun e => absurd e (by decide), fun e => absurd e (by decide), fun e => absurd e (by decide), am_sub_in 0 _ (List.mem_of_getElem? (i := 1) rfl), ⟨by decide +kernel, by decide +kernel, by decide +kernel⟩, by decide, by decide +kernel⟩
set_option maxRecDepth 100000 in
theorem am_ok_126_0 : am_okR 126 0 29 = true := by decide +kernel
theorem am_ok_126 : am_okM 126 := am_chk (lo := 0) (n := 29) (am_ch0) am_ok_126_0
theorem am_mk_126 : am_mok 126 := ⟨am_sub_in 3 _ (List.mem_of_getElem? (i := 67) rfl), am_sub_in 3 _ (List.mem_of_getElem? (i := 66) rfl), fun _ => am_sub_in 7 _ (List.mem_of_getElem? (i := 20) rfl), fun _ => Or.inl ⟨rfl, by decide⟩, fun e => absurd e (by decide), am_sub_in 0 _ (List.mem_of_getElem? (i := 1) rfl), ⟨by decide +kernel, by decide +kernel, by decide +kernel⟩, by decide, by decide +kernel⟩
set_option maxRecDepth 100000 in
theorem am_ok_127_0 : am_okR 127 0 100 = true := by decide +kernel
set_option maxRecDepth 100000 in
theorem am_ok_127_1 : am_okR 127 100 14 = true := by decide +kernel
theorem am_ok_127 : am_okM 127 := am_chk (lo := 100) (n := 14) (am_chk (lo := 0) (n := 100) (am_ch0) am_ok_127_0) am_ok_127_1
theorem am_mk_127 : am_mok 127 := ⟨am_sub_in 2 _ (List.mem_of_getElem? (i := 218) rfl), am_sub_in 2 _ (List.mem_of_getElem? (i := 217) rfl), fun _ => am_sub_in 7 _ (List.mem_of_getElem? (i := 16) rfl), fun _ => Or.inl ⟨rfl, by decide⟩, fun e => absurd e (by decide), am_sub_in 0 _ (List.mem_of_getElem? (i := 1) rfl), ⟨by decide +kernel, by decide +kernel, by decide +kernel⟩, by decide, by decide +kernel⟩
set_option maxRecDepth 100000 in
theorem am_ok_128_0 : am_okR 128 0 100 = true := by decide +kernel
set_option maxRecDepth 100000 in
theorem am_ok_128_1 : am_okR 128 100 66 = true := by decide +kernel
theorem am_ok_128 : am_okM 128 := am_chk (lo := 100) (n := 66) (am_chk (lo := 0) (n := 100) (am_ch0) am_ok_128_0) am_ok_128_1
theorem am_mk_128 : am_mok 128 := ⟨am_sub_in 2 _ (List.mem_of_getElem? (i := 234) rfl), am_sub_in 2 _ (List.mem_of_getElem? (i := 233) rfl), fun _ => am_sub_in 7 _ (List.mem_of_getElem? (i := 17) rfl), fun _ => Or.inl ⟨rfl, by decide⟩, fun e => absurd e (by decide), am_sub_in 0 _ (List.mem_of_getElem? (i := 1) rfl), ⟨by decide +kernel, by decide +kernel, by decide +kernel⟩, by decide, by decide +kernel⟩
set_option maxRecDepth 100000 in
theorem am_ok_129_0 : am_okR 129 0 44 = true := by decide +kernel
theorem am_ok_129 : am_okM 129 := am_chk (lo := 0) (n := 44) (am_ch0) am_ok_129_0
theorem am_mk_129 : am_mok 129 := ⟨am_sub_in 2 _ (List.mem_of_getElem? (i := 238) rfl), am_sub_in 2 _ (List.mem_of_getElem? (i := 237) rfl), fun _ => am_sub_in 7 _ (List.mem_of_getElem? (i := 18) rfl), fun _ => Or.inl ⟨rfl, by decide⟩, fun e => absurd e (by decide), am_sub_in 0 _ (List.mem_of_getElem? (i := 1) rfl), ⟨by decide +kernel, by decide +kernel, by decide +kernel⟩, by decide, by decide +kernel⟩
set_option maxRecDepth 100000 in
theorem am_ok_130_0 : am_okR 130 0 96 = true := by decide +kernel
theorem am_ok_130 : am_okM 130 := am_chk (lo := 0) (n := 96) (am_ch0) am_ok_130_0
theorem am_mk_130 : am_mok 130 := ⟨am_sub_in 3 _ (List.mem_of_getElem? (i := 40) rfl), am_sub_in 3 _ (List.mem_of_getElem? (i := 39) rfl), fun _ => am_sub_in 7 _ (List.mem_of_getElem? (i := 19) rfl), fun _ => Or.inl ⟨rfl, by decide⟩, fun e => absurd e (by decide), am_sub_in 0 _ (List.mem_of_getElem? (i := 1) rfl), ⟨by decide +kernel, by decide +kernel, by decide +kernel⟩, by decide, by decide +kernel⟩
set_option maxRecDepth 100000 in
theorem am_ok_131_0 : am_okR 131 0 78 = true := by decide +kernel
theorem am_ok_131 : am_okM 131 := am_chk (lo := 0) (n := 78) (am_ch0) am_ok_131_0
theorem am_mk_131 : am_mok 131 := ⟨am_sub_in 3 _ (List.mem_of_getElem? (i := 78) rfl), am_sub_in 3 _ (List.mem_of_getElem? (i := 77) rfl), fun _ => am_sub_in 7 _ (List.mem_of_getElem? (i := 21) rfl), fun _ => Or.inl ⟨rfl, by decide⟩, fun e => absurd e (by decide), am_sub_in 0 _ (List.mem_of_getElem? (i := 1) rfl), ⟨by decide +kernel, by decide +kernel, by decide +kernel⟩, by decide, by decide +kernel⟩
set_option maxRecDepth 100000 in
theorem am_ok_132_0 : am_okR 132 0 75 = true := by decide +kernel
theorem am_ok_132 : am_okM 132 := am_chk (lo := 0) (n := 75) (am_ch0) am_ok_132_0
theorem am_mk_132 : am_mok 132 := ⟨am_sub_in 3 _ (List.mem_of_getElem? (i := 86) rfl), am_sub_in 3 _ (List.mem_of_getElem? (i := 85) rfl), fun _ => am_sub_in 7 _ (List.mem_of_getElem? (i := 22) rfl), fun _ => Or.inl ⟨rfl, by decide⟩, fun e => absurd e (by decide), am_sub_in 0 _ (List.mem_of_getElem? (i := 1) rfl), ⟨by decide +kernel, by decide +kernel, by decide +kernel⟩, by decide, by decide +kernel⟩
