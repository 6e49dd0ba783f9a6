/-! ===== the tables hold, method by method (kernel): 139 to 159 ===== -/
set_option maxRecDepth 100000 in
theorem am_ok_139_0 : am_okR 139 0 26 = true := by decide +kernel
theorem am_ok_139 : am_okM 139 := am_chk (lo := 0) (n := 26) (am_ch0) am_ok_139_0
theorem am_mk_139 : am_mok 139 := ⟨am_sub_in 4 _ (List.mem_of_getElem? (i := 172) rfl), am_sub_in 4 _ (List.mem_of_getElem? (i := 171) rfl), fun e => absurd e (by decide), fun e => absurd e (by decide), fun e => absurd e (by decide), am_sub_in 0 _ (List.mem_of_getElem? (i := 14) rfl), ⟨by decide +kernel, by decide +kernel, by decide +kernel⟩, by decide, by decide +kernel⟩
set_option maxRecDepth 100000 in
theorem am_ok_140_0 : am_okR 140 0 12 = true := by decide +kernel
theorem am_ok_140 : am_okM 140 := am_chk (lo := 0) (n := 12) (am_ch0) am_ok_140_0
theorem am_mk_140 : am_mok 140 := ⟨am_sub_in 4 _ (List.mem_of_getElem? (i := 150) rfl), am_sub_in 4 _ (List.mem_of_getElem? (i := 149) rfl), fun _ => am_sub_in 7 _ (List.mem_of_getElem? (i := 34) rfl), fun _ => Or.inl ⟨rfl, by decide⟩, fun e => absurd e (by decide), am_sub_in 0 _ (List.mem_of_getElem? (i := 14) rfl), ⟨by decide +kernel, by decide +kernel, by decide +kernel⟩, by decide, by decide +kernel⟩
set_option maxRecDepth 100000 in
theorem am_ok_141_0 : am_okR 141 0 12 = true := by decide +kernel
theorem am_ok_141 : am_okM 141 := am_chk (lo := 0) (n := 12) (am_ch0) am_ok_141_0
theorem am_mk_141 : am_mok 141 := ⟨am_sub_in 4 _ (List.mem_of_getElem? (i := 154) rfl), am_sub_in 4 _ (List.mem_of_getElem? (i := 153) rfl), fun _ => am_sub_in 7 _ (List.mem_of_getElem? (i := 35) rfl), fun _ => Or.inl ⟨rfl, by decide⟩, fun e => absurd e (by decide), am_sub_in 0 _ (List.mem_of_getElem? (i := 14) rfl), ⟨by decide +kernel, by decide +kernel, by decide +kernel⟩, by decide, by decide +kernel⟩
set_option maxRecDepth 100000 in
theorem am_ok_142_0 : am_okR 142 0 18 = true := by decide +kernel
theorem am_ok_142 : am_okM 142 := am_chk (lo := 0) (n := 18) (am_ch0) am_ok_142_0
theorem am_mk_142 : am_mok 142 := ⟨am_sub_in 4 _ (List.mem_of_getElem? (i := 198) rfl), am_sub_in 4 _ (List.mem_of_getElem? (i := 197) rfl), fun _ => am_sub_in 7 _ (List.mem_of_getElem? (i := 40) rfl), fun _ => Or.inl ⟨rfl, by decide⟩, fun e => absurd e (by decide), am_sub_in 0 _ (List.mem_of_getElem? (i := 14) rfl), ⟨by decide +kernel, by decide +kernel, by decide +kernel⟩, by decide, by decide +kernel⟩
set_option maxRecDepth 100000 in
theorem am_ok_143_0 : am_okR 143 0 9 = true := by decide +kernel
theorem am_ok_143 : am_okM 143 := am_chk (lo := 0) (n := 9) (am_ch0) am_ok_143_0
theorem am_mk_143 : am_mok 143 := ⟨am_sub_in 4 _ (List.mem_of_getElem? (i := 210) rfl), am_sub_in 4 _ (List.mem_of_getElem? (i := 209) rfl), fun _ => am_sub_in 7 _ (List.mem_of_getElem? (i := 42) rfl), fun _ => Or.inl ⟨rfl, by decide⟩, fun e => absurd e (by decide), am_sub_in 0 _ (List.mem_of_getElem? (i := 14) rfl), ⟨by decide +kernel, by decide +kernel, by decide +kernel⟩, by decide, by decide +kernel⟩
set_option maxRecDepth 100000 in
theorem am_ok_144_0 : am_okR 144 0 9 = true := by decide +kernel
theorem am_ok_144 : am_okM 144 := am_chk (lo := 0) (n := 9) (am_ch0) am_ok_144_0
theorem am_mk_144 : am_mok 144 := ⟨am_sub_in 4 _ (List.mem_of_getElem? (i := 230) rfl), am_sub_in 4 _ (List.mem_of_getElem? (i := 229) rfl), fun _ => am_sub_in 7 _ (List.mem_of_getElem? (i := 45) rfl), fun _ => Or.inl ⟨rfl, by decide⟩, fun e => absurd e (by decide), am_sub_in 0 _ (List.mem_of_getElem? (i := 14) rfl), ⟨by decide +kernel, by decide +kernel, by decide +kernel⟩, by decide, by decide +kernel⟩
set_option maxRecDepth 100000 in
theorem am_ok_145_0 : am_okR 145 0 11 = true := by decide +kernel
theorem am_ok_145 : am_okM 145 := am_chk (lo := 0) (n := 11) (am_ch0) am_ok_145_0
theorem am_mk_145 : am_mok 145 := ⟨am_sub_in 4 _ (List.mem_of_getElem? (i := 165) rfl), am_sub_in 4 _ (List.mem_of_getElem? (i := 164) rfl), fun _ => am_sub_in 7 _ (List.mem_of_getElem? (i := 37) rfl), fun _ => Or.inl ⟨rfl, by decide⟩, fun e => absurd e (by decide), am_sub_in 0 _ (List.mem_of_getElem? (i := 14) rfl), ⟨by decide +kernel, by decide +kernel, by decide +kernel⟩, by decide, by decide +kernel⟩
set_option maxRecDepth 100000 in
theorem am_ok_146_0 : am_okR 146 0 11 = true := by decide +kernel
theorem am_ok_146 : am_okM 146 := am_chk (lo := 0) (n := 11) (am_ch0) am_ok_146_0
theorem am_mk_146 : am_mok 146 := ⟨am_sub_in 4 _ (List.mem_of_getElem? (i := 169) rfl), am_sub_in 4 _ (List.mem_of_getElem? (i := 168) rfl), fun _ => am_sub_in 7 _ (List.mem_of_getElem? (i := 38) rfl), fun _ => Or.inl ⟨rfl, by decide⟩, fun e => absurd e (by decide), am_sub_in 0 _ (List.mem_of_getElem? (i := 14) rfl), ⟨by decide +kernel, by decide +kernel, by decide +kernel⟩, by decide, by decide +kernel⟩
set_option maxRecDepth 100000 in
theorem am_ok_147_0 : am_okR 147 0 8 = true := by decide +kernel
theorem am_ok_147 : am_okM 147 := am_chk (lo := 0) (n := 8) (am_ch0) am_ok_147_0
theorem am_mk_147 : am_mok 147 := ⟨am_sub_in 4 _ (List.mem_of_getElem? (i := 157) rfl), am_sub_in 4 _ (List.mem_of_getElem? (i := 156) rfl), fun e => absurd e (by decide), fun e => absurd e (by decide), fun e => absurd e (by decide), am_sub_in 0 _ (List.mem_of_getElem? (i := 14) rfl), ⟨by decide +kernel, by decide +kernel, by decide +kernel⟩, by decide, by decide +kernel⟩
set_option maxRecDepth 100000 in
theorem am_ok_148_0 : am_okR 148 0 82 = true := by decide +kernel
theorem am_ok_148 : am_okM 148 := am_chk (lo := 0) (n := 82) (am_ch0) am_ok_148_0
theorem am_mk_148 : am_mok 148 := ⟨am_sub_in 4 _ (List.mem_of_getElem? (i := 130) rfl), am_sub_in 4 _ (List.mem_of_getElem? (i := 128) rfl), fun _ => am_sub_in 4 _ (List.mem_of_getElem? (i := 129) rfl), fun _ => Or.inl ⟨rfl, by decide⟩, fun e => absurd e (by decide), am_sub_in 0 _ (List.mem_of_getElem? (i := 14) rfl), ⟨by decide +kernel, by decide +kernel, by decide +kernel⟩, by decide, by decide +kernel⟩
set_option maxRecDepth 100000 in
theorem am_ok_149_0 : am_okR 149 0 9 = true := by decide +kernel
theorem am_ok_149 : am_okM 149 := am_chk (lo := 0) (n := 9) (am_ch0) am_ok_149_0
theorem am_mk_149 : am_mok 149 := ⟨am_sub_in 4 _ (List.mem_of_getElem? (i := 137) rfl), am_sub_in 4 _ (List.mem_of_getElem? (i := 136) rfl), fun e => absurd e (by decide), fun e => absurd e (by decide), fun e => absurd e (by decide), am_sub_in 0 _ (List.mem_of_getElem? (i := 14) rfl), ⟨by decide +kernel, by decide +kernel, by decide +kernel⟩, by decide, by decide +kernel⟩
set_option maxRecDepth 100000 in
theorem am_ok_150_0 : am_okR 150 0 100 = true := by decide +kernel
set_option maxRecDepth 100000 in
theorem am_ok_150_1 : am_okR 150 100 47 = true := by decide +kernel
theorem am_ok_150 : am_okM 150 := am_chk (lo := 100) (n := 47) (am_chk (lo := 0) (n := 100) (am_ch0) am_ok_150_0) am_ok_150_1
theorem am_mk_150 : am_mok 150 := ⟨am_sub_in 4 _ (List.mem_of_getElem? (i := 134) rfl), am_sub_in 4 _ (List.mem_of_getElem? (i := 132) rfl), fun _ => am_sub_in 4 _ (List.mem_of_getElem? (i := 133) rfl), fun _ => Or.inl ⟨rfl, by decide⟩, fun e => absurd e (by decide), am_sub_in 0 _ (List.mem_of_getElem? (i := 14) rfl), ⟨by decide +kernel, by decide +kernel, by decide +kernel⟩, by decide, by decide +kernel⟩
set_option maxRecDepth 100000 in
theorem am_ok_151_0 : am_okR 151 0 100 = true := by decide +kernel
set_option maxRecDepth 100000 in
theorem am_ok_151_1 : am_okR 151 100 4 = true := by decide +kernel
theorem am_ok_151 : am_okM 151 := am_chk (lo := 100) (n := 4) (am_chk (lo := 0) (n := 100) (am_ch0) am_ok_151_0) am_ok_151_1
theorem am_mk_151 : am_mok 151 := ⟨am_sub_in 3 _ (List.mem_of_getElem? (i := 206) rfl), am_sub_in 3 _ (List.mem_of_getElem? (i := 205) rfl), fun _ => am_sub_in 7 _ (List.mem_of_getElem? (i := 26) rfl), fun _ => Or.inl ⟨rfl, by decide⟩, fun e => absurd e (by decide), am_sub_in 0 _ (List.mem_of_getElem? (i := 14) rfl), ⟨by decide +kernel, by decide +kernel, by decide +kernel⟩, by decide, by decide +kernel⟩
set_option maxRecDepth 100000 in
theorem am_ok_152_0 : am_okR 152 0 100 = true := by decide +kernel
set_option maxRecDepth 100000 in
theorem am_ok_152_1 : am_okR 152 100 100 = true := by decide +kernel
set_option maxRecDepth 100000 in
theorem am_ok_152_2 : am_okR 152 200 100 = true := by decide +kernel
set_option maxRecDepth 100000 in
theorem am_ok_152_3 : am_okR 152 300 100 = true := by decide +kernel
set_option maxRecDepth 100000 in
theorem am_ok_152_4 : am_okR 152 400 4 = true := by decide +kernel
theorem am_ok_152 : am_okM 152 := am_chk (lo := 400) (n := 4) (am_chk (lo := 300) (n := 100) (am_chk (lo := 200) (n := 100) (am_chk (lo := 100) (n := 100) (am_chk (lo := 0) (n := 100) (am_ch0) am_ok_152_0) am_ok_152_1) am_ok_152_2) am_ok_152_3) am_ok_152_4
theorem am_mk_152 : am_mok 152 := ⟨am_sub_in 3 _ (List.mem_of_getElem? (i := 199) rfl), am_sub_in 3 _ (List.mem_of_getElem? (i := 198) rfl), fun _ => am_sub_in 7 _ (List.mem_of_getElem? (i := 25) rfl), fun _ => Or.inl ⟨rfl, by decide⟩, fun e => absurd e (by decide), am_sub_in 0 _ (List.mem_of_getElem? (i := 14) rfl), ⟨by decide +kernel, by decide +kernel, by decide +kernel⟩, by decide, by decide +kernel⟩
set_option maxRecDepth 100000 in
theorem am_ok_153_0 : am_okR 153 0 72 = true := by decide +kernel
theorem am_ok_153 : am_okM 153 := am_chk (lo := 0) (n := 72) (am_ch0) am_ok_153_0
theorem am_mk_153 : am_mok 153 := ⟨am_sub_in 3 _ (List.mem_of_getElem? (i := 222) rfl), am_sub_in 3 _ (List.mem_of_getElem? (i := 221) rfl), fun e => absurd e (by decide), fun e => absurd e (by decide), fun e => absurd e (by decide), am_sub_in 0 _ (List.mem_of_getElem? (i := 14) rfl), ⟨by decide +kernel, by decide +kernel, by decide +kernel⟩, by decide, by decide +kernel⟩
set_option maxRecDepth 100000 in
theorem am_ok_154_0 : am_okR 154 0 30 = true := by decide +kernel
theorem am_ok_154 : am_okM 154 := am_chk (lo := 0) (n := 30) (am_ch0) am_ok_154_0
theorem am_mk_154 : am_mok 154 := ⟨am_sub_in 3 _ (List.mem_of_getElem? (i := 215) rfl), am_sub_in 3 _ (List.mem_of_getElem? (i := 214) rfl), fun _ => am_sub_in 7 _ (List.mem_of_getElem? (i := 28) rfl), fun _ => Or.inl ⟨rfl, by decide⟩, fun e => absurd e (by decide), am_sub_in 0 _ (List.mem_of_getElem? (i := 14) rfl), ⟨by decide +kernel, by decide +kernel, by decide +kernel⟩, by decide, by decide +kernel⟩
set_option maxRecDepth 100000 in
theorem am_ok_155_0 : am_okR 155 0 80 = true := by decide +kernel
theorem am_ok_155 : am_okM 155 := am_chk (lo := 0) (n := 80) (am_ch0) am_ok_155_0
theorem am_mk_155 : am_mok 155 := ⟨am_sub_in 3 _ (List.mem_of_getElem? (i := 219) rfl), am_sub_in 3 _ (List.mem_of_getElem? (i := 218) rfl), fun _ => am_sub_in 7 _ (List.mem_of_getElem? (i := 29) rfl), fun _ => Or.inl ⟨rfl, by decide⟩, fun e => absurd e (by decide), am_sub_in 0 _ (List.mem_of_getElem? (i := 14) rfl), ⟨by decide +kernel, by decide +kernel, by decide +kernel⟩, by decide, by decide +kernel⟩
set_option maxRecDepth 100000 in
theorem am_ok_156_0 : am_okR 156 0 21 = true := by decide +kernel
theorem am_ok_156 : am_okM 156 := am_chk (lo := 0) (n := 21) (am_ch0) am_ok_156_0
theorem am_mk_156 : am_mok 156 := ⟨am_sub_in 3 _ (List.mem_of_getElem? (i := 230) rfl), am_sub_in 3 _ (List.mem_of_getElem? (i := 229) rfl), fun _ => am_sub_in 7 _ (List.mem_of_getElem? (i := 31) rfl), fun _ => Or.inl ⟨rfl, by decide⟩, fun e => absurd e (by decide), am_sub_in 0 _ (List.mem_of_getElem? (i := 14) rfl), ⟨by decide +kernel, by decide +kernel, by decide +kernel⟩, by decide, by decide +kernel⟩
set_option maxRecDepth 100000 in
theorem am_ok_157_0 : am_okR 157 0 27 = true := by decide +kernel
theorem am_ok_157 : am_okM 157 := am_chk (lo := 0) (n := 27) (am_ch0) am_ok_157_0
theorem am_mk_157 : am_mok 157 := ⟨am_sub_in 3 _ (List.mem_of_getElem? (i := 226) rfl), am_sub_in 3 _ (List.mem_of_getElem? (i := 225) rfl), fun _ => am_sub_in 7 _ (List.mem_of_getElem? (i := 30) rfl), fun _ => Or.inl ⟨rfl, by decide⟩, fun e => absurd e (by decide), am_sub_in 0 _ (List.mem_of_getElem? (i := 14) rfl), ⟨by decide +kernel, by decide +kernel, by decide +kernel⟩, by decide, by decide +kernel⟩
set_option maxRecDepth 100000 in
theorem am_ok_158_0 : am_okR 158 0 62 = true := by decide +kernel
theorem am_ok_158 : am_okM 158 := am_chk (lo := 0) (n := 62) (am_ch0) am_ok_158_0
theorem am_mk_158 : am_mok 158 := ⟨am_sub_in 3 _ (List.mem_of_getElem? (i := 238) rfl), am_sub_in 3 _ (List.mem_of_getElem? (i := 237) rfl), fun _ => am_sub_in 7 _ (List.mem_of_getElem? (i := 33) rfl), fun _ => Or.inl ⟨rfl, by decide⟩, fun e => absurd e (by decide), am_sub_in 0 _ (List.mem_of_getElem? (i := 14) rfl), ⟨by decide +kernel, by decide +kernel, by decide +kernel⟩, by decide, by decide +kernel⟩
set_option maxRecDepth 100000 in
theorem am_ok_159_0 : am_okR 159 0 98 = true := by decide +kernel
theorem am_ok_159 : am_okM 159 := am_chk (lo := 0) (n := 98) (am_ch0) am_ok_159_0
theorem am_mk_159 : am_mok 159 := ⟨am_sub_in 3 _ (List.mem_of_getElem? (i := 234) rfl), am_sub_in 3 _ (List.mem_of_getElem? (i := 233) rfl), fun _ => am_sub_in 7 _ (List.mem_of_getElem? (i := 32) rfl), fun _ => Or.inl ⟨rfl, by decide⟩, fun e => absurd e (by decide), am_sub_in 0 _ (List.mem_of_getElem? (i := 14) rfl), ⟨by decide +kernel, by decide +kernel, by decide +kernel⟩, by decide, by decide +kernel⟩
