/-! ===== the tables hold, method by method (kernel): 172 to 195 ===== -/
set_option maxRecDepth 100000 in
theorem am_ok_172_0 : am_okR 172 0 91 = true := by decide +kernel
theorem am_ok_172 : am_okM 172 := am_chk (lo := 0) (n := 91) (am_ch0) am_ok_172_0
theorem am_mk_172 : am_mok 172 := ⟨am_sub_in 4 _ (List.mem_of_getElem? (i := 214) rfl), am_sub_in 4 _ (List.mem_of_getElem? (i := 212) rfl), fun _ => am_sub_in 4 _ (List.mem_of_getElem? (i := 213) rfl), fun _ => Or.inl ⟨rfl, by decide⟩, fun e => absurd e (by decide), am_sub_in 0 _ (List.mem_of_getElem? (i := 14) rfl), ⟨by decide +kernel, by decide +kernel, by decide +kernel⟩, by decide, by decide +kernel⟩
set_option maxRecDepth 100000 in
theorem am_ok_173_0 : am_okR 173 0 18 = true := by decide +kernel
theorem am_ok_173 : am_okM 173 := am_chk (lo := 0) (n := 18) (am_ch0) am_ok_173_0
theorem am_mk_173 : am_mok 173 := ⟨am_sub_in 4 _ (List.mem_of_getElem? (i := 222) rfl), am_sub_in 4 _ (List.mem_of_getElem? (i := 221) rfl), fun _ => am_sub_in 7 _ (List.mem_of_getElem? (i := 43) rfl), fun _ => Or.inl ⟨rfl, by decide⟩, fun e => absurd e (by decide), am_sub_in 0 _ (List.mem_of_getElem? (i := 14) rfl), ⟨by decide +kernel, by decide +kernel, by decide +kernel⟩, by decide, by decide +kernel⟩
set_option maxRecDepth 100000 in
theorem am_ok_174_0 : am_okR 174 0 26 = true := by decide +kernel
theorem am_ok_174 : am_okM 174 := am_chk (lo := 0) (n := 26) (am_ch0) am_ok_174_0
theorem am_mk_174 : am_mok 174 := ⟨am_sub_in 4 _ (List.mem_of_getElem? (i := 226) rfl), am_sub_in 4 _ (List.mem_of_getElem? (i := 225) rfl), fun _ => am_sub_in 7 _ (List.mem_of_getElem? (i := 44) rfl), fun _ => Or.inl ⟨rfl, by decide⟩, fun e => absurd e (by decide), am_sub_in 0 _ (List.mem_of_getElem? (i := 14) rfl), ⟨by decide +kernel, by decide +kernel, by decide +kernel⟩, by decide, by decide +kernel⟩
set_option maxRecDepth 100000 in
theorem am_ok_175_0 : am_okR 175 0 90 = true := by decide +kernel
theorem am_ok_175 : am_okM 175 := am_chk (lo := 0) (n := 90) (am_ch0) am_ok_175_0
theorem am_mk_175 : am_mok 175 := ⟨am_sub_in 4 _ (List.mem_of_getElem? (i := 218) rfl), am_sub_in 4 _ (List.mem_of_getElem? (i := 216) rfl), fun _ => am_sub_in 4 _ (List.mem_of_getElem? (i := 217) rfl), fun _ => Or.inl ⟨rfl, by decide⟩, fun e => absurd e (by decide), am_sub_in 0 _ (List.mem_of_getElem? (i := 14) rfl), ⟨by decide +kernel, by decide +kernel, by decide +kernel⟩, by decide, by decide +kernel⟩
set_option maxRecDepth 100000 in
theorem am_ok_176_0 : am_okR 176 0 44 = true := by decide +kernel
theorem am_ok_176 : am_okM 176 := am_chk (lo := 0) (n := 44) (am_ch0) am_ok_176_0
theorem am_mk_176 : am_mok 176 := ⟨am_sub_in 5 _ (List.mem_of_getElem? (i := 6) rfl), am_sub_in 5 _ (List.mem_of_getElem? (i := 5) rfl), fun _ => am_sub_in 7 _ (List.mem_of_getElem? (i := 48) rfl), fun _ => Or.inl ⟨rfl, by decide⟩, fun e => absurd e (by decide), am_sub_in 0 _ (List.mem_of_getElem? (i := 14) rfl), ⟨by decide +kernel, by decide +kernel, by decide +kernel⟩, by decide, by decide +kernel⟩
set_option maxRecDepth 100000 in
theorem am_ok_177_0 : am_okR 177 0 71 = true := by decide +kernel
theorem am_ok_177 : am_okM 177 := am_chk (lo := 0) (n := 71) (am_ch0) am_ok_177_0
theorem am_mk_177 : am_mok 177 := ⟨am_sub_in 5 _ (List.mem_of_getElem? (i := 147) rfl), am_sub_in 5 _ (List.mem_of_getElem? (i := 146) rfl), fun _ => am_sub_in 7 _ (List.mem_of_getElem? (i := 65) rfl), fun _ => Or.inl ⟨rfl, by decide⟩, fun e => absurd e (by decide), am_sub_in 0 _ (List.mem_of_getElem? (i := 14) rfl), ⟨by decide +kernel, by decide +kernel, by decide +kernel⟩, by decide, by decide +kernel⟩
set_option maxRecDepth 100000 in
theorem am_ok_178_0 : am_okR 178 0 46 = true := by decide +kernel
theorem am_ok_178 : am_okM 178 := am_chk (lo := 0) (n := 46) (am_ch0) am_ok_178_0
theorem am_mk_178 : am_mok 178 := ⟨am_sub_in 5 _ (List.mem_of_getElem? (i := 99) rfl), am_sub_in 5 _ (List.mem_of_getElem? (i := 98) rfl), fun _ => am_sub_in 7 _ (List.mem_of_getElem? (i := 60) rfl), fun _ => Or.inl ⟨rfl, by decide⟩, fun e => absurd e (by decide), am_sub_in 0 _ (List.mem_of_getElem? (i := 14) rfl), ⟨by decide +kernel, by decide +kernel, by decide +kernel⟩, by decide, by decide +kernel⟩
set_option maxRecDepth 100000 in
theorem am_ok_179_0 : am_okR 179 0 63 = true := by decide +kernel
theorem am_ok_179 : am_okM 179 := am_chk (lo := 0) (n := 63) (am_ch0) am_ok_179_0
theorem am_mk_179 : am_mok 179 := ⟨am_sub_in 5 _ (List.mem_of_getElem? (i := 2) rfl), am_sub_in 5 _ (List.mem_of_getElem? (i := 1) rfl), fun _ => am_sub_in 7 _ (List.mem_of_getElem? (i := 47) rfl), fun _ => Or.inl ⟨rfl, by decide⟩, fun e => absurd e (by decide), am_sub_in 0 _ (List.mem_of_getElem? (i := 14) rfl), ⟨by decide +kernel, by decide +kernel, by decide +kernel⟩, by decide, by decide +kernel⟩
set_option maxRecDepth 100000 in
theorem am_ok_180_0 : am_okR 180 0 48 = true := by decide +kernel
theorem am_ok_180 : am_okM 180 := am_chk (lo := 0) (n := 48) (am_ch0) am_ok_180_0
theorem am_mk_180 : am_mok 180 := ⟨am_sub_in 4 _ (List.mem_of_getElem? (i := 238) rfl), am_sub_in 4 _ (List.mem_of_getElem? (i := 237) rfl), fun _ => am_sub_in 7 _ (List.mem_of_getElem? (i := 46) rfl), fun _ => Or.inl ⟨rfl, by decide⟩, fun e => absurd e (by decide), am_sub_in 0 _ (List.mem_of_getElem? (i := 14) rfl), ⟨by decide +kernel, by decide +kernel, by decide +kernel⟩, by decide, by decide +kernel⟩
set_option maxRecDepth 100000 in
theorem am_ok_181_0 : am_okR 181 0 19 = true := by decide +kernel
theorem am_ok_181 : am_okM 181 := am_chk (lo := 0) (n := 19) (am_ch0) am_ok_181_0
theorem am_mk_181 : am_mok 181 := ⟨am_sub_in 4 _ (List.mem_of_getElem? (i := 234) rfl), am_sub_in 4 _ (List.mem_of_getElem? (i := 232) rfl), fun _ => am_sub_in 4 _ (List.mem_of_getElem? (i := 233) rfl), fun _ => Or.inl ⟨rfl, by decide⟩, fun e => absurd e (by decide), am_sub_in 0 _ (List.mem_of_getElem? (i := 14) rfl), ⟨by decide +kernel, by decide +kernel, by decide +kernel⟩, by decide, by decide +kernel⟩
set_option maxRecDepth 100000 in
theorem am_ok_182_0 : am_okR 182 0 22 = true := by decide +kernel
theorem am_ok_182 : am_okM 182 := am_chk (lo := 0) (n := 22) (am_ch0) am_ok_182_0
theorem am_mk_182 : am_mok 182 := ⟨am_sub_in 5 _ (List.mem_of_getElem? (i := 14) rfl), am_sub_in 5 _ (List.mem_of_getElem? (i := 13) rfl), fun _ => am_sub_in 7 _ (List.mem_of_getElem? (i := 49) rfl), fun _ => Or.inl ⟨rfl, by decide⟩, fun e => absurd e (by decide), am_sub_in 0 _ (List.mem_of_getElem? (i := 14) rfl), ⟨by decide +kernel, by decide +kernel, by decide +kernel⟩, by decide, by decide +kernel⟩
set_option maxRecDepth 100000 in
theorem am_ok_183_0 : am_okR 183 0 38 = true := by decide +kernel
theorem am_ok_183 : am_okM 183 := am_chk (lo := 0) (n := 38) (am_ch0) am_ok_183_0
theorem am_mk_183 : am_mok 183 := ⟨am_sub_in 5 _ (List.mem_of_getElem? (i := 10) rfl), am_sub_in 5 _ (List.mem_of_getElem? (i := 8) rfl), fun _ => am_sub_in 5 _ (List.mem_of_getElem? (i := 9) rfl), fun _ => Or.inl ⟨rfl, by decide⟩, fun e => absurd e (by decide), am_sub_in 0 _ (List.mem_of_getElem? (i := 14) rfl), ⟨by decide +kernel, by decide +kernel, by decide +kernel⟩, by decide, by decide +kernel⟩
set_option maxRecDepth 100000 in
theorem am_ok_184_0 : am_okR 184 0 47 = true := by decide +kernel
theorem am_ok_184 : am_okM 184 := am_chk (lo := 0) (n := 47) (am_ch0) am_ok_184_0
theorem am_mk_184 : am_mok 184 := ⟨am_sub_in 5 _ (List.mem_of_getElem? (i := 18) rfl), am_sub_in 5 _ (List.mem_of_getElem? (i := 16) rfl), fun _ => am_sub_in 5 _ (List.mem_of_getElem? (i := 17) rfl), fun _ => Or.inl ⟨rfl, by decide⟩, fun e => absurd e (by decide), am_sub_in 0 _ (List.mem_of_getElem? (i := 14) rfl), ⟨by decide +kernel, by decide +kernel, by decide +kernel⟩, by decide, by decide +kernel⟩
set_option maxRecDepth 100000 in
theorem am_ok_185_0 : am_okR 185 0 13 = true := by decide +kernel
theorem am_ok_185 : am_okM 185 := am_chk (lo := 0) (n := 13) (am_ch0) am_ok_185_0
theorem am_mk_185 : am_mok 185 := ⟨am_sub_in 5 _ (List.mem_of_getElem? (i := 26) rfl), am_sub_in 5 _ (List.mem_of_getElem? (i := 25) rfl), fun _ => am_sub_in 7 _ (List.mem_of_getElem? (i := 50) rfl), fun _ => Or.inl ⟨rfl, by decide⟩, fun e => absurd e (by decide), am_sub_in 0 _ (List.mem_of_getElem? (i := 14) rfl), ⟨by decide +kernel, by decide +kernel, by decide +kernel⟩, by decide, by decide +kernel⟩
set_option maxRecDepth 100000 in
theorem am_ok_186_0 : am_okR 186 0 40 = true := by decide +kernel
theorem am_ok_186 : am_okM 186 := am_chk (lo := 0) (n := 40) (am_ch0) am_ok_186_0
theorem am_mk_186 : am_mok 186 := ⟨am_sub_in 5 _ (List.mem_of_getElem? (i := 22) rfl), am_sub_in 5 _ (List.mem_of_getElem? (i := 20) rfl), fun _ => am_sub_in 5 _ (List.mem_of_getElem? (i := 21) rfl), fun _ => Or.inl ⟨rfl, by decide⟩, fun e => absurd e (by decide), am_sub_in 0 _ (List.mem_of_getElem? (i := 14) rfl), ⟨by decide +kernel, by decide +kernel, by decide +kernel⟩, by decide, by decide +kernel⟩
set_option maxRecDepth 100000 in
theorem am_ok_187_0 : am_okR 187 0 47 = true := by decide +kernel
theorem am_ok_187 : am_okM 187 := am_chk (lo := 0) (n := 47) (am_ch0) am_ok_187_0
theorem am_mk_187 : am_mok 187 := ⟨am_sub_in 5 _ (List.mem_of_getElem? (i := 34) rfl), am_sub_in 5 _ (List.mem_of_getElem? (i := 33) rfl), fun _ => am_sub_in 7 _ (List.mem_of_getElem? (i := 51) rfl), fun _ => Or.inl ⟨rfl, by decide⟩, fun e => absurd e (by decide), am_sub_in 0 _ (List.mem_of_getElem? (i := 14) rfl), ⟨by decide +kernel, by decide +kernel, by decide +kernel⟩, by decide, by decide +kernel⟩
set_option maxRecDepth 100000 in
theorem am_ok_188_0 : am_okR 188 0 19 = true := by decide +kernel
theorem am_ok_188 : am_okM 188 := am_chk (lo := 0) (n := 19) (am_ch0) am_ok_188_0
theorem am_mk_188 : am_mok 188 := ⟨am_sub_in 5 _ (List.mem_of_getElem? (i := 30) rfl), am_sub_in 5 _ (List.mem_of_getElem? (i := 28) rfl), fun _ => am_sub_in 5 _ (List.mem_of_getElem? (i := 29) rfl), fun _ => Or.inl ⟨rfl, by decide⟩, fun e => absurd e (by decide), am_sub_in 0 _ (List.mem_of_getElem? (i := 14) rfl), ⟨by decide +kernel, by decide +kernel, by decide +kernel⟩, by decide, by decide +kernel⟩
set_option maxRecDepth 100000 in
theorem am_ok_189_0 : am_okR 189 0 92 = true := by decide +kernel
theorem am_ok_189 : am_okM 189 := am_chk (lo := 0) (n := 92) (am_ch0) am_ok_189_0
theorem am_mk_189 : am_mok 189 := ⟨am_sub_in 5 _ (List.mem_of_getElem? (i := 42) rfl), am_sub_in 5 _ (List.mem_of_getElem? (i := 41) rfl), fun _ => am_sub_in 7 _ (List.mem_of_getElem? (i := 52) rfl), fun _ => Or.inl ⟨rfl, by decide⟩, fun e => absurd e (by decide), am_sub_in 0 _ (List.mem_of_getElem? (i := 14) rfl), ⟨by decide +kernel, by decide +kernel, by decide +kernel⟩, by decide, by decide +kernel⟩
set_option maxRecDepth 100000 in
theorem am_ok_190_0 : am_okR 190 0 13 = true := by decide +kernel
theorem am_ok_190 : am_okM 190 := am_chk (lo := 0) (n := 13) (am_ch0) am_ok_190_0
theorem am_mk_190 : am_mok 190 := ⟨am_sub_in 5 _ (List.mem_of_getElem? (i := 38) rfl), am_sub_in 5 _ (List.mem_of_getElem? (i := 36) rfl), fun _ => am_sub_in 5 _ (List.mem_of_getElem? (i := 37) rfl), fun _ => Or.inl ⟨rfl, by decide⟩, fun e => absurd e (by decide), am_sub_in 0 _ (List.mem_of_getElem? (i := 14) rfl), ⟨by decide +kernel, by decide +kernel, by decide +kernel⟩, by decide, by decide +kernel⟩
set_option maxRecDepth 100000 in
theorem am_ok_191_0 : am_okR 191 0 100 = true := by decide +kernel
set_option maxRecDepth 100000 in
theorem am_ok_191_1 : am_okR 191 100 38 = true := by decide +kernel
theorem am_ok_191 : am_okM 191 := am_chk (lo := 100) (n := 38) (am_chk (lo := 0) (n := 100) (am_ch0) am_ok_191_0) am_ok_191_1
theorem am_mk_191 : am_mok 191 := ⟨am_sub_in 5 _ (List.mem_of_getElem? (i := 54) rfl), am_sub_in 5 _ (List.mem_of_getElem? (i := 53) rfl), fun _ => am_sub_in 7 _ (List.mem_of_getElem? (i := 54) rfl), fun _ => Or.inl ⟨rfl, by decide⟩, fun e => absurd e (by decide), am_sub_in 0 _ (List.mem_of_getElem? (i := 14) rfl), ⟨by decide +kernel, by decide +kernel, by decide +kernel⟩, by decide, by decide +kernel⟩
set_option maxRecDepth 100000 in
theorem am_ok_192_0 : am_okR 192 0 25 = true := by decide +kernel
theorem am_ok_192 : am_okM 192 := am_chk (lo := 0) (n := 25) (am_ch0) am_ok_192_0
theorem am_mk_192 : am_mok 192 := ⟨am_sub_in 5 _ (List.mem_of_getElem? (i := 58) rfl), am_sub_in 5 _ (List.mem_of_getElem? (i := 57) rfl), fun _ => am_sub_in 7 _ (List.mem_of_getElem? (i := 55) rfl), fun _ => Or.inl ⟨rfl, by decide⟩, fun e => absurd e (by decide), am_sub_in 0 _ (List.mem_of_getElem? (i := 14) rfl), ⟨by decide +kernel, by decide +kernel, by decide +kernel⟩, by decide, by decide +kernel⟩
set_option maxRecDepth 100000 in
theorem am_ok_193_0 : am_okR 193 0 77 = true := by decide +kernel
theorem am_ok_193 : am_okM 193 := am_chk (lo := 0) (n := 77) (am_ch0) am_ok_193_0
theorem am_mk_193 : am_mok 193 := ⟨am_sub_in 5 _ (List.mem_of_getElem? (i := 50) rfl), am_sub_in 5 _ (List.mem_of_getElem? (i := 49) rfl), fun _ => am_sub_in 7 _ (List.mem_of_getElem? (i := 53) rfl), fun _ => Or.inl ⟨rfl, by decide⟩, fun e => absurd e (by decide), am_sub_in 0 _ (List.mem_of_getElem? (i := 14) rfl), ⟨by decide +kernel, by decide +kernel, by decide +kernel⟩, by decide, by decide +kernel⟩
set_option maxRecDepth 100000 in
theorem am_ok_194_0 : am_okR 194 0 74 = true := by decide +kernel
theorem am_ok_194 : am_okM 194 := am_chk (lo := 0) (n := 74) (am_ch0) am_ok_194_0
theorem am_mk_194 : am_mok 194 := ⟨am_sub_in 5 _ (List.mem_of_getElem? (i := 62) rfl), am_sub_in 5 _ (List.mem_of_getElem? (i := 61) rfl), fun _ => am_sub_in 7 _ (List.mem_of_getElem? (i := 56) rfl), fun _ => Or.inl ⟨rfl, by decide⟩, fun e => absurd e (by decide), am_sub_in 0 _ (List.mem_of_getElem? (i := 14) rfl), ⟨by decide +kernel, by decide +kernel, by decide +kernel⟩, by decide, by decide +kernel⟩
set_option maxRecDepth 100000 in
theorem am_ok_195_0 : am_okR 195 0 63 = true := by decide +kernel
theorem am_ok_195 : am_okM 195 := am_chk (lo := 0) (n := 63) (am_ch0) am_ok_195_0
theorem am_mk_195 : am_mok 195 := ⟨am_sub_in 5 _ (List.mem_of_getElem? (i := 46) rfl), am_sub_in 5 _ (List.mem_of_getElem? (i := 44) rfl), fun _ => am_sub_in 5 _ (List.mem_of_getElem? (i := 45) rfl), fun _ => Or.inl ⟨rfl, by decide⟩, fun e => absurd e (by decide), am_sub_in 0 _ (List.mem_of_getElem? (i := 14) rfl), ⟨by decide +kernel, by decide +kernel, by decide +kernel⟩, by decide, by decide +kernel⟩
