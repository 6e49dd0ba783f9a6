/-! ===== the tables hold, method by method (kernel): 213 to 226 ===== -/
set_option maxRecDepth 100000 in
theorem am_ok_213_0 : am_okR 213 0 100 = true := by decide +kernel
set_option maxRecDepth 100000 in
theorem am_ok_213_1 : am_okR 213 100 67 = true := by decide +kernel
theorem am_ok_213 : am_okM 213 := am_chk (lo := 100) (n := 67) (am_chk (lo := 0) (n := 100) (am_ch0) am_ok_213_0) am_ok_213_1
theorem am_mk_213 : am_mok 213 := ⟨am_sub_in 5 _ (List.mem_of_getElem? (i := 139) rfl), am_sub_in 5 _ (List.mem_of_getElem? (i := 137) rfl), fun _ => am_sub_in 5 _ (List.mem_of_getElem? (i := 138) rfl), fun _ => Or.inl ⟨rfl, by decide⟩, fun e => absurd e (by decide), am_sub_in 0 _ (List.mem_of_getElem? (i := 14) rfl), ⟨by decide +kernel, by decide +kernel, by decide +kernel⟩, by decide, by decide +kernel⟩
set_option maxRecDepth 100000 in
theorem am_ok_214_0 : am_okR 214 0 70 = true := by decide +kernel
theorem am_ok_214 : am_okM 214 := am_chk (lo := 0) (n := 70) (am_ch0) am_ok_214_0
theorem am_mk_214 : am_mok 214 := ⟨am_sub_in 5 _ (List.mem_of_getElem? (i := 143) rfl), am_sub_in 5 _ (List.mem_of_getElem? (i := 141) rfl), fun _ => am_sub_in 5 _ (List.mem_of_getElem? (i := 142) rfl), fun _ => Or.inl ⟨rfl, by decide⟩, fun e => absurd e (by decide), am_sub_in 0 _ (List.mem_of_getElem? (i := 14) rfl), ⟨by decide +kernel, by decide +kernel, by decide +kernel⟩, by decide, by decide +kernel⟩
set_option maxRecDepth 100000 in
theorem am_ok_215_0 : am_okR 215 0 39 = true := by decide +kernel
theorem am_ok_215 : am_okM 215 := am_chk (lo := 0) (n := 39) (am_ch0) am_ok_215_0
theorem am_mk_215 : am_mok 215 := ⟨am_sub_in 5 _ (List.mem_of_getElem? (i := 155) rfl), am_sub_in 5 _ (List.mem_of_getElem? (i := 154) rfl), fun _ => am_sub_in 7 _ (List.mem_of_getElem? (i := 66) rfl), fun _ => Or.inl ⟨rfl, by decide⟩, fun e => absurd e (by decide), am_sub_in 0 _ (List.mem_of_getElem? (i := 14) rfl), ⟨by decide +kernel, by decide +kernel, by decide +kernel⟩, by decide, by decide +kernel⟩
set_option maxRecDepth 100000 in
theorem am_ok_216_0 : am_okR 216 0 46 = true := by decide +kernel
theorem am_ok_216 : am_okM 216 := am_chk (lo := 0) (n := 46) (am_ch0) am_ok_216_0
theorem am_mk_216 : am_mok 216 := ⟨am_sub_in 5 _ (List.mem_of_getElem? (i := 151) rfl), am_sub_in 5 _ (List.mem_of_getElem? (i := 149) rfl), fun _ => am_sub_in 5 _ (List.mem_of_getElem? (i := 150) rfl), fun _ => Or.inl ⟨rfl, by decide⟩, fun e => absurd e (by decide), am_sub_in 0 _ (List.mem_of_getElem? (i := 14) rfl), ⟨by decide +kernel, by decide +kernel, by decide +kernel⟩, by decide, by decide +kernel⟩
set_option maxRecDepth 100000 in
theorem am_ok_217_0 : am_okR 217 0 80 = true := by decide +kernel
theorem am_ok_217 : am_okM 217 := am_chk (lo := 0) (n := 80) (am_ch0) am_ok_217_0
theorem am_mk_217 : am_mok 217 := ⟨am_sub_in 5 _ (List.mem_of_getElem? (i := 163) rfl), am_sub_in 5 _ (List.mem_of_getElem? (i := 162) rfl), fun _ => am_sub_in 7 _ (List.mem_of_getElem? (i := 67) rfl), fun _ => Or.inl ⟨rfl, by decide⟩, fun e => absurd e (by decide), am_sub_in 0 _ (List.mem_of_getElem? (i := 14) rfl), ⟨by decide +kernel, by decide +kernel, by decide +kernel⟩, by decide, by decide +kernel⟩
set_option maxRecDepth 100000 in
theorem am_ok_218_0 : am_okR 218 0 30 = true := by decide +kernel
theorem am_ok_218 : am_okM 218 := am_chk (lo := 0) (n := 30) (am_ch0) am_ok_218_0
theorem am_mk_218 : am_mok 218 := ⟨am_sub_in 5 _ (List.mem_of_getElem? (i := 159) rfl), am_sub_in 5 _ (List.mem_of_getElem? (i := 157) rfl), fun _ => am_sub_in 5 _ (List.mem_of_getElem? (i := 158) rfl), fun _ => Or.inl ⟨rfl, by decide⟩, fun e => absurd e (by decide), am_sub_in 0 _ (List.mem_of_getElem? (i := 14) rfl), ⟨by decide +kernel, by decide +kernel, by decide +kernel⟩, by decide, by decide +kernel⟩
set_option maxRecDepth 100000 in
theorem am_ok_219_0 : am_okR 219 0 100 = true := by decide +kernel
set_option maxRecDepth 100000 in
theorem am_ok_219_1 : am_okR 219 100 16 = true := by decide +kernel
theorem am_ok_219 : am_okM 219 := am_chk (lo := 100) (n := 16) (am_chk (lo := 0) (n := 100) (am_ch0) am_ok_219_0) am_ok_219_1
theorem am_mk_219 : am_mok 219 := ⟨am_sub_in 5 _ (List.mem_of_getElem? (i := 167) rfl), am_sub_in 5 _ (List.mem_of_getElem? (i := 165) rfl), fun _ => am_sub_in 5 _ (List.mem_of_getElem? (i := 166) rfl), fun _ => Or.inl ⟨rfl, by decide⟩, fun e => absurd e (by decide), am_sub_in 0 _ (List.mem_of_getElem? (i := 14) rfl), ⟨by decide +kernel, by decide +kernel, by decide +kernel⟩, by decide, by decide +kernel⟩
set_option maxRecDepth 100000 in
theorem am_ok_220_0 : am_okR 220 0 100 = true := by decide +kernel
set_option maxRecDepth 100000 in
theorem am_ok_220_1 : am_okR 220 100 96 = true := by decide +kernel
theorem am_ok_220 : am_okM 220 := am_chk (lo := 100) (n := 96) (am_chk (lo := 0) (n := 100) (am_ch0) am_ok_220_0) am_ok_220_1
theorem am_mk_220 : am_mok 220 := ⟨am_sub_in 5 _ (List.mem_of_getElem? (i := 171) rfl), am_sub_in 5 _ (List.mem_of_getElem? (i := 169) rfl), fun _ => am_sub_in 5 _ (List.mem_of_getElem? (i := 170) rfl), fun _ => Or.inl ⟨rfl, by decide⟩, fun e => absurd e (by decide), am_sub_in 0 _ (List.mem_of_getElem? (i := 14) rfl), ⟨by decide +kernel, by decide +kernel, by decide +kernel⟩, by decide, by decide +kernel⟩
set_option maxRecDepth 100000 in
theorem am_ok_221_0 : am_okR 221 0 29 = true := by decide +kernel
theorem am_ok_221 : am_okM 221 := am_chk (lo := 0) (n := 29) (am_ch0) am_ok_221_0
theorem am_mk_221 : am_mok 221 := ⟨am_sub_in 5 _ (List.mem_of_getElem? (i := 180) rfl), am_sub_in 5 _ (List.mem_of_getElem? (i := 179) rfl), fun _ => am_sub_in 7 _ (List.mem_of_getElem? (i := 68) rfl), fun _ => Or.inl ⟨rfl, by decide⟩, fun e => absurd e (by decide), am_sub_in 0 _ (List.mem_of_getElem? (i := 14) rfl), ⟨by decide +kernel, by decide +kernel, by decide +kernel⟩, by decide, by decide +kernel⟩
set_option maxRecDepth 100000 in
theorem am_ok_222_0 : am_okR 222 0 90 = true := by decide +kernel
theorem am_ok_222 : am_okM 222 := am_chk (lo := 0) (n := 90) (am_ch0) am_ok_222_0
theorem am_mk_222 : am_mok 222 := ⟨am_sub_in 5 _ (List.mem_of_getElem? (i := 184) rfl), am_sub_in 5 _ (List.mem_of_getElem? (i := 183) rfl), fun _ => am_sub_in 7 _ (List.mem_of_getElem? (i := 69) rfl), fun _ => Or.inl ⟨rfl, by decide⟩, fun e => absurd e (by decide), am_sub_in 0 _ (List.mem_of_getElem? (i := 14) rfl), ⟨by decide +kernel, by decide +kernel, by decide +kernel⟩, by decide, by decide +kernel⟩
set_option maxRecDepth 100000 in
theorem am_ok_223_0 : am_okR 223 0 20 = true := by decide +kernel
theorem am_ok_223 : am_okM 223 := am_chk (lo := 0) (n := 20) (am_ch0) am_ok_223_0
theorem am_mk_223 : am_mok 223 := ⟨am_sub_in 5 _ (List.mem_of_getElem? (i := 176) rfl), am_sub_in 5 _ (List.mem_of_getElem? (i := 174) rfl), fun _ => am_sub_in 5 _ (List.mem_of_getElem? (i := 175) rfl), fun _ => Or.inl ⟨rfl, by decide⟩, fun e => absurd e (by decide), am_sub_in 0 _ (List.mem_of_getElem? (i := 14) rfl), ⟨by decide +kernel, by decide +kernel, by decide +kernel⟩, by decide, by decide +kernel⟩
set_option maxRecDepth 100000 in
theorem am_ok_224_0 : am_okR 224 0 100 = true := by decide +kernel
set_option maxRecDepth 100000 in
theorem am_ok_224_1 : am_okR 224 100 28 = true := by decide +kernel
theorem am_ok_224 : am_okM 224 := am_chk (lo := 100) (n := 28) (am_chk (lo := 0) (n := 100) (am_ch0) am_ok_224_0) am_ok_224_1
theorem am_mk_224 : am_mok 224 := ⟨am_sub_in 5 _ (List.mem_of_getElem? (i := 188) rfl), am_sub_in 5 _ (List.mem_of_getElem? (i := 186) rfl), fun _ => am_sub_in 5 _ (List.mem_of_getElem? (i := 187) rfl), fun _ => Or.inl ⟨rfl, by decide⟩, fun e => absurd e (by decide), am_sub_in 0 _ (List.mem_of_getElem? (i := 14) rfl), ⟨by decide +kernel, by decide +kernel, by decide +kernel⟩, by decide, by decide +kernel⟩
set_option maxRecDepth 100000 in
theorem am_ok_225_0 : am_okR 225 0 91 = true := by decide +kernel
theorem am_ok_225 : am_okM 225 := am_chk (lo := 0) (n := 91) (am_ch0) am_ok_225_0
theorem am_mk_225 : am_mok 225 := ⟨am_sub_in 5 _ (List.mem_of_getElem? (i := 192) rfl), am_sub_in 5 _ (List.mem_of_getElem? (i := 190) rfl), fun _ => am_sub_in 5 _ (List.mem_of_getElem? (i := 191) rfl), fun _ => Or.inl ⟨rfl, by decide⟩, fun e => absurd e (by decide), am_sub_in 0 _ (List.mem_of_getElem? (i := 14) rfl), ⟨by decide +kernel, by decide +kernel, by decide +kernel⟩, by decide, by decide +kernel⟩
set_option maxRecDepth 100000 in
theorem am_ok_226_0 : am_okR 226 0 100 = true := by decide +kernel
set_option maxRecDepth 100000 in
theorem am_ok_226_1 : am_okR 226 100 40 = true := by decide +kernel
theorem am_ok_226 : am_okM 226 := am_chk (lo := 100) (n := 40) (am_chk (lo := 0) (n := 100) (am_ch0) am_ok_226_0) am_ok_226_1
theorem am_mk_226 : am_mok 226 := ⟨am_sub_in 5 _ (List.mem_of_getElem? (i := 196) rfl), am_sub_in 5 _ (List.mem_of_getElem? (i := 194) rfl), fun _ => am_sub_in 5 _ (List.mem_of_getElem? (i := 195) rfl), fun _ => Or.inl ⟨rfl, by decide⟩, fun e => absurd e (by decide), am_sub_in 0 _ (List.mem_of_getElem? (i := 14) rfl), ⟨by decide +kernel, by decide +kernel, by decide +kernel⟩, by decide, by decide +kernel⟩
