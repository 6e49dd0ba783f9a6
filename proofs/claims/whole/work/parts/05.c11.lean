/-! ===== the tables hold, method by method (kernel): 196 to 212 ===== -/
set_option maxRecDepth 100000 in
theorem am_ok_196_0 : am_okR 196 0 100 = true := by decide +kernel
set_option maxRecDepth 100000 in
theorem am_ok_196_1 : am_okR 196 100 100 = true := by decide +kernel
set_option maxRecDepth 100000 in
theorem am_ok_196_2 : am_okR 196 200 72 = true := by decide +kernel
theorem am_ok_196 : am_okM 196 := am_chk (lo := 200) (n := 72) (am_chk (lo := 100) (n := 100) (am_chk (lo := 0) (n := 100) (am_ch0) am_ok_196_0) am_ok_196_1) am_ok_196_2
theorem am_mk_196 : am_mok 196 := ⟨am_sub_in 5 _ (List.mem_of_getElem? (i := 66) rfl), am_sub_in 5 _ (List.mem_of_getElem? (i := 64) rfl), fun _ => am_sub_in 5 _ (List.mem_of_getElem? (i := 65) rfl), fun _ => Or.inl ⟨rfl, by decide⟩, fun e => absurd e (by decide), am_sub_in 0 _ (List.mem_of_getElem? (i := 14) rfl), ⟨by decide +kernel, by decide +kernel, by decide +kernel⟩, by decide, by decide +kernel⟩
set_option maxRecDepth 100000 in
theorem am_ok_197_0 : am_okR 197 0 28 = true := by decide +kernel
theorem am_ok_197 : am_okM 197 := am_chk (lo := 0) (n := 28) (am_ch0) am_ok_197_0
theorem am_mk_197 : am_mok 197 := ⟨am_sub_in 5 _ (List.mem_of_getElem? (i := 70) rfl), am_sub_in 5 _ (List.mem_of_getElem? (i := 68) rfl), fun _ => am_sub_in 5 _ (List.mem_of_getElem? (i := 69) rfl), fun _ => Or.inl ⟨rfl, by decide⟩, fun e => absurd e (by decide), am_sub_in 0 _ (List.mem_of_getElem? (i := 14) rfl), ⟨by decide +kernel, by decide +kernel, by decide +kernel⟩, by decide, by decide +kernel⟩
set_option maxRecDepth 100000 in
theorem am_ok_198_0 : am_okR 198 0 16 = true := by decide +kernel
theorem am_ok_198 : am_okM 198 := am_chk (lo := 0) (n := 16) (am_ch0) am_ok_198_0
theorem am_mk_198 : am_mok 198 := ⟨am_sub_in 5 _ (List.mem_of_getElem? (i := 75) rfl), am_sub_in 5 _ (List.mem_of_getElem? (i := 73) rfl), fun _ => am_sub_in 5 _ (List.mem_of_getElem? (i := 74) rfl), fun _ => Or.inl ⟨rfl, by decide⟩, fun e => absurd e (by decide), am_sub_in 0 _ (List.mem_of_getElem? (i := 14) rfl), ⟨by decide +kernel, by decide +kernel, by decide +kernel⟩, by decide, by decide +kernel⟩
set_option maxRecDepth 100000 in
theorem am_ok_199_0 : am_okR 199 0 53 = true := by decide +kernel
theorem am_ok_199 : am_okM 199 := am_chk (lo := 0) (n := 53) (am_ch0) am_ok_199_0
theorem am_mk_199 : am_mok 199 := ⟨am_sub_in 5 _ (List.mem_of_getElem? (i := 79) rfl), am_sub_in 5 _ (List.mem_of_getElem? (i := 77) rfl), fun _ => am_sub_in 5 _ (List.mem_of_getElem? (i := 78) rfl), fun _ => Or.inl ⟨rfl, by decide⟩, fun e => absurd e (by decide), am_sub_in 0 _ (List.mem_of_getElem? (i := 14) rfl), ⟨by decide +kernel, by decide +kernel, by decide +kernel⟩, by decide, by decide +kernel⟩
set_option maxRecDepth 100000 in
theorem am_ok_200_0 : am_okR 200 0 38 = true := by decide +kernel
theorem am_ok_200 : am_okM 200 := am_chk (lo := 0) (n := 38) (am_ch0) am_ok_200_0
theorem am_mk_200 : am_mok 200 := ⟨am_sub_in 5 _ (List.mem_of_getElem? (i := 83) rfl), am_sub_in 5 _ (List.mem_of_getElem? (i := 82) rfl), fun _ => am_sub_in 7 _ (List.mem_of_getElem? (i := 57) rfl), fun _ => Or.inl ⟨rfl, by decide⟩, fun e => absurd e (by decide), am_sub_in 0 _ (List.mem_of_getElem? (i := 14) rfl), ⟨by decide +kernel, by decide +kernel, by decide +kernel⟩, by decide, by decide +kernel⟩
set_option maxRecDepth 100000 in
theorem am_ok_201_0 : am_okR 201 0 68 = true := by decide +kernel
theorem am_ok_201 : am_okM 201 := am_chk (lo := 0) (n := 68) (am_ch0) am_ok_201_0
theorem am_mk_201 : am_mok 201 := ⟨am_sub_in 5 _ (List.mem_of_getElem? (i := 95) rfl), am_sub_in 5 _ (List.mem_of_getElem? (i := 94) rfl), fun _ => am_sub_in 7 _ (List.mem_of_getElem? (i := 59) rfl), fun _ => Or.inl ⟨rfl, by decide⟩, fun e => absurd e (by decide), am_sub_in 0 _ (List.mem_of_getElem? (i := 14) rfl), ⟨by decide +kernel, by decide +kernel, by decide +kernel⟩, by decide, by decide +kernel⟩
set_option maxRecDepth 100000 in
theorem am_ok_202_0 : am_okR 202 0 61 = true := by decide +kernel
theorem am_ok_202 : am_okM 202 := am_chk (lo := 0) (n := 61) (am_ch0) am_ok_202_0
theorem am_mk_202 : am_mok 202 := ⟨am_sub_in 5 _ (List.mem_of_getElem? (i := 91) rfl), am_sub_in 5 _ (List.mem_of_getElem? (i := 90) rfl), fun _ => am_sub_in 7 _ (List.mem_of_getElem? (i := 58) rfl), fun _ => Or.inl ⟨rfl, by decide⟩, fun e => absurd e (by decide), am_sub_in 0 _ (List.mem_of_getElem? (i := 14) rfl), ⟨by decide +kernel, by decide +kernel, by decide +kernel⟩, by decide, by decide +kernel⟩
set_option maxRecDepth 100000 in
theorem am_ok_203_0 : am_okR 203 0 33 = true := by decide +kernel
theorem am_ok_203 : am_okM 203 := am_chk (lo := 0) (n := 33) (am_ch0) am_ok_203_0
theorem am_mk_203 : am_mok 203 := ⟨am_sub_in 5 _ (List.mem_of_getElem? (i := 87) rfl), am_sub_in 5 _ (List.mem_of_getElem? (i := 85) rfl), fun _ => am_sub_in 5 _ (List.mem_of_getElem? (i := 86) rfl), fun _ => Or.inl ⟨rfl, by decide⟩, fun e => absurd e (by decide), am_sub_in 0 _ (List.mem_of_getElem? (i := 14) rfl), ⟨by decide +kernel, by decide +kernel, by decide +kernel⟩, by decide, by decide +kernel⟩
set_option maxRecDepth 100000 in
theorem am_ok_204_0 : am_okR 204 0 86 = true := by decide +kernel
theorem am_ok_204 : am_okM 204 := am_chk (lo := 0) (n := 86) (am_ch0) am_ok_204_0
theorem am_mk_204 : am_mok 204 := ⟨am_sub_in 5 _ (List.mem_of_getElem? (i := 107) rfl), am_sub_in 5 _ (List.mem_of_getElem? (i := 106) rfl), fun _ => am_sub_in 7 _ (List.mem_of_getElem? (i := 61) rfl), fun _ => Or.inl ⟨rfl, by decide⟩, fun e => absurd e (by decide), am_sub_in 0 _ (List.mem_of_getElem? (i := 14) rfl), ⟨by decide +kernel, by decide +kernel, by decide +kernel⟩, by decide, by decide +kernel⟩
set_option maxRecDepth 100000 in
theorem am_ok_205_0 : am_okR 205 0 100 = true := by decide +kernel
set_option maxRecDepth 100000 in
theorem am_ok_205_1 : am_okR 205 100 13 = true := by decide +kernel
theorem am_ok_205 : am_okM 205 := am_chk (lo := 100) (n := 13) (am_chk (lo := 0) (n := 100) (am_ch0) am_ok_205_0) am_ok_205_1
theorem am_mk_205 : am_mok 205 := ⟨am_sub_in 5 _ (List.mem_of_getElem? (i := 103) rfl), am_sub_in 5 _ (List.mem_of_getElem? (i := 101) rfl), fun _ => am_sub_in 5 _ (List.mem_of_getElem? (i := 102) rfl), fun _ => Or.inl ⟨rfl, by decide⟩, fun e => absurd e (by decide), am_sub_in 0 _ (List.mem_of_getElem? (i := 14) rfl), ⟨by decide +kernel, by decide +kernel, by decide +kernel⟩, by decide, by decide +kernel⟩
set_option maxRecDepth 100000 in
theorem am_ok_206_0 : am_okR 206 0 68 = true := by decide +kernel
theorem am_ok_206 : am_okM 206 := am_chk (lo := 0) (n := 68) (am_ch0) am_ok_206_0
theorem am_mk_206 : am_mok 206 := ⟨am_sub_in 5 _ (List.mem_of_getElem? (i := 111) rfl), am_sub_in 5 _ (List.mem_of_getElem? (i := 109) rfl), fun _ => am_sub_in 5 _ (List.mem_of_getElem? (i := 110) rfl), fun _ => Or.inl ⟨rfl, by decide⟩, fun e => absurd e (by decide), am_sub_in 0 _ (List.mem_of_getElem? (i := 14) rfl), ⟨by decide +kernel, by decide +kernel, by decide +kernel⟩, by decide, by decide +kernel⟩
set_option maxRecDepth 100000 in
theorem am_ok_207_0 : am_okR 207 0 38 = true := by decide +kernel
theorem am_ok_207 : am_okM 207 := am_chk (lo := 0) (n := 38) (am_ch0) am_ok_207_0
theorem am_mk_207 : am_mok 207 := ⟨am_sub_in 5 _ (List.mem_of_getElem? (i := 123) rfl), am_sub_in 5 _ (List.mem_of_getElem? (i := 122) rfl), fun _ => am_sub_in 7 _ (List.mem_of_getElem? (i := 63) rfl), fun _ => Or.inl ⟨rfl, by decide⟩, fun e => absurd e (by decide), am_sub_in 0 _ (List.mem_of_getElem? (i := 14) rfl), ⟨by decide +kernel, by decide +kernel, by decide +kernel⟩, by decide, by decide +kernel⟩
set_option maxRecDepth 100000 in
theorem am_ok_208_0 : am_okR 208 0 100 = true := by decide +kernel
set_option maxRecDepth 100000 in
theorem am_ok_208_1 : am_okR 208 100 100 = true := by decide +kernel
set_option maxRecDepth 100000 in
theorem am_ok_208_2 : am_okR 208 200 8 = true := by decide +kernel
theorem am_ok_208 : am_okM 208 := am_chk (lo := 200) (n := 8) (am_chk (lo := 100) (n := 100) (am_chk (lo := 0) (n := 100) (am_ch0) am_ok_208_0) am_ok_208_1) am_ok_208_2
theorem am_mk_208 : am_mok 208 := ⟨am_sub_in 5 _ (List.mem_of_getElem? (i := 119) rfl), am_sub_in 5 _ (List.mem_of_getElem? (i := 118) rfl), fun _ => am_sub_in 7 _ (List.mem_of_getElem? (i := 62) rfl), fun _ => Or.inl ⟨rfl, by decide⟩, fun e => absurd e (by decide), am_sub_in 0 _ (List.mem_of_getElem? (i := 14) rfl), ⟨by decide +kernel, by decide +kernel, by decide +kernel⟩, by decide, by decide +kernel⟩
set_option maxRecDepth 100000 in
theorem am_ok_209_0 : am_okR 209 0 44 = true := by decide +kernel
theorem am_ok_209 : am_okM 209 := am_chk (lo := 0) (n := 44) (am_ch0) am_ok_209_0
theorem am_mk_209 : am_mok 209 := ⟨am_sub_in 5 _ (List.mem_of_getElem? (i := 115) rfl), am_sub_in 5 _ (List.mem_of_getElem? (i := 113) rfl), fun _ => am_sub_in 5 _ (List.mem_of_getElem? (i := 114) rfl), fun _ => Or.inl ⟨rfl, by decide⟩, fun e => absurd e (by decide), am_sub_in 0 _ (List.mem_of_getElem? (i := 14) rfl), ⟨by decide +kernel, by decide +kernel, by decide +kernel⟩, by decide, by decide +kernel⟩
set_option maxRecDepth 100000 in
theorem am_ok_210_0 : am_okR 210 0 40 = true := by decide +kernel
theorem am_ok_210 : am_okM 210 := am_chk (lo := 0) (n := 40) (am_ch0) am_ok_210_0
theorem am_mk_210 : am_mok 210 := ⟨am_sub_in 5 _ (List.mem_of_getElem? (i := 131) rfl), am_sub_in 5 _ (List.mem_of_getElem? (i := 130) rfl), fun _ => am_sub_in 7 _ (List.mem_of_getElem? (i := 64) rfl), fun _ => Or.inl ⟨rfl, by decide⟩, fun e => absurd e (by decide), am_sub_in 0 _ (List.mem_of_getElem? (i := 14) rfl), ⟨by decide +kernel, by decide +kernel, by decide +kernel⟩, by decide, by decide +kernel⟩
set_option maxRecDepth 100000 in
theorem am_ok_211_0 : am_okR 211 0 34 = true := by decide +kernel
theorem am_ok_211 : am_okM 211 := am_chk (lo := 0) (n := 34) (am_ch0) am_ok_211_0
theorem am_mk_211 : am_mok 211 := ⟨am_sub_in 5 _ (List.mem_of_getElem? (i := 127) rfl), am_sub_in 5 _ (List.mem_of_getElem? (i := 125) rfl), fun _ => am_sub_in 5 _ (List.mem_of_getElem? (i := 126) rfl), fun _ => Or.inl ⟨rfl, by decide⟩, fun e => absurd e (by decide), am_sub_in 0 _ (List.mem_of_getElem? (i := 14) rfl), ⟨by decide +kernel, by decide +kernel, by decide +kernel⟩, by decide, by decide +kernel⟩
set_option maxRecDepth 100000 in
theorem am_ok_212_0 : am_okR 212 0 100 = true := by decide +kernel
set_option maxRecDepth 100000 in
theorem am_ok_212_1 : am_okR 212 100 11 = true := by decide +kernel
theorem am_ok_212 : am_okM 212 := am_chk (lo := 100) (n := 11) (am_chk (lo := 0) (n := 100) (am_ch0) am_ok_212_0) am_ok_212_1
theorem am_mk_212 : am_mok 212 := ⟨am_sub_in 5 _ (List.mem_of_getElem? (i := 135) rfl), am_sub_in 5 _ (List.mem_of_getElem? (i := 133) rfl), fun _ => am_sub_in 5 _ (List.mem_of_getElem? (i := 134) rfl), fun _ => Or.inl ⟨rfl, by decide⟩, fun e => absurd e (by decide), am_sub_in 0 _ (List.mem_of_getElem? (i := 14) rfl), ⟨by decide +kernel, by decide +kernel, by decide +kernel⟩, by decide, by decide +kernel⟩
