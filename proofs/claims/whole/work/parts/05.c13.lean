/-! ===== the tables hold, method by method (kernel): 227 to 238 ===== -/
set_option maxRecDepth 100000 in
theorem am_ok_227_0 : am_okR 227 0 81 = true := by decide +kernel
theorem am_ok_227 : am_okM 227 := am_chk (lo := 0) (n := 81) (am_ch0) am_ok_227_0
theorem am_mk_227 : am_mok 227 := ⟨am_sub_in 5 _ (List.mem_of_getElem? (i := 200) rfl), am_sub_in 5 _ (List.mem_of_getElem? (i := 198) rfl), fun _ => am_sub_in 5 _ (List.mem_of_getElem? (i := 199) rfl), fun _ => Or.inl ⟨rfl, by decide⟩, fun e => absurd e (by decide), am_sub_in 0 _ (List.mem_of_getElem? (i := 14) rfl), ⟨by decide +kernel, by decide +kernel, by decide +kernel⟩, by decide, by decide +kernel⟩
set_option maxRecDepth 100000 in
theorem am_ok_228_0 : am_okR 228 0 72 = true := by decide +kernel
theorem am_ok_228 : am_okM 228 := am_chk (lo := 0) (n := 72) (am_ch0) am_ok_228_0
theorem am_mk_228 : am_mok 228 := ⟨am_sub_in 5 _ (List.mem_of_getElem? (i := 204) rfl), am_sub_in 5 _ (List.mem_of_getElem? (i := 202) rfl), fun _ => am_sub_in 5 _ (List.mem_of_getElem? (i := 203) rfl), fun _ => Or.inl ⟨rfl, by decide⟩, fun e => absurd e (by decide), am_sub_in 0 _ (List.mem_of_getElem? (i := 14) rfl), ⟨by decide +kernel, by decide +kernel, by decide +kernel⟩, by decide, by decide +kernel⟩
set_option maxRecDepth 100000 in
theorem am_ok_229_0 : am_okR 229 0 97 = true := by decide +kernel
theorem am_ok_229 : am_okM 229 := am_chk (lo := 0) (n := 97) (am_ch0) am_ok_229_0
theorem am_mk_229 : am_mok 229 := ⟨am_sub_in 5 _ (List.mem_of_getElem? (i := 213) rfl), am_sub_in 5 _ (List.mem_of_getElem? (i := 212) rfl), fun _ => am_sub_in 7 _ (List.mem_of_getElem? (i := 70) rfl), fun _ => Or.inl ⟨rfl, by decide⟩, fun e => absurd e (by decide), am_sub_in 0 _ (List.mem_of_getElem? (i := 14) rfl), ⟨by decide +kernel, by decide +kernel, by decide +kernel⟩, by decide, by decide +kernel⟩
set_option maxRecDepth 100000 in
theorem am_ok_230_0 : am_okR 230 0 48 = true := by decide +kernel
theorem am_ok_230 : am_okM 230 := am_chk (lo := 0) (n := 48) (am_ch0) am_ok_230_0
theorem am_mk_230 : am_mok 230 := ⟨am_sub_in 5 _ (List.mem_of_getElem? (i := 208) rfl), am_sub_in 5 _ (List.mem_of_getElem? (i := 206) rfl), fun _ => am_sub_in 5 _ (List.mem_of_getElem? (i := 207) rfl), fun _ => Or.inl ⟨rfl, by decide⟩, fun e => absurd e (by decide), am_sub_in 0 _ (List.mem_of_getElem? (i := 14) rfl), ⟨by decide +kernel, by decide +kernel, by decide +kernel⟩, by decide, by decide +kernel⟩
set_option maxRecDepth 100000 in
theorem am_ok_231_0 : am_okR 231 0 55 = true := by decide +kernel
theorem am_ok_231 : am_okM 231 := am_chk (lo := 0) (n := 55) (am_ch0) am_ok_231_0
theorem am_mk_231 : am_mok 231 := ⟨am_sub_in 5 _ (List.mem_of_getElem? (i := 223) rfl), am_sub_in 5 _ (List.mem_of_getElem? (i := 222) rfl), fun e => absurd e (by decide), fun e => absurd e (by decide), fun e => absurd e (by decide), am_sub_in 0 _ (List.mem_of_getElem? (i := 14) rfl), ⟨by decide +kernel, by decide +kernel, by decide +kernel⟩, by decide, by decide +kernel⟩
set_option maxRecDepth 100000 in
theorem am_ok_232_0 : am_okR 232 0 100 = true := by decide +kernel
set_option maxRecDepth 100000 in
theorem am_ok_232_1 : am_okR 232 100 38 = true := by decide +kernel
theorem am_ok_232 : am_okM 232 := am_chk (lo := 100) (n := 38) (am_chk (lo := 0) (n := 100) (am_ch0) am_ok_232_0) am_ok_232_1
theorem am_mk_232 : am_mok 232 := ⟨am_sub_in 5 _ (List.mem_of_getElem? (i := 220) rfl), am_sub_in 5 _ (List.mem_of_getElem? (i := 218) rfl), fun _ => am_sub_in 5 _ (List.mem_of_getElem? (i := 219) rfl), fun _ => Or.inl ⟨rfl, by decide⟩, fun e => absurd e (by decide), am_sub_in 0 _ (List.mem_of_getElem? (i := 14) rfl), ⟨by decide +kernel, by decide +kernel, by decide +kernel⟩, by decide, by decide +kernel⟩
set_option maxRecDepth 100000 in
theorem am_ok_233_0 : am_okR 233 0 100 = true := by decide +kernel
set_option maxRecDepth 100000 in
theorem am_ok_233_1 : am_okR 233 100 5 = true := by decide +kernel
theorem am_ok_233 : am_okM 233 := am_chk (lo := 100) (n := 5) (am_chk (lo := 0) (n := 100) (am_ch0) am_ok_233_0) am_ok_233_1
theorem am_mk_233 : am_mok 233 := ⟨am_sub_in 5 _ (List.mem_of_getElem? (i := 227) rfl), am_sub_in 5 _ (List.mem_of_getElem? (i := 225) rfl), fun _ => am_sub_in 5 _ (List.mem_of_getElem? (i := 226) rfl), fun _ => Or.inl ⟨rfl, by decide⟩, fun e => absurd e (by decide), am_sub_in 0 _ (List.mem_of_getElem? (i := 14) rfl), ⟨by decide +kernel, by decide +kernel, by decide +kernel⟩, by decide, by decide +kernel⟩
set_option maxRecDepth 100000 in
theorem am_ok_234_0 : am_okR 234 0 100 = true := by decide +kernel
set_option maxRecDepth 100000 in
theorem am_ok_234_1 : am_okR 234 100 10 = true := by decide +kernel
theorem am_ok_234 : am_okM 234 := am_chk (lo := 100) (n := 10) (am_chk (lo := 0) (n := 100) (am_ch0) am_ok_234_0) am_ok_234_1
theorem am_mk_234 : am_mok 234 := ⟨am_sub_in 5 _ (List.mem_of_getElem? (i := 231) rfl), am_sub_in 5 _ (List.mem_of_getElem? (i := 229) rfl), fun _ => am_sub_in 5 _ (List.mem_of_getElem? (i := 230) rfl), fun _ => Or.inl ⟨rfl, by decide⟩, fun e => absurd e (by decide), am_sub_in 0 _ (List.mem_of_getElem? (i := 14) rfl), ⟨by decide +kernel, by decide +kernel, by decide +kernel⟩, by decide, by decide +kernel⟩
set_option maxRecDepth 100000 in
theorem am_ok_235_0 : am_okR 235 0 98 = true := by decide +kernel
theorem am_ok_235 : am_okM 235 := am_chk (lo := 0) (n := 98) (am_ch0) am_ok_235_0
theorem am_mk_235 : am_mok 235 := ⟨am_sub_in 5 _ (List.mem_of_getElem? (i := 235) rfl), am_sub_in 5 _ (List.mem_of_getElem? (i := 233) rfl), fun _ => am_sub_in 5 _ (List.mem_of_getElem? (i := 234) rfl), fun _ => Or.inl ⟨rfl, by decide⟩, fun e => absurd e (by decide), am_sub_in 0 _ (List.mem_of_getElem? (i := 14) rfl), ⟨by decide +kernel, by decide +kernel, by decide +kernel⟩, by decide, by decide +kernel⟩
set_option maxRecDepth 100000 in
theorem am_ok_236_0 : am_okR 236 0 87 = true := by decide +kernel
theorem am_ok_236 : am_okM 236 := am_chk (lo := 0) (n := 87) (am_ch0) am_ok_236_0
theorem am_mk_236 : am_mok 236 := ⟨am_sub_in 5 _ (List.mem_of_getElem? (i := 239) rfl), am_sub_in 5 _ (List.mem_of_getElem? (i := 237) rfl), fun _ => am_sub_in 5 _ (List.mem_of_getElem? (i := 238) rfl), fun _ => Or.inl ⟨rfl, by decide⟩, fun e => absurd e (by decide), am_sub_in 0 _ (List.mem_of_getElem? (i := 14) rfl), ⟨by decide +kernel, by decide +kernel, by decide +kernel⟩, by decide, by decide +kernel⟩
set_option maxRecDepth 100000 in
theorem am_ok_237_0 : am_okR 237 0 100 = true := by decide +kernel
set_option maxRecDepth 100000 in
theorem am_ok_237_1 : am_okR 237 100 100 = true := by decide +kernel
set_option maxRecDepth 100000 in
theorem am_ok_237_2 : am_okR 237 200 4 = true := by decide +kernel
theorem am_ok_237 : am_okM 237 := am_chk (lo := 200) (n := 4) (am_chk (lo := 100) (n := 100) (am_chk (lo := 0) (n := 100) (am_ch0) am_ok_237_0) am_ok_237_1) am_ok_237_2
theorem am_mk_237 : am_mok 237 := ⟨am_sub_in 6 _ (List.mem_of_getElem? (i := 3) rfl), am_sub_in 6 _ (List.mem_of_getElem? (i := 1) rfl), fun _ => am_sub_in 6 _ (List.mem_of_getElem? (i := 2) rfl), fun _ => Or.inl ⟨rfl, by decide⟩, fun e => absurd e (by decide), am_sub_in 0 _ (List.mem_of_getElem? (i := 14) rfl), ⟨by decide +kernel, by decide +kernel, by decide +kernel⟩, by decide, by decide +kernel⟩
set_option maxRecDepth 100000 in
theorem am_ok_238_0 : am_okR 238 0 100 = true := by decide +kernel
set_option maxRecDepth 100000 in
theorem am_ok_238_1 : am_okR 238 100 65 = true := by decide +kernel
theorem am_ok_238 : am_okM 238 := am_chk (lo := 100) (n := 65) (am_chk (lo := 0) (n := 100) (am_ch0) am_ok_238_0) am_ok_238_1
theorem am_mk_238 : am_mok 238 := ⟨am_sub_in 6 _ (List.mem_of_getElem? (i := 7) rfl), am_sub_in 6 _ (List.mem_of_getElem? (i := 5) rfl), fun _ => am_sub_in 6 _ (List.mem_of_getElem? (i := 6) rfl), fun _ => Or.inl ⟨rfl, by decide⟩, fun e => absurd e (by decide), am_sub_in 0 _ (List.mem_of_getElem? (i := 14) rfl), ⟨by decide +kernel, by decide +kernel, by decide +kernel⟩, by decide, by decide +kernel⟩
