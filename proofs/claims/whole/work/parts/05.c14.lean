/-! ===== the tables hold, method by method (kernel): 239 to 251 ===== -/
set_option maxRecDepth 100000 in
theorem am_ok_239_0 : am_okR 239 0 35 = true := by decide +kernel
theorem am_ok_239 : am_okM 239 := am_chk (lo := 0) (n := 35) (am_ch0) am_ok_239_0
theorem am_mk_239 : am_mok 239 := ⟨am_sub_in 6 _ (List.mem_of_getElem? (i := 14) rfl), am_sub_in 6 _ (List.mem_of_getElem? (i := 13) rfl), fun e => absurd e (by decide), fun e => absurd e (by decide), fun e => absurd e (by decide), am_sub_in 0 _ (List.mem_of_getElem? (i := 14) rfl), ⟨by decide +kernel, by decide +kernel, by decide +kernel⟩, by decide, by decide +kernel⟩
set_option maxRecDepth 100000 in
theorem am_ok_240_0 : am_okR 240 0 100 = true := by decide +kernel
set_option maxRecDepth 100000 in
theorem am_ok_240_1 : am_okR 240 100 22 = true := by decide +kernel
theorem am_ok_240 : am_okM 240 := am_chk (lo := 100) (n := 22) (am_chk (lo := 0) (n := 100) (am_ch0) am_ok_240_0) am_ok_240_1
theorem am_mk_240 : am_mok 240 := ⟨am_sub_in 6 _ (List.mem_of_getElem? (i := 11) rfl), am_sub_in 6 _ (List.mem_of_getElem? (i := 9) rfl), fun _ => am_sub_in 6 _ (List.mem_of_getElem? (i := 10) rfl), fun _ => Or.inl ⟨rfl, by decide⟩, fun e => absurd e (by decide), am_sub_in 0 _ (List.mem_of_getElem? (i := 14) rfl), ⟨by decide +kernel, by decide +kernel, by decide +kernel⟩, by decide, by decide +kernel⟩
set_option maxRecDepth 100000 in
theorem am_ok_241_0 : am_okR 241 0 53 = true := by decide +kernel
theorem am_ok_241 : am_okM 241 := am_chk (lo := 0) (n := 53) (am_ch0) am_ok_241_0
theorem am_mk_241 : am_mok 241 := ⟨am_sub_in 1 _ (List.mem_of_getElem? (i := 220) rfl), am_sub_in 1 _ (List.mem_of_getElem? (i := 219) rfl), fun e => absurd e (by decide), fun e => absurd e (by decide), fun e => absurd e (by decide), am_sub_in 0 _ (List.mem_of_getElem? (i := 15) rfl), ⟨by decide +kernel, by decide +kernel, by decide +kernel⟩, by decide, by decide +kernel⟩
set_option maxRecDepth 100000 in
theorem am_ok_242_0 : am_okR 242 0 11 = true := by decide +kernel
theorem am_ok_242 : am_okM 242 := am_chk (lo := 0) (n := 11) (am_ch0) am_ok_242_0
theorem am_mk_242 : am_mok 242 := ⟨am_sub_in 0 _ (List.mem_of_getElem? (i := 143) rfl), am_sub_in 0 _ (List.mem_of_getElem? (i := 141) rfl), fun _ => am_sub_in 0 _ (List.mem_of_getElem? (i := 142) rfl), fun _ => Or.inr ⟨rfl, rfl⟩, fun e => absurd e (by decide), am_sub_in 0 _ (List.mem_of_getElem? (i := 5) rfl), ⟨by decide +kernel, by decide +kernel, by decide +kernel⟩, by decide, by decide +kernel⟩
set_option maxRecDepth 100000 in
theorem am_ok_243_0 : am_okR 243 0 25 = true := by decide +kernel
theorem am_ok_243 : am_okM 243 := am_chk (lo := 0) (n := 25) (am_ch0) am_ok_243_0
theorem am_mk_243 : am_mok 243 := ⟨am_sub_in 0 _ (List.mem_of_getElem? (i := 153) rfl), am_sub_in 0 _ (List.mem_of_getElem? (i := 151) rfl), fun _ => am_sub_in 0 _ (List.mem_of_getElem? (i := 152) rfl), fun _ => Or.inr ⟨rfl, rfl⟩, fun e => absurd e (by decide), am_sub_in 0 _ (List.mem_of_getElem? (i := 5) rfl), ⟨by decide +kernel, by decide +kernel, by decide +kernel⟩, by decide, by decide +kernel⟩
set_option maxRecDepth 100000 in
theorem am_ok_244_0 : am_okR 244 0 7 = true := by decide +kernel
theorem am_ok_244 : am_okM 244 := am_chk (lo := 0) (n := 7) (am_ch0) am_ok_244_0
theorem am_mk_244 : am_mok 244 := ⟨am_sub_in 0 _ (List.mem_of_getElem? (i := 222) rfl), am_sub_in 0 _ (List.mem_of_getElem? (i := 220) rfl), fun _ => am_sub_in 0 _ (List.mem_of_getElem? (i := 221) rfl), fun _ => Or.inr ⟨rfl, rfl⟩, fun e => absurd e (by decide), am_sub_in 0 _ (List.mem_of_getElem? (i := 5) rfl), ⟨by decide +kernel, by decide +kernel, by decide +kernel⟩, by decide, by decide +kernel⟩
set_option maxRecDepth 100000 in
theorem am_ok_245_0 : am_okR 245 0 37 = true := by decide +kernel
theorem am_ok_245 : am_okM 245 := am_chk (lo := 0) (n := 37) (am_ch0) am_ok_245_0
theorem am_mk_245 : am_mok 245 := ⟨am_sub_in 0 _ (List.mem_of_getElem? (i := 226) rfl), am_sub_in 0 _ (List.mem_of_getElem? (i := 224) rfl), fun _ => am_sub_in 0 _ (List.mem_of_getElem? (i := 225) rfl), fun _ => Or.inr ⟨rfl, rfl⟩, fun e => absurd e (by decide), am_sub_in 0 _ (List.mem_of_getElem? (i := 5) rfl), ⟨by decide +kernel, by decide +kernel, by decide +kernel⟩, by decide, by decide +kernel⟩
set_option maxRecDepth 100000 in
theorem am_ok_246_0 : am_okR 246 0 15 = true := by decide +kernel
theorem am_ok_246 : am_okM 246 := am_chk (lo := 0) (n := 15) (am_ch0) am_ok_246_0
theorem am_mk_246 : am_mok 246 := ⟨am_sub_in 0 _ (List.mem_of_getElem? (i := 147) rfl), am_sub_in 0 _ (List.mem_of_getElem? (i := 145) rfl), fun _ => am_sub_in 0 _ (List.mem_of_getElem? (i := 146) rfl), fun _ => Or.inr ⟨rfl, rfl⟩, fun e => absurd e (by decide), am_sub_in 0 _ (List.mem_of_getElem? (i := 5) rfl), ⟨by decide +kernel, by decide +kernel, by decide +kernel⟩, by decide, by decide +kernel⟩
set_option maxRecDepth 100000 in
theorem am_ok_247_0 : am_okR 247 0 19 = true := by decide +kernel
theorem am_ok_247 : am_okM 247 := am_chk (lo := 0) (n := 19) (am_ch0) am_ok_247_0
theorem am_mk_247 : am_mok 247 := ⟨am_sub_in 0 _ (List.mem_of_getElem? (i := 157) rfl), am_sub_in 0 _ (List.mem_of_getElem? (i := 155) rfl), fun _ => am_sub_in 0 _ (List.mem_of_getElem? (i := 156) rfl), fun _ => Or.inr ⟨rfl, rfl⟩, fun e => absurd e (by decide), am_sub_in 0 _ (List.mem_of_getElem? (i := 5) rfl), ⟨by decide +kernel, by decide +kernel, by decide +kernel⟩, by decide, by decide +kernel⟩
set_option maxRecDepth 100000 in
theorem am_ok_248_0 : am_okR 248 0 15 = true := by decide +kernel
theorem am_ok_248 : am_okM 248 := am_chk (lo := 0) (n := 15) (am_ch0) am_ok_248_0
theorem am_mk_248 : am_mok 248 := ⟨am_sub_in 0 _ (List.mem_of_getElem? (i := 160) rfl), am_sub_in 0 _ (List.mem_of_getElem? (i := 159) rfl), fun e => absurd e (by decide), fun e => absurd e (by decide), fun e => absurd e (by decide), am_sub_in 0 _ (List.mem_of_getElem? (i := 6) rfl), ⟨by decide +kernel, by decide +kernel, by decide +kernel⟩, by decide, by decide +kernel⟩
set_option maxRecDepth 100000 in
theorem am_ok_249_0 : am_okR 249 0 17 = true := by decide +kernel
theorem am_ok_249 : am_okM 249 := am_chk (lo := 0) (n := 17) (am_ch0) am_ok_249_0
theorem am_mk_249 : am_mok 249 := ⟨am_sub_in 0 _ (List.mem_of_getElem? (i := 233) rfl), am_sub_in 0 _ (List.mem_of_getElem? (i := 232) rfl), fun e => absurd e (by decide), fun e => absurd e (by decide), fun e => absurd e (by decide), am_sub_in 0 _ (List.mem_of_getElem? (i := 6) rfl), ⟨by decide +kernel, by decide +kernel, by decide +kernel⟩, by decide, by decide +kernel⟩
set_option maxRecDepth 100000 in
theorem am_ok_250_0 : am_okR 250 0 37 = true := by decide +kernel
theorem am_ok_250 : am_okM 250 := am_chk (lo := 0) (n := 37) (am_ch0) am_ok_250_0
theorem am_mk_250 : am_mok 250 := ⟨am_sub_in 0 _ (List.mem_of_getElem? (i := 230) rfl), am_sub_in 0 _ (List.mem_of_getElem? (i := 229) rfl), fun e => absurd e (by decide), fun e => absurd e (by decide), fun e => absurd e (by decide), am_sub_in 0 _ (List.mem_of_getElem? (i := 6) rfl), ⟨by decide +kernel, by decide +kernel, by decide +kernel⟩, by decide, by decide +kernel⟩
set_option maxRecDepth 100000 in
theorem am_ok_251_0 : am_okR 251 0 33 = true := by decide +kernel
theorem am_ok_251 : am_okM 251 := am_chk (lo := 0) (n := 33) (am_ch0) am_ok_251_0
theorem am_mk_251 : am_mok 251 := ⟨am_sub_in 1 _ (List.mem_of_getElem? (i := 2) rfl), am_sub_in 1 _ (List.mem_of_getElem? (i := 1) rfl), fun e => absurd e (by decide), fun e => absurd e (by decide), fun e => absurd e (by decide), am_sub_in 0 _ (List.mem_of_getElem? (i := 6) rfl), ⟨by decide +kernel, by decide +kernel, by decide +kernel⟩, by decide, by decide +kernel⟩
