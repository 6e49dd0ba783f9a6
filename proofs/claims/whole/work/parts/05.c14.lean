/-! ===== the tables hold, method by method (kernel): 239 to 241 ===== -/
set_option maxRecDepth 100000 in
theorem am_ok_239_0 : am_okR 239 0 35 = true := by decide +kernel
theorem am_ok_239 : am_okM 239 := am_chk (lo := 0) (n := 35) (am_ch0) am_ok_239_0
theorem am_mk_239 : am_mok 239 := ⟨am_sub_in 6 _ (List.mem_of_getElem? (i := 14) rfl), am_sub_in 6 _ (List.mem_of_getElem? (i := 13) rfl), fun e => absurd e (by decide), fun e => absurd e (by decide), fun e => absurd e (by decide), am_sub_in 0 _ (List.mem_of_getElem? (i := 14) rfl), ⟨by decide +kernel, by decide +kernel, by decide +kernel⟩, by decide, by decide +kernel⟩
set_option maxRecDepth 100000 in
theorem am_ok_240_0 : am_okR 240 0 100 = true := by decide +kernel
set_option maxRecDepth 100000 in
theorem am_ok_240_1 : am_okR 240 100 22 = true := by decide +kernel
theorem am_ok_240 : am_okM 240 := am_chk (lo := 100) (n := 22) (am_chk (lo := 0) (n := 100) (am_ch0) am_ok_240_0) am_ok_240_1
theorem am_mk_240 : am_mok 240 := ⟨am_sub_in 6 _ (List.mem_of_getElem? (i := 11) rfl), am_sub_in 6 _ (List.mem_of_getElem? (i := 9) rfl), fun _ => am_sub_in 6 _ (List.mem_of_getElem? (i := 10) rfl), fun _ => ⟨rfl, by decide⟩, fun e => absurd e (by decide), am_sub_in 0 _ (List.mem_of_getElem? (i := 14) rfl), ⟨by decide +kernel, by decide +kernel, by decide +kernel⟩, by decide, by decide +kernel⟩
set_option maxRecDepth 100000 in
theorem am_ok_241_0 : am_okR 241 0 53 = true := by decide +kernel
theorem am_ok_241 : am_okM 241 := am_chk (lo := 0) (n := 53) (am_ch0) am_ok_241_0
theorem am_mk_241 : am_mok 241 := ⟨am_sub_in 1 _ (List.mem_of_getElem? (i := 220) rfl), am_sub_in 1 _ (List.mem_of_getElem? (i := 219) rfl), fun e => absurd e (by decide), fun e => absurd e (by decide), fun e => absurd e (by decide), am_sub_in 0 _ (List.mem_of_getElem? (i := 15) rfl), ⟨by decide +kernel, by decide +kernel, by decide +kernel⟩, by decide, by decide +kernel⟩
