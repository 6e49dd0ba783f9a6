/-! ===== the tables hold, method by method (kernel): 133 to 138 ===== -/
set_option maxRecDepth 100000 in
theorem am_ok_133_0 : am_okR 133 0 67 = true := by decide +kernel
theorem am_ok_133 : am_okM 133 := am_chk (lo := 0) (n := 67) (am_ch0) am_ok_133_0
theorem am_mk_133 : am_mok 133 := ⟨am_sub_in 3 _ (List.mem_of_getElem? (i := 90) rfl), am_sub_in 3 _ (List.mem_of_getElem? (i := 89) rfl), fun _ => am_sub_in 7 _ (List.mem_of_getElem? (i := 23) rfl), fun _ => Or.inl ⟨rfl, by decide⟩, fun e => absurd e (by decide), am_sub_in 0 _ (List.mem_of_getElem? (i := 1) rfl), ⟨by decide +kernel, by decide +kernel, by decide +kernel⟩, by decide, by decide +kernel⟩
set_option maxRecDepth 100000 in
theorem am_ok_134_0 : am_okR 134 0 41 = true := by decide +kernel
theorem am_ok_134 : am_okM 134 := am_chk (lo := 0) (n := 41) (am_ch0) am_ok_134_0
theorem am_mk_134 : am_mok 134 := ⟨am_sub_in 3 _ (List.mem_of_getElem? (i := 103) rfl), am_sub_in 3 _ (List.mem_of_getElem? (i := 102) rfl), fun _ => am_sub_in 7 _ (List.mem_of_getElem? (i := 24) rfl), fun _ => Or.inl ⟨rfl, by decide⟩, fun e => absurd e (by decide), am_sub_in 0 _ (List.mem_of_getElem? (i := 1) rfl), ⟨by decide +kernel, by decide +kernel, by decide +kernel⟩, by decide, by decide +kernel⟩
set_option maxRecDepth 100000 in
theorem am_ok_135_0 : am_okR 135 0 29 = true := by decide +kernel
theorem am_ok_135 : am_okM 135 := am_chk (lo := 0) (n := 29) (am_ch0) am_ok_135_0
theorem am_mk_135 : am_mok 135 := ⟨am_sub_in 3 _ (List.mem_of_getElem? (i := 138) rfl), am_sub_in 3 _ (List.mem_of_getElem? (i := 137) rfl), fun e => absurd e (by decide), fun e => absurd e (by decide), fun e => absurd e (by decide), am_sub_in 0 _ (List.mem_of_getElem? (i := 1) rfl), ⟨by decide +kernel, by decide +kernel, by decide +kernel⟩, by decide, by decide +kernel⟩
set_option maxRecDepth 100000 in
theorem am_ok_136_0 : am_okR 136 0 100 = true := by decide +kernel
set_option maxRecDepth 100000 in
theorem am_ok_136_1 : am_okR 136 100 100 = true := by decide +kernel
set_option maxRecDepth 100000 in
theorem am_ok_136_2 : am_okR 136 200 100 = true := by decide +kernel
set_option maxRecDepth 100000 in
theorem am_ok_136_3 : am_okR 136 300 100 = true := by decide +kernel
set_option maxRecDepth 100000 in
theorem am_ok_136_4 : am_okR 136 400 100 = true := by decide +kernel
set_option maxRecDepth 100000 in
theorem am_ok_136_5 : am_okR 136 500 100 = true := by decide +kernel
set_option maxRecDepth 100000 in
theorem am_ok_136_6 : am_okR 136 600 100 = true := by decide +kernel
set_option maxRecDepth 100000 in
theorem am_ok_136_7 : am_okR 136 700 100 = true := by decide +kernel
set_option maxRecDepth 100000 in
theorem am_ok_136_8 : am_okR 136 800 100 = true := by decide +kernel
set_option maxRecDepth 100000 in
theorem am_ok_136_9 : am_okR 136 900 100 = true := by decide +kernel
set_option maxRecDepth 100000 in
theorem am_ok_136_10 : am_okR 136 1000 35 = true := by decide +kernel
theorem am_ok_136 : am_okM 136 := am_chk (lo := 1000) (n := 35) (am_chk (lo := 900) (n := 100) (am_chk (lo := 800) (n := 100) (am_chk (lo := 700) (n := 100) (am_chk (lo := 600) (n := 100) (am_chk (lo := 500) (n := 100) (am_chk (lo := 400) (n := 100) (am_chk (lo := 300) (n := 100) (am_chk (lo := 200) (n := 100) (am_chk (lo := 100) (n := 100) (am_chk (lo := 0) (n := 100) (am_ch0) am_ok_136_0) am_ok_136_1) am_ok_136_2) am_ok_136_3) am_ok_136_4) am_ok_136_5) am_ok_136_6) am_ok_136_7) am_ok_136_8) am_ok_136_9) am_ok_136_10
theorem am_mk_136 : am_mok 136 := ⟨am_sub_in 3 _ (List.mem_of_getElem? (i := 190) rfl), am_sub_in 3 _ (List.mem_of_getElem? (i := 189) rfl), fun e => absurd e (by decide), fun e => absurd e (by decide), fun _ => ⟨rfl, rfl⟩, am_sub_in 0 _ (List.mem_of_getElem? (i := 14) rfl), ⟨by decide +kernel, by decide +kernel, by decide +kernel⟩, by decide, by decide +kernel⟩
set_option maxRecDepth 100000 in
theorem am_ok_137_0 : am_okR 137 0 16 = true := by decide +kernel
theorem am_ok_137 : am_okM 137 := am_chk (lo := 0) (n := 16) (am_ch0) am_ok_137_0
theorem am_mk_137 : am_mok 137 := ⟨am_sub_in 3 _ (List.mem_of_getElem? (i := 202) rfl), am_sub_in 3 _ (List.mem_of_getElem? (i := 201) rfl), fun e => absurd e (by decide), fun e => absurd e (by decide), fun e => absurd e (by decide), am_sub_in 0 _ (List.mem_of_getElem? (i := 14) rfl), ⟨by decide +kernel, by decide +kernel, by decide +kernel⟩, by decide, by decide +kernel⟩
set_option maxRecDepth 100000 in
theorem am_ok_138_0 : am_okR 138 0 20 = true := by decide +kernel
theorem am_ok_138 : am_okM 138 := am_chk (lo := 0) (n := 20) (am_ch0) am_ok_138_0
theorem am_mk_138 : am_mok 138 := ⟨am_sub_in 4 _ (List.mem_of_getElem? (i := 182) rfl), am_sub_in 4 _ (List.mem_of_getElem? (i := 181) rfl), fun e => absurd e (by decide), fun e => absurd e (by decide), fun e => absurd e (by decide), am_sub_in 0 _ (List.mem_of_getElem? (i := 14) rfl), ⟨by decide +kernel, by decide +kernel, by decide +kernel⟩, by decide, by decide +kernel⟩
