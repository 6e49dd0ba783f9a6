/-! ===== the tables hold, method by method (kernel): 160 to 171 ===== -/
set_option maxRecDepth 100000 in
theorem am_ok_160_0 : am_okR 160 0 100 = true := by decide +kernel
set_option maxRecDepth 100000 in
theorem am_ok_160_1 : am_okR 160 100 100 = true := by decide +kernel
set_option maxRecDepth 100000 in
theorem am_ok_160_2 : am_okR 160 200 66 = true := by decide +kernel
theorem am_ok_160 : am_okM 160 := am_chk (lo := 200) (n := 66) (am_chk (lo := 100) (n := 100) (am_chk (lo := 0) (n := 100) (am_ch0) am_ok_160_0) am_ok_160_1) am_ok_160_2
theorem am_mk_160 : am_mok 160 := ⟨am_sub_in 3 _ (List.mem_of_getElem? (i := 210) rfl), am_sub_in 3 _ (List.mem_of_getElem? (i := 209) rfl), fun _ => am_sub_in 7 _ (List.mem_of_getElem? (i := 27) rfl), fun _ => Or.inl ⟨rfl, by decide⟩, fun e => absurd e (by decide), am_sub_in 0 _ (List.mem_of_getElem? (i := 14) rfl), ⟨by decide +kernel, by decide +kernel, by decide +kernel⟩, by decide, by decide +kernel⟩
set_option maxRecDepth 100000 in
theorem am_ok_161_0 : am_okR 161 0 100 = true := by decide +kernel
set_option maxRecDepth 100000 in
theorem am_ok_161_1 : am_okR 161 100 73 = true := by decide +kernel
theorem am_ok_161 : am_okM 161 := am_chk (lo := 100) (n := 73) (am_chk (lo := 0) (n := 100) (am_ch0) am_ok_161_0) am_ok_161_1
theorem am_mk_161 : am_mok 161 := ⟨am_sub_in 3 _ (List.mem_of_getElem? (i := 195) rfl), am_sub_in 3 _ (List.mem_of_getElem? (i := 193) rfl), fun _ => am_sub_in 3 _ (List.mem_of_getElem? (i := 194) rfl), fun _ => Or.inl ⟨rfl, by decide⟩, fun e => absurd e (by decide), am_sub_in 0 _ (List.mem_of_getElem? (i := 14) rfl), ⟨by decide +kernel, by decide +kernel, by decide +kernel⟩, by decide, by decide +kernel⟩
set_option maxRecDepth 100000 in
theorem am_ok_162_0 : am_okR 162 0 100 = true := by decide +kernel
set_option maxRecDepth 100000 in
theorem am_ok_162_1 : am_okR 162 100 6 = true := by decide +kernel
theorem am_ok_162 : am_okM 162 := am_chk (lo := 100) (n := 6) (am_chk (lo := 0) (n := 100) (am_ch0) am_ok_162_0) am_ok_162_1
theorem am_mk_162 : am_mok 162 := ⟨am_sub_in 4 _ (List.mem_of_getElem? (i := 179) rfl), am_sub_in 4 _ (List.mem_of_getElem? (i := 178) rfl), fun e => absurd e (by decide), fun e => absurd e (by decide), fun e => absurd e (by decide), am_sub_in 0 _ (List.mem_of_getElem? (i := 14) rfl), ⟨by decide +kernel, by decide +kernel, by decide +kernel⟩, by decide, by decide +kernel⟩
set_option maxRecDepth 100000 in
theorem am_ok_163_0 : am_okR 163 0 100 = true := by decide +kernel
set_option maxRecDepth 100000 in
theorem am_ok_163_1 : am_okR 163 100 100 = true := by decide +kernel
set_option maxRecDepth 100000 in
theorem am_ok_163_2 : am_okR 163 200 4 = true := by decide +kernel
theorem am_ok_163 : am_okM 163 := am_chk (lo := 200) (n := 4) (am_chk (lo := 100) (n := 100) (am_chk (lo := 0) (n := 100) (am_ch0) am_ok_163_0) am_ok_163_1) am_ok_163_2
theorem am_mk_163 : am_mok 163 := ⟨am_sub_in 4 _ (List.mem_of_getElem? (i := 176) rfl), am_sub_in 4 _ (List.mem_of_getElem? (i := 175) rfl), fun _ => am_sub_in 7 _ (List.mem_of_getElem? (i := 39) rfl), fun _ => Or.inl ⟨rfl, by decide⟩, fun e => absurd e (by decide), am_sub_in 0 _ (List.mem_of_getElem? (i := 14) rfl), ⟨by decide +kernel, by decide +kernel, by decide +kernel⟩, by decide, by decide +kernel⟩
set_option maxRecDepth 100000 in
theorem am_ok_164_0 : am_okR 164 0 29 = true := by decide +kernel
theorem am_ok_164 : am_okM 164 := am_chk (lo := 0) (n := 29) (am_ch0) am_ok_164_0
theorem am_mk_164 : am_mok 164 := ⟨am_sub_in 4 _ (List.mem_of_getElem? (i := 142) rfl), am_sub_in 4 _ (List.mem_of_getElem? (i := 140) rfl), fun _ => am_sub_in 4 _ (List.mem_of_getElem? (i := 141) rfl), fun _ => Or.inl ⟨rfl, by decide⟩, fun e => absurd e (by decide), am_sub_in 0 _ (List.mem_of_getElem? (i := 14) rfl), ⟨by decide +kernel, by decide +kernel, by decide +kernel⟩, by decide, by decide +kernel⟩
set_option maxRecDepth 100000 in
theorem am_ok_165_0 : am_okR 165 0 94 = true := by decide +kernel
theorem am_ok_165 : am_okM 165 := am_chk (lo := 0) (n := 94) (am_ch0) am_ok_165_0
theorem am_mk_165 : am_mok 165 := ⟨am_sub_in 4 _ (List.mem_of_getElem? (i := 161) rfl), am_sub_in 4 _ (List.mem_of_getElem? (i := 160) rfl), fun _ => am_sub_in 7 _ (List.mem_of_getElem? (i := 36) rfl), fun _ => Or.inl ⟨rfl, by decide⟩, fun e => absurd e (by decide), am_sub_in 0 _ (List.mem_of_getElem? (i := 14) rfl), ⟨by decide +kernel, by decide +kernel, by decide +kernel⟩, by decide, by decide +kernel⟩
set_option maxRecDepth 100000 in
theorem am_ok_166_0 : am_okR 166 0 53 = true := by decide +kernel
theorem am_ok_166 : am_okM 166 := am_chk (lo := 0) (n := 53) (am_ch0) am_ok_166_0
theorem am_mk_166 : am_mok 166 := ⟨am_sub_in 4 _ (List.mem_of_getElem? (i := 146) rfl), am_sub_in 4 _ (List.mem_of_getElem? (i := 144) rfl), fun _ => am_sub_in 4 _ (List.mem_of_getElem? (i := 145) rfl), fun _ => Or.inl ⟨rfl, by decide⟩, fun e => absurd e (by decide), am_sub_in 0 _ (List.mem_of_getElem? (i := 14) rfl), ⟨by decide +kernel, by decide +kernel, by decide +kernel⟩, by decide, by decide +kernel⟩
set_option maxRecDepth 100000 in
theorem am_ok_167_0 : am_okR 167 0 100 = true := by decide +kernel
set_option maxRecDepth 100000 in
theorem am_ok_167_1 : am_okR 167 100 5 = true := by decide +kernel
theorem am_ok_167 : am_okM 167 := am_chk (lo := 100) (n := 5) (am_chk (lo := 0) (n := 100) (am_ch0) am_ok_167_0) am_ok_167_1
theorem am_mk_167 : am_mok 167 := ⟨am_sub_in 4 _ (List.mem_of_getElem? (i := 186) rfl), am_sub_in 4 _ (List.mem_of_getElem? (i := 184) rfl), fun _ => am_sub_in 4 _ (List.mem_of_getElem? (i := 185) rfl), fun _ => Or.inl ⟨rfl, by decide⟩, fun e => absurd e (by decide), am_sub_in 0 _ (List.mem_of_getElem? (i := 14) rfl), ⟨by decide +kernel, by decide +kernel, by decide +kernel⟩, by decide, by decide +kernel⟩
set_option maxRecDepth 100000 in
theorem am_ok_168_0 : am_okR 168 0 37 = true := by decide +kernel
theorem am_ok_168 : am_okM 168 := am_chk (lo := 0) (n := 37) (am_ch0) am_ok_168_0
theorem am_mk_168 : am_mok 168 := ⟨am_sub_in 4 _ (List.mem_of_getElem? (i := 190) rfl), am_sub_in 4 _ (List.mem_of_getElem? (i := 188) rfl), fun _ => am_sub_in 4 _ (List.mem_of_getElem? (i := 189) rfl), fun _ => Or.inl ⟨rfl, by decide⟩, fun e => absurd e (by decide), am_sub_in 0 _ (List.mem_of_getElem? (i := 14) rfl), ⟨by decide +kernel, by decide +kernel, by decide +kernel⟩, by decide, by decide +kernel⟩
set_option maxRecDepth 100000 in
theorem am_ok_169_0 : am_okR 169 0 82 = true := by decide +kernel
theorem am_ok_169 : am_okM 169 := am_chk (lo := 0) (n := 82) (am_ch0) am_ok_169_0
theorem am_mk_169 : am_mok 169 := ⟨am_sub_in 4 _ (List.mem_of_getElem? (i := 194) rfl), am_sub_in 4 _ (List.mem_of_getElem? (i := 192) rfl), fun _ => am_sub_in 4 _ (List.mem_of_getElem? (i := 193) rfl), fun _ => Or.inl ⟨rfl, by decide⟩, fun e => absurd e (by decide), am_sub_in 0 _ (List.mem_of_getElem? (i := 14) rfl), ⟨by decide +kernel, by decide +kernel, by decide +kernel⟩, by decide, by decide +kernel⟩
set_option maxRecDepth 100000 in
theorem am_ok_170_0 : am_okR 170 0 32 = true := by decide +kernel
theorem am_ok_170 : am_okM 170 := am_chk (lo := 0) (n := 32) (am_ch0) am_ok_170_0
theorem am_mk_170 : am_mok 170 := ⟨am_sub_in 4 _ (List.mem_of_getElem? (i := 206) rfl), am_sub_in 4 _ (List.mem_of_getElem? (i := 205) rfl), fun _ => am_sub_in 7 _ (List.mem_of_getElem? (i := 41) rfl), fun _ => Or.inl ⟨rfl, by decide⟩, fun e => absurd e (by decide), am_sub_in 0 _ (List.mem_of_getElem? (i := 14) rfl), ⟨by decide +kernel, by decide +kernel, by decide +kernel⟩, by decide, by decide +kernel⟩
set_option maxRecDepth 100000 in
theorem am_ok_171_0 : am_okR 171 0 100 = true := by decide +kernel
set_option maxRecDepth 100000 in
theorem am_ok_171_1 : am_okR 171 100 34 = true := by decide +kernel
theorem am_ok_171 : am_okM 171 := am_chk (lo := 100) (n := 34) (am_chk (lo := 0) (n := 100) (am_ch0) am_ok_171_0) am_ok_171_1
theorem am_mk_171 : am_mok 171 := ⟨am_sub_in 4 _ (List.mem_of_getElem? (i := 202) rfl), am_sub_in 4 _ (List.mem_of_getElem? (i := 200) rfl), fun _ => am_sub_in 4 _ (List.mem_of_getElem? (i := 201) rfl), fun _ => Or.inl ⟨rfl, by decide⟩, fun e => absurd e (by decide), am_sub_in 0 _ (List.mem_of_getElem? (i := 14) rfl), ⟨by decide +kernel, by decide +kernel, by decide +kernel⟩, by decide, by decide +kernel⟩
