/-! ===== the tables hold, method by method (kernel): 98 to 112 ===== -/
set_option maxRecDepth 100000 in
theorem am_ok_98_0 : am_okR 98 0 81 = true := by decide +kernel
theorem am_ok_98 : am_okM 98 := am_chk (lo := 0) (n := 81) (am_ch0) am_ok_98_0
theorem am_mk_98 : am_mok 98 := ⟨am_sub_in 3 _ (List.mem_of_getElem? (i := 17) rfl), am_sub_in 3 _ (List.mem_of_getElem? (i := 15) rfl), fun _ => am_sub_in 3 _ (List.mem_of_getElem? (i := 16) rfl), fun _ => Or.inl ⟨rfl, by decide⟩, fun e => absurd e (by decide), am_sub_in 0 _ (List.mem_of_getElem? (i := 1) rfl), ⟨by decide +kernel, by decide +kernel, by decide +kernel⟩, by decide, by decide +kernel⟩
set_option maxRecDepth 100000 in
theorem am_ok_99_0 : am_okR 99 0 51 = true := by decide +kernel
theorem am_ok_99 : am_okM 99 := am_chk (lo := 0) (n := 51) (am_ch0) am_ok_99_0
theorem am_mk_99 : am_mok 99 := ⟨am_sub_in 3 _ (List.mem_of_getElem? (i := 28) rfl), am_sub_in 3 _ (List.mem_of_getElem? (i := 26) rfl), fun _ => am_sub_in 3 _ (List.mem_of_getElem? (i := 27) rfl), fun _ => Or.inl ⟨rfl, by decide⟩, fun e => absurd e (by decide), am_sub_in 0 _ (List.mem_of_getElem? (i := 1) rfl), ⟨by decide +kernel, by decide +kernel, by decide +kernel⟩, by decide, by decide +kernel⟩
set_option maxRecDepth 100000 in
theorem am_ok_100_0 : am_okR 100 0 36 = true := by decide +kernel
theorem am_ok_100 : am_okM 100 := am_chk (lo := 0) (n := 36) (am_ch0) am_ok_100_0
theorem am_mk_100 : am_mok 100 := ⟨am_sub_in 3 _ (List.mem_of_getElem? (i := 36) rfl), am_sub_in 3 _ (List.mem_of_getElem? (i := 34) rfl), fun _ => am_sub_in 3 _ (List.mem_of_getElem? (i := 35) rfl), fun _ => Or.inl ⟨rfl, by decide⟩, fun e => absurd e (by decide), am_sub_in 0 _ (List.mem_of_getElem? (i := 1) rfl), ⟨by decide +kernel, by decide +kernel, by decide +kernel⟩, by decide, by decide +kernel⟩
set_option maxRecDepth 100000 in
theorem am_ok_101_0 : am_okR 101 0 81 = true := by decide +kernel
theorem am_ok_101 : am_okM 101 := am_chk (lo := 0) (n := 81) (am_ch0) am_ok_101_0
theorem am_mk_101 : am_mok 101 := ⟨am_sub_in 3 _ (List.mem_of_getElem? (i := 45) rfl), am_sub_in 3 _ (List.mem_of_getElem? (i := 43) rfl), fun _ => am_sub_in 3 _ (List.mem_of_getElem? (i := 44) rfl), fun _ => Or.inl ⟨rfl, by decide⟩, fun e => absurd e (by decide), am_sub_in 0 _ (List.mem_of_getElem? (i := 1) rfl), ⟨by decide +kernel, by decide +kernel, by decide +kernel⟩, by decide, by decide +kernel⟩
set_option maxRecDepth 100000 in
theorem am_ok_102_0 : am_okR 102 0 100 = true := by decide +kernel
set_option maxRecDepth 100000 in
theorem am_ok_102_1 : am_okR 102 100 72 = true := by decide +kernel
theorem am_ok_102 : am_okM 102 := am_chk (lo := 100) (n := 72) (am_chk (lo := 0) (n := 100) (am_ch0) am_ok_102_0) am_ok_102_1
theorem am_mk_102 : am_mok 102 := ⟨am_sub_in 3 _ (List.mem_of_getElem? (i := 49) rfl), am_sub_in 3 _ (List.mem_of_getElem? (i := 47) rfl), fun _ => am_sub_in 3 _ (List.mem_of_getElem? (i := 48) rfl), fun _ => Or.inl ⟨rfl, by decide⟩, fun e => absurd e (by decide), am_sub_in 0 _ (List.mem_of_getElem? (i := 1) rfl), ⟨by decide +kernel, by decide +kernel, by decide +kernel⟩, by decide, by decide +kernel⟩
set_option maxRecDepth 100000 in
theorem am_ok_103_0 : am_okR 103 0 25 = true := by decide +kernel
theorem am_ok_103 : am_okM 103 := am_chk (lo := 0) (n := 25) (am_ch0) am_ok_103_0
theorem am_mk_103 : am_mok 103 := ⟨am_sub_in 3 _ (List.mem_of_getElem? (i := 63) rfl), am_sub_in 3 _ (List.mem_of_getElem? (i := 61) rfl), fun _ => am_sub_in 3 _ (List.mem_of_getElem? (i := 62) rfl), fun _ => Or.inl ⟨rfl, by decide⟩, fun e => absurd e (by decide), am_sub_in 0 _ (List.mem_of_getElem? (i := 1) rfl), ⟨by decide +kernel, by decide +kernel, by decide +kernel⟩, by decide, by decide +kernel⟩
set_option maxRecDepth 100000 in
theorem am_ok_104_0 : am_okR 104 0 69 = true := by decide +kernel
theorem am_ok_104 : am_okM 104 := am_chk (lo := 0) (n := 69) (am_ch0) am_ok_104_0
theorem am_mk_104 : am_mok 104 := ⟨am_sub_in 3 _ (List.mem_of_getElem? (i := 82) rfl), am_sub_in 3 _ (List.mem_of_getElem? (i := 80) rfl), fun _ => am_sub_in 3 _ (List.mem_of_getElem? (i := 81) rfl), fun _ => Or.inl ⟨rfl, by decide⟩, fun e => absurd e (by decide), am_sub_in 0 _ (List.mem_of_getElem? (i := 1) rfl), ⟨by decide +kernel, by decide +kernel, by decide +kernel⟩, by decide, by decide +kernel⟩
set_option maxRecDepth 100000 in
theorem am_ok_105_0 : am_okR 105 0 100 = true := by decide +kernel
set_option maxRecDepth 100000 in
theorem am_ok_105_1 : am_okR 105 100 1 = true := by decide +kernel
theorem am_ok_105 : am_okM 105 := am_chk (lo := 100) (n := 1) (am_chk (lo := 0) (n := 100) (am_ch0) am_ok_105_0) am_ok_105_1
theorem am_mk_105 : am_mok 105 := ⟨am_sub_in 3 _ (List.mem_of_getElem? (i := 94) rfl), am_sub_in 3 _ (List.mem_of_getElem? (i := 92) rfl), fun _ => am_sub_in 3 _ (List.mem_of_getElem? (i := 93) rfl), fun _ => Or.inl ⟨rfl, by decide⟩, fun e => absurd e (by decide), am_sub_in 0 _ (List.mem_of_getElem? (i := 1) rfl), ⟨by decide +kernel, by decide +kernel, by decide +kernel⟩, by decide, by decide +kernel⟩
set_option maxRecDepth 100000 in
theorem am_ok_106_0 : am_okR 106 0 81 = true := by decide +kernel
theorem am_ok_106 : am_okM 106 := am_chk (lo := 0) (n := 81) (am_ch0) am_ok_106_0
theorem am_mk_106 : am_mok 106 := ⟨am_sub_in 3 _ (List.mem_of_getElem? (i := 99) rfl), am_sub_in 3 _ (List.mem_of_getElem? (i := 97) rfl), fun _ => am_sub_in 3 _ (List.mem_of_getElem? (i := 98) rfl), fun _ => Or.inl ⟨rfl, by decide⟩, fun e => absurd e (by decide), am_sub_in 0 _ (List.mem_of_getElem? (i := 1) rfl), ⟨by decide +kernel, by decide +kernel, by decide +kernel⟩, by decide, by decide +kernel⟩
set_option maxRecDepth 100000 in
theorem am_ok_107_0 : am_okR 107 0 87 = true := by decide +kernel
theorem am_ok_107 : am_okM 107 := am_chk (lo := 0) (n := 87) (am_ch0) am_ok_107_0
theorem am_mk_107 : am_mok 107 := ⟨am_sub_in 3 _ (List.mem_of_getElem? (i := 107) rfl), am_sub_in 3 _ (List.mem_of_getElem? (i := 105) rfl), fun _ => am_sub_in 3 _ (List.mem_of_getElem? (i := 106) rfl), fun _ => Or.inl ⟨rfl, by decide⟩, fun e => absurd e (by decide), am_sub_in 0 _ (List.mem_of_getElem? (i := 1) rfl), ⟨by decide +kernel, by decide +kernel, by decide +kernel⟩, by decide, by decide +kernel⟩
set_option maxRecDepth 100000 in
theorem am_ok_108_0 : am_okR 108 0 94 = true := by decide +kernel
theorem am_ok_108 : am_okM 108 := am_chk (lo := 0) (n := 94) (am_ch0) am_ok_108_0
theorem am_mk_108 : am_mok 108 := ⟨am_sub_in 3 _ (List.mem_of_getElem? (i := 119) rfl), am_sub_in 3 _ (List.mem_of_getElem? (i := 117) rfl), fun _ => am_sub_in 3 _ (List.mem_of_getElem? (i := 118) rfl), fun _ => Or.inl ⟨rfl, by decide⟩, fun e => absurd e (by decide), am_sub_in 0 _ (List.mem_of_getElem? (i := 1) rfl), ⟨by decide +kernel, by decide +kernel, by decide +kernel⟩, by decide, by decide +kernel⟩
set_option maxRecDepth 100000 in
theorem am_ok_109_0 : am_okR 109 0 75 = true := by decide +kernel
theorem am_ok_109 : am_okM 109 := am_chk (lo := 0) (n := 75) (am_ch0) am_ok_109_0
theorem am_mk_109 : am_mok 109 := ⟨am_sub_in 3 _ (List.mem_of_getElem? (i := 123) rfl), am_sub_in 3 _ (List.mem_of_getElem? (i := 121) rfl), fun _ => am_sub_in 3 _ (List.mem_of_getElem? (i := 122) rfl), fun _ => Or.inl ⟨rfl, by decide⟩, fun e => absurd e (by decide), am_sub_in 0 _ (List.mem_of_getElem? (i := 1) rfl), ⟨by decide +kernel, by decide +kernel, by decide +kernel⟩, by decide, by decide +kernel⟩
set_option maxRecDepth 100000 in
theorem am_ok_110_0 : am_okR 110 0 100 = true := by decide +kernel
set_option maxRecDepth 100000 in
theorem am_ok_110_1 : am_okR 110 100 77 = true := by decide +kernel
theorem am_ok_110 : am_okM 110 := am_chk (lo := 100) (n := 77) (am_chk (lo := 0) (n := 100) (am_ch0) am_ok_110_0) am_ok_110_1
theorem am_mk_110 : am_mok 110 := ⟨am_sub_in 3 _ (List.mem_of_getElem? (i := 135) rfl), am_sub_in 3 _ (List.mem_of_getElem? (i := 133) rfl), fun _ => am_sub_in 3 _ (List.mem_of_getElem? (i := 134) rfl), fun _ => Or.inl ⟨rfl, by decide⟩, fun e => absurd e (by decide), am_sub_in 0 _ (List.mem_of_getElem? (i := 1) rfl), ⟨by decide +kernel, by decide +kernel, by decide +kernel⟩, by decide, by decide +kernel⟩
set_option maxRecDepth 100000 in
theorem am_ok_111_0 : am_okR 111 0 35 = true := by decide +kernel
theorem am_ok_111 : am_okM 111 := am_chk (lo := 0) (n := 35) (am_ch0) am_ok_111_0
theorem am_mk_111 : am_mok 111 := ⟨am_sub_in 3 _ (List.mem_of_getElem? (i := 142) rfl), am_sub_in 3 _ (List.mem_of_getElem? (i := 140) rfl), fun _ => am_sub_in 3 _ (List.mem_of_getElem? (i := 141) rfl), fun _ => Or.inl ⟨rfl, by decide⟩, fun e => absurd e (by decide), am_sub_in 0 _ (List.mem_of_getElem? (i := 1) rfl), ⟨by decide +kernel, by decide +kernel, by decide +kernel⟩, by decide, by decide +kernel⟩
set_option maxRecDepth 100000 in
theorem am_ok_112_0 : am_okR 112 0 40 = true := by decide +kernel
theorem am_ok_112 : am_okM 112 := am_chk (lo := 0) (n := 40) (am_ch0) am_ok_112_0
theorem am_mk_112 : am_mok 112 := ⟨am_sub_in 3 _ (List.mem_of_getElem? (i := 151) rfl), am_sub_in 3 _ (List.mem_of_getElem? (i := 149) rfl), fun _ => am_sub_in 3 _ (List.mem_of_getElem? (i := 150) rfl), fun _ => Or.inl ⟨rfl, by decide⟩, fun e => absurd e (by decide), am_sub_in 0 _ (List.mem_of_getElem? (i := 1) rfl), ⟨by decide +kernel, by decide +kernel, by decide +kernel⟩, by decide, by decide +kernel⟩
