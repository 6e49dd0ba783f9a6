/-! ===== the tables hold, method by method (kernel): 41 to 54 ===== -/
set_option maxRecDepth 100000 in
theorem am_ok_41_0 : am_okR 41 0 100 = true := by decide +kernel
set_option maxRecDepth 100000 in
theorem am_ok_41_1 : am_okR 41 100 100 = true := by decide +kernel
set_option maxRecDepth 100000 in
theorem am_ok_41_2 : am_okR 41 200 5 = true := by decide +kernel
theorem am_ok_41 : am_okM 41 := am_chk (lo := 200) (n := 5) (am_chk (lo := 100) (n := 100) (am_chk (lo := 0) (n := 100) (am_ch0) am_ok_41_0) am_ok_41_1) am_ok_41_2
theorem am_mk_41 : am_mok 41 := ⟨am_sub_in 0 _ (List.mem_of_getElem? (i := 197) rfl), am_sub_in 0 _ (List.mem_of_getElem? (i := 196) rfl), fun _ => am_sub_in 4 _ (List.mem_of_getElem? (i := 0) rfl), fun _ => ⟨rfl, by decide⟩, fun e => absurd e (by decide), am_sub_in 0 _ (List.mem_of_getElem? (i := 4) rfl), ⟨by decide +kernel, by decide +kernel, by decide +kernel⟩, by decide, by decide +kernel, fun e => absurd e (by decide), fun e => absurd e (by decide)⟩
set_option maxRecDepth 100000 in
theorem am_ok_42_0 : am_okR 42 0 82 = true := by decide +kernel
theorem am_ok_42 : am_okM 42 := am_chk (lo := 0) (n := 82) (am_ch0) am_ok_42_0
theorem am_mk_42 : am_mok 42 := ⟨am_sub_in 0 _ (List.mem_of_getElem? (i := 204) rfl), am_sub_in 0 _ (List.mem_of_getElem? (i := 203) rfl), fun _ => am_sub_in 4 _ (List.mem_of_getElem? (i := 1) rfl), fun _ => ⟨rfl, by decide⟩, fun e => absurd e (by decide), am_sub_in 0 _ (List.mem_of_getElem? (i := 4) rfl), ⟨by decide +kernel, by decide +kernel, by decide +kernel⟩, by decide, by decide +kernel, fun e => absurd e (by decide), fun e => absurd e (by decide)⟩
set_option maxRecDepth 100000 in
theorem am_ok_43_0 : am_okR 43 0 95 = true := by decide +kernel
theorem am_ok_43 : am_okM 43 := am_chk (lo := 0) (n := 95) (am_ch0) am_ok_43_0
theorem am_mk_43 : am_mok 43 := ⟨am_sub_in 0 _ (List.mem_of_getElem? (i := 215) rfl), am_sub_in 0 _ (List.mem_of_getElem? (i := 214) rfl), fun _ => am_sub_in 4 _ (List.mem_of_getElem? (i := 3) rfl), fun _ => ⟨rfl, by decide⟩, fun e => absurd e (by decide), am_sub_in 0 _ (List.mem_of_getElem? (i := 4) rfl), ⟨by decide +kernel, by decide +kernel, by decide +kernel⟩, by decide, by decide +kernel, fun e => absurd e (by decide), fun e => absurd e (by decide)⟩
set_option maxRecDepth 100000 in
theorem am_ok_44_0 : am_okR 44 0 100 = true := by decide +kernel
set_option maxRecDepth 100000 in
theorem am_ok_44_1 : am_okR 44 100 5 = true := by decide +kernel
theorem am_ok_44 : am_okM 44 := am_chk (lo := 100) (n := 5) (am_chk (lo := 0) (n := 100) (am_ch0) am_ok_44_0) am_ok_44_1
theorem am_mk_44 : am_mok 44 := ⟨am_sub_in 0 _ (List.mem_of_getElem? (i := 208) rfl), am_sub_in 0 _ (List.mem_of_getElem? (i := 207) rfl), fun _ => am_sub_in 4 _ (List.mem_of_getElem? (i := 2) rfl), fun _ => ⟨rfl, by decide⟩, fun e => absurd e (by decide), am_sub_in 0 _ (List.mem_of_getElem? (i := 4) rfl), ⟨by decide +kernel, by decide +kernel, by decide +kernel⟩, by decide, by decide +kernel, fun e => absurd e (by decide), fun e => absurd e (by decide)⟩
set_option maxRecDepth 100000 in
theorem am_ok_45_0 : am_okR 45 0 16 = true := by decide +kernel
theorem am_ok_45 : am_okM 45 := am_chk (lo := 0) (n := 16) (am_ch0) am_ok_45_0
theorem am_mk_45 : am_mok 45 := ⟨am_sub_in 0 _ (List.mem_of_getElem? (i := 200) rfl), am_sub_in 0 _ (List.mem_of_getElem? (i := 199) rfl), fun e => absurd e (by decide), fun e => absurd e (by decide), fun e => absurd e (by decide), am_sub_in 0 _ (List.mem_of_getElem? (i := 4) rfl), ⟨by decide +kernel, by decide +kernel, by decide +kernel⟩, by decide, by decide +kernel, fun e => absurd e (by decide), fun e => absurd e (by decide)⟩
set_option maxRecDepth 100000 in
theorem am_ok_46_0 : am_okR 46 0 23 = true := by decide +kernel
theorem am_ok_46 : am_okM 46 := am_chk (lo := 0) (n := 23) (am_ch0) am_ok_46_0
theorem am_mk_46 : am_mok 46 := ⟨am_sub_in 1 _ (List.mem_of_getElem? (i := 126) rfl), am_sub_in 1 _ (List.mem_of_getElem? (i := 125) rfl), fun e => absurd e (by decide), fun e => absurd e (by decide), fun _ => ⟨rfl, rfl⟩, am_sub_in 0 _ (List.mem_of_getElem? (i := 13) rfl), ⟨by decide +kernel, by decide +kernel, by decide +kernel⟩, by decide, by decide +kernel, fun e => absurd e (by decide), fun e => absurd e (by decide)⟩
set_option maxRecDepth 100000 in
theorem am_ok_47_0 : am_okR 47 0 100 = true := by decide +kernel
set_option maxRecDepth 100000 in
theorem am_ok_47_1 : am_okR 47 100 32 = true := by decide +kernel
theorem am_ok_47 : am_okM 47 := am_chk (lo := 100) (n := 32) (am_chk (lo := 0) (n := 100) (am_ch0) am_ok_47_0) am_ok_47_1
theorem am_mk_47 : am_mok 47 := ⟨am_sub_in 0 _ (List.mem_of_getElem? (i := 26) rfl), am_sub_in 0 _ (List.mem_of_getElem? (i := 25) rfl), fun e => absurd e (by decide), fun e => absurd e (by decide), fun _ => ⟨rfl, rfl⟩, am_sub_in 0 _ (List.mem_of_getElem? (i := 1) rfl), ⟨by decide +kernel, by decide +kernel, by decide +kernel⟩, by decide, by decide +kernel, fun e => absurd e (by decide), fun e => absurd e (by decide)⟩
set_option maxRecDepth 100000 in
theorem am_ok_48_0 : am_okR 48 0 100 = true := by decide +kernel
set_option maxRecDepth 100000 in
theorem am_ok_48_1 : am_okR 48 100 6 = true := by decide +kernel
theorem am_ok_48 : am_okM 48 := am_chk (lo := 100) (n := 6) (am_chk (lo := 0) (n := 100) (am_ch0) am_ok_48_0) am_ok_48_1
theorem am_mk_48 : am_mok 48 := ⟨am_sub_in 1 _ (List.mem_of_getElem? (i := 172) rfl), am_sub_in 1 _ (List.mem_of_getElem? (i := 170) rfl), fun _ => am_sub_in 1 _ (List.mem_of_getElem? (i := 171) rfl), fun _ => ⟨rfl, by decide⟩, fun e => absurd e (by decide), am_sub_in 0 _ (List.mem_of_getElem? (i := 1) rfl), ⟨by decide +kernel, by decide +kernel, by decide +kernel⟩, by decide, by decide +kernel, fun e => absurd e (by decide), fun e => absurd e (by decide)⟩
set_option maxRecDepth 100000 in
theorem am_ok_49_0 : am_okR 49 0 100 = true := by decide +kernel
set_option maxRecDepth 100000 in
theorem am_ok_49_1 : am_okR 49 100 51 = true := by decide +kernel
theorem am_ok_49 : am_okM 49 := am_chk (lo := 100) (n := 51) (am_chk (lo := 0) (n := 100) (am_ch0) am_ok_49_0) am_ok_49_1
theorem am_mk_49 : am_mok 49 := ⟨am_sub_in 3 _ (List.mem_of_getElem? (i := 134) rfl), am_sub_in 3 _ (List.mem_of_getElem? (i := 132) rfl), fun _ => am_sub_in 3 _ (List.mem_of_getElem? (i := 133) rfl), fun _ => ⟨rfl, by decide⟩, fun e => absurd e (by decide), am_sub_in 0 _ (List.mem_of_getElem? (i := 1) rfl), ⟨by decide +kernel, by decide +kernel, by decide +kernel⟩, by decide, by decide +kernel, fun e => absurd e (by decide), fun e => absurd e (by decide)⟩
set_option maxRecDepth 100000 in
theorem am_ok_50_0 : am_okR 50 0 51 = true := by decide +kernel
theorem am_ok_50 : am_okM 50 := am_chk (lo := 0) (n := 51) (am_ch0) am_ok_50_0
theorem am_mk_50 : am_mok 50 := ⟨am_sub_in 3 _ (List.mem_of_getElem? (i := 142) rfl), am_sub_in 3 _ (List.mem_of_getElem? (i := 140) rfl), fun _ => am_sub_in 3 _ (List.mem_of_getElem? (i := 141) rfl), fun _ => ⟨rfl, by decide⟩, fun e => absurd e (by decide), am_sub_in 0 _ (List.mem_of_getElem? (i := 1) rfl), ⟨by decide +kernel, by decide +kernel, by decide +kernel⟩, by decide, by decide +kernel, fun e => absurd e (by decide), fun e => absurd e (by decide)⟩
set_option maxRecDepth 100000 in
theorem am_ok_51_0 : am_okR 51 0 36 = true := by decide +kernel
theorem am_ok_51 : am_okM 51 := am_chk (lo := 0) (n := 36) (am_ch0) am_ok_51_0
theorem am_mk_51 : am_mok 51 := ⟨am_sub_in 3 _ (List.mem_of_getElem? (i := 150) rfl), am_sub_in 3 _ (List.mem_of_getElem? (i := 148) rfl), fun _ => am_sub_in 3 _ (List.mem_of_getElem? (i := 149) rfl), fun _ => ⟨rfl, by decide⟩, fun e => absurd e (by decide), am_sub_in 0 _ (List.mem_of_getElem? (i := 1) rfl), ⟨by decide +kernel, by decide +kernel, by decide +kernel⟩, by decide, by decide +kernel, fun e => absurd e (by decide), fun e => absurd e (by decide)⟩
set_option maxRecDepth 100000 in
theorem am_ok_52_0 : am_okR 52 0 62 = true := by decide +kernel
theorem am_ok_52 : am_okM 52 := am_chk (lo := 0) (n := 62) (am_ch0) am_ok_52_0
theorem am_mk_52 : am_mok 52 := ⟨am_sub_in 2 _ (List.mem_of_getElem? (i := 97) rfl), am_sub_in 2 _ (List.mem_of_getElem? (i := 95) rfl), fun _ => am_sub_in 2 _ (List.mem_of_getElem? (i := 96) rfl), fun _ => ⟨rfl, by decide⟩, fun e => absurd e (by decide), am_sub_in 0 _ (List.mem_of_getElem? (i := 1) rfl), ⟨by decide +kernel, by decide +kernel, by decide +kernel⟩, by decide, by decide +kernel, fun e => absurd e (by decide), fun e => absurd e (by decide)⟩
set_option maxRecDepth 100000 in
theorem am_ok_53_0 : am_okR 53 0 94 = true := by decide +kernel
theorem am_ok_53 : am_okM 53 := am_chk (lo := 0) (n := 94) (am_ch0) am_ok_53_0
theorem am_mk_53 : am_mok 53 := ⟨am_sub_in 1 _ (List.mem_of_getElem? (i := 176) rfl), am_sub_in 1 _ (List.mem_of_getElem? (i := 174) rfl), fun _ => am_sub_in 1 _ (List.mem_of_getElem? (i := 175) rfl), fun _ => ⟨rfl, by decide⟩, fun e => absurd e (by decide), am_sub_in 0 _ (List.mem_of_getElem? (i := 1) rfl), ⟨by decide +kernel, by decide +kernel, by decide +kernel⟩, by decide, by decide +kernel, fun e => absurd e (by decide), fun e => absurd e (by decide)⟩
set_option maxRecDepth 100000 in
theorem am_ok_54_0 : am_okR 54 0 86 = true := by decide +kernel
theorem am_ok_54 : am_okM 54 := am_chk (lo := 0) (n := 86) (am_ch0) am_ok_54_0
theorem am_mk_54 : am_mok 54 := ⟨am_sub_in 2 _ (List.mem_of_getElem? (i := 140) rfl), am_sub_in 2 _ (List.mem_of_getElem? (i := 138) rfl), fun _ => am_sub_in 2 _ (List.mem_of_getElem? (i := 139) rfl), fun _ => ⟨rfl, by decide⟩, fun e => absurd e (by decide), am_sub_in 0 _ (List.mem_of_getElem? (i := 1) rfl), ⟨by decide +kernel, by decide +kernel, by decide +kernel⟩, by decide, by decide +kernel, fun e => absurd e (by decide), fun e => absurd e (by decide)⟩
