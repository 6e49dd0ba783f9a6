/-! ===== the tables hold, method by method (kernel): 44 to 57 ===== -/
set_option maxRecDepth 100000 in
theorem am_ok_44_0 : am_okR 44 0 53 = true := by decide +kernel
theorem am_ok_44 : am_okM 44 := am_chk (lo := 0) (n := 53) (am_ch0) am_ok_44_0
theorem am_mk_44 : am_mok 44 := ⟨am_sub_in 2 _ (List.mem_of_getElem? (i := 122) rfl), am_sub_in 2 _ (List.mem_of_getElem? (i := 120) rfl), fun _ => am_sub_in 2 _ (List.mem_of_getElem? (i := 121) rfl), fun _ => Or.inl ⟨rfl, by decide⟩, fun e => absurd e (by decide), am_sub_in 0 _ (List.mem_of_getElem? (i := 2) rfl), ⟨by decide +kernel, by decide +kernel, by decide +kernel⟩, by decide, by decide +kernel⟩
set_option maxRecDepth 100000 in
theorem am_ok_45_0 : am_okR 45 0 100 = true := by decide +kernel
set_option maxRecDepth 100000 in
theorem am_ok_45_1 : am_okR 45 100 16 = true := by decide +kernel
theorem am_ok_45 : am_okM 45 := am_chk (lo := 100) (n := 16) (am_chk (lo := 0) (n := 100) (am_ch0) am_ok_45_0) am_ok_45_1
theorem am_mk_45 : am_mok 45 := ⟨am_sub_in 2 _ (List.mem_of_getElem? (i := 99) rfl), am_sub_in 2 _ (List.mem_of_getElem? (i := 97) rfl), fun _ => am_sub_in 2 _ (List.mem_of_getElem? (i := 98) rfl), fun _ => Or.inl ⟨rfl, by decide⟩, fun e => absurd e (by decide), am_sub_in 0 _ (List.mem_of_getElem? (i := 2) rfl), ⟨by decide +kernel, by decide +kernel, by decide +kernel⟩, by decide, by decide +kernel⟩
set_option maxRecDepth 100000 in
theorem am_ok_46_0 : am_okR 46 0 47 = true := by decide +kernel
theorem am_ok_46 : am_okM 46 := am_chk (lo := 0) (n := 47) (am_ch0) am_ok_46_0
theorem am_mk_46 : am_mok 46 := ⟨am_sub_in 2 _ (List.mem_of_getElem? (i := 132) rfl), am_sub_in 2 _ (List.mem_of_getElem? (i := 130) rfl), fun _ => am_sub_in 2 _ (List.mem_of_getElem? (i := 131) rfl), fun _ => Or.inl ⟨rfl, by decide⟩, fun e => absurd e (by decide), am_sub_in 0 _ (List.mem_of_getElem? (i := 2) rfl), ⟨by decide +kernel, by decide +kernel, by decide +kernel⟩, by decide, by decide +kernel⟩
set_option maxRecDepth 100000 in
theorem am_ok_47_0 : am_okR 47 0 100 = true := by decide +kernel
set_option maxRecDepth 100000 in
theorem am_ok_47_1 : am_okR 47 100 46 = true := by decide +kernel
theorem am_ok_47 : am_okM 47 := am_chk (lo := 100) (n := 46) (am_chk (lo := 0) (n := 100) (am_ch0) am_ok_47_0) am_ok_47_1
theorem am_mk_47 : am_mok 47 := ⟨am_sub_in 3 _ (List.mem_of_getElem? (i := 146) rfl), am_sub_in 3 _ (List.mem_of_getElem? (i := 144) rfl), fun _ => am_sub_in 3 _ (List.mem_of_getElem? (i := 145) rfl), fun _ => Or.inl ⟨rfl, by decide⟩, fun e => absurd e (by decide), am_sub_in 0 _ (List.mem_of_getElem? (i := 2) rfl), ⟨by decide +kernel, by decide +kernel, by decide +kernel⟩, by decide, by decide +kernel⟩
set_option maxRecDepth 100000 in
theorem am_ok_48_0 : am_okR 48 0 56 = true := by decide +kernel
theorem am_ok_48 : am_okM 48 := am_chk (lo := 0) (n := 56) (am_ch0) am_ok_48_0
theorem am_mk_48 : am_mok 48 := ⟨am_sub_in 0 _ (List.mem_of_getElem? (i := 105) rfl), am_sub_in 0 _ (List.mem_of_getElem? (i := 104) rfl), fun e => absurd e (by decide), fun e => absurd e (by decide), fun _ => ⟨rfl, rfl⟩, am_sub_in 0 _ (List.mem_of_getElem? (i := 4) rfl), ⟨by decide +kernel, by decide +kernel, by decide +kernel⟩, by decide, by decide +kernel⟩
set_option maxRecDepth 100000 in
theorem am_ok_49_0 : am_okR 49 0 31 = true := by decide +kernel
theorem am_ok_49 : am_okM 49 := am_chk (lo := 0) (n := 31) (am_ch0) am_ok_49_0
theorem am_mk_49 : am_mok 49 := ⟨am_sub_in 0 _ (List.mem_of_getElem? (i := 191) rfl), am_sub_in 0 _ (List.mem_of_getElem? (i := 189) rfl), fun _ => am_sub_in 0 _ (List.mem_of_getElem? (i := 190) rfl), fun _ => Or.inl ⟨rfl, by decide⟩, fun e => absurd e (by decide), am_sub_in 0 _ (List.mem_of_getElem? (i := 4) rfl), ⟨by decide +kernel, by decide +kernel, by decide +kernel⟩, by decide, by decide +kernel⟩
set_option maxRecDepth 100000 in
theorem am_ok_50_0 : am_okR 50 0 97 = true := by decide +kernel
theorem am_ok_50 : am_okM 50 := am_chk (lo := 0) (n := 97) (am_ch0) am_ok_50_0
theorem am_mk_50 : am_mok 50 := ⟨am_sub_in 0 _ (List.mem_of_getElem? (i := 195) rfl), am_sub_in 0 _ (List.mem_of_getElem? (i := 193) rfl), fun _ => am_sub_in 0 _ (List.mem_of_getElem? (i := 194) rfl), fun _ => Or.inl ⟨rfl, by decide⟩, fun e => absurd e (by decide), am_sub_in 0 _ (List.mem_of_getElem? (i := 4) rfl), ⟨by decide +kernel, by decide +kernel, by decide +kernel⟩, by decide, by decide +kernel⟩
set_option maxRecDepth 100000 in
theorem am_ok_51_0 : am_okR 51 0 13 = true := by decide +kernel
theorem am_ok_51 : am_okM 51 := am_chk (lo := 0) (n := 13) (am_ch0) am_ok_51_0
theorem am_mk_51 : am_mok 51 := ⟨am_sub_in 1 _ (List.mem_of_getElem? (i := 45) rfl), am_sub_in 1 _ (List.mem_of_getElem? (i := 44) rfl), fun _ => am_sub_in 7 _ (List.mem_of_getElem? (i := 5) rfl), fun _ => Or.inl ⟨rfl, by decide⟩, fun e => absurd e (by decide), am_sub_in 0 _ (List.mem_of_getElem? (i := 4) rfl), ⟨by decide +kernel, by decide +kernel, by decide +kernel⟩, by decide, by decide +kernel⟩
set_option maxRecDepth 100000 in
theorem am_ok_52_0 : am_okR 52 0 20 = true := by decide +kernel
theorem am_ok_52 : am_okM 52 := am_chk (lo := 0) (n := 20) (am_ch0) am_ok_52_0
theorem am_mk_52 : am_mok 52 := ⟨am_sub_in 1 _ (List.mem_of_getElem? (i := 41) rfl), am_sub_in 1 _ (List.mem_of_getElem? (i := 40) rfl), fun _ => am_sub_in 7 _ (List.mem_of_getElem? (i := 4) rfl), fun _ => Or.inl ⟨rfl, by decide⟩, fun e => absurd e (by decide), am_sub_in 0 _ (List.mem_of_getElem? (i := 4) rfl), ⟨by decide +kernel, by decide +kernel, by decide +kernel⟩, by decide, by decide +kernel⟩
set_option maxRecDepth 100000 in
theorem am_ok_53_0 : am_okR 53 0 40 = true := by decide +kernel
theorem am_ok_53 : am_okM 53 := am_chk (lo := 0) (n := 40) (am_ch0) am_ok_53_0
theorem am_mk_53 : am_mok 53 := ⟨am_sub_in 1 _ (List.mem_of_getElem? (i := 57) rfl), am_sub_in 1 _ (List.mem_of_getElem? (i := 56) rfl), fun _ => am_sub_in 7 _ (List.mem_of_getElem? (i := 8) rfl), fun _ => Or.inl ⟨rfl, by decide⟩, fun e => absurd e (by decide), am_sub_in 0 _ (List.mem_of_getElem? (i := 4) rfl), ⟨by decide +kernel, by decide +kernel, by decide +kernel⟩, by decide, by decide +kernel⟩
set_option maxRecDepth 100000 in
theorem am_ok_54_0 : am_okR 54 0 100 = true := by decide +kernel
set_option maxRecDepth 100000 in
theorem am_ok_54_1 : am_okR 54 100 28 = true := by decide +kernel
theorem am_ok_54 : am_okM 54 := am_chk (lo := 100) (n := 28) (am_chk (lo := 0) (n := 100) (am_ch0) am_ok_54_0) am_ok_54_1
theorem am_mk_54 : am_mok 54 := ⟨am_sub_in 1 _ (List.mem_of_getElem? (i := 49) rfl), am_sub_in 1 _ (List.mem_of_getElem? (i := 48) rfl), fun _ => am_sub_in 7 _ (List.mem_of_getElem? (i := 6) rfl), fun _ => Or.inl ⟨rfl, by decide⟩, fun e => absurd e (by decide), am_sub_in 0 _ (List.mem_of_getElem? (i := 4) rfl), ⟨by decide +kernel, by decide +kernel, by decide +kernel⟩, by decide, by decide +kernel⟩
set_option maxRecDepth 100000 in
theorem am_ok_55_0 : am_okR 55 0 100 = true := by decide +kernel
set_option maxRecDepth 100000 in
theorem am_ok_55_1 : am_okR 55 100 42 = true := by decide +kernel
theorem am_ok_55 : am_okM 55 := am_chk (lo := 100) (n := 42) (am_chk (lo := 0) (n := 100) (am_ch0) am_ok_55_0) am_ok_55_1
theorem am_mk_55 : am_mok 55 := ⟨am_sub_in 1 _ (List.mem_of_getElem? (i := 61) rfl), am_sub_in 1 _ (List.mem_of_getElem? (i := 60) rfl), fun _ => am_sub_in 7 _ (List.mem_of_getElem? (i := 9) rfl), fun _ => Or.inl ⟨rfl, by decide⟩, fun e => absurd e (by decide), am_sub_in 0 _ (List.mem_of_getElem? (i := 4) rfl), ⟨by decide +kernel, by decide +kernel, by decide +kernel⟩, by decide, by decide +kernel⟩
set_option maxRecDepth 100000 in
theorem am_ok_56_0 : am_okR 56 0 100 = true := by decide +kernel
set_option maxRecDepth 100000 in
theorem am_ok_56_1 : am_okR 56 100 42 = true := by decide +kernel
theorem am_ok_56 : am_okM 56 := am_chk (lo := 100) (n := 42) (am_chk (lo := 0) (n := 100) (am_ch0) am_ok_56_0) am_ok_56_1
theorem am_mk_56 : am_mok 56 := ⟨am_sub_in 1 _ (List.mem_of_getElem? (i := 53) rfl), am_sub_in 1 _ (List.mem_of_getElem? (i := 52) rfl), fun _ => am_sub_in 7 _ (List.mem_of_getElem? (i := 7) rfl), fun _ => Or.inl ⟨rfl, by decide⟩, fun e => absurd e (by decide), am_sub_in 0 _ (List.mem_of_getElem? (i := 4) rfl), ⟨by decide +kernel, by decide +kernel, by decide +kernel⟩, by decide, by decide +kernel⟩
set_option maxRecDepth 100000 in
theorem am_ok_57_0 : am_okR 57 0 100 = true := by decide +kernel
set_option maxRecDepth 100000 in
theorem am_ok_57_1 : am_okR 57 100 100 = true := by decide +kernel
set_option maxRecDepth 100000 in
theorem am_ok_57_2 : am_okR 57 200 5 = true := by decide +kernel
theorem am_ok_57 : am_okM 57 := am_chk (lo := 200) (n := 5) (am_chk (lo := 100) (n := 100) (am_chk (lo := 0) (n := 100) (am_ch0) am_ok_57_0) am_ok_57_1) am_ok_57_2
theorem am_mk_57 : am_mok 57 := ⟨am_sub_in 0 _ (List.mem_of_getElem? (i := 199) rfl), am_sub_in 0 _ (List.mem_of_getElem? (i := 198) rfl), fun _ => am_sub_in 7 _ (List.mem_of_getElem? (i := 0) rfl), fun _ => Or.inl ⟨rfl, by decide⟩, fun e => absurd e (by decide), am_sub_in 0 _ (List.mem_of_getElem? (i := 4) rfl), ⟨by decide +kernel, by decide +kernel, by decide +kernel⟩, by decide, by decide +kernel⟩
