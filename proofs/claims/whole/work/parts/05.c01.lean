/-! ===== the tables hold, method by method (kernel): 20 to 43 ===== -/
set_option maxRecDepth 100000 in
theorem am_ok_20_0 : am_okR 20 0 11 = true := by decide +kernel
theorem am_ok_20 : am_okM 20 := am_chk (lo := 0) (n := 11) (am_ch0) am_ok_20_0
theorem am_mk_20 : am_mok 20 := ⟨am_sub_in 2 _ (List.mem_of_getElem? (i := 180) rfl), am_sub_in 2 _ (List.mem_of_getElem? (i := 178) rfl), fun _ => am_sub_in 2 _ (List.mem_of_getElem? (i := 179) rfl), fun _ => Or.inl ⟨rfl, by decide⟩, fun e => absurd e (by decide), am_sub_in 0 _ (List.mem_of_getElem? (i := 11) rfl), ⟨by decide +kernel, by decide +kernel, by decide +kernel⟩, by decide, by decide +kernel⟩
set_option maxRecDepth 100000 in
theorem am_ok_21_0 : am_okR 21 0 100 = true := by decide +kernel
set_option maxRecDepth 100000 in
theorem am_ok_21_1 : am_okR 21 100 43 = true := by decide +kernel
theorem am_ok_21 : am_okM 21 := am_chk (lo := 100) (n := 43) (am_chk (lo := 0) (n := 100) (am_ch0) am_ok_21_0) am_ok_21_1
theorem am_mk_21 : am_mok 21 := ⟨am_sub_in 2 _ (List.mem_of_getElem? (i := 148) rfl), am_sub_in 2 _ (List.mem_of_getElem? (i := 147) rfl), fun _ => am_sub_in 7 _ (List.mem_of_getElem? (i := 12) rfl), fun _ => Or.inl ⟨rfl, by decide⟩, fun e => absurd e (by decide), am_sub_in 0 _ (List.mem_of_getElem? (i := 11) rfl), ⟨by decide +kernel, by decide +kernel, by decide +kernel⟩, by decide, by decide +kernel⟩
set_option maxRecDepth 100000 in
theorem am_ok_22_0 : am_okR 22 0 80 = true := by decide +kernel
theorem am_ok_22 : am_okM 22 := am_chk (lo := 0) (n := 80) (am_ch0) am_ok_22_0
theorem am_mk_22 : am_mok 22 := ⟨am_sub_in 2 _ (List.mem_of_getElem? (i := 144) rfl), am_sub_in 2 _ (List.mem_of_getElem? (i := 142) rfl), fun _ => am_sub_in 2 _ (List.mem_of_getElem? (i := 143) rfl), fun _ => Or.inl ⟨rfl, by decide⟩, fun e => absurd e (by decide), am_sub_in 0 _ (List.mem_of_getElem? (i := 11) rfl), ⟨by decide +kernel, by decide +kernel, by decide +kernel⟩, by decide, by decide +kernel⟩
set_option maxRecDepth 100000 in
theorem am_ok_23_0 : am_okR 23 0 90 = true := by decide +kernel
theorem am_ok_23 : am_okM 23 := am_chk (lo := 0) (n := 90) (am_ch0) am_ok_23_0
theorem am_mk_23 : am_mok 23 := ⟨am_sub_in 2 _ (List.mem_of_getElem? (i := 155) rfl), am_sub_in 2 _ (List.mem_of_getElem? (i := 153) rfl), fun _ => am_sub_in 2 _ (List.mem_of_getElem? (i := 154) rfl), fun _ => Or.inl ⟨rfl, by decide⟩, fun e => absurd e (by decide), am_sub_in 0 _ (List.mem_of_getElem? (i := 11) rfl), ⟨by decide +kernel, by decide +kernel, by decide +kernel⟩, by decide, by decide +kernel⟩
set_option maxRecDepth 100000 in
theorem am_ok_24_0 : am_okR 24 0 100 = true := by decide +kernel
set_option maxRecDepth 100000 in
theorem am_ok_24_1 : am_okR 24 100 66 = true := by decide +kernel
theorem am_ok_24 : am_okM 24 := am_chk (lo := 100) (n := 66) (am_chk (lo := 0) (n := 100) (am_ch0) am_ok_24_0) am_ok_24_1
theorem am_mk_24 : am_mok 24 := ⟨am_sub_in 2 _ (List.mem_of_getElem? (i := 165) rfl), am_sub_in 2 _ (List.mem_of_getElem? (i := 163) rfl), fun _ => am_sub_in 2 _ (List.mem_of_getElem? (i := 164) rfl), fun _ => Or.inl ⟨rfl, by decide⟩, fun e => absurd e (by decide), am_sub_in 0 _ (List.mem_of_getElem? (i := 11) rfl), ⟨by decide +kernel, by decide +kernel, by decide +kernel⟩, by decide, by decide +kernel⟩
set_option maxRecDepth 100000 in
theorem am_ok_25_0 : am_okR 25 0 100 = true := by decide +kernel
set_option maxRecDepth 100000 in
theorem am_ok_25_1 : am_okR 25 100 9 = true := by decide +kernel
theorem am_ok_25 : am_okM 25 := am_chk (lo := 100) (n := 9) (am_chk (lo := 0) (n := 100) (am_ch0) am_ok_25_0) am_ok_25_1
theorem am_mk_25 : am_mok 25 := ⟨am_sub_in 2 _ (List.mem_of_getElem? (i := 171) rfl), am_sub_in 2 _ (List.mem_of_getElem? (i := 170) rfl), fun _ => am_sub_in 7 _ (List.mem_of_getElem? (i := 13) rfl), fun _ => Or.inl ⟨rfl, by decide⟩, fun e => absurd e (by decide), am_sub_in 0 _ (List.mem_of_getElem? (i := 11) rfl), ⟨by decide +kernel, by decide +kernel, by decide +kernel⟩, by decide, by decide +kernel⟩
set_option maxRecDepth 100000 in
theorem am_ok_26_0 : am_okR 26 0 86 = true := by decide +kernel
theorem am_ok_26 : am_okM 26 := am_chk (lo := 0) (n := 86) (am_ch0) am_ok_26_0
theorem am_mk_26 : am_mok 26 := ⟨am_sub_in 0 _ (List.mem_of_getElem? (i := 30) rfl), am_sub_in 0 _ (List.mem_of_getElem? (i := 29) rfl), fun e => absurd e (by decide), fun e => absurd e (by decide), fun _ => ⟨rfl, rfl⟩, am_sub_in 0 _ (List.mem_of_getElem? (i := 2) rfl), ⟨by decide +kernel, by decide +kernel, by decide +kernel⟩, by decide, by decide +kernel⟩
set_option maxRecDepth 100000 in
theorem am_ok_27_0 : am_okR 27 0 18 = true := by decide +kernel
theorem am_ok_27 : am_okM 27 := am_chk (lo := 0) (n := 18) (am_ch0) am_ok_27_0
theorem am_mk_27 : am_mok 27 := ⟨am_sub_in 1 _ (List.mem_of_getElem? (i := 206) rfl), am_sub_in 1 _ (List.mem_of_getElem? (i := 204) rfl), fun _ => am_sub_in 1 _ (List.mem_of_getElem? (i := 205) rfl), fun _ => Or.inl ⟨rfl, by decide⟩, fun e => absurd e (by decide), am_sub_in 0 _ (List.mem_of_getElem? (i := 2) rfl), ⟨by decide +kernel, by decide +kernel, by decide +kernel⟩, by decide, by decide +kernel⟩
set_option maxRecDepth 100000 in
theorem am_ok_28_0 : am_okR 28 0 18 = true := by decide +kernel
theorem am_ok_28 : am_okM 28 := am_chk (lo := 0) (n := 18) (am_ch0) am_ok_28_0
theorem am_mk_28 : am_mok 28 := ⟨am_sub_in 1 _ (List.mem_of_getElem? (i := 213) rfl), am_sub_in 1 _ (List.mem_of_getElem? (i := 211) rfl), fun _ => am_sub_in 1 _ (List.mem_of_getElem? (i := 212) rfl), fun _ => Or.inl ⟨rfl, by decide⟩, fun e => absurd e (by decide), am_sub_in 0 _ (List.mem_of_getElem? (i := 2) rfl), ⟨by decide +kernel, by decide +kernel, by decide +kernel⟩, by decide, by decide +kernel⟩
set_option maxRecDepth 100000 in
theorem am_ok_29_0 : am_okR 29 0 9 = true := by decide +kernel
theorem am_ok_29 : am_okM 29 := am_chk (lo := 0) (n := 9) (am_ch0) am_ok_29_0
theorem am_mk_29 : am_mok 29 := ⟨am_sub_in 2 _ (List.mem_of_getElem? (i := 38) rfl), am_sub_in 2 _ (List.mem_of_getElem? (i := 36) rfl), fun _ => am_sub_in 2 _ (List.mem_of_getElem? (i := 37) rfl), fun _ => Or.inl ⟨rfl, by decide⟩, fun e => absurd e (by decide), am_sub_in 0 _ (List.mem_of_getElem? (i := 2) rfl), ⟨by decide +kernel, by decide +kernel, by decide +kernel⟩, by decide, by decide +kernel⟩
set_option maxRecDepth 100000 in
theorem am_ok_30_0 : am_okR 30 0 22 = true := by decide +kernel
theorem am_ok_30 : am_okM 30 := am_chk (lo := 0) (n := 22) (am_ch0) am_ok_30_0
theorem am_mk_30 : am_mok 30 := ⟨am_sub_in 3 _ (List.mem_of_getElem? (i := 53) rfl), am_sub_in 3 _ (List.mem_of_getElem? (i := 51) rfl), fun _ => am_sub_in 3 _ (List.mem_of_getElem? (i := 52) rfl), fun _ => Or.inl ⟨rfl, by decide⟩, fun e => absurd e (by decide), am_sub_in 0 _ (List.mem_of_getElem? (i := 2) rfl), ⟨by decide +kernel, by decide +kernel, by decide +kernel⟩, by decide, by decide +kernel⟩
set_option maxRecDepth 100000 in
theorem am_ok_31_0 : am_okR 31 0 33 = true := by decide +kernel
theorem am_ok_31 : am_okM 31 := am_chk (lo := 0) (n := 33) (am_ch0) am_ok_31_0
theorem am_mk_31 : am_mok 31 := ⟨am_sub_in 2 _ (List.mem_of_getElem? (i := 78) rfl), am_sub_in 2 _ (List.mem_of_getElem? (i := 76) rfl), fun _ => am_sub_in 2 _ (List.mem_of_getElem? (i := 77) rfl), fun _ => Or.inl ⟨rfl, by decide⟩, fun e => absurd e (by decide), am_sub_in 0 _ (List.mem_of_getElem? (i := 2) rfl), ⟨by decide +kernel, by decide +kernel, by decide +kernel⟩, by decide, by decide +kernel⟩
set_option maxRecDepth 100000 in
theorem am_ok_32_0 : am_okR 32 0 25 = true := by decide +kernel
theorem am_ok_32 : am_okM 32 := am_chk (lo := 0) (n := 25) (am_ch0) am_ok_32_0
theorem am_mk_32 : am_mok 32 := ⟨am_sub_in 2 _ (List.mem_of_getElem? (i := 49) rfl), am_sub_in 2 _ (List.mem_of_getElem? (i := 47) rfl), fun _ => am_sub_in 2 _ (List.mem_of_getElem? (i := 48) rfl), fun _ => Or.inl ⟨rfl, by decide⟩, fun e => absurd e (by decide), am_sub_in 0 _ (List.mem_of_getElem? (i := 2) rfl), ⟨by decide +kernel, by decide +kernel, by decide +kernel⟩, by decide, by decide +kernel⟩
set_option maxRecDepth 100000 in
theorem am_ok_33_0 : am_okR 33 0 9 = true := by decide +kernel
theorem am_ok_33 : am_okM 33 := am_chk (lo := 0) (n := 9) (am_ch0) am_ok_33_0
theorem am_mk_33 : am_mok 33 := ⟨am_sub_in 2 _ (List.mem_of_getElem? (i := 53) rfl), am_sub_in 2 _ (List.mem_of_getElem? (i := 51) rfl), fun _ => am_sub_in 2 _ (List.mem_of_getElem? (i := 52) rfl), fun _ => Or.inl ⟨rfl, by decide⟩, fun e => absurd e (by decide), am_sub_in 0 _ (List.mem_of_getElem? (i := 2) rfl), ⟨by decide +kernel, by decide +kernel, by decide +kernel⟩, by decide, by decide +kernel⟩
set_option maxRecDepth 100000 in
theorem am_ok_34_0 : am_okR 34 0 40 = true := by decide +kernel
theorem am_ok_34 : am_okM 34 := am_chk (lo := 0) (n := 40) (am_ch0) am_ok_34_0
theorem am_mk_34 : am_mok 34 := ⟨am_sub_in 2 _ (List.mem_of_getElem? (i := 6) rfl), am_sub_in 2 _ (List.mem_of_getElem? (i := 4) rfl), fun _ => am_sub_in 2 _ (List.mem_of_getElem? (i := 5) rfl), fun _ => Or.inl ⟨rfl, by decide⟩, fun e => absurd e (by decide), am_sub_in 0 _ (List.mem_of_getElem? (i := 2) rfl), ⟨by decide +kernel, by decide +kernel, by decide +kernel⟩, by decide, by decide +kernel⟩
set_option maxRecDepth 100000 in
theorem am_ok_35_0 : am_okR 35 0 67 = true := by decide +kernel
theorem am_ok_35 : am_okM 35 := am_chk (lo := 0) (n := 67) (am_ch0) am_ok_35_0
theorem am_mk_35 : am_mok 35 := ⟨am_sub_in 2 _ (List.mem_of_getElem? (i := 10) rfl), am_sub_in 2 _ (List.mem_of_getElem? (i := 8) rfl), fun _ => am_sub_in 2 _ (List.mem_of_getElem? (i := 9) rfl), fun _ => Or.inl ⟨rfl, by decide⟩, fun e => absurd e (by decide), am_sub_in 0 _ (List.mem_of_getElem? (i := 2) rfl), ⟨by decide +kernel, by decide +kernel, by decide +kernel⟩, by decide, by decide +kernel⟩
set_option maxRecDepth 100000 in
theorem am_ok_36_0 : am_okR 36 0 40 = true := by decide +kernel
theorem am_ok_36 : am_okM 36 := am_chk (lo := 0) (n := 40) (am_ch0) am_ok_36_0
theorem am_mk_36 : am_mok 36 := ⟨am_sub_in 2 _ (List.mem_of_getElem? (i := 57) rfl), am_sub_in 2 _ (List.mem_of_getElem? (i := 55) rfl), fun _ => am_sub_in 2 _ (List.mem_of_getElem? (i := 56) rfl), fun _ => Or.inl ⟨rfl, by decide⟩, fun e => absurd e (by decide), am_sub_in 0 _ (List.mem_of_getElem? (i := 2) rfl), ⟨by decide +kernel, by decide +kernel, by decide +kernel⟩, by decide, by decide +kernel⟩
set_option maxRecDepth 100000 in
theorem am_ok_37_0 : am_okR 37 0 11 = true := by decide +kernel
theorem am_ok_37 : am_okM 37 := am_chk (lo := 0) (n := 11) (am_ch0) am_ok_37_0
theorem am_mk_37 : am_mok 37 := ⟨am_sub_in 3 _ (List.mem_of_getElem? (i := 59) rfl), am_sub_in 3 _ (List.mem_of_getElem? (i := 57) rfl), fun _ => am_sub_in 3 _ (List.mem_of_getElem? (i := 58) rfl), fun _ => Or.inl ⟨rfl, by decide⟩, fun e => absurd e (by decide), am_sub_in 0 _ (List.mem_of_getElem? (i := 2) rfl), ⟨by decide +kernel, by decide +kernel, by decide +kernel⟩, by decide, by decide +kernel⟩
set_option maxRecDepth 100000 in
theorem am_ok_38_0 : am_okR 38 0 13 = true := by decide +kernel
theorem am_ok_38 : am_okM 38 := am_chk (lo := 0) (n := 13) (am_ch0) am_ok_38_0
theorem am_mk_38 : am_mok 38 := ⟨am_sub_in 2 _ (List.mem_of_getElem? (i := 69) rfl), am_sub_in 2 _ (List.mem_of_getElem? (i := 67) rfl), fun _ => am_sub_in 2 _ (List.mem_of_getElem? (i := 68) rfl), fun _ => Or.inl ⟨rfl, by decide⟩, fun e => absurd e (by decide), am_sub_in 0 _ (List.mem_of_getElem? (i := 2) rfl), ⟨by decide +kernel, by decide +kernel, by decide +kernel⟩, by decide, by decide +kernel⟩
set_option maxRecDepth 100000 in
theorem am_ok_39_0 : am_okR 39 0 13 = true := by decide +kernel
theorem am_ok_39 : am_okM 39 := am_chk (lo := 0) (n := 13) (am_ch0) am_ok_39_0
theorem am_mk_39 : am_mok 39 := ⟨am_sub_in 2 _ (List.mem_of_getElem? (i := 61) rfl), am_sub_in 2 _ (List.mem_of_getElem? (i := 59) rfl), fun _ => am_sub_in 2 _ (List.mem_of_getElem? (i := 60) rfl), fun _ => Or.inl ⟨rfl, by decide⟩, fun e => absurd e (by decide), am_sub_in 0 _ (List.mem_of_getElem? (i := 2) rfl), ⟨by decide +kernel, by decide +kernel, by decide +kernel⟩, by decide, by decide +kernel⟩
set_option maxRecDepth 100000 in
theorem am_ok_40_0 : am_okR 40 0 69 = true := by decide +kernel
theorem am_ok_40 : am_okM 40 := am_chk (lo := 0) (n := 69) (am_ch0) am_ok_40_0
theorem am_mk_40 : am_mok 40 := ⟨am_sub_in 2 _ (List.mem_of_getElem? (i := 20) rfl), am_sub_in 2 _ (List.mem_of_getElem? (i := 19) rfl), fun _ => am_sub_in 7 _ (List.mem_of_getElem? (i := 11) rfl), fun _ => Or.inl ⟨rfl, by decide⟩, fun e => absurd e (by decide), am_sub_in 0 _ (List.mem_of_getElem? (i := 2) rfl), ⟨by decide +kernel, by decide +kernel, by decide +kernel⟩, by decide, by decide +kernel⟩
set_option maxRecDepth 100000 in
theorem am_ok_41_0 : am_okR 41 0 59 = true := by decide +kernel
theorem am_ok_41 : am_okM 41 := am_chk (lo := 0) (n := 59) (am_ch0) am_ok_41_0
theorem am_mk_41 : am_mok 41 := ⟨am_sub_in 2 _ (List.mem_of_getElem? (i := 90) rfl), am_sub_in 2 _ (List.mem_of_getElem? (i := 88) rfl), fun _ => am_sub_in 2 _ (List.mem_of_getElem? (i := 89) rfl), fun _ => Or.inl ⟨rfl, by decide⟩, fun e => absurd e (by decide), am_sub_in 0 _ (List.mem_of_getElem? (i := 2) rfl), ⟨by decide +kernel, by decide +kernel, by decide +kernel⟩, by decide, by decide +kernel⟩
set_option maxRecDepth 100000 in
theorem am_ok_42_0 : am_okR 42 0 39 = true := by decide +kernel
theorem am_ok_42 : am_okM 42 := am_chk (lo := 0) (n := 39) (am_ch0) am_ok_42_0
theorem am_mk_42 : am_mok 42 := ⟨am_sub_in 3 _ (List.mem_of_getElem? (i := 32) rfl), am_sub_in 3 _ (List.mem_of_getElem? (i := 30) rfl), fun _ => am_sub_in 3 _ (List.mem_of_getElem? (i := 31) rfl), fun _ => Or.inl ⟨rfl, by decide⟩, fun e => absurd e (by decide), am_sub_in 0 _ (List.mem_of_getElem? (i := 2) rfl), ⟨by decide +kernel, by decide +kernel, by decide +kernel⟩, by decide, by decide +kernel⟩
set_option maxRecDepth 100000 in
theorem am_ok_43_0 : am_okR 43 0 49 = true := by decide +kernel
theorem am_ok_43 : am_okM 43 := am_chk (lo := 0) (n := 49) (am_ch0) am_ok_43_0
theorem am_mk_43 : am_mok 43 := ⟨am_sub_in 2 _ (List.mem_of_getElem? (i := 86) rfl), am_sub_in 2 _ (List.mem_of_getElem? (i := 84) rfl), fun _ => am_sub_in 2 _ (List.mem_of_getElem? (i := 85) rfl), fun _ => Or.inl ⟨rfl, by decide⟩, fun e => absurd e (by decide), am_sub_in 0 _ (List.mem_of_getElem? (i := 2) rfl), ⟨by decide +kernel, by decide +kernel, by decide +kernel⟩, by decide, by decide +kernel⟩
