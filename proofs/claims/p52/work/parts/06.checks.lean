/-! ===== all tables hold ===== -/
theorem am_okc_32 : ∀ y, y < 32 → am_okM y := lt_s (lt_s (lt_s (lt_s (lt_s (lt_s (lt_s (lt_s (lt_s (lt_s (lt_s (lt_s (lt_s (lt_s (lt_s (lt_s (lt_s (lt_s (lt_s (lt_s (lt_s (lt_s (lt_s (lt_s (lt_s (lt_s (lt_s (lt_s (lt_s (lt_s (lt_s (lt_s (lt_0) am_ok_0) am_ok_1) am_ok_2) am_ok_3) am_ok_4) am_ok_5) am_ok_6) am_ok_7) am_ok_8) am_ok_9) am_ok_10) am_ok_11) am_ok_12) am_ok_13) am_ok_14) am_ok_15) am_ok_16) am_ok_17) am_ok_18) am_ok_19) am_ok_20) am_ok_21) am_ok_22) am_ok_23) am_ok_24) am_ok_25) am_ok_26) am_ok_27) am_ok_28) am_ok_29) am_ok_30) am_ok_31
theorem am_okc_64 : ∀ y, y < 64 → am_okM y := lt_s (lt_s (lt_s (lt_s (lt_s (lt_s (lt_s (lt_s (lt_s (lt_s (lt_s (lt_s (lt_s (lt_s (lt_s (lt_s (lt_s (lt_s (lt_s (lt_s (lt_s (lt_s (lt_s (lt_s (lt_s (lt_s (lt_s (lt_s (lt_s (lt_s (lt_s (lt_s (am_okc_32) am_ok_32) am_ok_33) am_ok_34) am_ok_35) am_ok_36) am_ok_37) am_ok_38) am_ok_39) am_ok_40) am_ok_41) am_ok_42) am_ok_43) am_ok_44) am_ok_45) am_ok_46) am_ok_47) am_ok_48) am_ok_49) am_ok_50) am_ok_51) am_ok_52) am_ok_53) am_ok_54) am_ok_55) am_ok_56) am_ok_57) am_ok_58) am_ok_59) am_ok_60) am_ok_61) am_ok_62) am_ok_63
theorem am_okc_96 : ∀ y, y < 96 → am_okM y := lt_s (lt_s (lt_s (lt_s (lt_s (lt_s (lt_s (lt_s (lt_s (lt_s (lt_s (lt_s (lt_s (lt_s (lt_s (lt_s (lt_s (lt_s (lt_s (lt_s (lt_s (lt_s (lt_s (lt_s (lt_s (lt_s (lt_s (lt_s (lt_s (lt_s (lt_s (lt_s (am_okc_64) am_ok_64) am_ok_65) am_ok_66) am_ok_67) am_ok_68) am_ok_69) am_ok_70) am_ok_71) am_ok_72) am_ok_73) am_ok_74) am_ok_75) am_ok_76) am_ok_77) am_ok_78) am_ok_79) am_ok_80) am_ok_81) am_ok_82) am_ok_83) am_ok_84) am_ok_85) am_ok_86) am_ok_87) am_ok_88) am_ok_89) am_ok_90) am_ok_91) am_ok_92) am_ok_93) am_ok_94) am_ok_95
theorem am_okc_128 : ∀ y, y < 128 → am_okM y := lt_s (lt_s (lt_s (lt_s (lt_s (lt_s (lt_s (lt_s (lt_s (lt_s (lt_s (lt_s (lt_s (lt_s (lt_s (lt_s (lt_s (lt_s (lt_s (lt_s (lt_s (lt_s (lt_s (lt_s (lt_s (lt_s (lt_s (lt_s (lt_s (lt_s (lt_s (lt_s (am_okc_96) am_ok_96) am_ok_97) am_ok_98) am_ok_99) am_ok_100) am_ok_101) am_ok_102) am_ok_103) am_ok_104) am_ok_105) am_ok_106) am_ok_107) am_ok_108) am_ok_109) am_ok_110) am_ok_111) am_ok_112) am_ok_113) am_ok_114) am_ok_115) am_ok_116) am_ok_117) am_ok_118) am_ok_119) am_ok_120) am_ok_121) am_ok_122) am_ok_123) am_ok_124) am_ok_125) am_ok_126) am_ok_127
theorem am_okc_130 : ∀ y, y < 130 → am_okM y := lt_s (lt_s (am_okc_128) am_ok_128) am_ok_129
theorem am_mkc_32 : ∀ y, y < 32 → am_mok y := lt_s (lt_s (lt_s (lt_s (lt_s (lt_s (lt_s (lt_s (lt_s (lt_s (lt_s (lt_s (lt_s (lt_s (lt_s (lt_s (lt_s (lt_s (lt_s (lt_s (lt_s (lt_s (lt_s (lt_s (lt_s (lt_s (lt_s (lt_s (lt_s (lt_s (lt_s (lt_s (lt_0) am_mk_0) am_mk_1) am_mk_2) am_mk_3) am_mk_4) am_mk_5) am_mk_6) am_mk_7) am_mk_8) am_mk_9) am_mk_10) am_mk_11) am_mk_12) am_mk_13) am_mk_14) am_mk_15) am_mk_16) am_mk_17) am_mk_18) am_mk_19) am_mk_20) am_mk_21) am_mk_22) am_mk_23) am_mk_24) am_mk_25) am_mk_26) am_mk_27) am_mk_28) am_mk_29) am_mk_30) am_mk_31
theorem am_mkc_64 : ∀ y, y < 64 → am_mok y := lt_s (lt_s (lt_s (lt_s (lt_s (lt_s (lt_s (lt_s (lt_s (lt_s (lt_s (lt_s (lt_s (lt_s (lt_s (lt_s (lt_s (lt_s (lt_s (lt_s (lt_s (lt_s (lt_s (lt_s (lt_s (lt_s (lt_s (lt_s (lt_s (lt_s (lt_s (lt_s (am_mkc_32) am_mk_32) am_mk_33) am_mk_34) am_mk_35) am_mk_36) am_mk_37) am_mk_38) am_mk_39) am_mk_40) am_mk_41) am_mk_42) am_mk_43) am_mk_44) am_mk_45) am_mk_46) am_mk_47) am_mk_48) am_mk_49) am_mk_50) am_mk_51) am_mk_52) am_mk_53) am_mk_54) am_mk_55) am_mk_56) am_mk_57) am_mk_58) am_mk_59) am_mk_60) am_mk_61) am_mk_62) am_mk_63
theorem am_mkc_96 : ∀ y, y < 96 → am_mok y := lt_s (lt_s (lt_s (lt_s (lt_s (lt_s (lt_s (lt_s (lt_s (lt_s (lt_s (lt_s (lt_s (lt_s (lt_s (lt_s (lt_s (lt_s (lt_s (lt_s (lt_s (lt_s (lt_s (lt_s (lt_s (lt_s (lt_s (lt_s (lt_s (lt_s (lt_s (lt_s (am_mkc_64) am_mk_64) am_mk_65) am_mk_66) am_mk_67) am_mk_68) am_mk_69) am_mk_70) am_mk_71) am_mk_72) am_mk_73) am_mk_74) am_mk_75) am_mk_76) am_mk_77) am_mk_78) am_mk_79) am_mk_80) am_mk_81) am_mk_82) am_mk_83) am_mk_84) am_mk_85) am_mk_86) am_mk_87) am_mk_88) am_mk_89) am_mk_90) am_mk_91) am_mk_92) am_mk_93) am_mk_94) am_mk_95
theorem am_mkc_128 : ∀ y, y < 128 → am_mok y := lt_s (lt_s (lt_s (lt_s (lt_s (lt_s (lt_s (lt_s (lt_s (lt_s (lt_s (lt_s (lt_s (lt_s (lt_s (lt_s (lt_s (lt_s (lt_s (lt_s (lt_s (lt_s (lt_s (lt_s (lt_s (lt_s (lt_s (lt_s (lt_s (lt_s (lt_s (lt_s (am_mkc_96) am_mk_96) am_mk_97) am_mk_98) am_mk_99) am_mk_100) am_mk_101) am_mk_102) am_mk_103) am_mk_104) am_mk_105) am_mk_106) am_mk_107) am_mk_108) am_mk_109) am_mk_110) am_mk_111) am_mk_112) am_mk_113) am_mk_114) am_mk_115) am_mk_116) am_mk_117) am_mk_118) am_mk_119) am_mk_120) am_mk_121) am_mk_122) am_mk_123) am_mk_124) am_mk_125) am_mk_126) am_mk_127
theorem am_mkc_129 : ∀ y, y < 129 → am_mok y := lt_s (am_mkc_128) am_mk_128
theorem am_mok_all {y : Nat} (h : y < 129) : am_mok y := am_mkc_129 y h
theorem am_tb_ok {y pc : Nat} {e : am_I} (h : am_tb y pc = some e) : am_okB y pc e = true ∧ y < am_N := by
  have h9 := h
  unfold am_tb at h
  cases h1 : Nat.ble (am_cl y) pc with
  | true =>
    rw [h1] at h
    cases h
  | false =>
    cases h2 : Nat.ble am_N y with
    | true =>
      rw [h1, h2] at h
      cases h
    | false =>
      have e1 : pc < am_cl y := Nat.not_le.mp fun q => by rw [Nat.ble_eq.mpr q] at h1; cases h1
      have e2 : y < am_N := Nat.not_le.mp fun q => by rw [Nat.ble_eq.mpr q] at h2; cases h2
      have h3 := am_okc_130 y e2 pc e1
      unfold am_okp at h3
      rw [h9] at h3
      exact ⟨h3, e2⟩
