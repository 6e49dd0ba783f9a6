/-! ===== calls that write nothing ===== -/
theorem ex_ite {c : Prop} {hd hd2 : Decidable c} {A B A2 B2 : Option (Int32 × am_W)} {w : am_W} (h1 : c → ∃ r, A = some (r, w) ∧ A2 = some (r, w)) (h2 : ¬ c → ∃ r, B = some (r, w) ∧ B2 = some (r, w)) : ∃ r, (@ite _ c hd A B) = some (r, w) ∧ (@ite _ c hd2 A2 B2) = some (r, w) := by
  by_cases h : c
  · obtain ⟨r, e1, e2⟩ := h1 h
    exact ⟨r, by rw [if_pos h]; exact e1, by rw [if_pos h]; exact e2⟩
  · obtain ⟨r, e1, e2⟩ := h2 h
    exact ⟨r, by rw [if_neg h]; exact e1, by rw [if_neg h]; exact e2⟩
theorem ti_0 : (0 : Int32).toInt = 0 := rfl
theorem nI_ti {a : Int32} {k : Nat} (h : a.toInt = (k : Int)) (hk : k < 2 ^ 31) : a = nI k := Int32.toInt_inj.mp (h.trans (nI_toInt hk).symm)
theorem S_lt {a : Int32} {k : Nat} {w : am_W} {F G : am_W → Option (Int32 × am_W)} (hk : k < 2 ^ 31) (hF : F w = some (nI 0, w)) (hG : G w = some (nI 1, w)) : (if a < 0 then F w else if nI k ≤ a then F w else G w) = some (bi (am_in a k), w) := by
  rw [in_dec]
  by_cases h1 : a < 0
  · rw [if_pos h1, hF, decide_eq_false (fun q => by rw [Int32.lt_iff_toInt_lt, ti_0] at h1; omega)]; rfl
  · rw [if_neg h1]
    by_cases h2 : nI k ≤ a
    · rw [if_pos h2, hF, decide_eq_false (fun q => by rw [Int32.le_iff_toInt_le, nI_toInt hk] at h2; omega)]; rfl
    · rw [if_neg h2, hG, decide_eq_true (by rw [Int32.lt_iff_toInt_lt, ti_0] at h1; rw [Int32.le_iff_toInt_le, nI_toInt hk] at h2; omega)]; rfl
theorem S_le {a : Int32} {k : Nat} {w : am_W} {F G : am_W → Option (Int32 × am_W)} (hk : k < 2 ^ 30) (hF : F w = some (nI 0, w)) (hG : G w = some (nI 1, w)) : (if a < 0 then F w else if nI k < a then F w else G w) = some (bi (am_in a (k + 1)), w) := by
  rw [in_dec]
  by_cases h1 : a < 0
  · rw [if_pos h1, hF, decide_eq_false (fun q => by rw [Int32.lt_iff_toInt_lt, ti_0] at h1; omega)]; rfl
  · rw [if_neg h1]
    by_cases h2 : nI k < a
    · rw [if_pos h2, hF, decide_eq_false (fun q => by rw [Int32.lt_iff_toInt_lt, nI_toInt (by omega)] at h2; omega)]; rfl
    · rw [if_neg h2, hG, decide_eq_true (by rw [Int32.lt_iff_toInt_lt, ti_0] at h1; rw [Int32.lt_iff_toInt_lt, nI_toInt (by omega)] at h2; omega)]; rfl
theorem S_isByte {a : Int32} {w : am_W} : F_Loc_isByte a w = some (bi (am_in a 256), w) := S_le (k := 255) (F := F_Loc_isByte_15) (G := F_Loc_isByte_16 (nI 1)) (by omega) rfl rfl
theorem S_isHour {a : Int32} {w : am_W} : F_Loc_isHour a w = some (bi (am_in a 24), w) := S_lt (F := F_Loc_isHour_14) (G := F_Loc_isHour_15 (nI 1)) (by omega) rfl rfl
theorem S_isKind {a : Int32} {w : am_W} : F_Loc_isKind a w = some (bi (am_in a 6), w) := S_lt (F := F_Loc_isKind_14) (G := F_Loc_isKind_15 (nI 1)) (by omega) rfl rfl
theorem S_isSort {a : Int32} {w : am_W} : F_Loc_isSort a w = some (bi (am_in a 3), w) := S_lt (F := F_Loc_isSort_13) (G := F_Loc_isSort_14 (nI 1)) (by omega) rfl rfl
theorem S_isEither {a : Int32} {w : am_W} : F_Loc_isEither a w = some (bi (am_in a 2), w) := by
  unfold F_Loc_isEither
  by_cases h0 : a = 0
  · subst h0
    rfl
  · by_cases h1 : a = nI 1
    · subst h1
      rfl
    · have h : am_in a 2 = false := Bool.eq_false_iff.mpr (fun q => by
        obtain ⟨t, ht, rfl⟩ := in_ex q (by omega)
        match t, ht with
        | 0, _ => exact h0 rfl
        | 1, _ => exact h1 rfl)
      rw [if_neg h0, h]
      first | (rw [if_neg h1]; rfl) | (rw [if_neg (fun q => h1 q)]; rfl)
section
variable {n m g s : Nat} {v : am_V} {w : am_W}
end