/-! ===== fields, arrays, new objects, ends ===== -/
theorem am_sp {o p : Nat} (h1 : p ≤ o) (h2 : o ≤ p + 6) : ∃ i9 : Nat, i9 < 7 ∧ o = p + i9 := ⟨o - p, by omega, by omega⟩
theorem am_sv (i : Nat) : am_pS + i + 1000 = am_pV + i := by unfold am_pV; omega
theorem am_cl_get {ci : Nat} (hc : ci < 9) : vwCl[ci]? = some (am_R ci, am_T ci, am_Nf ci) := by
  match ci, hc with
  | 0, _ => rfl
  | 1, _ => rfl
  | 2, _ => rfl
  | 3, _ => rfl
  | 4, _ => rfl
  | 5, _ => rfl
  | 6, _ => rfl
  | 7, _ => rfl
  | 8, _ => rfl
theorem am_cl_in {ci : Nat} (hc : ci < 9) : ∀ w ∈ u_ws (am_R ci) (am_T ci) (am_Nf ci), w ∈ wt_tbl := by
  match ci, hc with
  | 0, _ => exact inX0
  | 1, _ => exact inX2
  | 2, _ => exact inX3
  | 3, _ => exact inX4
  | 4, _ => exact inX5
  | 5, _ => exact inX6
  | 6, _ => exact inX7
  | 7, _ => exact inJ4
  | 8, _ => exact inJ0
theorem am_cl_good {C : String} {T : u_T} {N : Nat} : ∀ w ∈ u_ws C T N, goodWord w = true := by
  intro w hw
  obtain ⟨k, -, rfl⟩ := List.mem_map.mp hw
  unfold u_lay
  split <;> rfl
theorem am_ty_ok {ci : Nat} (hc : ci < 9) : ∀ k, k < am_Nf ci → parseFieldDescriptor (am_T ci k).2.2.1 = some (am_ty ci k) := by
  match ci, hc with
  | 0, _ => exact tyX0_ok
  | 1, _ => exact tyX2_ok
  | 2, _ => exact tyX3_ok
  | 3, _ => exact tyX4_ok
  | 4, _ => exact tyX5_ok
  | 5, _ => exact tyX6_ok
  | 6, _ => exact tyX7_ok
  | 7, _ => exact tyJ4_ok
  | 8, _ => exact tyJ0_ok
theorem am_nm_ok {ci : Nat} (hc : ci < 9) : ∀ a, a < am_Nf ci → ∀ b, b < am_Nf ci → a ≠ b → (am_T ci a).2.1 ≠ (am_T ci b).2.1 := by
  match ci, hc with
  | 0, _ => exact nmX0
  | 1, _ => exact nmX2
  | 2, _ => exact nmX3
  | 3, _ => exact nmX4
  | 4, _ => exact nmX5
  | 5, _ => exact nmX6
  | 6, _ => exact nmX7
  | 7, _ => exact nmJ4
  | 8, _ => exact nmJ0
theorem am_fits_rv {q : Nat → Nat} {t : FieldType} {v : Value} (h : fits t v = true) : fits t (am_rv q v) = true := by
  cases v with
  | ref a => cases t <;> first | rfl | cases h
  | _ => exact h
theorem am_narrow_rv {q : Nat → Nat} {t : FieldType} {v : Value} (h : narrow t v = v) : narrow t (am_rv q v) = am_rv q v := by
  cases v with
  | ref a => cases t <;> rfl
  | _ => exact h
theorem am_tys_uniq {D : va_G} {ty : Nat → ClassId} {s : State} {cA : ClassId} {t : FieldType} {k : Nat} (hK : va_K D vwCl (am_tys ty) s) (hk : (am_tys ty)[k]? = some (ty k, t)) (hK2 : va_K D vwCl (am_tys ty ++ [(cA, t)]) s) : cA = ty k := by
  have h1 := (hK.2 k _ hk).2
  have h2 := (hK2.2 (am_tys ty).length (cA, t) (by simp)).2
  cases t with
  | object C =>
    obtain ⟨-, -, -, -, -, e1⟩ := h1
    obtain ⟨-, -, -, -, -, e2⟩ := h2
    exact Option.some.inj (e2.symm.trans e1)
  | _ => exact Option.some.inj (h2.symm.trans h1)
section OPS
variable {p : Program} {l : Launch} {e : Env} {R : Room} {s : State} {m : MethodId} {args : Array Value} {below : List Frame} {meth : Method} {c : Code} {sc : Option (Nat × (Nat → Int32))} {y d mc ms : Nat} {Φ : Option Value → am_H → Prop} {D : va_G} {ty : Nat → ClassId} {A : Nat → Prop} {q0 : Nat → Nat} {h0 : am_H} {Qf : State → Prop}
variable {E : am_E} {P : am_S → Prop} {pc a b k n : Nat} {kf kt : Option (List Nat)} {tg : List (Nat × List Nat)} {lv : am_L} {st : List Value} {h : am_H}
theorem am_o_getfield (C : am_Cx p l e R s m args below meth c sc y d mc ms Φ D ty A q0 h0 Qf) (hP : ∀ x : am_S, P x → am_Wt p l e R s m args below meth c y mc ms D ty A q0 h0 Qf x) {idx : Nat} {len : Nat} (hd : decode (am_code y) pc = .ok (.getfield idx, len)) (hn : len = 3) (hc : a < 9) (hb9 : b < am_Nf a) (hw : Jvm.Cond.fieldLink (am_nm y).cls idx (am_T a b).1 (am_T a b).2.1 (am_T a b).2.2.1 ∈ wt_tbl) (hs : am_ex E sc y mc ms Φ P (.getfield idx) a b kf kt tg pc lv st h k n) : am_Wt p l e R s m args below meth c y mc ms D ty A q0 h0 Qf (pc, lv, st, h, k, n) := by
  subst hn
  replace hs : am_r1 st _ := hs
  unfold am_r1 at hs
  split at hs
  · rename_i o r
    cases ha9 : (Nat.beq a 8 && Nat.ble am_pS o) with
    | true =>
      rw [ha9] at hs
      dsimp only at hs
      simp only [Bool.and_eq_true] at ha9
      have ea := Nat.eq_of_beq_eq_true ha9.1
      subst ea
      unfold am_b at hs
      split at hs
      · rename_i hb
        simp only [Bool.and_eq_true] at hb
        replace hb : Nat.ble am_pS o = true ∧ Nat.ble o (am_pS + 6) = true ∧ Nat.ble h.length am_pX = true := ⟨ha9.2, hb⟩
        have h1 := Nat.ble_eq.mp hb.1
        have h2 := Nat.ble_eq.mp hb.2.1
        have hh9 : h.length ≤ am_pX := Nat.ble_eq.mp hb.2.2
        obtain ⟨i9, hi9, rfl⟩ : ∃ i9, i9 < 7 ∧ o = am_pS + i9 := am_sp h1 h2
        match b, hw, hs with
        | 0, hw, hs =>
          intro q H locs ls g1 g2 g3 g4 g5 g6 g7 g8
          have hq9 := am_X_ag g1 hh9 C.2.2.2.2.2.2.2.2.2.2.1
          refine vk_getf (q := q (am_pS + i9)) (v := .ref (q (am_pV + i9))) C.1 C.2.1 (hq9.1.2.1.1 i9 hi9).2.2.1 g5 C.2.2.2.2.1 (C.2.2.2.2.2.2.2.1 _ (am_mg hw rfl)) (fun _ h9 => h9) hd ?_
          have kk := (hP _ (hs) q H locs ls g1 g2 g3 g4 g5 (am_has_pick _ g6) g7 g8)
          rw [am_sv] at kk
          exact kk
        | 1, hw, hs =>
          intro q H locs ls g1 g2 g3 g4 g5 g6 g7 g8
          have hq9 := am_X_ag g1 hh9 C.2.2.2.2.2.2.2.2.2.2.1
          exact vk_getf (q := q (am_pS + i9)) (v := .int 0) C.1 C.2.1 (hq9.1.2.1.1 i9 hi9).2.1 g5 C.2.2.2.2.1 (C.2.2.2.2.2.2.2.1 _ (am_mg hw rfl)) (fun _ h9 => h9) hd (hP _ (hs) q H locs ls g1 g2 g3 g4 g5 (am_has_pick _ g6) g7 g8)
        | b9 + 2, hw, hs => exact hs.elim
      · exact hs.elim
    | false =>
      rw [ha9] at hs
      dsimp only at hs
      unfold am_obj at hs
      split at hs
      · rename_i x hx
        obtain ⟨ci, fs⟩ := x
        unfold am_b at hs
        split at hs
        · rename_i hb
          have e := Nat.eq_of_beq_eq_true hb
          dsimp only at e
          subst e
          unfold am_ov at hs
          split at hs
          · rename_i v hv
            dsimp only at hv
            intro q H locs ls g1 g2 g3 g4 g5 g6 g7 g8
            exact va_get (v := am_rv q v) C.1 C.2.1 C.2.2.2.2.2.2.2.1 (fun w h9 => am_mg (am_cl_in hc w h9) (am_cl_good w h9)) C.2.2.2.2.1 C.2.2.2.2.2.2.2.2.1 g3 o (am_rz_get hx) (am_cl_get hc) b hb9 (C.2.2.2.2.2.2.2.1 _ (am_mg hw rfl)) (fun _ h9 => h9) (by rw [List.getElem?_map, hv]; rfl) hd (hP _ (hs) q H locs ls g1 g2 g3 g4 g5 (am_has_pick _ g6) g7 g8)
          · exact hs.elim
        · exact hs.elim
      · exact hs.elim
  · exact hs.elim
theorem am_o_baload (C : am_Cx p l e R s m args below meth c sc y d mc ms Φ D ty A q0 h0 Qf) (hP : ∀ x : am_S, P x → am_Wt p l e R s m args below meth c y mc ms D ty A q0 h0 Qf x)  {len : Nat} (hd : decode (am_code y) pc = .ok (.baload, len)) (hn : len = 1)  (hs : am_ex E sc y mc ms Φ P (.baload) a b kf kt tg pc lv st h k n) : am_Wt p l e R s m args below meth c y mc ms D ty A q0 h0 Qf (pc, lv, st, h, k, n) := by
  subst hn
  replace hs : am_i1 st _ := hs
  unfold am_i1 at hs
  split at hs
  · rename_i i r0
    unfold am_r1 at hs
    split at hs
    · rename_i o r
      split at hs
      · rename_i hx
        cases hv9 : Nat.ble am_pV o with
        | true =>
          rw [hv9] at hs
          dsimp only at hs
          unfold am_b at hs
          split at hs
          · rename_i hb
            simp only [Bool.and_eq_true] at hb
            replace hb : Nat.ble am_pV o = true ∧ Nat.ble o (am_pV + 6) = true ∧ Nat.ble h.length am_pX = true := ⟨hv9, hb⟩
            have h1 := Nat.ble_eq.mp hb.1
            have h2 := Nat.ble_eq.mp hb.2.1
            have hh9 : h.length ≤ am_pX := Nat.ble_eq.mp hb.2.2
            obtain ⟨i9, hi9, rfl⟩ : ∃ i9, i9 < 7 ∧ o = am_pV + i9 := am_sp h1 h2
            rw [Nat.add_sub_cancel_left] at hs
            intro q H locs ls g1 g2 g3 g4 g5 g6 g7 g8
            have hq9 := am_X_ag g1 hh9 C.2.2.2.2.2.2.2.2.2.2.1
            exact va_tb (t := q (am_pV + i9)) (v := .int ((am_byt.getD i9 []).getD i.toNatClampNeg 0)) C.1 C.2.1 (hq9.1.2.1.1 i9 hi9).2.2.2 g5 hs.1 rfl hd (hP _ (hs.2) q H locs ls g1 g2 g3 g4 g5 (am_has_pick _ g6) g7 g8)
          · exact hs.elim
        | false =>
          rw [hv9] at hs
          dsimp only at hs
          unfold am_b at hs
          split at hs
          · rename_i hb
            simp only [Bool.and_eq_true] at hb
            have e := Nat.eq_of_beq_eq_true hb.1
            subst e
            have hh9 : h.length ≤ am_pX := Nat.ble_eq.mp hb.2
            intro q H locs ls g1 g2 g3 g4 g5 g6 g7 g8
            have hq9 := am_X_ag g1 hh9 C.2.2.2.2.2.2.2.2.2.2.1
            exact va_tb (t := q (am_pX + 1)) (v := .int (am_ones i.toNatClampNeg)) C.1 C.2.1 hq9.2.2.2.1.2 g5 hs.1 rfl hd (hP _ (hs.2) q H locs ls g1 g2 g3 g4 g5 (am_has_pick _ g6) g7 g8)
          · exact hs.elim
      · unfold am_arr at hs
        split at hs
        · rename_i x hx
          obtain ⟨t, n9, z⟩ := x
          unfold am_b at hs
          split at hs
          · rename_i hb
            have e := Nat.eq_of_beq_eq_true hb
            dsimp only at e
            subst e
            unfold am_ai at hs
            split at hs
            · rename_i f hf
              dsimp only at hf
              subst hf
              intro q H locs ls g1 g2 g3 g4 g5 g6 g7 g8
              exact va_bald C.1 C.2.1 C.2.2.2.2.2.2.2.2.1 g3 o 4 (am_rz_get hx) rfl hs.1 hd (hP _ (hs.2) q H locs ls g1 g2 g3 g4 g5 (am_has_pick _ g6) g7 g8)
            · exact hs.elim
          · exact hs.elim
        · exact hs.elim
    · exact hs.elim
  · exact hs.elim
theorem am_o_putfield (C : am_Cx p l e R s m args below meth c sc y d mc ms Φ D ty A q0 h0 Qf) (hP : ∀ x : am_S, P x → am_Wt p l e R s m args below meth c y mc ms D ty A q0 h0 Qf x) {idx : Nat} {len : Nat} (hd : decode (am_code y) pc = .ok (.putfield idx, len)) (hn : len = 3) (hc : a < 9) (hb9 : b < am_Nf a) (hw : Jvm.Cond.fieldLink (am_nm y).cls idx (am_T a b).1 (am_T a b).2.1 (am_T a b).2.2.1 ∈ wt_tbl) (hf : (am_T a b).2.2.2 = false ∨ ((am_T a b).2.2.2 = true ∧ (am_nm y).name = "<init>" ∧ (am_T a b).1 = (am_nm y).cls)) (hs : am_ex E sc y mc ms Φ P (.putfield idx) a b kf kt tg pc lv st h k n) : am_Wt p l e R s m args below meth c y mc ms D ty A q0 h0 Qf (pc, lv, st, h, k, n) := by
  subst hn
  cases st with
  | nil => exact hs.elim
  | cons v r0 =>
    replace hs : am_r1 r0 _ := hs
    unfold am_r1 at hs
    split at hs
    · rename_i o r
      unfold am_obj at hs
      split at hs
      · rename_i x hx
        obtain ⟨ci, fs⟩ := x
        unfold am_b at hs
        split at hs
        · rename_i hb
          simp only [Bool.and_eq_true] at hb
          have e := Nat.eq_of_beq_eq_true hb.1
          subst e
          intro q H locs ls g1 g2 g3 g4 g5 g6 g7 g8
          rcases hf with hf | hf
          · refine va_put (ty := am_ty ci b) (v := am_rv q v) C.1 C.2.1 C.2.2.2.2.2.2.2.1 (fun w h9 => am_mg (am_cl_in hc w h9) (am_cl_good w h9)) (am_ty ci) (am_ty_ok hc) (am_nm_ok hc) C.2.2.2.2.1 C.2.2.2.2.2.2.2.2.1 g3 g4 g5 o (am_rz_get hx) (am_cl_get hc) b hb9 (C.2.2.2.2.2.2.2.1 _ (am_mg hw rfl)) (fun _ h9 => h9) hf (am_ty_ok hc b hb9) (am_narrow_rv hs.1) (am_fits_rv hs.2.1) (by rw [List.length_map]; exact Nat.ble_eq.mp hb.2) hd (fun H1 locs1 P1 D1 S1 => ?_)
            rw [show (Sum.inr (ci, (fs.map (am_rv q)).set b (am_rv q v)) : va_E) = am_rc q ty (.inr (ci, fs.set b v)) from by show _ = Sum.inr (ci, (fs.set b v).map (am_rv q)); rw [List.map_set], am_rz_set] at P1 D1
            exact hP _ (hs.2.2) q H1 locs1 ls (by rw [List.length_set]; exact g1) (by rw [List.length_set]; exact g2) P1 D1 S1 (am_has_pick _ g6) g7 g8
          · refine va_putF (ty := am_ty ci b) (v := am_rv q v) C.1 C.2.1 C.2.2.2.2.2.2.2.1 (fun w h9 => am_mg (am_cl_in hc w h9) (am_cl_good w h9)) (am_ty ci) (am_ty_ok hc) (am_nm_ok hc) C.2.2.2.2.1 C.2.2.2.2.2.2.2.2.1 g3 g4 g5 o (am_rz_get hx) (am_cl_get hc) b hb9 (C.2.2.2.2.2.2.2.1 _ (am_mg hw rfl)) (fun _ h9 => h9) hf.1 (C.2.2.2.2.2.2.1 hf.2.1) hf.2.2 (am_ty_ok hc b hb9) (am_narrow_rv hs.1) (am_fits_rv hs.2.1) (by rw [List.length_map]; exact Nat.ble_eq.mp hb.2) hd (fun H1 locs1 P1 D1 S1 => ?_)
            rw [show (Sum.inr (ci, (fs.map (am_rv q)).set b (am_rv q v)) : va_E) = am_rc q ty (.inr (ci, fs.set b v)) from by show _ = Sum.inr (ci, (fs.set b v).map (am_rv q)); rw [List.map_set], am_rz_set] at P1 D1
            exact hP _ (hs.2.2) q H1 locs1 ls (by rw [List.length_set]; exact g1) (by rw [List.length_set]; exact g2) P1 D1 S1 (am_has_pick _ g6) g7 g8
        · exact hs.elim
      · exact hs.elim
    · exact hs.elim
theorem am_o_getstaticO (C : am_Cx p l e R s m args below meth c sc y d mc ms Φ D ty A q0 h0 Qf) (hP : ∀ x : am_S, P x → am_Wt p l e R s m args below meth c y mc ms D ty A q0 h0 Qf x) {idx : Nat} {len : Nat} (hd : decode (am_code y) pc = .ok (.getstatic idx, len)) (hn : len = 3) (ha : a = 2) (hw : Jvm.Cond.fieldLink (am_nm y).cls idx "java/lang/Integer" "DigitOnes" "[B" ∈ wt_tbl) (hs : am_ex E sc y mc ms Φ P (.getstatic idx) a b kf kt tg pc lv st h k n) : am_Wt p l e R s m args below meth c y mc ms D ty A q0 h0 Qf (pc, lv, st, h, k, n) := by
  subst hn
  subst ha
  replace hs : am_b _ _ := hs
  unfold am_b at hs
  split at hs
  rotate_left
  · exact hs.elim
  rename_i hh
  have hh9 := Nat.ble_eq.mp hh
  intro q H locs ls g1 g2 g3 g4 g5 g6 g7 g8
  have hq9 := am_X_ag g1 hh9 C.2.2.2.2.2.2.2.2.2.2.1
  exact va_gets (v := .ref (q (am_pX + 1))) C.1 C.2.1 hq9.2.2.2.1.1 g5 C.2.2.2.2.1 (C.2.2.2.2.2.2.2.1 _ (am_mg hw rfl)) (fun _ h9 => h9) hd (hP _ (hs) q H locs ls g1 g2 g3 g4 g5 (am_has_pick _ g6) g7 g8)
theorem am_o_getstaticC (C : am_Cx p l e R s m args below meth c sc y d mc ms Φ D ty A q0 h0 Qf) (hP : ∀ x : am_S, P x → am_Wt p l e R s m args below meth c y mc ms D ty A q0 h0 Qf x) {idx : Nat} {len : Nat} (hd : decode (am_code y) pc = .ok (.getstatic idx, len)) (hn : len = 3) (ha : a = 1) (hw : Jvm.Cond.fieldLink (am_nm y).cls idx "java/lang/String" "COMPACT_STRINGS" "Z" ∈ wt_tbl) (hs : am_ex E sc y mc ms Φ P (.getstatic idx) a b kf kt tg pc lv st h k n) : am_Wt p l e R s m args below meth c y mc ms D ty A q0 h0 Qf (pc, lv, st, h, k, n) := by
  subst hn
  subst ha
  replace hs : P _ := hs
  intro q H locs ls g1 g2 g3 g4 g5 g6 g7 g8
  exact va_gets (v := .int 1) C.1 C.2.1 C.2.2.2.2.2.2.2.2.2.2.1.1.2.2.1 g5 C.2.2.2.2.1 (C.2.2.2.2.2.2.2.1 _ (am_mg hw rfl)) (fun _ h9 => h9) hd (hP _ (hs) q H locs ls g1 g2 g3 g4 g5 (am_has_pick _ g6) g7 g8)
theorem am_o_iaload (C : am_Cx p l e R s m args below meth c sc y d mc ms Φ D ty A q0 h0 Qf) (hP : ∀ x : am_S, P x → am_Wt p l e R s m args below meth c y mc ms D ty A q0 h0 Qf x)  {len : Nat} (hd : decode (am_code y) pc = .ok (.iaload, len)) (hn : len = 1)  (hs : am_ex E sc y mc ms Φ P (.iaload) a b kf kt tg pc lv st h k n) : am_Wt p l e R s m args below meth c y mc ms D ty A q0 h0 Qf (pc, lv, st, h, k, n) := by
  subst hn
  replace hs : am_i1 st _ := hs
  unfold am_i1 at hs
  split at hs
  · rename_i i r0
    unfold am_r1 at hs
    split at hs
    · rename_i o r
      split at hs
      · rename_i hx
        split at hs
        · rename_i ho
          have e := Nat.eq_of_beq_eq_true ho
          subst e
          cases sc with
          | none => exact hs.elim
          | some w =>
            dsimp only at hs
            unfold am_b at hs
            split at hs
            · rename_i hh
              have hh9 := Nat.ble_eq.mp hh
              intro q H locs ls g1 g2 g3 g4 g5 g6 g7 g8
              have hq9 := am_X_ag g1 hh9 C.2.2.2.2.2.2.2.2.2.2.1
              exact va_ti (t := q am_pL) (v := .int (w.2 i.toNatClampNeg)) C.1 C.2.1 (hq9.2.2.2.2 w rfl) g5 hs.1 rfl hd (hP _ (hs.2) q H locs ls g1 g2 g3 g4 g5 (am_has_pick _ g6) g7 g8)
            · exact hs.elim
        · exact hs.elim
      · unfold am_arr at hs
        split at hs
        · rename_i x hx
          obtain ⟨t, n9, z⟩ := x
          unfold am_b at hs
          split at hs
          · rename_i hb
            have e := Nat.eq_of_beq_eq_true hb
            dsimp only at e
            subst e
            unfold am_ai at hs
            split at hs
            · rename_i f hf
              dsimp only at hf
              subst hf
              intro q H locs ls g1 g2 g3 g4 g5 g6 g7 g8
              exact va_iald C.1 C.2.1 C.2.2.2.2.2.2.2.2.1 g3 o 0 (am_rz_get hx) rfl hs.1 hd (hP _ (hs.2) q H locs ls g1 g2 g3 g4 g5 (am_has_pick _ g6) g7 g8)
            · exact hs.elim
          · exact hs.elim
        · exact hs.elim
    · exact hs.elim
  · exact hs.elim
theorem am_o_laload (C : am_Cx p l e R s m args below meth c sc y d mc ms Φ D ty A q0 h0 Qf) (hP : ∀ x : am_S, P x → am_Wt p l e R s m args below meth c y mc ms D ty A q0 h0 Qf x)  {len : Nat} (hd : decode (am_code y) pc = .ok (.laload, len)) (hn : len = 1)  (hs : am_ex E sc y mc ms Φ P (.laload) a b kf kt tg pc lv st h k n) : am_Wt p l e R s m args below meth c y mc ms D ty A q0 h0 Qf (pc, lv, st, h, k, n) := by
  subst hn
  replace hs : am_i1 st _ := hs
  unfold am_i1 at hs
  split at hs
  · rename_i i r0
    unfold am_r1 at hs
    split at hs
    · rename_i o r
      unfold am_arr at hs
      split at hs
      · rename_i x hx
        obtain ⟨t, n9, z⟩ := x
        unfold am_b at hs
        split at hs
        · rename_i hb
          unfold am_al at hs
          split at hs
          · rename_i f hf
            dsimp only at hf
            subst hf
            have e := Nat.eq_of_beq_eq_true hb
            dsimp only at e
            subst e
            intro q H locs ls g1 g2 g3 g4 g5 g6 g7 g8
            exact va_lald C.1 C.2.1 C.2.2.2.2.2.2.2.2.1 g3 o 1 (am_rz_get hx) rfl hs.1 hd (hP _ (hs.2) q H locs ls g1 g2 g3 g4 g5 (am_has_pick _ g6) g7 g8)
          · exact hs.elim
        · exact hs.elim
      · exact hs.elim
    · exact hs.elim
  · exact hs.elim
theorem am_rf_q {q : Nat → Nat} (r : Option Nat) : va_rf (r.map q) = am_rv q (va_rf r) := by cases r <;> rfl
theorem va_aldA {R : Room} {H : Heap} {locs : List Loc} {cells slots : Nat} {Q : State → Prop} {cc : ByteArray} {ls : Array Slot} {rest : List Value} {cl : List vw_C} {tys : List (ClassId × FieldType)} {ws : va_W} {o : Nat} (hexec : p.tables.exec = Jvm.exec) (hb : c.code = cc) (hK : va_K D cl tys s) (hP : va_P D cl ws H) (q0 t0 : Nat) {cA : ClassId} {t : FieldType} {n : Nat} {f : Nat → Option Nat} (ha : ws[q0]? = some (o, .inl (cA, n, .inr (.inr (.inr (.inr f)))))) (ht : tys[t0]? = some (cA, .array t)) {i : Int32} (hin : vp_in i n) (hdg : decode cc pc = .ok (.aaload, 1))
    (kk : W p l e R s m args below meth c H locs cells slots Q (F0 m (pc + 1) ls (va_rf (f i.toNatClampNeg) :: rest))) : W p l e R s m args below meth c H locs cells slots Q (F0 m pc ls (.int i :: .ref o :: rest)) := by
  have hlt : i.toNatClampNeg < n := Nat.not_le.mp fun q => hin (Or.inr q)
  exact W.aald (v := va_rf (f i.toNatClampNeg)) (ty := .array t) hexec hb (hP q0 _ ha) ((hK.2 t0 _ ht).1 n (fun j => va_rf (f j))) rfl (fun q => by cases q) (by show ¬ (i < 0 ∨ (arrV _ _ _).slots.size ≤ _); rw [arrV_size]; exact hin) (by show (arrV _ _ _).slots[_]? = _; rw [arrV_read _ _ hlt]) rfl rfl hdg kk
theorem am_o_aaload (C : am_Cx p l e R s m args below meth c sc y d mc ms Φ D ty A q0 h0 Qf) (hP : ∀ x : am_S, P x → am_Wt p l e R s m args below meth c y mc ms D ty A q0 h0 Qf x)  {len : Nat} (hd : decode (am_code y) pc = .ok (.aaload, len)) (hn : len = 1)  (hs : am_ex E sc y mc ms Φ P (.aaload) a b kf kt tg pc lv st h k n) : am_Wt p l e R s m args below meth c y mc ms D ty A q0 h0 Qf (pc, lv, st, h, k, n) := by
  subst hn
  replace hs : am_i1 st _ := hs
  unfold am_i1 at hs
  split at hs
  · rename_i i r0
    unfold am_r1 at hs
    split at hs
    · rename_i o r
      unfold am_arr at hs
      split at hs
      · rename_i x hx
        obtain ⟨t, n9, z⟩ := x
        unfold am_b at hs
        split at hs
        · rename_i hb
          unfold am_aq at hs
          split at hs
          · rename_i f hf
            dsimp only at hf
            subst hf
            simp only [Bool.or_eq_true] at hb
            have hlt : i.toNatClampNeg < n9 := Nat.not_le.mp fun q => hs.1 (Or.inr q)
            intro q H locs ls g1 g2 g3 g4 g5 g6 g7 g8
            have hv : va_rf ((fun i => if i < n9 then (f i).map q else none) i.toNatClampNeg) = am_rv q (va_rf (f i.toNatClampNeg)) := by
              show va_rf (if i.toNatClampNeg < n9 then (f i.toNatClampNeg).map q else none) = _
              rw [if_pos hlt]
              exact am_rf_q _
            have kk := (hP _ (hs.2) q H locs ls g1 g2 g3 g4 g5 (am_has_pick _ g6) g7 g8)
            rcases hb with hb | hb
            · have e := Nat.eq_of_beq_eq_true hb
              try dsimp only at e
              subst e
              refine va_aldq (n := n9) (f := fun i => if i < n9 then (f i).map q else none) C.1 C.2.1 C.2.2.2.2.2.2.2.2.1 g3 o 2 (am_rz_get hx) rfl hs.1 hd ?_
              rw [hv]
              exact kk
            · have e := Nat.eq_of_beq_eq_true hb
              try dsimp only at e
              subst e
              refine va_aldA (n := n9) (f := fun i => if i < n9 then (f i).map q else none) C.1 C.2.1 C.2.2.2.2.2.2.2.2.1 g3 o 3 (am_rz_get hx) rfl hs.1 hd ?_
              rw [hv]
              exact kk
          · exact hs.elim
        · exact hs.elim
      · exact hs.elim
    · exact hs.elim
  · exact hs.elim
theorem am_o_iastore (C : am_Cx p l e R s m args below meth c sc y d mc ms Φ D ty A q0 h0 Qf) (hP : ∀ x : am_S, P x → am_Wt p l e R s m args below meth c y mc ms D ty A q0 h0 Qf x)  {len : Nat} (hd : decode (am_code y) pc = .ok (.iastore, len)) (hn : len = 1)  (hs : am_ex E sc y mc ms Φ P (.iastore) a b kf kt tg pc lv st h k n) : am_Wt p l e R s m args below meth c y mc ms D ty A q0 h0 Qf (pc, lv, st, h, k, n) := by
  subst hn
  replace hs : am_i1 st _ := hs
  unfold am_i1 at hs
  split at hs
  · rename_i x r1
    try unfold am_i1 at hs
    split at hs
    · rename_i i r0
      unfold am_r1 at hs
      split at hs
      · rename_i o r
        unfold am_arr at hs
        split at hs
        · rename_i z hx
          obtain ⟨t, n9, z⟩ := z
          unfold am_b at hs
          split at hs
          · rename_i hb
            unfold am_ai at hs
            split at hs
            · rename_i f hf
              dsimp only at hf
              subst hf
              have e := Nat.eq_of_beq_eq_true hb
              dsimp only at e
              subst e
              intro q H locs ls g1 g2 g3 g4 g5 g6 g7 g8
              refine va_iast C.1 C.2.1 C.2.2.2.2.2.2.2.2.1 g3 g4 g5 o 0 (am_rz_get hx) rfl hs.1 hd (fun H1 locs1 P1 D1 S1 => ?_)
              rw [show (Sum.inl (ty 0, n9, .inl (upd f i.toNatClampNeg x)) : va_E) = am_rc q ty (.inl (0, n9, .inl (upd f i.toNatClampNeg x))) from rfl, am_rz_set] at P1 D1
              exact hP _ (hs.2) q H1 locs1 ls (by rw [List.length_set]; exact g1) (by rw [List.length_set]; exact g2) P1 D1 S1 (am_has_pick _ g6) g7 g8
            · exact hs.elim
          · exact hs.elim
        · exact hs.elim
      · exact hs.elim
    · exact hs.elim
  · exact hs.elim
theorem am_o_bastore (C : am_Cx p l e R s m args below meth c sc y d mc ms Φ D ty A q0 h0 Qf) (hP : ∀ x : am_S, P x → am_Wt p l e R s m args below meth c y mc ms D ty A q0 h0 Qf x)  {len : Nat} (hd : decode (am_code y) pc = .ok (.bastore, len)) (hn : len = 1)  (hs : am_ex E sc y mc ms Φ P (.bastore) a b kf kt tg pc lv st h k n) : am_Wt p l e R s m args below meth c y mc ms D ty A q0 h0 Qf (pc, lv, st, h, k, n) := by
  subst hn
  replace hs : am_i1 st _ := hs
  unfold am_i1 at hs
  split at hs
  · rename_i x r1
    try unfold am_i1 at hs
    split at hs
    · rename_i i r0
      unfold am_r1 at hs
      split at hs
      · rename_i o r
        unfold am_arr at hs
        split at hs
        · rename_i z hx
          obtain ⟨t, n9, z⟩ := z
          unfold am_b at hs
          split at hs
          · rename_i hb
            unfold am_ai at hs
            split at hs
            · rename_i f hf
              dsimp only at hf
              subst hf
              have e := Nat.eq_of_beq_eq_true hb
              dsimp only at e
              subst e
              intro q H locs ls g1 g2 g3 g4 g5 g6 g7 g8
              refine va_bast C.1 C.2.1 C.2.2.2.2.2.2.2.2.1 g3 g4 g5 o 4 (am_rz_get hx) rfl hs.1 hd (fun H1 locs1 P1 D1 S1 => ?_)
              rw [show (Sum.inl (ty 4, n9, .inl (upd f i.toNatClampNeg (vp_nar .byte x))) : va_E) = am_rc q ty (.inl (4, n9, .inl (upd f i.toNatClampNeg (vp_nar .byte x)))) from rfl, am_rz_set] at P1 D1
              exact hP _ (hs.2) q H1 locs1 ls (by rw [List.length_set]; exact g1) (by rw [List.length_set]; exact g2) P1 D1 S1 (am_has_pick _ g6) g7 g8
            · exact hs.elim
          · exact hs.elim
        · exact hs.elim
      · exact hs.elim
    · exact hs.elim
  · exact hs.elim
theorem am_o_lastore (C : am_Cx p l e R s m args below meth c sc y d mc ms Φ D ty A q0 h0 Qf) (hP : ∀ x : am_S, P x → am_Wt p l e R s m args below meth c y mc ms D ty A q0 h0 Qf x)  {len : Nat} (hd : decode (am_code y) pc = .ok (.lastore, len)) (hn : len = 1)  (hs : am_ex E sc y mc ms Φ P (.lastore) a b kf kt tg pc lv st h k n) : am_Wt p l e R s m args below meth c y mc ms D ty A q0 h0 Qf (pc, lv, st, h, k, n) := by
  subst hn
  replace hs : am_l1 st _ := hs
  unfold am_l1 at hs
  split at hs
  · rename_i x r1
    try unfold am_i1 at hs
    split at hs
    · rename_i i r0
      unfold am_r1 at hs
      split at hs
      · rename_i o r
        unfold am_arr at hs
        split at hs
        · rename_i z hx
          obtain ⟨t, n9, z⟩ := z
          unfold am_b at hs
          split at hs
          · rename_i hb
            unfold am_al at hs
            split at hs
            · rename_i f hf
              dsimp only at hf
              subst hf
              have e := Nat.eq_of_beq_eq_true hb
              dsimp only at e
              subst e
              intro q H locs ls g1 g2 g3 g4 g5 g6 g7 g8
              refine va_last C.1 C.2.1 C.2.2.2.2.2.2.2.2.1 g3 g4 g5 o 1 (am_rz_get hx) rfl hs.1 hd (fun H1 locs1 P1 D1 S1 => ?_)
              rw [show (Sum.inl (ty 1, n9, .inr (.inl (vp_updL f i.toNatClampNeg x))) : va_E) = am_rc q ty (.inl (1, n9, .inr (.inl (vp_updL f i.toNatClampNeg x)))) from rfl, am_rz_set] at P1 D1
              exact hP _ (hs.2) q H1 locs1 ls (by rw [List.length_set]; exact g1) (by rw [List.length_set]; exact g2) P1 D1 S1 (am_has_pick _ g6) g7 g8
            · exact hs.elim
          · exact hs.elim
        · exact hs.elim
      · exact hs.elim
    · exact hs.elim
  · exact hs.elim
theorem am_o_arraylength (C : am_Cx p l e R s m args below meth c sc y d mc ms Φ D ty A q0 h0 Qf) (hP : ∀ x : am_S, P x → am_Wt p l e R s m args below meth c y mc ms D ty A q0 h0 Qf x)  {len : Nat} (hd : decode (am_code y) pc = .ok (.arraylength, len)) (hn : len = 1)  (hs : am_ex E sc y mc ms Φ P (.arraylength) a b kf kt tg pc lv st h k n) : am_Wt p l e R s m args below meth c y mc ms D ty A q0 h0 Qf (pc, lv, st, h, k, n) := by
  subst hn
  replace hs : am_r1 st _ := hs
  unfold am_r1 at hs
  split at hs
  · rename_i o r
    split at hs
    · cases hv9 : Nat.ble am_pV o with
      | true =>
        rw [hv9] at hs
        dsimp only at hs
        unfold am_b at hs
        split at hs
        · rename_i hb
          simp only [Bool.and_eq_true] at hb
          replace hb : Nat.ble am_pV o = true ∧ Nat.ble o (am_pV + 6) = true ∧ Nat.ble h.length am_pX = true := ⟨hv9, hb⟩
          have h1 := Nat.ble_eq.mp hb.1
          have h2 := Nat.ble_eq.mp hb.2.1
          have hh9 : h.length ≤ am_pX := Nat.ble_eq.mp hb.2.2
          obtain ⟨i9, hi9, rfl⟩ : ∃ i9, i9 < 7 ∧ o = am_pV + i9 := am_sp h1 h2
          rw [Nat.add_sub_cancel_left] at hs
          intro q H locs ls g1 g2 g3 g4 g5 g6 g7 g8
          have hq9 := am_X_ag g1 hh9 C.2.2.2.2.2.2.2.2.2.2.1
          exact va_tlen (t := q (am_pV + i9)) C.1 C.2.1 (hq9.1.2.1.1 i9 hi9).2.2.2 g5 rfl hd (hP _ (hs) q H locs ls g1 g2 g3 g4 g5 (am_has_pick _ g6) g7 g8)
        · exact hs.elim
      | false =>
       rw [hv9] at hs
       dsimp only at hs
       cases sc with
       | none => exact hs.elim
       | some w =>
        dsimp only at hs
        unfold am_b at hs
        split at hs
        · rename_i hb
          simp only [Bool.and_eq_true] at hb
          have e := Nat.eq_of_beq_eq_true hb.1
          subst e
          intro q H locs ls g1 g2 g3 g4 g5 g6 g7 g8
          have hh9 := Nat.ble_eq.mp hb.2
          have hq9 := am_X_ag g1 hh9 C.2.2.2.2.2.2.2.2.2.2.1
          exact va_tlen (t := q am_pL) C.1 C.2.1 (hq9.2.2.2.2 w rfl) g5 rfl hd (hP _ (hs) q H locs ls g1 g2 g3 g4 g5 (am_has_pick _ g6) g7 g8)
        · exact hs.elim
    unfold am_arr at hs
    split at hs
    · rename_i x hx
      obtain ⟨t, n9, z⟩ := x
      unfold am_b at hs
      split at hs
      · rename_i hb
        have ht : t ≤ 4 := Nat.ble_eq.mp hb
        have ht9 : ∃ f9, (am_tys ty)[t]? = some (ty t, f9) := by
          match t, ht with
          | 0, _ => exact ⟨_, rfl⟩
          | 1, _ => exact ⟨_, rfl⟩
          | 2, _ => exact ⟨_, rfl⟩
          | 3, _ => exact ⟨_, rfl⟩
          | 4, _ => exact ⟨_, rfl⟩
        obtain ⟨f9, hf9⟩ := ht9
        intro q H locs ls g1 g2 g3 g4 g5 g6 g7 g8
        have hl9 : (am_ra q (n9, z)).1 = n9 := by
          match z with
          | .inl _ => rfl
          | .inr (.inl _) => rfl
          | .inr (.inr (.inl _)) => rfl
          | .inr (.inr (.inr (.inl _))) => rfl
          | .inr (.inr (.inr (.inr _))) => rfl
        exact va_alen (v := Int32.ofNat n9) C.1 C.2.1 C.2.2.2.2.2.2.2.2.1 g3 o t (am_rz_get hx) hf9 (by rw [hl9]) hd (hP _ (hs) q H locs ls g1 g2 g3 g4 g5 (am_has_pick _ g6) g7 g8)
      · exact hs.elim
    · exact hs.elim
  · exact hs.elim
end OPS
