/-! ===== the rest: Math.max, Math.min, System.arraycopy, Object.<init>, aastore, new int[n][m] ===== -/
theorem am_w_maxS : Jvm.Cond.static Lib.Math.max.name ∈ wt_tbl := List.mem_of_getElem? (i := 252) (by decide +kernel)
theorem am_w_maxC : Jvm.Cond.code Lib.Math.max.name Lib.Math.max.code 2 (some .int) ∈ wt_tbl := List.mem_of_getElem? (i := 253) (by decide +kernel)
theorem am_w_minS : Jvm.Cond.static Lib.Math.min.name ∈ wt_tbl := List.mem_of_getElem? (i := 255) (by decide +kernel)
theorem am_w_minC : Jvm.Cond.code Lib.Math.min.name Lib.Math.min.code 2 (some .int) ∈ wt_tbl := List.mem_of_getElem? (i := 256) (by decide +kernel)
theorem am_w_mathI : Jvm.Cond.initialized "java/lang/Math" ∈ wt_tbl := List.mem_of_getElem? (i := 28) (by decide +kernel)
theorem am_w_acN : Jvm.Cond.native arraycopyName ∈ wt_tbl := List.mem_of_getElem? (i := 733) (by decide +kernel)
theorem am_w_acS : Jvm.Cond.static arraycopyName ∈ wt_tbl := List.mem_of_getElem? (i := 732) (by decide +kernel)
theorem am_w_sysI : Jvm.Cond.initialized "java/lang/System" ∈ wt_tbl := List.mem_of_getElem? (i := 39) (by decide +kernel)
theorem am_w_oiI : Jvm.Cond.instanceMethod objectInit ∈ wt_tbl := List.mem_of_getElem? (i := 47) (by decide +kernel)
theorem am_w_oiC : Jvm.Cond.code objectInit ⟨#[0xb1]⟩ 1 none ∈ wt_tbl := List.mem_of_getElem? (i := 48) (by decide +kernel)
theorem am_acw : nativeFrameWords "java/lang/System" "arraycopy" 5 ≤ 30 := by decide +kernel
section OPS
variable {p : Program} {l : Launch} {e : Env} {R : Room} {s : State} {m : MethodId} {args : Array Value} {below : List Frame} {meth : Method} {c : Code} {sc : Option (Nat × (Nat → Int32))} {y d mc ms : Nat} {Φ : Option Value → am_H → Prop} {D : va_G} {ty : Nat → ClassId} {A : Nat → Prop} {q0 : Nat → Nat} {h0 : am_H} {Qf : State → Prop}
variable {E : am_E} {P : am_S → Prop} {pc a b k n : Nat} {kf kt : Option (List Nat)} {tg : List (Nat × List Nat)} {lv : am_L} {st : List Value} {h : am_H}
theorem am_o_prim_max (C : am_Cx p l e R s m args below meth c sc y d mc ms Φ D ty A q0 h0 Qf) (hP : ∀ x : am_S, P x → am_Wt p l e R s m args below meth c y mc ms D ty A q0 h0 Qf x) {idx : Nat} {len : Nat} (hd : decode (am_code y) pc = .ok (.invokestatic idx, len)) (hn : len = 3) (ha : a = 9001) (hw : Jvm.Cond.methodLink (am_nm y).cls idx Lib.Math.max.name ∈ wt_tbl) (hs : am_ex E sc y mc ms Φ P (.invokestatic idx) a b kf kt tg pc lv st h k n) : am_Wt p l e R s m args below meth c y mc ms D ty A q0 h0 Qf (pc, lv, st, h, k, n) := by
  subst hn
  subst ha
  replace hs : am_i2 st _ := hs
  unfold am_i2 at hs
  split at hs
  · unfold am_b at hs
    split at hs
    · rename_i hcat
      intro q H locs ls g1 g2 g3 g4 g5 g6 g7 g8
      refine va_mmax C.1 C.2.1 (C.2.2.1.trans g6.1.symm) C.2.2.2.2.1 (C.2.2.2.2.2.2.2.1 _ (am_mg hw rfl)) (C.2.2.2.2.2.2.2.1 _ (am_mg am_w_maxS rfl)) (C.2.2.2.2.2.2.2.1 _ (am_mg am_w_mathI rfl)) (C.2.2.2.2.2.2.2.1 _ (am_mg am_w_maxC rfl)) (Nat.le_trans (by omega) C.2.2.2.1.2.2.1) ?_ (Nat.le_trans g7 C.2.2.2.1.1) (Nat.le_trans g8 C.2.2.2.1.2.1) hd (hP _ (hs) q H locs ls g1 g2 g3 g4 g5 (am_has_pick _ g6) g7 g8)
      rw [am_catm]
      have := Nat.ble_eq.mp hcat
      refine Nat.le_trans ?_ C.2.2.2.1.2.2.2
      omega
    · exact hs.elim
  · exact hs.elim
theorem am_o_prim_min (C : am_Cx p l e R s m args below meth c sc y d mc ms Φ D ty A q0 h0 Qf) (hP : ∀ x : am_S, P x → am_Wt p l e R s m args below meth c y mc ms D ty A q0 h0 Qf x) {idx : Nat} {len : Nat} (hd : decode (am_code y) pc = .ok (.invokestatic idx, len)) (hn : len = 3) (ha : a = 9002) (hw : Jvm.Cond.methodLink (am_nm y).cls idx Lib.Math.min.name ∈ wt_tbl) (hs : am_ex E sc y mc ms Φ P (.invokestatic idx) a b kf kt tg pc lv st h k n) : am_Wt p l e R s m args below meth c y mc ms D ty A q0 h0 Qf (pc, lv, st, h, k, n) := by
  subst hn
  subst ha
  replace hs : am_i2 st _ := hs
  unfold am_i2 at hs
  split at hs
  · unfold am_b at hs
    split at hs
    · rename_i hcat
      intro q H locs ls g1 g2 g3 g4 g5 g6 g7 g8
      refine va_mmin C.1 C.2.1 (C.2.2.1.trans g6.1.symm) C.2.2.2.2.1 (C.2.2.2.2.2.2.2.1 _ (am_mg hw rfl)) (C.2.2.2.2.2.2.2.1 _ (am_mg am_w_minS rfl)) (C.2.2.2.2.2.2.2.1 _ (am_mg am_w_mathI rfl)) (C.2.2.2.2.2.2.2.1 _ (am_mg am_w_minC rfl)) (Nat.le_trans (by omega) C.2.2.2.1.2.2.1) ?_ (Nat.le_trans g7 C.2.2.2.1.1) (Nat.le_trans g8 C.2.2.2.1.2.1) hd (hP _ (hs) q H locs ls g1 g2 g3 g4 g5 (am_has_pick _ g6) g7 g8)
      rw [am_catm]
      have := Nat.ble_eq.mp hcat
      refine Nat.le_trans ?_ C.2.2.2.1.2.2.2
      omega
    · exact hs.elim
  · exact hs.elim
theorem am_bfit0 : ∀ l ∈ am_byt, ∀ x ∈ l, fits .byte (.int x) = true := by decide +kernel
theorem am_bfit (i j : Nat) : fits .byte (.int ((am_byt.getD i []).getD j 0)) = true := by
  rw [List.getD_eq_getElem?_getD (l := am_byt.getD i [])]
  cases h : (am_byt.getD i [])[j]? with
  | none => rfl
  | some x =>
    refine am_bfit0 _ ?_ x (List.mem_of_getElem? h)
    rw [List.getD_eq_getElem?_getD]
    cases h2 : am_byt[i]? with
    | none =>
      rw [List.getD_eq_getElem?_getD, h2] at h
      cases h
    | some l => exact List.mem_of_getElem? h2
theorem am_o_prim_copy (C : am_Cx p l e R s m args below meth c sc y d mc ms Φ D ty A q0 h0 Qf) (hP : ∀ x : am_S, P x → am_Wt p l e R s m args below meth c y mc ms D ty A q0 h0 Qf x) {idx : Nat} {len : Nat} (hd : decode (am_code y) pc = .ok (.invokestatic idx, len)) (hn : len = 3) (ha : a = 9003) (hw : Jvm.Cond.methodLink (am_nm y).cls idx arraycopyName ∈ wt_tbl) (hs : am_ex E sc y mc ms Φ P (.invokestatic idx) a b kf kt tg pc lv st h k n) : am_Wt p l e R s m args below meth c y mc ms D ty A q0 h0 Qf (pc, lv, st, h, k, n) := by
  subst hn
  subst ha
  replace hs : am_i1 st _ := hs
  match st, hs with
  | .int w9 :: .int dp :: .ref o :: .int sp :: .ref o0 :: r, hs =>
    dsimp only [am_i1, am_r1] at hs
    split at hs
    · unfold am_b at hs
      split at hs
      · rename_i hb3
        simp only [Bool.and_eq_true] at hb3
        have h1 := Nat.ble_eq.mp hb3.1
        have h2 := Nat.ble_eq.mp hb3.2.1
        have hh9 : h.length ≤ am_pX := Nat.ble_eq.mp hb3.2.2
        obtain ⟨i9, hi9, rfl⟩ : ∃ i9, i9 < 7 ∧ o0 = am_pV + i9 := am_sp h1 h2
        simp only [Nat.add_sub_cancel_left] at hs
        unfold am_arr at hs
        split at hs
        · rename_i x1 hx1
          obtain ⟨t1, n1, z1⟩ := x1
          dsimp only at hs
          try unfold am_b at hs
          split at hs
          · rename_i hb
            simp only [Bool.and_eq_true] at hb
            have e1 := Nat.eq_of_beq_eq_true hb.1
            subst e1
            unfold am_ai at hs
            split at hs
            · rename_i g hg
              dsimp only at hg
              subst hg
              intro q H locs ls g1 g2 g3 g4 g5 g6 g7 g8
              have hq9 := am_X_ag g1 hh9 C.2.2.2.2.2.2.2.2.2.2.1
              refine vk_copyt (f := fun j => (am_byt.getD i9 []).getD j 0) C.1 C.2.1 (C.2.2.1.trans g6.1.symm) C.2.2.2.2.1 (C.2.2.2.2.2.2.2.1 _ (am_mg hw rfl)) (C.2.2.2.2.2.2.2.1 _ (am_mg am_w_acN rfl)) (C.2.2.2.2.2.2.2.1 _ (am_mg am_w_acS rfl)) (C.2.2.2.2.2.2.2.1 _ (am_mg am_w_sysI rfl)) C.2.2.2.2.2.2.2.2.1 g3 g4 g5 (hq9.1.2.1.1 i9 hi9).2.2.2 o 4 (am_rz_get hx1) rfl hs.1 hs.2.1 hs.2.2.1 hs.2.2.2.1 hs.2.2.2.2.1 (fun i _ => am_bfit i9 _) (Nat.le_trans (by omega) C.2.2.2.1.2.2.1) ?_ hd (fun H1 locs1 P1 D1 S1 => ?_)
              · have h9 := Nat.ble_eq.mp hb.2
                have h8 := am_acw
                rw [am_catm]
                refine Nat.le_trans ?_ C.2.2.2.1.2.2.2
                omega
              · rw [show (Sum.inl (ty 4, n1, .inl (va_cpy (fun j => (am_byt.getD i9 []).getD j 0) g sp.toNatClampNeg dp.toNatClampNeg w9.toNatClampNeg)) : va_E) = am_rc q ty (.inl (4, n1, .inl (va_cpy (fun j => (am_byt.getD i9 []).getD j 0) g sp.toNatClampNeg dp.toNatClampNeg w9.toNatClampNeg))) from rfl, am_rz_set] at P1 D1
                exact hP _ hs.2.2.2.2.2 q H1 locs1 ls (by rw [List.length_set]; exact g1) (by rw [List.length_set]; exact g2) P1 D1 S1 (am_has_pick _ g6) g7 g8
            · exact hs.elim
          · exact hs.elim
        · exact hs.elim
      · exact hs.elim
    · unfold am_arr at hs
      split at hs
      · rename_i x0 hx0
        obtain ⟨t0, n0, z0⟩ := x0
        dsimp only at hs
        split at hs
        · rename_i x1 hx1
          obtain ⟨t1, n1, z1⟩ := x1
          dsimp only at hs
          unfold am_b at hs
          split at hs
          · rename_i hb
            simp only [Bool.and_eq_true, Bool.or_eq_true] at hb
            have e1 := Nat.eq_of_beq_eq_true hb.2.1
            subst e1
            unfold am_ai at hs
            split at hs
            · rename_i f hf
              split at hs
              · rename_i g hg
                dsimp only at hf hg
                subst hf
                subst hg
                intro q H locs ls g1 g2 g3 g4 g5 g6 g7 g8
                rcases hb.1 with e0 | e0
                · have e0 := Nat.eq_of_beq_eq_true e0
                  try dsimp only at e0
                  subst e0
                  refine va_copyi (ty := .int) C.1 C.2.1 (C.2.2.1.trans g6.1.symm) C.2.2.2.2.1 (C.2.2.2.2.2.2.2.1 _ (am_mg hw rfl)) (C.2.2.2.2.2.2.2.1 _ (am_mg am_w_acN rfl)) (C.2.2.2.2.2.2.2.1 _ (am_mg am_w_acS rfl)) (C.2.2.2.2.2.2.2.1 _ (am_mg am_w_sysI rfl)) C.2.2.2.2.2.2.2.2.1 g3 g4 g5 o0 o 0 0 (am_rz_get hx0) (am_rz_get hx1) rfl rfl rfl hs.1 hs.2.1 hs.2.2.1 hs.2.2.2.1 hs.2.2.2.2.1 (fun _ _ => rfl) (Nat.le_trans (by omega) C.2.2.2.1.2.2.1) ?_ hd (fun H1 locs1 P1 D1 S1 => ?_)
                  · have h9 := Nat.ble_eq.mp hb.2.2
                    have h8 := am_acw
                    rw [am_catm]
                    refine Nat.le_trans ?_ C.2.2.2.1.2.2.2
                    omega
                  · rw [show (Sum.inl (ty 0, n1, .inl (va_cpy f g sp.toNatClampNeg dp.toNatClampNeg w9.toNatClampNeg)) : va_E) = am_rc q ty (.inl (0, n1, .inl (va_cpy f g sp.toNatClampNeg dp.toNatClampNeg w9.toNatClampNeg))) from rfl, am_rz_set] at P1 D1
                    exact hP _ hs.2.2.2.2.2.2 q H1 locs1 ls (by rw [List.length_set]; exact g1) (by rw [List.length_set]; exact g2) P1 D1 S1 (am_has_pick _ g6) g7 g8
                · have e0 := Nat.eq_of_beq_eq_true e0
                  try dsimp only at e0
                  subst e0
                  refine va_copyi (ty := .byte) C.1 C.2.1 (C.2.2.1.trans g6.1.symm) C.2.2.2.2.1 (C.2.2.2.2.2.2.2.1 _ (am_mg hw rfl)) (C.2.2.2.2.2.2.2.1 _ (am_mg am_w_acN rfl)) (C.2.2.2.2.2.2.2.1 _ (am_mg am_w_acS rfl)) (C.2.2.2.2.2.2.2.1 _ (am_mg am_w_sysI rfl)) C.2.2.2.2.2.2.2.2.1 g3 g4 g5 o0 o 4 4 (am_rz_get hx0) (am_rz_get hx1) rfl rfl rfl hs.1 hs.2.1 hs.2.2.1 hs.2.2.2.1 hs.2.2.2.2.1 (hs.2.2.2.2.2.1 rfl) (Nat.le_trans (by omega) C.2.2.2.1.2.2.1) ?_ hd (fun H1 locs1 P1 D1 S1 => ?_)
                  · have h9 := Nat.ble_eq.mp hb.2.2
                    have h8 := am_acw
                    rw [am_catm]
                    refine Nat.le_trans ?_ C.2.2.2.1.2.2.2
                    omega
                  · rw [show (Sum.inl (ty 4, n1, .inl (va_cpy f g sp.toNatClampNeg dp.toNatClampNeg w9.toNatClampNeg)) : va_E) = am_rc q ty (.inl (4, n1, .inl (va_cpy f g sp.toNatClampNeg dp.toNatClampNeg w9.toNatClampNeg))) from rfl, am_rz_set] at P1 D1
                    exact hP _ hs.2.2.2.2.2.2 q H1 locs1 ls (by rw [List.length_set]; exact g1) (by rw [List.length_set]; exact g2) P1 D1 S1 (am_has_pick _ g6) g7 g8
              · exact hs.elim
            · exact hs.elim
          · exact hs.elim
        · exact hs.elim
      · exact hs.elim
theorem am_o_prim_init (C : am_Cx p l e R s m args below meth c sc y d mc ms Φ D ty A q0 h0 Qf) (hP : ∀ x : am_S, P x → am_Wt p l e R s m args below meth c y mc ms D ty A q0 h0 Qf x) {idx : Nat} {len : Nat} (hd : decode (am_code y) pc = .ok (.invokespecial idx, len)) (hn : len = 3) (ha : a = 9999) (hw : Jvm.Cond.methodLink (am_nm y).cls idx objectInit ∈ wt_tbl) (hs : am_ex E sc y mc ms Φ P (.invokespecial idx) a b kf kt tg pc lv st h k n) : am_Wt p l e R s m args below meth c y mc ms D ty A q0 h0 Qf (pc, lv, st, h, k, n) := by
  subst hn
  subst ha
  unfold am_ex at hs
  dsimp only at hs
  rw [show Nat.beq 9999 9999 = true from rfl] at hs
  unfold am_b am_r1 at hs
  dsimp only at hs
  split at hs
  · rename_i o r
    try unfold am_b at hs
    split at hs
    · rename_i hcat
      intro q H locs ls g1 g2 g3 g4 g5 g6 g7 g8
      refine W.objInit C.1 C.2.1 C.2.2.2.2.1 (C.2.2.2.2.2.2.2.1 _ (am_mg hw rfl)) (C.2.2.2.2.2.2.2.1 _ (am_mg am_w_oiI rfl)) (C.2.2.2.2.2.2.2.1 _ (am_mg am_w_oiC rfl)) (g := F0 m pc ls (Value.ref (q o) :: r.map (am_rv q))) rfl (g6.1.trans C.2.2.1.symm) rfl hd (Nat.le_trans (by omega) C.2.2.2.1.2.2.1) ?_ (hP _ (hs) q H locs ls g1 g2 g3 g4 g5 (am_has_pick _ g6) g7 g8)
      have h9 := lv_room (m := m) (pc := pc) (ls := ls) (rest := Value.ref (q o) :: r.map (am_rv q)) (st := r.map (am_rv q)) (by rw [am_catm]; exact Nat.ble_eq.mp hcat)
      refine Nat.le_trans ?_ C.2.2.2.1.2.2.2
      omega
    · exact hs.elim
  · exact hs.elim
theorem am_o_aastore (C : am_Cx p l e R s m args below meth c sc y d mc ms Φ D ty A q0 h0 Qf) (hP : ∀ x : am_S, P x → am_Wt p l e R s m args below meth c y mc ms D ty A q0 h0 Qf x)  {len : Nat} (hd : decode (am_code y) pc = .ok (.aastore, len)) (hn : len = 1)  (hs : am_ex E sc y mc ms Φ P (.aastore) a b kf kt tg pc lv st h k n) : am_Wt p l e R s m args below meth c y mc ms D ty A q0 h0 Qf (pc, lv, st, h, k, n) := by
  subst hn
  replace hs : am_r1 st _ := hs
  match st, hs with
  | .ref w9 :: .int i :: .ref o :: r, hs =>
    dsimp only [am_i1, am_r1] at hs
    unfold am_arr at hs
    split at hs
    · rename_i x hx
      obtain ⟨t, n9, z⟩ := x
      dsimp only at hs
      unfold am_b at hs
      split at hs
      · rename_i hb
        have e := Nat.eq_of_beq_eq_true hb
        subst e
        unfold am_aq at hs
        split at hs
        · rename_i f hf
          dsimp only at hf
          subst hf
          unfold am_obj at hs
          split at hs
          · rename_i x1 hx1
            obtain ⟨ci, fs⟩ := x1
            dsimp only at hs
            split at hs
            · rename_i hb1
              have e1 := Nat.eq_of_beq_eq_true hb1
              subst e1
              have hlt : i.toNatClampNeg < n9 := Nat.not_le.mp fun q => hs.1 (Or.inr q)
              intro q H locs ls g1 g2 g3 g4 g5 g6 g7 g8
              refine va_astq (ci := 5) (r := (am_R 5, am_T 5, am_Nf 5)) C.1 C.2.1 C.2.2.2.2.2.2.2.2.1 g3 g4 g5 o 2 w9 (am_rz_get hx) rfl (am_rz_get hx1) (am_cl_get (by decide)) hs.1 hd (fun H1 locs1 P1 D1 S1 => ?_)
              have e9 : (Sum.inl (ty 2, n9, .inr (.inr (.inr (.inr (va_up (fun i => if i < n9 then (f i).map q else none) i.toNatClampNeg (some (q w9))))))) : va_E) = am_rc q ty (.inl (2, n9, .inr (.inr (.inr (.inr (va_up f i.toNatClampNeg (some w9))))))) := by
                show Sum.inl (ty 2, n9, _) = Sum.inl (ty 2, n9, _)
                congr 7
                funext j
                unfold va_up
                by_cases hj : j = i.toNatClampNeg
                · subst hj
                  rw [if_pos rfl, if_pos hlt, if_pos rfl]
                  rfl
                · rw [if_neg hj, if_neg hj]
              have P2 : va_P D vwCl ((am_rz q ty h).set o (q o, (Sum.inl (ty 2, n9, .inr (.inr (.inr (.inr (va_up (fun i => if i < n9 then (f i).map q else none) i.toNatClampNeg (some (q w9))))))) : va_E))) H1 := P1
              have D2 : va_D A ((am_rz q ty h).set o (q o, (Sum.inl (ty 2, n9, .inr (.inr (.inr (.inr (va_up (fun i => if i < n9 then (f i).map q else none) i.toNatClampNeg (some (q w9))))))) : va_E))) := D1
              rw [e9, am_rz_set] at P2 D2
              exact hP _ hs.2 q H1 locs1 ls (by rw [List.length_set]; exact g1) (by rw [List.length_set]; exact g2) P2 D2 S1 (am_has_pick _ g6) g7 g8
            · exact hs.elim
          · exact hs.elim
        · exact hs.elim
      · exact hs.elim
    · exact hs.elim
def am_yPC : MethodName := ⟨"jdk/internal/util/Preconditions", "checkIndex", "(IILjava/util/function/BiFunction;)I"⟩
def am_yCI : MethodName := ⟨"java/lang/String", "checkIndex", "(II)V"⟩
noncomputable def am_wPC : List Jvm.Cond := Jvm.Cond.code am_yPC prog_24_method_11_code 3 (some .int) :: am_tblg
noncomputable def am_wCI : List Jvm.Cond := Jvm.Cond.code am_yCI prog_17_method_155_code 2 none :: am_tblg
theorem am_wPCc : Jvm.Cond.code am_yPC prog_24_method_11_code 3 (some .int) ∈ wt_tbl := List.mem_of_getElem? (i := 185) rfl
theorem am_wCIc : Jvm.Cond.code am_yCI prog_17_method_155_code 2 none ∈ wt_tbl := List.mem_of_getElem? (i := 180) rfl
theorem am_wPCs : Jvm.Cond.static am_yPC ∈ wt_tbl := List.mem_of_getElem? (i := 184) rfl
theorem am_wCIs : Jvm.Cond.static am_yCI ∈ wt_tbl := List.mem_of_getElem? (i := 179) rfl
theorem am_wPCi : Jvm.Cond.initialized "jdk/internal/util/Preconditions" ∈ wt_tbl := List.mem_of_getElem? (i := 26) rfl
theorem am_wStr : Jvm.Cond.initialized "java/lang/String" ∈ wt_tbl := List.mem_of_getElem? (i := 24) rfl
theorem am_wPCl : Jvm.Cond.methodLink "java/lang/String" 1059 am_yPC ∈ wt_tbl := List.mem_of_getElem? (i := 183) rfl
theorem am_wSIO : Jvm.Cond.fieldLink "java/lang/String" 1053 "jdk/internal/util/Preconditions" "SIOOBE_FORMATTER" "Ljava/util/function/BiFunction;" ∈ wt_tbl := List.mem_of_getElem? (i := 181) rfl
theorem am_dP0 : decode prog_24_method_11_code 0 = .ok (.iload_n 0, 1) := by decide +kernel
theorem am_dP1 : decode prog_24_method_11_code 1 = .ok (.ifCond .lt 8, 3) := by decide +kernel
theorem am_dP4 : decode prog_24_method_11_code 4 = .ok (.iload_n 0, 1) := by decide +kernel
theorem am_dP5 : decode prog_24_method_11_code 5 = .ok (.iload_n 1, 1) := by decide +kernel
theorem am_dP6 : decode prog_24_method_11_code 6 = .ok (.if_icmp .lt 10, 3) := by decide +kernel
theorem am_dP16 : decode prog_24_method_11_code 16 = .ok (.iload_n 0, 1) := by decide +kernel
theorem am_dP17 : decode prog_24_method_11_code 17 = .ok (.ireturn, 1) := by decide +kernel
theorem am_dC0 : decode prog_17_method_155_code 0 = .ok (.iload_n 0, 1) := by decide +kernel
theorem am_dC1 : decode prog_17_method_155_code 1 = .ok (.iload_n 1, 1) := by decide +kernel
theorem am_dC2 : decode prog_17_method_155_code 2 = .ok (.getstatic 1053, 3) := by decide +kernel
theorem am_dC5 : decode prog_17_method_155_code 5 = .ok (.invokestatic 1059, 3) := by decide +kernel
theorem am_dC8 : decode prog_17_method_155_code 8 = .ok (.pop, 1) := by decide +kernel
theorem am_dC9 : decode prog_17_method_155_code 9 = .ok (.return_, 1) := by decide +kernel
theorem am_after0 {R : Room} {H : Heap} {locs : List Loc} {ls : Array Slot} {Q : State → Prop} {rest st0 : List Value} {Qa : State → Outcome → State → Prop} {r : Option Value} (hrun : va_Run p l e R s m args below meth c H locs k n 0 0 (F0 m pc ls st0) rest Qa (fun _ => False)) (hQ : ∀ (s0 : State) (v : Option Value) (t : State), Qa s0 (.returned v) t → v = r ∧ t.heap = s0.heap)
    (kk : W p l e R s m args below meth c H locs k n Q (F0 m (pc + 3) ls (r.toList ++ rest))) : W p l e R s m args below meth c H locs k n Q (F0 m pc ls st0) := by
  intro T hT X
  obtain ⟨v, st₀, t, T1, L, w0, X1, hL, e1, e2, hq, stp⟩ := hrun T hT X
  obtain ⟨rfl, hh⟩ := hQ _ _ _ hq
  have hL0 : L = [] := by
    cases L with
    | nil => rfl
    | cons x xs => exact (hL x List.mem_cons_self).elim
  subst hL0
  rw [List.append_nil] at X1
  obtain ⟨t2, a1, b1⟩ := kk T1 (by rw [e1, hh, w0]) X1
  exact ⟨t2, stp t2 a1, b1⟩
/-- Preconditions.checkIndex, within -/
theorem am_c_PC (l : Launch) (x z : Int32) (f : Value) (hf : f = .null ∨ ∃ a, f = .ref a) (h0 : ¬ x < 0) (h1 : x < z) : Met l am_yPC am_wPC { frames := 0, cells := 0, slots := 0, locals := 0 } (va_Pc [.int x, .int z, f] (fun _ => True)) (vp_Si (fun r => r = x)) 0 0 (fun _ => False) := by
  refine Met.ofW (cc := prog_24_method_11_code) (maxL := 3) (ret := some .int) (by decide +kernel) rfl ?_
  intro p e s m args below meth c s₁ B hml hv
  obtain ⟨rfl, -⟩ := hv
  have hx := B.exec
  have hb := B.bytes
  have hl := lv_entry ([.int x, .int z, f]) (n := 3) (by rcases hf with rfl | ⟨a, rfl⟩ <;> exact Nat.le_of_ble_eq_true rfl)
  rw [lg_entry_eq]
  generalize (lg_sl ([.int x, .int z, f]) ++ List.replicate (3 - (lg_sl ([.int x, .int z, f])).length) Slot.unset).toArray = ls at hl ⊢
  have hl : lv_has ls 3 [(0, .int x), (1, .int z), (2, f)] := hl
  refine lv_iload_n hx hb am_dP0 rfl (lv_at hl 0 rfl) ?_
  refine lv_if_lt (tgt := 9) hx hb am_dP1 (by decide) (fun w => absurd w h0) (fun _ => ?_)
  refine lv_iload_n hx hb am_dP4 rfl (lv_at hl 0 rfl) ?_
  refine lv_iload_n hx hb am_dP5 rfl (lv_at hl 1 rfl) ?_
  refine lv_icmp_lt (tgt := 16) hx hb am_dP6 (by decide) (fun _ => ?_) (fun w => absurd h1 w)
  refine lv_iload_n hx hb am_dP16 rfl (lv_at hl 0 rfl) ?_
  exact W.iret hx hb B.returns (fun t ht hW => ⟨x, rfl, rfl, ht⟩) (fun q hq => by cases hq) am_dP17 B.notSynchronized
/-- String.checkIndex, within -/
theorem am_c_CI (l : Launch) (x z : Int32) (h0 : ¬ x < 0) (h1 : x < z) : Met l am_yCI am_wCI { frames := 1, cells := 0, slots := 0, locals := 60 } (va_Pc [.int x, .int z] (fun U => va_Zq "jdk/internal/util/Preconditions" "SIOOBE_FORMATTER" "Ljava/util/function/BiFunction;" (fun _ => False) U U.heap)) (va_Sv (fun _ => True)) 0 0 (fun _ => False) := by
  refine Met.ofW (cc := prog_17_method_155_code) (maxL := 2) (ret := none) (by decide +kernel) rfl ?_
  intro p e s m args below meth c s₁ B hml hv
  obtain ⟨rfl, hZ⟩ := hv
  have hx := B.exec
  have hb := B.bytes
  have hts0 := atoms_spec (ws := am_wCI) B.pre
  have hts : ∀ w ∈ am_tblg, w.before ([.int x, .int z] : List Value).toArray s = true := fun w hw => hts0 w (List.mem_cons_of_mem _ hw)
  have hown : s.vm.findClass "java/lang/String" = some m.cls := findClass_of_methodNamed B.named
  have hl := lv_entry ([.int x, .int z]) (n := 2) (Nat.le_of_ble_eq_true rfl)
  rw [lg_entry_eq]
  generalize (lg_sl ([.int x, .int z]) ++ List.replicate (2 - (lg_sl ([.int x, .int z])).length) Slot.unset).toArray = ls at hl ⊢
  have hl : lv_has ls 2 [(0, .int x), (1, .int z)] := hl
  have key : ∀ f : Value, (f = .null ∨ ∃ a, f = .ref a) → va_Z "jdk/internal/util/Preconditions" "SIOOBE_FORMATTER" "Ljava/util/function/BiFunction;" f (fun _ => False) s s.heap → W p l e { frames := 1, cells := 0, slots := 0, locals := 60 } s m ([.int x, .int z] : List Value).toArray below meth c s.heap [] 0 0 (MQ below (va_Sv (fun _ => True)) ([.int x, .int z] : List Value).toArray s 0 0 (fun _ => False)) (F0 m 0 ls []) := by
    intro f hf hZ
    have hcat : f.category = 1 := by rcases hf with rfl | ⟨a, rfl⟩ <;> rfl
    refine lv_iload_n hx hb am_dC0 rfl (lv_at hl 0 rfl) ?_
    refine lv_iload_n hx hb am_dC1 rfl (lv_at hl 1 rfl) ?_
    refine va_gets hx hb hZ va_S.rf hown (hts _ (am_mg am_wSIO rfl)) (fun _ h => h) am_dC2 ?_
    refine am_after0 (r := some (.int x)) (va_runS (As := [.int x, .int z, f]) (rest := []) ⟨hx, hb, hml, hown, hts⟩ (am_c_PC l x z f hf h0 h1) ⟨callB_of 3 hts (fun w hw => by
        rcases List.mem_cons.mp hw with e | hw
        · subst e
          exact ⟨am_mg am_wPCc rfl, good_of_word rfl⟩
        · exact ⟨hw, good_of_word (List.mem_filter.mp hw).2⟩) rfl rfl rfl (hts _ (am_mg am_wPCi rfl)) (hts _ (am_mg am_wPCl rfl)) ⟨by decide +kernel, by decide +kernel, by decide +kernel⟩ ⟨Nat.le_of_ble_eq_true rfl, Nat.le_of_ble_eq_true rfl⟩, hts _ (am_mg am_wPCs rfl)⟩ ⟨fun _ _ _ _ q => q, fun U hU hW => ⟨rfl, trivial⟩⟩ rfl rfl hl.1 rfl (lv_room (Nat.zero_le _)) am_dC5 ⟨Nat.le_of_ble_eq_true rfl, Nat.le_of_ble_eq_true rfl⟩) (fun s0 v t hq => ?_) ?_
    · obtain ⟨r, hr, rfl, hh⟩ := hq
      exact ⟨by injection hr, hh⟩
    · refine lv_pop hx hb am_dC8 rfl ?_
      exact W.vret hx hb B.returns (fun t ht hW => ⟨rfl, trivial, ht⟩) (fun q hq => by cases hq) am_dC9 B.notSynchronized
  rcases hZ with hZ | ⟨t, hZ⟩
  · exact key _ (Or.inl rfl) hZ
  · exact key _ (Or.inr ⟨t, rfl⟩) hZ
theorem am_o_prim_check (C : am_Cx p l e R s m args below meth c sc y d mc ms Φ D ty A q0 h0 Qf) (hP : ∀ x : am_S, P x → am_Wt p l e R s m args below meth c y mc ms D ty A q0 h0 Qf x) {idx : Nat} {len : Nat} (hd : decode (am_code y) pc = .ok (.invokestatic idx, len)) (hn : len = 3) (ha : a = 9004) (hw : Jvm.Cond.methodLink (am_nm y).cls idx am_yCI ∈ wt_tbl) (hs : am_ex E sc y mc ms Φ P (.invokestatic idx) a b kf kt tg pc lv st h k n) : am_Wt p l e R s m args below meth c y mc ms D ty A q0 h0 Qf (pc, lv, st, h, k, n) := by
  subst hn
  subst ha
  replace hs : am_i2 st _ := hs
  unfold am_i2 at hs
  split at hs
  · rename_i z x r
    unfold am_b at hs
    split at hs
    · rename_i hb
      simp only [Bool.and_eq_true] at hb
      have hcat := Nat.ble_eq.mp hb.1
      have hh : h.length ≤ am_pX := Nat.ble_eq.mp hb.2
      intro q H locs ls g1 g2 g3 g4 g5 g6 g7 g8
      have hZq := (am_X_ag g1 hh C.2.2.2.2.2.2.2.2.2.2.1).1.2.2.2
      refine am_after0 (r := none) (va_runS (As := [.int x, .int z]) (rest := r.map (am_rv q)) ⟨C.1, C.2.1, C.2.2.1, C.2.2.2.2.1, C.2.2.2.2.2.2.2.1⟩ (am_c_CI l x z hs.1 hs.2.1) ⟨callB_of 2 C.2.2.2.2.2.2.2.1 (fun w9 hw9 => ?_) rfl rfl rfl (C.2.2.2.2.2.2.2.1 _ (am_mg am_wStr rfl)) (C.2.2.2.2.2.2.2.1 _ (am_mg hw rfl)) ⟨by decide +kernel, by decide +kernel, by decide +kernel⟩ ⟨Nat.le_trans (by show 1 + 1 ≤ d + 4; omega) C.2.2.2.1.2.2.1, Nat.le_trans (by show 8 + (2 + 11) + 60 ≤ 60 * (d + 4); omega) C.2.2.2.1.2.2.2⟩, C.2.2.2.2.2.2.2.1 _ (am_mg am_wCIs rfl)⟩ ⟨fun _ _ _ _ w => w, fun U hU hW => ⟨rfl, ?_⟩⟩ rfl rfl g6.1 rfl (lv_room (by rw [am_catm]; exact hcat)) hd ⟨Nat.le_trans g7 C.2.2.2.1.1, Nat.le_trans g8 C.2.2.2.1.2.1⟩) (fun s0 v t hq => ?_) ?_
      · rcases List.mem_cons.mp hw9 with e9 | hw9
        · subst e9
          exact ⟨am_mg am_wCIc rfl, good_of_word rfl⟩
        · exact ⟨hw9, good_of_word (List.mem_filter.mp hw9).2⟩
      · have h9 := ((hZq.kept g5.2.1).narrow (B := fun _ => False) (fun _ w => w.elim)).moved hW.alike
        rw [← hU] at h9
        exact h9
      · obtain ⟨hr, -, hh9⟩ := hq
        exact ⟨by injection hr, hh9⟩
      · exact (hP _ (hs.2.2) q H locs ls g1 g2 g3 g4 g5 (am_has_pick _ g6) g7 g8)
    · exact hs.elim
  · exact hs.elim
theorem am_rz_app2 {q : Nat → Nat} {h g : am_H} : am_rz q ty (h ++ g) = am_rz q ty h ++ g.mapIdx (fun k x => (q (h.length + k), am_rc q ty x)) := by
  unfold am_rz
  rw [List.mapIdx_append]
  congr 2
  funext k x
  rw [Nat.add_comm]
def am_qm (q : Nat → Nat) (r9 : Nat → Nat) (q9 N L : Nat) : Nat → Nat := fun j => if j = L then q9 else if L < j ∧ j < L + 1 + N then r9 (j - L - 1) else q j
theorem am_o_multianewarray (C : am_Cx p l e R s m args below meth c sc y d mc ms Φ D ty A q0 h0 Qf) (hP : ∀ x : am_S, P x → am_Wt p l e R s m args below meth c y mc ms D ty A q0 h0 Qf x) {idx : Nat} {len : Nat} (hd : decode (am_code y) pc = .ok (.multianewarray idx 2, len)) (hn : len = 4) (hw : Jvm.Cond.classLink (am_nm y).cls idx "[[I" ∈ wt_tbl) (hs : am_ex E sc y mc ms Φ P (.multianewarray idx 2) a b kf kt tg pc lv st h k n) : am_Wt p l e R s m args below meth c y mc ms D ty A q0 h0 Qf (pc, lv, st, h, k, n) := by
  subst hn
  replace hs : am_i2 st _ := hs
  unfold am_i2 at hs
  split at hs
  · rename_i x w r
    unfold am_b at hs
    split at hs
    · rename_i hn
      split at hs
      · rename_i hm
        simp only [Bool.and_eq_true, Bool.not_eq_true', decide_eq_false_iff_not] at hm
        obtain ⟨m1, m2, m3, m4, m5, m6⟩ := hm
        replace m3 := Nat.ble_eq.mp m3
        replace m4 := Nat.ble_eq.mp m4
        replace m5 := Nat.ble_eq.mp m5
        replace m6 := Nat.ble_eq.mp m6
        intro q H locs ls g1 g2 g3 g4 g5 g6 g7 g8
        have hP0 : va_P D vwCl (am_rz q ty h ++ va_pl [] (fun _ => .inr (0, []))) H := by show va_P D vwCl (am_rz q ty h ++ []) H; rw [List.append_nil]; exact g3
        have hD0 : va_D A (am_rz q ty h ++ va_pl [] (fun _ => .inr (0, []))) := by show va_D A (am_rz q ty h ++ []); rw [List.append_nil]; exact g4
        refine va_mna (ty := .int) (cy := ty 0) (L := []) (N' := w.toNatClampNeg) (K' := x.toNatClampNeg) (z := (x.toNatClampNeg, .inl (fun _ => 0))) C.1 C.2.1 C.2.2.2.2.1 (C.2.2.2.2.2.2.2.1 _ (am_mg hw rfl)) C.2.2.2.2.2.2.2.2.2.2.1.2.1.2.2 (C.2.2.2.2.2.2.2.1 _ (am_mg am_wI rfl)) (C.2.2.2.2.2.2.2.2.1.2 0 _ rfl).2 C.2.2.2.2.2.2.2.2.1 hP0 hD0 g5 C.2.2.2.2.2.2.2.2.2.1 m2 m1 rfl rfl (by omega) (by show x.toNatClampNeg * 4 ≤ _; omega) (by omega) rfl rfl (by show k + (1 + w.toNatClampNeg) ≤ R.cells; have := C.2.2.2.1.1; omega) (by show n + (w.toNatClampNeg + w.toNatClampNeg * x.toNatClampNeg) ≤ R.slots; have := C.2.2.2.1.2.1; omega) (fun c9 => ?_) hd (fun q9 r9 cA H1 hinj hout K1 P1 D1 S1 => ?_)
        · show _ = arrV c9 x.toNatClampNeg (fun _ => Value.int 0)
          rw [← arrV_new]
          rfl
        have hcA := am_tys_uniq (k := 3) C.2.2.2.2.2.2.2.2.1 rfl K1
        subst hcA
        simp only [am_nh, Bool.and_eq_true] at hn
        have hq : ∀ j, (j < h.length ∨ h.length + 1 + w.toNatClampNeg ≤ j) → am_qm q r9 q9 w.toNatClampNeg h.length j = q j := fun j hj => by
          unfold am_qm
          rw [if_neg (by omega), if_neg (by omega)]
        have e3 : am_rz (am_qm q r9 q9 w.toNatClampNeg h.length) ty ((h ++ [.inl (3, w.toNatClampNeg, .inr (.inr (.inr (.inr (fun i => some (h.length + 1 + i))))))]) ++ List.replicate w.toNatClampNeg (.inl (0, x.toNatClampNeg, .inl (fun _ => 0)))) = (am_rz q ty h ++ [(q9, .inl (ty 3, w.toNatClampNeg, .inr (.inr (.inr (.inr (fun i => if i < w.toNatClampNeg then some (r9 i) else none))))))]) ++ va_pl ([] ++ (List.range w.toNatClampNeg).map r9) (vr_up (fun _ => .inr (0, [])) ((List.range w.toNatClampNeg).map r9) (.inl (ty 0, x.toNatClampNeg, .inl (fun _ => 0)))) := by
          rw [am_rz_app2, am_rz_app, am_nh_rz hq (Nat.le_refl _) hn.2.2]
          congr 1
          · congr 2
            refine Prod.ext ?_ ?_
            · show am_qm q r9 q9 w.toNatClampNeg h.length h.length = q9
              unfold am_qm
              rw [if_pos rfl]
            · show Sum.inl (ty 3, w.toNatClampNeg, _) = Sum.inl (ty 3, w.toNatClampNeg, _)
              congr 7
              funext j
              by_cases hj : j < w.toNatClampNeg
              · rw [if_pos hj, if_pos hj]
                show some (am_qm q r9 q9 w.toNatClampNeg h.length (h.length + 1 + j)) = some (r9 j)
                unfold am_qm
                rw [if_neg (by omega), if_pos (by omega)]
                congr 2
                omega
              · rw [if_neg hj, if_neg hj]
          · apply List.ext_getElem?
            intro j
            unfold va_pl
            rw [List.getElem?_mapIdx, List.nil_append, List.getElem?_map, List.getElem?_map]
            by_cases hj : j < w.toNatClampNeg
            · rw [List.getElem?_range hj, List.getElem?_replicate, if_pos hj]
              show some (am_qm q r9 q9 w.toNatClampNeg h.length ((h ++ [_]).length + j), _) = some (r9 j, vr_up _ _ _ (r9 j))
              rw [vr_up_in (List.mem_map.mpr ⟨j, List.mem_range.mpr hj, rfl⟩)]
              congr 2
              unfold am_qm
              simp only [List.length_append, List.length_cons, List.length_nil]
              rw [if_neg (by omega), if_pos (by omega)]
              congr 1
              omega
            · rw [List.getElem?_replicate, if_neg hj, List.getElem?_eq_none (by rw [List.length_range]; omega)]
              rfl
        have eL : ((h ++ [(Sum.inl (3, w.toNatClampNeg, .inr (.inr (.inr (.inr (fun i => some (h.length + 1 + i)))))) : am_C)]) ++ List.replicate w.toNatClampNeg (Sum.inl (0, x.toNatClampNeg, .inl (fun _ => 0)) : am_C)).length = h.length + 1 + w.toNatClampNeg := by simp; omega
        have g29 : h0.length ≤ h.length := g2
        refine W.eq (g2 := F0 m (pc + 4) ls ((Value.ref h.length :: r).map (am_rv (am_qm q r9 q9 w.toNatClampNeg h.length)))) ?_ ?_
        · show F0 m (pc + 4) ls (Value.ref q9 :: r.map (am_rv q)) = F0 m (pc + 4) ls (Value.ref (am_qm q r9 q9 w.toNatClampNeg h.length h.length) :: r.map (am_rv (am_qm q r9 q9 w.toNatClampNeg h.length)))
          rw [am_ns_rv hq hn.2.1]
          unfold am_qm
          rw [if_pos rfl]
        · refine hP _ hs (am_qm q r9 q9 w.toNatClampNeg h.length) H1 locs ls (fun j hj => ?_) ?_ (by rw [e3]; exact P1) (by rw [e3]; exact D1) S1 (am_has_pick _ (by rw [am_nl_rl hq hn.1]; exact g6)) m5 m6
          · rw [eL] at hj
            rw [hq j (by omega)]
            exact g1 j (show j < h0.length ∨ h.length ≤ j by omega)
          · rw [eL]
            omega
      · exact hs.elim
    · exact hs.elim
  · exact hs.elim
end OPS
