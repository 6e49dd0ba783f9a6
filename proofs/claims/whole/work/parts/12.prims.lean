/-! ===== the rest: Math.max, Math.min, System.arraycopy, Object.<init>, aastore, new int[n][m] ===== -/
theorem am_w_maxS : Jvm.Cond.static Lib.Math.max.name ∈ lw_tbl := List.mem_of_getElem? (i := 306) (by decide +kernel)
theorem am_w_maxC : Jvm.Cond.code Lib.Math.max.name Lib.Math.max.code 2 (some .int) ∈ lw_tbl := List.mem_of_getElem? (i := 307) (by decide +kernel)
theorem am_w_minS : Jvm.Cond.static Lib.Math.min.name ∈ lw_tbl := List.mem_of_getElem? (i := 309) (by decide +kernel)
theorem am_w_minC : Jvm.Cond.code Lib.Math.min.name Lib.Math.min.code 2 (some .int) ∈ lw_tbl := List.mem_of_getElem? (i := 310) (by decide +kernel)
theorem am_w_mathI : Jvm.Cond.initialized "java/lang/Math" ∈ lw_tbl := List.mem_of_getElem? (i := 80) (by decide +kernel)
theorem am_w_acN : Jvm.Cond.native arraycopyName ∈ lw_tbl := List.mem_of_getElem? (i := 804) (by decide +kernel)
theorem am_w_acS : Jvm.Cond.static arraycopyName ∈ lw_tbl := List.mem_of_getElem? (i := 803) (by decide +kernel)
theorem am_w_sysI : Jvm.Cond.initialized "java/lang/System" ∈ lw_tbl := List.mem_of_getElem? (i := 88) (by decide +kernel)
theorem am_w_oiI : Jvm.Cond.instanceMethod objectInit ∈ lw_tbl := List.mem_of_getElem? (i := 95) (by decide +kernel)
theorem am_w_oiC : Jvm.Cond.code objectInit ⟨#[0xb1]⟩ 1 none ∈ lw_tbl := List.mem_of_getElem? (i := 96) (by decide +kernel)
theorem am_acw : nativeFrameWords "java/lang/System" "arraycopy" 5 ≤ 30 := by decide +kernel
section OPS
variable {p : Program} {l : Launch} {e : Env} {s : State} {m : MethodId} {args : Array Value} {below : List Frame} {meth : Method} {c : Code} {y d mc ms : Nat} {Φ : Option Value → am_H → Prop} {D : va_G} {ty : Nat → ClassId} {A : Nat → Prop} {q0 : Nat → Nat} {h0 : am_H} {Qc : Array Value → State → Outcome → State → Prop}
variable {E : am_E} {P : am_S → Prop} {pc a b k n : Nat} {kf kt : Option (List Nat)} {tg : List (Nat × List Nat)} {lv : am_L} {st : List Value} {h : am_H}
theorem am_o_prim_max (C : am_Cx p l e s m args meth c y d mc ms Φ D ty A q0 h0 Qc) (hP : ∀ x : am_S, P x → am_Wt p l e s m args below meth c y d mc ms D ty A q0 h0 Qc x) {idx : Nat} {len : Nat} (hd : decode (am_code y) pc = .ok (.invokestatic idx, len)) (hn : len = 3) (ha : a = 9001) (hw : Jvm.Cond.methodLink (am_nm y).cls idx Lib.Math.max.name ∈ lw_tbl) (hs : am_ex E y mc ms Φ P (.invokestatic idx) a b kf kt tg pc lv st h k n) : am_Wt p l e s m args below meth c y d mc ms D ty A q0 h0 Qc (pc, lv, st, h, k, n) := by
  subst hn
  subst ha
  replace hs : am_i2 st _ := hs
  unfold am_i2 at hs
  split at hs
  · unfold am_b at hs
    split at hs
    · rename_i hcat
      intro q H locs ls g1 g2 g3 g4 g5 g6 g7 g8
      refine va_mmax C.1 C.2.1 (C.2.2.1.trans g6.1.symm) C.2.2.2.2.1 (C.2.2.2.2.2.2.2.1 _ (am_mg hw rfl)) (C.2.2.2.2.2.2.2.1 _ (am_mg am_w_maxS rfl)) (C.2.2.2.2.2.2.2.1 _ (am_mg am_w_mathI rfl)) (C.2.2.2.2.2.2.2.1 _ (am_mg am_w_maxC rfl)) (by show 1 ≤ d + 1; omega) ?_ g7 g8 hd (hP _ (hs) q H locs ls g1 g2 g3 g4 g5 (am_has_pick _ g6) g7 g8)
      rw [am_catm]
      have := Nat.ble_eq.mp hcat
      show _ ≤ 60 * (d + 1)
      omega
    · exact hs.elim
  · exact hs.elim
theorem am_o_prim_min (C : am_Cx p l e s m args meth c y d mc ms Φ D ty A q0 h0 Qc) (hP : ∀ x : am_S, P x → am_Wt p l e s m args below meth c y d mc ms D ty A q0 h0 Qc x) {idx : Nat} {len : Nat} (hd : decode (am_code y) pc = .ok (.invokestatic idx, len)) (hn : len = 3) (ha : a = 9002) (hw : Jvm.Cond.methodLink (am_nm y).cls idx Lib.Math.min.name ∈ lw_tbl) (hs : am_ex E y mc ms Φ P (.invokestatic idx) a b kf kt tg pc lv st h k n) : am_Wt p l e s m args below meth c y d mc ms D ty A q0 h0 Qc (pc, lv, st, h, k, n) := by
  subst hn
  subst ha
  replace hs : am_i2 st _ := hs
  unfold am_i2 at hs
  split at hs
  · unfold am_b at hs
    split at hs
    · rename_i hcat
      intro q H locs ls g1 g2 g3 g4 g5 g6 g7 g8
      refine va_mmin C.1 C.2.1 (C.2.2.1.trans g6.1.symm) C.2.2.2.2.1 (C.2.2.2.2.2.2.2.1 _ (am_mg hw rfl)) (C.2.2.2.2.2.2.2.1 _ (am_mg am_w_minS rfl)) (C.2.2.2.2.2.2.2.1 _ (am_mg am_w_mathI rfl)) (C.2.2.2.2.2.2.2.1 _ (am_mg am_w_minC rfl)) (by show 1 ≤ d + 1; omega) ?_ g7 g8 hd (hP _ (hs) q H locs ls g1 g2 g3 g4 g5 (am_has_pick _ g6) g7 g8)
      rw [am_catm]
      have := Nat.ble_eq.mp hcat
      show _ ≤ 60 * (d + 1)
      omega
    · exact hs.elim
  · exact hs.elim
theorem am_o_prim_copy (C : am_Cx p l e s m args meth c y d mc ms Φ D ty A q0 h0 Qc) (hP : ∀ x : am_S, P x → am_Wt p l e s m args below meth c y d mc ms D ty A q0 h0 Qc x) {idx : Nat} {len : Nat} (hd : decode (am_code y) pc = .ok (.invokestatic idx, len)) (hn : len = 3) (ha : a = 9003) (hw : Jvm.Cond.methodLink (am_nm y).cls idx arraycopyName ∈ lw_tbl) (hs : am_ex E y mc ms Φ P (.invokestatic idx) a b kf kt tg pc lv st h k n) : am_Wt p l e s m args below meth c y d mc ms D ty A q0 h0 Qc (pc, lv, st, h, k, n) := by
  subst hn
  subst ha
  replace hs : am_i1 st _ := hs
  match st, hs with
  | .int w9 :: .int dp :: .ref o :: .int sp :: .ref o0 :: r, hs =>
    dsimp only [am_i1, am_r1] at hs
    unfold am_arr at hs
    split at hs
    · rename_i x0 hx0
      obtain ⟨t0, n0, z0⟩ := x0
      dsimp only at hs
      split at hs
      · rename_i x1 hx1
        obtain ⟨t1, n1, z1⟩ := x1
        dsimp only at hs
        unfold am_b at hs
        split at hs
        · rename_i hb
          simp only [Bool.and_eq_true] at hb
          have e0 := Nat.eq_of_beq_eq_true hb.1
          have e1 := Nat.eq_of_beq_eq_true hb.2.1
          subst e0
          subst e1
          unfold am_ai at hs
          split at hs
          · rename_i f hf
            split at hs
            · rename_i g hg
              dsimp only at hf hg
              subst hf
              subst hg
              intro q H locs ls g1 g2 g3 g4 g5 g6 g7 g8
              refine va_copyi (ty := .int) C.1 C.2.1 (C.2.2.1.trans g6.1.symm) C.2.2.2.2.1 (C.2.2.2.2.2.2.2.1 _ (am_mg hw rfl)) (C.2.2.2.2.2.2.2.1 _ (am_mg am_w_acN rfl)) (C.2.2.2.2.2.2.2.1 _ (am_mg am_w_acS rfl)) (C.2.2.2.2.2.2.2.1 _ (am_mg am_w_sysI rfl)) C.2.2.2.2.2.2.2.2.1 g3 g4 g5 o0 o 0 0 (am_rz_get hx0) (am_rz_get hx1) rfl rfl rfl hs.1 hs.2.1 hs.2.2.1 hs.2.2.2.1 hs.2.2.2.2.1 (fun _ _ => rfl) (by show 1 ≤ d + 1; omega) ?_ hd (fun H1 locs1 P1 D1 S1 => ?_)
              · have h9 := Nat.ble_eq.mp hb.2.2
                have h8 := am_acw
                rw [am_catm]
                show _ ≤ 60 * (d + 1)
                omega
              · rw [show (Sum.inl (ty 0, n1, .inl (va_cpy f g sp.toNatClampNeg dp.toNatClampNeg w9.toNatClampNeg)) : va_E) = am_rc q ty (.inl (0, n1, .inl (va_cpy f g sp.toNatClampNeg dp.toNatClampNeg w9.toNatClampNeg))) from rfl, am_rz_set] at P1 D1
                exact hP _ hs.2.2.2.2.2 q H1 locs1 ls (by rw [List.length_set]; exact g1) (by rw [List.length_set]; exact g2) P1 D1 S1 (am_has_pick _ g6) g7 g8
            · exact hs.elim
          · exact hs.elim
        · exact hs.elim
      · exact hs.elim
    · exact hs.elim
theorem am_o_prim_init (C : am_Cx p l e s m args meth c y d mc ms Φ D ty A q0 h0 Qc) (hP : ∀ x : am_S, P x → am_Wt p l e s m args below meth c y d mc ms D ty A q0 h0 Qc x) {idx : Nat} {len : Nat} (hd : decode (am_code y) pc = .ok (.invokespecial idx, len)) (hn : len = 3) (ha : a = 9999) (hw : Jvm.Cond.methodLink (am_nm y).cls idx objectInit ∈ lw_tbl) (hs : am_ex E y mc ms Φ P (.invokespecial idx) a b kf kt tg pc lv st h k n) : am_Wt p l e s m args below meth c y d mc ms D ty A q0 h0 Qc (pc, lv, st, h, k, n) := by
  subst hn
  subst ha
  unfold am_ex at hs
  dsimp only at hs
  rw [show Nat.beq 9999 9999 = true from rfl] at hs
  unfold am_b am_r1 at hs
  dsimp only at hs
  split at hs
  · rename_i o r
    try unfold am_b at hs
    split at hs
    · rename_i hcat
      intro q H locs ls g1 g2 g3 g4 g5 g6 g7 g8
      refine W.objInit C.1 C.2.1 C.2.2.2.2.1 (C.2.2.2.2.2.2.2.1 _ (am_mg hw rfl)) (C.2.2.2.2.2.2.2.1 _ (am_mg am_w_oiI rfl)) (C.2.2.2.2.2.2.2.1 _ (am_mg am_w_oiC rfl)) (g := F0 m pc ls (Value.ref (q o) :: r.map (am_rv q))) rfl (g6.1.trans C.2.2.1.symm) rfl hd (by show 1 ≤ d + 1; omega) ?_ (hP _ (hs) q H locs ls g1 g2 g3 g4 g5 (am_has_pick _ g6) g7 g8)
      have h9 := lv_room (m := m) (pc := pc) (ls := ls) (rest := Value.ref (q o) :: r.map (am_rv q)) (st := r.map (am_rv q)) (by rw [am_catm]; exact Nat.ble_eq.mp hcat)
      show _ ≤ 60 * (d + 1)
      omega
    · exact hs.elim
  · exact hs.elim
theorem am_o_aastore (C : am_Cx p l e s m args meth c y d mc ms Φ D ty A q0 h0 Qc) (hP : ∀ x : am_S, P x → am_Wt p l e s m args below meth c y d mc ms D ty A q0 h0 Qc x)  {len : Nat} (hd : decode (am_code y) pc = .ok (.aastore, len)) (hn : len = 1)  (hs : am_ex E y mc ms Φ P (.aastore) a b kf kt tg pc lv st h k n) : am_Wt p l e s m args below meth c y d mc ms D ty A q0 h0 Qc (pc, lv, st, h, k, n) := by
  subst hn
  replace hs : am_r1 st _ := hs
  match st, hs with
  | .ref w9 :: .int i :: .ref o :: r, hs =>
    dsimp only [am_i1, am_r1] at hs
    unfold am_arr at hs
    split at hs
    · rename_i x hx
      obtain ⟨t, n9, z⟩ := x
      dsimp only at hs
      unfold am_b at hs
      split at hs
      · rename_i hb
        have e := Nat.eq_of_beq_eq_true hb
        subst e
        unfold am_aq at hs
        split at hs
        · rename_i f hf
          dsimp only at hf
          subst hf
          unfold am_obj at hs
          split at hs
          · rename_i x1 hx1
            obtain ⟨ci, fs⟩ := x1
            dsimp only at hs
            split at hs
            · rename_i hb1
              have e1 := Nat.eq_of_beq_eq_true hb1
              subst e1
              have hlt : i.toNatClampNeg < n9 := Nat.not_le.mp fun q => hs.1 (Or.inr q)
              intro q H locs ls g1 g2 g3 g4 g5 g6 g7 g8
              refine va_astq (ci := 5) (r := (am_R 5, am_T 5, am_Nf 5)) C.1 C.2.1 C.2.2.2.2.2.2.2.2.1 g3 g4 g5 o 2 w9 (am_rz_get hx) rfl (am_rz_get hx1) (am_cl_get (by decide)) hs.1 hd (fun H1 locs1 P1 D1 S1 => ?_)
              have e9 : (Sum.inl (ty 2, n9, .inr (.inr (.inr (.inr (va_up (fun i => if i < n9 then (f i).map q else none) i.toNatClampNeg (some (q w9))))))) : va_E) = am_rc q ty (.inl (2, n9, .inr (.inr (.inr (.inr (va_up f i.toNatClampNeg (some w9))))))) := by
                show Sum.inl (ty 2, n9, _) = Sum.inl (ty 2, n9, _)
                congr 7
                funext j
                unfold va_up
                by_cases hj : j = i.toNatClampNeg
                · subst hj
                  rw [if_pos rfl, if_pos hlt, if_pos rfl]
                  rfl
                · rw [if_neg hj, if_neg hj]
              have P2 : va_P D vwCl ((am_rz q ty h).set o (q o, (Sum.inl (ty 2, n9, .inr (.inr (.inr (.inr (va_up (fun i => if i < n9 then (f i).map q else none) i.toNatClampNeg (some (q w9))))))) : va_E))) H1 := P1
              have D2 : va_D A ((am_rz q ty h).set o (q o, (Sum.inl (ty 2, n9, .inr (.inr (.inr (.inr (va_up (fun i => if i < n9 then (f i).map q else none) i.toNatClampNeg (some (q w9))))))) : va_E))) := D1
              rw [e9, am_rz_set] at P2 D2
              exact hP _ hs.2 q H1 locs1 ls (by rw [List.length_set]; exact g1) (by rw [List.length_set]; exact g2) P2 D2 S1 (am_has_pick _ g6) g7 g8
            · exact hs.elim
          · exact hs.elim
        · exact hs.elim
      · exact hs.elim
    · exact hs.elim
end OPS
