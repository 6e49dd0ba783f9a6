/-! ===== calls ===== -/
section OPS
variable {p : Program} {l : Launch} {e : Env} {R : Room} {s : State} {m : MethodId} {args : Array Value} {below : List Frame} {meth : Method} {c : Code} {sc : Option (Nat × (Nat → Int32))} {y d mc ms : Nat} {Φ : Option Value → am_H → Prop} {D : va_G} {ty : Nat → ClassId} {A : Nat → Prop} {q0 : Nat → Nat} {h0 : am_H} {Qf : State → Prop}
variable {E : am_E} {P : am_S → Prop} {pc a b k n : Nat} {kf kt : Option (List Nat)} {tg : List (Nat × List Nat)} {lv : am_L} {st : List Value} {h : am_H}
theorem am_blind {sc : Option (Nat × (Nat → Int32))} {D : va_G} {ty : Nat → ClassId} {q : Nat → Nat} {h : am_H} {sz : Nat} {av : List Value} : FrameBlind (va_Pc av (am_P sc D ty q h sz)) := fun a U g mk w => by
  obtain ⟨w0, w1, w2, w3, w4, w5⟩ := w
  exact ⟨w0, w1, w2, va_K.moved (u := U) (U := U.calling g mk a) (Vm.Alike.refl U.vm) w3, w4, am_X_same (u := U) (U := U.calling g mk a) rfl w5⟩
theorem am_goodin {z : Nat} (hz : am_mok z) : GoodIn am_tblg (am_ws z) := by
  intro w hw
  rcases List.mem_cons.mp hw with e | hw
  · subst e
    exact ⟨am_mg hz.1 rfl, good_of_word rfl⟩
  · exact ⟨hw, good_of_word (List.mem_filter.mp hw).2⟩
/-- what a callee needs of its start -/
theorem am_start (C : am_Cx p l e R s m args below meth c sc y d mc ms Φ D ty A q0 h0 Qf) {q : Nat → Nat} {H : Heap} {locs : List Loc} {as : List Value} (hh : h.length ≤ am_pX) (g1 : am_ag q0 q h0.length h.length) (g3 : va_P D vwCl (am_rz q ty h) H) (g4 : va_D A (am_rz q ty h)) (g5 : va_S A s.heap H locs) :
    PreS s H (va_Pc (as.map (am_rv q)) (am_P sc D ty q h H.size)) (as.map (am_rv q)) ∧ (∀ x, va_A (am_rz q ty h) H.size x → A x) := by
  have hA1 : ∀ x, va_A (am_rz q ty h) H.size x → A x := fun x hx => by
    rcases hx with ⟨k9, e9, hx⟩ | hx
    · exact g4.2 k9 _ hx
    · exact C.2.2.2.2.2.2.2.2.2.1 x (Nat.le_trans g5.1 hx)
  refine ⟨⟨am_blind, fun U hU hW => ⟨rfl, by rw [hU], by rw [hU]; exact g3, va_K.moved hW.alike C.2.2.2.2.2.2.2.2.1, g4.weaken (fun _ _ _ _ => trivial), ?_⟩⟩, hA1⟩
  rw [hU]
  exact am_X_warm hW (am_X_narrow (am_X_kept (am_X_ag g1 hh C.2.2.2.2.2.2.2.2.2.2.1) g5.2.1) hA1)
/-- behind a call -/
theorem am_after (C : am_Cx p l e R s m args below meth c sc y d mc ms Φ D ty A q0 h0 Qf) (hP : ∀ x : am_S, P x → am_Wt p l e R s m args below meth c y mc ms D ty A q0 h0 Qf x) {z mc1 ms1 : Nat} {as rest : List Value} {r : Option Value} {h1 : am_H} {q : Nat → Nat} {H : Heap} {locs : List Loc} {ls : Array Slot} {av : Array Value} (hle : h.length ≤ h1.length) (hk : k + mc1 ≤ mc) (hm : n + ms1 ≤ ms) (hr : h1.length = h.length ∨ am_nh h.length h1.length lv rest [] = true) (hp : P (pc + 3, am_pick kf lv, r.toList ++ rest, h1, k + mc1, n + ms1))
    (g1 : am_ag q0 q h0.length h.length) (g2 : h0.length ≤ h.length) (g5 : va_S A s.heap H locs) (g6 : lv_has ls (am_ml y) (am_rl q lv)) (hA1 : ∀ x, va_A (am_rz q ty h) H.size x → A x)
    (hrun : va_Run p l e (R) s m args below meth c H locs k n mc1 ms1 (F0 m pc ls st) (rest.map (am_rv q)) (am_Q D ty q h r h1 H.size av) (va_A (am_rz q ty h) H.size)) :
    W p l e (R) s m args below meth c H locs k n Qf (F0 m pc ls st) := by
  intro T hT X
  obtain ⟨v, st₀, t, T1, L, w0, X1, hL, e1, e2, ⟨⟨q1, f1, f2, f3, f4, f5⟩, f6⟩, stp⟩ := hrun T hT X
  have hv : v = r.map (am_rv q1) := by
    injection f2
  have hrest : rest.map (am_rv q1) = rest.map (am_rv q) ∧ am_rl q1 lv = am_rl q lv := by
    rcases hr with hr | hr
    · have hq : q1 = q := by
        funext j
        refine f1 j ?_
        rw [hr]
        omega
      rw [hq]
      exact ⟨rfl, rfl⟩
    · simp only [am_nh, Bool.and_eq_true] at hr
      exact ⟨am_ns_rv f1 hr.2.1, am_nl_rl f1 hr.1⟩
  have hz : va_S A s.heap T1.heap (locs ++ L) := by
    rw [e1]
    refine ⟨Nat.le_trans g5.1 (by rw [← w0]; exact f6.1), fun x h8 h9 => ?_, fun x hx => ?_⟩
    · rw [f6.2 x (by rw [w0]; exact Nat.lt_of_lt_of_le h8 g5.1) (fun w => h9 (hA1 x w)), w0]
      exact g5.2.1 x h8 h9
    · rcases List.mem_append.mp hx with hx | hx
      · exact g5.2.2 x hx
      · exact hA1 _ (hL x hx)
  have kk := hP _ hp q1 T1.heap (locs ++ L) ls (fun j hj => by
      have hj : j < h0.length ∨ h1.length ≤ j := hj
      rw [f1 j (by omega)]
      exact g1 j (by omega)) (Nat.le_trans g2 hle) (by rw [e1]; exact f3) ⟨f5.1, fun k9 x hx => hA1 _ (f5.2 k9 x hx)⟩ hz (am_has_pick _ (by rw [hrest.2]; exact g6)) hk hm
  obtain ⟨t2, a1, b1⟩ := kk T1 rfl X1
  refine ⟨t2, stp t2 ?_, b1⟩
  have es : v.toList ++ rest.map (am_rv q) = (r.toList ++ rest).map (am_rv q1) := by
    rw [hv, List.map_append, hrest.1]
    cases r <;> rfl
  rw [es]
  exact a1
theorem am_catm {q : Nat → Nat} (rest : List Value) : ((rest.map (am_rv q)).map fun v => v.category).sum = am_cat rest := by
  unfold am_cat
  rw [List.map_map]
  congr 1
  apply List.map_congr_left
  intro x _
  exact am_rv_cat q x
theorem am_v_sup : Jvm.Cond.superclass "java/lang/StringBuilder" "java/lang/AbstractStringBuilder" ∈ wt_tbl := List.mem_of_getElem? (i := 690) (by decide +kernel)
theorem am_v_same : Jvm.Cond.sameMethod "java/lang/AbstractStringBuilder" "java/lang/AbstractStringBuilder" "length" "()I" ∈ wt_tbl := List.mem_of_getElem? (i := 828) (by decide +kernel)
theorem am_v_sel : Jvm.Cond.selects "java/lang/StringBuilder" ⟨"java/lang/AbstractStringBuilder", "length", "()I"⟩ ⟨"java/lang/StringBuilder", "length", "()I"⟩ ∈ wt_tbl := List.mem_of_getElem? (i := 829) (by decide +kernel)
theorem am_o_invokestatic (C : am_Cx p l e R s m args below meth c sc y d mc ms Φ D ty A q0 h0 Qf) (hP : ∀ x : am_S, P x → am_Wt p l e R s m args below meth c y mc ms D ty A q0 h0 Qf x) {idx : Nat} (hE : ∀ (z : Nat) (as : List Value) (h : am_H) (r : Option Value) (h1 : am_H) (mc1 ms1 : Nat), z < 129 → E z as h r h1 mc1 ms1 → am_MetD sc l d D ty z as h r h1 mc1 ms1) {len : Nat} (hd : decode (am_code y) pc = .ok (.invokestatic idx, len)) (hn : len = 3) (ha : Nat.ble 9000 a = false) (hlt : a < 129) (hz : am_mok a) (hw : (b = 0 ∧ Jvm.Cond.methodLink (am_nm y).cls idx (am_nm a) ∈ wt_tbl) ∨ (b = 1 ∧ ∃ host, Jvm.Cond.methodLinkNest (am_nm y).cls idx (am_nm a) host ∈ wt_tbl)) (hs : am_ex E sc y mc ms Φ P (.invokestatic idx) a b kf kt tg pc lv st h k n) : am_Wt p l e R s m args below meth c y mc ms D ty A q0 h0 Qf (pc, lv, st, h, k, n) := by
  subst hn
  unfold am_ex at hs
  dsimp only at hs
  rw [ha] at hs
  dsimp only at hs
  split at hs
  · rename_i as rest ht
    unfold am_b at hs
    split at hs
    · rename_i hkd
      have hkd := Nat.eq_of_beq_eq_true hkd
      unfold am_call am_b at hs
      split at hs
      · rename_i hcat
        simp only [Bool.and_eq_true] at hcat
        have hh := Nat.ble_eq.mp hcat.2
        replace hcat := hcat.1
        obtain ⟨r, h1, mc1, ms1, he, hle, hk9, hm9, hr, hp⟩ := hs
        obtain ⟨xs, ex1, ex2, ex3⟩ := am_take_ok _ _ _ _ _ ht
        rw [List.append_nil] at ex1
        subst ex1
        intro q H locs ls g1 g2 g3 g4 g5 g6 g7 g8
        obtain ⟨hpre, hA1⟩ := am_start (as := as) C hh g1 g3 g4 g5
        have hM := hE a as h r h1 mc1 ms1 hlt he q H.size hle
        have hkw : (match am_kd a with | 0 => Jvm.Cond.static (am_nm a) | _ => Jvm.Cond.instanceMethod (am_nm a)) ∈ wt_tbl := hz.2.1
        rw [hkd] at hkw
        have hst : st.map (am_rv q) = (as.map (am_rv q)).reverse ++ rest.map (am_rv q) := by
          rw [ex2, List.map_append, List.map_reverse]
        refine am_after (z := a) (as := as) C hP hle hk9 hm9 hr hp g1 g2 g5 g6 hA1 (?_ : va_Run p l e R s m args below meth c H locs k n mc1 ms1 (F0 m pc ls (st.map (am_rv q))) (rest.map (am_rv q)) (am_Q D ty q h r h1 H.size (List.map (am_rv q) as).toArray) (va_A (am_rz q ty h) H.size))
        rcases hw with ⟨-, hw⟩ | ⟨-, host, hw⟩
        · exact va_runS (As := as.map (am_rv q)) ⟨C.1, C.2.1, C.2.2.1, C.2.2.2.2.1, C.2.2.2.2.2.2.2.1⟩ hM ⟨callB_of (am_na a) C.2.2.2.2.2.2.2.1 (am_goodin hz) rfl rfl rfl (C.2.2.2.2.2.2.2.1 _ (am_mg hz.2.2.2.2.2.1 rfl)) (C.2.2.2.2.2.2.2.1 _ (am_mg hw rfl)) hz.2.2.2.2.2.2.1 ⟨C.2.2.2.1.2.2.1, Nat.le_trans (by show 8 + (am_ml a + 11) + 60 * (d + 3) ≤ 60 * (d + 4); have := hz.2.2.2.2.2.2.2.1; omega) C.2.2.2.1.2.2.2⟩, C.2.2.2.2.2.2.2.1 _ (am_mg hkw rfl)⟩ hpre rfl (by rw [List.length_map]; exact ex3) g6.1 hst (lv_room (by rw [am_catm]; exact Nat.ble_eq.mp hcat)) hd ⟨Nat.le_trans hk9 C.2.2.2.1.1, Nat.le_trans hm9 C.2.2.2.1.2.1⟩
        · exact va_runSN (As := as.map (am_rv q)) ⟨C.1, C.2.1, C.2.2.1, C.2.2.2.2.1, C.2.2.2.2.2.2.2.1⟩ hM ⟨va_cnB (am_na a) C.2.2.2.2.2.2.2.1 (am_goodin hz) rfl rfl rfl (C.2.2.2.2.2.2.2.2.2.2.1.2.1.1 _ hw rfl) (C.2.2.2.2.2.2.2.1 _ (am_mg hz.2.2.2.2.2.1 rfl)) hz.2.2.2.2.2.2.1 ⟨C.2.2.2.1.2.2.1, Nat.le_trans (by show 8 + (am_ml a + 11) + 60 * (d + 3) ≤ 60 * (d + 4); have := hz.2.2.2.2.2.2.2.1; omega) C.2.2.2.1.2.2.2⟩, C.2.2.2.2.2.2.2.1 _ (am_mg hkw rfl), trivial⟩ hpre rfl (by rw [List.length_map]; exact ex3) g6.1 hst (lv_room (by rw [am_catm]; exact Nat.ble_eq.mp hcat)) hd ⟨Nat.le_trans hk9 C.2.2.2.1.1, Nat.le_trans hm9 C.2.2.2.1.2.1⟩
      · exact hs.elim
    · exact hs.elim
  · exact hs.elim
theorem am_o_invokevirtual (C : am_Cx p l e R s m args below meth c sc y d mc ms Φ D ty A q0 h0 Qf) (hP : ∀ x : am_S, P x → am_Wt p l e R s m args below meth c y mc ms D ty A q0 h0 Qf x) {idx : Nat} (hE : ∀ (z : Nat) (as : List Value) (h : am_H) (r : Option Value) (h1 : am_H) (mc1 ms1 : Nat), z < 129 → E z as h r h1 mc1 ms1 → am_MetD sc l d D ty z as h r h1 mc1 ms1) {len : Nat} (hd : decode (am_code y) pc = .ok (.invokevirtual idx, len)) (hn : len = 3) (ha : Nat.ble 9000 a = false) (hlt : a < 129) (hz : am_mok a) (hw3 : (b = 2 ∧ am_nm a = ⟨"java/lang/StringBuilder", "length", "()I"⟩ ∧ Jvm.Cond.methodLink (am_nm y).cls idx ⟨"java/lang/AbstractStringBuilder", "length", "()I"⟩ ∈ wt_tbl) ∨ (b = 0 ∧ Jvm.Cond.methodLink (am_nm y).cls idx (am_nm a) ∈ wt_tbl) ∨ (b = 1 ∧ ∃ host, Jvm.Cond.methodLinkNest (am_nm y).cls idx (am_nm a) host ∈ wt_tbl)) (hs : am_ex E sc y mc ms Φ P (.invokevirtual idx) a b kf kt tg pc lv st h k n) : am_Wt p l e R s m args below meth c y mc ms D ty A q0 h0 Qf (pc, lv, st, h, k, n) := by
  subst hn
  unfold am_ex at hs
  dsimp only at hs
  rw [ha] at hs
  dsimp only at hs
  split at hs
  · rename_i as o rest ht
    cases hkd1 : Nat.beq (am_kd a) 1 with
    | true =>
      rw [hkd1] at hs
      dsimp only at hs
      have hkd := Nat.eq_of_beq_eq_true hkd1
      have hcl9 := hz.2.2.2.1 hkd
      cases h90 : (Nat.beq (am_ci a) 8 && Nat.ble am_pS o) with
      | true =>
        rw [h90] at hs
        dsimp only at hs
        simp only [Bool.and_eq_true] at h90
        unfold am_b at hs
        split at hs
        · rename_i hb
          simp only [Bool.and_eq_true, Bool.not_eq_true'] at hb
          have hb2 := hb.2
          have e8 := Nat.eq_of_beq_eq_true h90.1
          have hcl : (am_nm a).cls = "java/lang/String" := by rw [hcl9.1, e8]; rfl
          obtain ⟨i9, hi9, eo⟩ : ∃ i9, i9 < 7 ∧ o = am_pS + i9 := am_sp (Nat.ble_eq.mp h90.2) (Nat.ble_eq.mp hb.1)
          have hw : (b = 0 ∧ Jvm.Cond.methodLink (am_nm y).cls idx (am_nm a) ∈ wt_tbl) ∨ (b = 1 ∧ ∃ host, Jvm.Cond.methodLinkNest (am_nm y).cls idx (am_nm a) host ∈ wt_tbl) := by
            rcases hw3 with e | e
            · rw [e.1] at hb2
              cases hb2
            · exact e
          unfold am_call am_b at hs
          split at hs
          · rename_i hcat
            simp only [Bool.and_eq_true] at hcat
            have hh := Nat.ble_eq.mp hcat.2
            replace hcat := hcat.1
            obtain ⟨r, h1, mc1, ms1, he, hle, hk9, hm9, hr, hp⟩ := hs
            obtain ⟨xs, ex1, ex2, ex3⟩ := am_take_ok _ _ _ _ _ ht
            rw [List.append_nil] at ex1
            subst ex1
            intro q H locs ls g1 g2 g3 g4 g5 g6 g7 g8
            obtain ⟨hpre, hA1⟩ := am_start (as := (.ref o :: as)) C hh g1 g3 g4 g5
            have hM := hE a (.ref o :: as) h r h1 mc1 ms1 hlt he q H.size hle
            have hkw : (match am_kd a with | 0 => Jvm.Cond.static (am_nm a) | _ => Jvm.Cond.instanceMethod (am_nm a)) ∈ wt_tbl := hz.2.1
            rw [hkd] at hkw
            have hst : st.map (am_rv q) = (as.map (am_rv q)).reverse ++ .ref (q o) :: rest.map (am_rv q) := by
              rw [ex2, List.map_append, List.map_reverse]
              rfl
            refine am_after (z := a) (as := (.ref o :: as)) C hP hle hk9 hm9 hr hp g1 g2 g5 g6 hA1 (?_ : va_Run p l e R s m args below meth c H locs k n mc1 ms1 (F0 m pc ls (st.map (am_rv q))) (rest.map (am_rv q)) (am_Q D ty q h r h1 H.size (List.map (am_rv q) (.ref o :: as)).toArray) (va_A (am_rz q ty h) H.size))
            rcases hw with ⟨-, hw⟩ | ⟨-, host, hw⟩
            · exact va_runV (C := "java/lang/String") (As := as.map (am_rv q)) ⟨C.1, C.2.1, C.2.2.1, C.2.2.2.2.1, C.2.2.2.2.2.2.2.1⟩ hM ⟨callB_of (am_na a) C.2.2.2.2.2.2.2.1 (am_goodin hz) rfl rfl rfl (C.2.2.2.2.2.2.2.1 _ (am_mg hz.2.2.2.2.2.1 rfl)) (C.2.2.2.2.2.2.2.1 _ (am_mg hw rfl)) hz.2.2.2.2.2.2.1 ⟨C.2.2.2.1.2.2.1, Nat.le_trans (by show 8 + (am_ml a + 11) + 60 * (d + 3) ≤ 60 * (d + 4); have := hz.2.2.2.2.2.2.2.1; omega) C.2.2.2.1.2.2.2⟩, C.2.2.2.2.2.2.2.1 _ (am_mg hkw rfl), by rw [← hcl]; exact C.2.2.2.2.2.2.2.1 _ (am_mg (hz.2.2.1 hkd) rfl)⟩ ⟨hpre.1, (by rw [eo]; exact vk_recv (adK := fun i => q (am_pS + i)) (i := i9) (am_X_ag g1 hh C.2.2.2.2.2.2.2.2.2.2.1).1.2.1 hi9 g5), hpre.2⟩ rfl (by rw [List.length_map]; exact ex3) g6.1 hst (lv_room (by rw [am_catm]; exact Nat.ble_eq.mp hcat)) hd ⟨Nat.le_trans hk9 C.2.2.2.1.1, Nat.le_trans hm9 C.2.2.2.1.2.1⟩
            · exact va_runVN (C := "java/lang/String") (As := as.map (am_rv q)) ⟨C.1, C.2.1, C.2.2.1, C.2.2.2.2.1, C.2.2.2.2.2.2.2.1⟩ hM ⟨va_cnB (am_na a) C.2.2.2.2.2.2.2.1 (am_goodin hz) rfl rfl rfl (C.2.2.2.2.2.2.2.2.2.2.1.2.1.1 _ hw rfl) (C.2.2.2.2.2.2.2.1 _ (am_mg hz.2.2.2.2.2.1 rfl)) hz.2.2.2.2.2.2.1 ⟨C.2.2.2.1.2.2.1, Nat.le_trans (by show 8 + (am_ml a + 11) + 60 * (d + 3) ≤ 60 * (d + 4); have := hz.2.2.2.2.2.2.2.1; omega) C.2.2.2.1.2.2.2⟩, C.2.2.2.2.2.2.2.1 _ (am_mg hkw rfl), by rw [← hcl]; exact C.2.2.2.2.2.2.2.1 _ (am_mg (hz.2.2.1 hkd) rfl)⟩ ⟨hpre.1, (by rw [eo]; exact vk_recv (adK := fun i => q (am_pS + i)) (i := i9) (am_X_ag g1 hh C.2.2.2.2.2.2.2.2.2.2.1).1.2.1 hi9 g5), hpre.2⟩ rfl (by rw [List.length_map]; exact ex3) g6.1 hst (lv_room (by rw [am_catm]; exact Nat.ble_eq.mp hcat)) hd ⟨Nat.le_trans hk9 C.2.2.2.1.1, Nat.le_trans hm9 C.2.2.2.1.2.1⟩
          · exact hs.elim
        · exact hs.elim
      | false =>
        rw [h90] at hs
        dsimp only at hs
        unfold am_obj at hs
        split at hs
        · rename_i x hx
          obtain ⟨ci, fs⟩ := x
          try unfold am_b at hs
          split at hs
          · rename_i hb
            simp only [Bool.and_eq_true, Bool.not_eq_true'] at hb
            have hci := Nat.eq_of_beq_eq_true hb.1
            have h8 := Nat.ble_eq.mp hb.2.1
            have hb2 := hb.2.2
            try dsimp only at hci
            try dsimp only at h8
            subst hci
            have hcl : (am_nm a).cls = am_R (am_ci a) := hcl9.1
            have hw : (b = 0 ∧ Jvm.Cond.methodLink (am_nm y).cls idx (am_nm a) ∈ wt_tbl) ∨ (b = 1 ∧ ∃ host, Jvm.Cond.methodLinkNest (am_nm y).cls idx (am_nm a) host ∈ wt_tbl) := by
              rcases hw3 with e | e
              · rw [e.1] at hb2
                cases hb2
              · exact e
            unfold am_call am_b at hs
            split at hs
            · rename_i hcat
              simp only [Bool.and_eq_true] at hcat
              have hh := Nat.ble_eq.mp hcat.2
              replace hcat := hcat.1
              obtain ⟨r, h1, mc1, ms1, he, hle, hk9, hm9, hr, hp⟩ := hs
              obtain ⟨xs, ex1, ex2, ex3⟩ := am_take_ok _ _ _ _ _ ht
              rw [List.append_nil] at ex1
              subst ex1
              intro q H locs ls g1 g2 g3 g4 g5 g6 g7 g8
              obtain ⟨hpre, hA1⟩ := am_start (as := (.ref o :: as)) C hh g1 g3 g4 g5
              have hM := hE a (.ref o :: as) h r h1 mc1 ms1 hlt he q H.size hle
              have hkw : (match am_kd a with | 0 => Jvm.Cond.static (am_nm a) | _ => Jvm.Cond.instanceMethod (am_nm a)) ∈ wt_tbl := hz.2.1
              rw [hkd] at hkw
              have hst : st.map (am_rv q) = (as.map (am_rv q)).reverse ++ .ref (q o) :: rest.map (am_rv q) := by
                rw [ex2, List.map_append, List.map_reverse]
                rfl
              refine am_after (z := a) (as := (.ref o :: as)) C hP hle hk9 hm9 hr hp g1 g2 g5 g6 hA1 (?_ : va_Run p l e R s m args below meth c H locs k n mc1 ms1 (F0 m pc ls (st.map (am_rv q))) (rest.map (am_rv q)) (am_Q D ty q h r h1 H.size (List.map (am_rv q) (.ref o :: as)).toArray) (va_A (am_rz q ty h) H.size))
              rcases hw with ⟨-, hw⟩ | ⟨-, host, hw⟩
              · exact va_runV (As := as.map (am_rv q)) ⟨C.1, C.2.1, C.2.2.1, C.2.2.2.2.1, C.2.2.2.2.2.2.2.1⟩ hM ⟨callB_of (am_na a) C.2.2.2.2.2.2.2.1 (am_goodin hz) rfl rfl rfl (C.2.2.2.2.2.2.2.1 _ (am_mg hz.2.2.2.2.2.1 rfl)) (C.2.2.2.2.2.2.2.1 _ (am_mg hw rfl)) hz.2.2.2.2.2.2.1 ⟨C.2.2.2.1.2.2.1, Nat.le_trans (by show 8 + (am_ml a + 11) + 60 * (d + 3) ≤ 60 * (d + 4); have := hz.2.2.2.2.2.2.2.1; omega) C.2.2.2.1.2.2.2⟩, C.2.2.2.2.2.2.2.1 _ (am_mg hkw rfl), by rw [← hcl]; exact C.2.2.2.2.2.2.2.1 _ (am_mg (hz.2.2.1 hkd) rfl)⟩ ⟨hpre.1, va_recv C.2.2.2.2.2.2.2.2.1 g3 (am_cl_get h8) (am_rz_get hx), hpre.2⟩ rfl (by rw [List.length_map]; exact ex3) g6.1 hst (lv_room (by rw [am_catm]; exact Nat.ble_eq.mp hcat)) hd ⟨Nat.le_trans hk9 C.2.2.2.1.1, Nat.le_trans hm9 C.2.2.2.1.2.1⟩
              · exact va_runVN (As := as.map (am_rv q)) ⟨C.1, C.2.1, C.2.2.1, C.2.2.2.2.1, C.2.2.2.2.2.2.2.1⟩ hM ⟨va_cnB (am_na a) C.2.2.2.2.2.2.2.1 (am_goodin hz) rfl rfl rfl (C.2.2.2.2.2.2.2.2.2.2.1.2.1.1 _ hw rfl) (C.2.2.2.2.2.2.2.1 _ (am_mg hz.2.2.2.2.2.1 rfl)) hz.2.2.2.2.2.2.1 ⟨C.2.2.2.1.2.2.1, Nat.le_trans (by show 8 + (am_ml a + 11) + 60 * (d + 3) ≤ 60 * (d + 4); have := hz.2.2.2.2.2.2.2.1; omega) C.2.2.2.1.2.2.2⟩, C.2.2.2.2.2.2.2.1 _ (am_mg hkw rfl), by rw [← hcl]; exact C.2.2.2.2.2.2.2.1 _ (am_mg (hz.2.2.1 hkd) rfl)⟩ ⟨hpre.1, va_recv C.2.2.2.2.2.2.2.2.1 g3 (am_cl_get h8) (am_rz_get hx), hpre.2⟩ rfl (by rw [List.length_map]; exact ex3) g6.1 hst (lv_room (by rw [am_catm]; exact Nat.ble_eq.mp hcat)) hd ⟨Nat.le_trans hk9 C.2.2.2.1.1, Nat.le_trans hm9 C.2.2.2.1.2.1⟩
            · exact hs.elim
          · exact hs.elim
        · exact hs.elim
    | false =>
      rw [hkd1] at hs
      dsimp only at hs
      unfold am_obj at hs
      split at hs
      · rename_i x hx
        obtain ⟨ci, fs⟩ := x
        try unfold am_b at hs
        split at hs
        · rename_i hb
          simp only [Bool.and_eq_true, Bool.or_eq_true] at hb
          have hci := Nat.eq_of_beq_eq_true hb.1
          try dsimp only at hci
          subst hci
          rcases hb.2 with hb | hb
          · have hkd := Nat.eq_of_beq_eq_true hb.1
            have hb0 := Nat.eq_of_beq_eq_true hb.2
            have hw : Jvm.Cond.methodLink (am_nm y).cls idx (am_nm a) ∈ wt_tbl := by
              rcases hw3 with e | e | e
              · omega
              · exact e.2
              · omega
            obtain ⟨hc3, hs3, hl3⟩ := hz.2.2.2.2.2.2.2.2.2.1 hkd
            unfold am_call am_b at hs
            split at hs
            · rename_i hcat
              simp only [Bool.and_eq_true] at hcat
              have hh := Nat.ble_eq.mp hcat.2
              replace hcat := hcat.1
              obtain ⟨r, h1, mc1, ms1, he, hle, hk9, hm9, hr, hp⟩ := hs
              obtain ⟨xs, ex1, ex2, ex3⟩ := am_take_ok _ _ _ _ _ ht
              rw [List.append_nil] at ex1
              subst ex1
              intro q H locs ls g1 g2 g3 g4 g5 g6 g7 g8
              obtain ⟨hpre, hA1⟩ := am_start (as := (.ref o :: as)) C hh g1 g3 g4 g5
              have hM := hE a (.ref o :: as) h r h1 mc1 ms1 hlt he q H.size hle
              have hkw : (match am_kd a with | 0 => Jvm.Cond.static (am_nm a) | _ => Jvm.Cond.instanceMethod (am_nm a)) ∈ wt_tbl := hz.2.1
              rw [hkd] at hkw
              have hst : st.map (am_rv q) = (as.map (am_rv q)).reverse ++ .ref (q o) :: rest.map (am_rv q) := by
                rw [ex2, List.map_append, List.map_reverse]
                rfl
              refine am_after (z := a) (as := (.ref o :: as)) C hP hle hk9 hm9 hr hp g1 g2 g5 g6 hA1 (?_ : va_Run p l e R s m args below meth c H locs k n mc1 ms1 (F0 m pc ls (st.map (am_rv q))) (rest.map (am_rv q)) (am_Q D ty q h r h1 H.size (List.map (am_rv q) (.ref o :: as)).toArray) (va_A (am_rz q ty h) H.size))
              have hgi : GoodIn am_tblg (va_wsU (am_nm y).cls idx "java/lang/StringBuilder" (am_nm a).cls (am_nm a) (am_nm a) (am_ws a)) := by
                intro w9 hw9
                unfold va_wsU at hw9
                rcases List.mem_append.mp hw9 with h9 | h9
                · simp only [List.mem_cons, List.not_mem_nil, or_false] at h9
                  rcases h9 with rfl | rfl | rfl | rfl | rfl
                  · exact ⟨am_mg hw rfl, good_of_word rfl⟩
                  · exact ⟨am_mg hs3 rfl, good_of_word rfl⟩
                  · exact ⟨am_mg hl3 rfl, good_of_word rfl⟩
                  · exact ⟨am_mg hkw rfl, good_of_word rfl⟩
                  · exact ⟨am_mg hz.2.2.2.2.2.1 rfl, good_of_word rfl⟩
                · exact (am_goodin hz) _ h9
              exact va_runU (C := "java/lang/StringBuilder") (As := as.map (am_rv q)) ⟨C.1, C.2.1, C.2.2.1, C.2.2.2.2.1, C.2.2.2.2.2.2.2.1⟩ hM (va_cwU (am_na a) C.2.2.2.2.2.2.2.1 hgi rfl rfl rfl rfl hz.2.2.2.2.2.2.1 ⟨C.2.2.2.1.2.2.1, Nat.le_trans (by show 8 + (am_ml a + 11) + 60 * (d + 3) ≤ 60 * (d + 4); have := hz.2.2.2.2.2.2.2.1; omega) C.2.2.2.1.2.2.2⟩) ⟨hpre.1, va_recv C.2.2.2.2.2.2.2.2.1 g3 (am_cl_get (ci := 7) (by decide)) (am_rz_get hx), hpre.2⟩ rfl (by rw [List.length_map]; exact ex3) g6.1 hst (lv_room (by rw [am_catm]; exact Nat.ble_eq.mp hcat)) hd ⟨Nat.le_trans hk9 C.2.2.2.1.1, Nat.le_trans hm9 C.2.2.2.1.2.1⟩
            · exact hs.elim
          · have hkd := Nat.eq_of_beq_eq_true hb.1
            have hb0 := Nat.eq_of_beq_eq_true hb.2
            obtain ⟨hna, hw⟩ : am_nm a = ⟨"java/lang/StringBuilder", "length", "()I"⟩ ∧ Jvm.Cond.methodLink (am_nm y).cls idx ⟨"java/lang/AbstractStringBuilder", "length", "()I"⟩ ∈ wt_tbl := by
              rcases hw3 with e | e | e
              · exact e.2
              · omega
              · omega
            unfold am_call am_b at hs
            split at hs
            · rename_i hcat
              simp only [Bool.and_eq_true] at hcat
              have hh := Nat.ble_eq.mp hcat.2
              replace hcat := hcat.1
              obtain ⟨r, h1, mc1, ms1, he, hle, hk9, hm9, hr, hp⟩ := hs
              obtain ⟨xs, ex1, ex2, ex3⟩ := am_take_ok _ _ _ _ _ ht
              rw [List.append_nil] at ex1
              subst ex1
              intro q H locs ls g1 g2 g3 g4 g5 g6 g7 g8
              obtain ⟨hpre, hA1⟩ := am_start (as := (.ref o :: as)) C hh g1 g3 g4 g5
              have hM := hE a (.ref o :: as) h r h1 mc1 ms1 hlt he q H.size hle
              have hkw : (match am_kd a with | 0 => Jvm.Cond.static (am_nm a) | _ => Jvm.Cond.instanceMethod (am_nm a)) ∈ wt_tbl := hz.2.1
              rw [hkd] at hkw
              have hst : st.map (am_rv q) = (as.map (am_rv q)).reverse ++ .ref (q o) :: rest.map (am_rv q) := by
                rw [ex2, List.map_append, List.map_reverse]
                rfl
              refine am_after (z := a) (as := (.ref o :: as)) C hP hle hk9 hm9 hr hp g1 g2 g5 g6 hA1 (?_ : va_Run p l e R s m args below meth c H locs k n mc1 ms1 (F0 m pc ls (st.map (am_rv q))) (rest.map (am_rv q)) (am_Q D ty q h r h1 H.size (List.map (am_rv q) (.ref o :: as)).toArray) (va_A (am_rz q ty h) H.size))
              have hgi : GoodIn am_tblg (va_wsO (am_nm y).cls idx "java/lang/StringBuilder" "java/lang/AbstractStringBuilder" ⟨"java/lang/AbstractStringBuilder", "length", "()I"⟩ (am_nm a) (am_ws a)) := by
                intro w9 hw9
                unfold va_wsO at hw9
                rcases List.mem_append.mp hw9 with h9 | h9
                · simp only [List.mem_cons, List.not_mem_nil, or_false] at h9
                  rcases h9 with rfl | rfl | rfl | rfl | rfl | rfl
                  · exact ⟨am_mg hw rfl, good_of_word rfl⟩
                  · exact ⟨am_mg am_v_same rfl, good_of_word rfl⟩
                  · exact ⟨am_mg (am_mok_all (y := 73) (by decide)).2.1 rfl, good_of_word rfl⟩
                  · exact ⟨am_mg (by rw [hna]; exact am_v_sel) rfl, good_of_word rfl⟩
                  · exact ⟨am_mg hkw rfl, good_of_word rfl⟩
                  · exact ⟨am_mg hz.2.2.2.2.2.1 rfl, good_of_word rfl⟩
                · exact (am_goodin hz) _ h9
              exact va_runU (C := "java/lang/StringBuilder") (As := as.map (am_rv q)) ⟨C.1, C.2.1, C.2.2.1, C.2.2.2.2.1, C.2.2.2.2.2.2.2.1⟩ hM (va_cwO (am_na a) C.2.2.2.2.2.2.2.1 hgi rfl rfl rfl (am_mg (am_mok_all (y := 73) (by decide)).1 rfl) ⟨by decide +kernel, by decide +kernel, by have h9 := hz.2.2.2.2.2.2.1.2.2; rw [hna] at h9; exact h9⟩ ⟨C.2.2.2.1.2.2.1, Nat.le_trans (by show 8 + (am_ml a + 11) + 60 * (d + 3) ≤ 60 * (d + 4); have := hz.2.2.2.2.2.2.2.1; omega) C.2.2.2.1.2.2.2⟩) ⟨hpre.1, va_recv C.2.2.2.2.2.2.2.2.1 g3 (am_cl_get (ci := 7) (by decide)) (am_rz_get hx), hpre.2⟩ rfl (by rw [List.length_map]; exact ex3) g6.1 hst (lv_room (by rw [am_catm]; exact Nat.ble_eq.mp hcat)) hd ⟨Nat.le_trans hk9 C.2.2.2.1.1, Nat.le_trans hm9 C.2.2.2.1.2.1⟩
            · exact hs.elim
        · exact hs.elim
      · exact hs.elim
  · exact hs.elim
theorem am_o_invokespecial (C : am_Cx p l e R s m args below meth c sc y d mc ms Φ D ty A q0 h0 Qf) (hP : ∀ x : am_S, P x → am_Wt p l e R s m args below meth c y mc ms D ty A q0 h0 Qf x) {idx : Nat} (hE : ∀ (z : Nat) (as : List Value) (h : am_H) (r : Option Value) (h1 : am_H) (mc1 ms1 : Nat), z < 129 → E z as h r h1 mc1 ms1 → am_MetD sc l d D ty z as h r h1 mc1 ms1) {len : Nat} (hd : decode (am_code y) pc = .ok (.invokespecial idx, len)) (hn : len = 3) (ha : Nat.ble 9000 a = false) (hlt : a < 129) (hz : am_mok a) (hw : (b = 0 ∧ Jvm.Cond.methodLink (am_nm y).cls idx (am_nm a) ∈ wt_tbl) ∨ (b = 1 ∧ ∃ host, Jvm.Cond.methodLinkNest (am_nm y).cls idx (am_nm a) host ∈ wt_tbl)) (hs : am_ex E sc y mc ms Φ P (.invokespecial idx) a b kf kt tg pc lv st h k n) : am_Wt p l e R s m args below meth c y mc ms D ty A q0 h0 Qf (pc, lv, st, h, k, n) := by
  subst hn
  unfold am_ex at hs
  dsimp only at hs
  rw [ha] at hs
  dsimp only at hs
  split at hs
  · rename_i as o rest ht
    cases hkd1 : Nat.beq (am_kd a) 2 with
    | true =>
      rw [hkd1] at hs
      dsimp only at hs
      have hkd := Nat.eq_of_beq_eq_true hkd1
      unfold am_call am_b at hs
      split at hs
      · rename_i hcat
        simp only [Bool.and_eq_true] at hcat
        have hh := Nat.ble_eq.mp hcat.2
        replace hcat := hcat.1
        obtain ⟨r, h1, mc1, ms1, he, hle, hk9, hm9, hr, hp⟩ := hs
        obtain ⟨xs, ex1, ex2, ex3⟩ := am_take_ok _ _ _ _ _ ht
        rw [List.append_nil] at ex1
        subst ex1
        intro q H locs ls g1 g2 g3 g4 g5 g6 g7 g8
        obtain ⟨hpre, hA1⟩ := am_start (as := (.ref o :: as)) C hh g1 g3 g4 g5
        have hM := hE a (.ref o :: as) h r h1 mc1 ms1 hlt he q H.size hle
        have hkw : (match am_kd a with | 0 => Jvm.Cond.static (am_nm a) | _ => Jvm.Cond.instanceMethod (am_nm a)) ∈ wt_tbl := hz.2.1
        rw [hkd] at hkw
        have hst : st.map (am_rv q) = (as.map (am_rv q)).reverse ++ .ref (q o) :: rest.map (am_rv q) := by
          rw [ex2, List.map_append, List.map_reverse]
          rfl
        refine am_after (z := a) (as := (.ref o :: as)) C hP hle hk9 hm9 hr hp g1 g2 g5 g6 hA1 (?_ : va_Run p l e R s m args below meth c H locs k n mc1 ms1 (F0 m pc ls (st.map (am_rv q))) (rest.map (am_rv q)) (am_Q D ty q h r h1 H.size (List.map (am_rv q) (.ref o :: as)).toArray) (va_A (am_rz q ty h) H.size))
        rcases hw with ⟨-, hw⟩ | ⟨-, host, hw⟩
        · exact va_runI (As := as.map (am_rv q)) ⟨C.1, C.2.1, C.2.2.1, C.2.2.2.2.1, C.2.2.2.2.2.2.2.1⟩ hM ⟨by have cb : CallB (R) s args (am_nm y).cls idx (am_nm a) (am_code a) (am_ml a) (am_ret a) (am_ws a) (am_rm d mc1 ms1) mc1 ms1 (am_na a) := callB_of (am_na a) C.2.2.2.2.2.2.2.1 (am_goodin hz) rfl rfl rfl (C.2.2.2.2.2.2.2.1 _ (am_mg hz.2.2.2.2.2.1 rfl)) (C.2.2.2.2.2.2.2.1 _ (am_mg hw rfl)) hz.2.2.2.2.2.2.1 ⟨C.2.2.2.1.2.2.1, Nat.le_trans (by show 8 + (am_ml a + 11) + 60 * (d + 3) ≤ 60 * (d + 4); have := hz.2.2.2.2.2.2.2.1; omega) C.2.2.2.1.2.2.2⟩; rw [(hz.2.2.2.2.1 hkd).2] at cb; exact cb, (hz.2.2.2.2.1 hkd).1, C.2.2.2.2.2.2.2.1 _ (am_mg hkw rfl)⟩ hpre rfl (by rw [List.length_map]; exact ex3) g6.1 hst (lv_room (by rw [am_catm]; exact Nat.ble_eq.mp hcat)) hd ⟨Nat.le_trans hk9 C.2.2.2.1.1, Nat.le_trans hm9 C.2.2.2.1.2.1⟩
        · exact va_runIN (As := as.map (am_rv q)) ⟨C.1, C.2.1, C.2.2.1, C.2.2.2.2.1, C.2.2.2.2.2.2.2.1⟩ hM ⟨by have cb : va_CN (R) s args (am_nm y).cls idx (am_nm a) host (am_code a) (am_ml a) (am_ret a) (am_ws a) (am_rm d mc1 ms1) mc1 ms1 (am_na a) := va_cnB (am_na a) C.2.2.2.2.2.2.2.1 (am_goodin hz) rfl rfl rfl (C.2.2.2.2.2.2.2.2.2.2.1.2.1.1 _ hw rfl) (C.2.2.2.2.2.2.2.1 _ (am_mg hz.2.2.2.2.2.1 rfl)) hz.2.2.2.2.2.2.1 ⟨C.2.2.2.1.2.2.1, Nat.le_trans (by show 8 + (am_ml a + 11) + 60 * (d + 3) ≤ 60 * (d + 4); have := hz.2.2.2.2.2.2.2.1; omega) C.2.2.2.1.2.2.2⟩; rw [(hz.2.2.2.2.1 hkd).2] at cb; exact cb, (hz.2.2.2.2.1 hkd).1, C.2.2.2.2.2.2.2.1 _ (am_mg hkw rfl)⟩ hpre rfl (by rw [List.length_map]; exact ex3) g6.1 hst (lv_room (by rw [am_catm]; exact Nat.ble_eq.mp hcat)) hd ⟨Nat.le_trans hk9 C.2.2.2.1.1, Nat.le_trans hm9 C.2.2.2.1.2.1⟩
      · exact hs.elim
    | false =>
      rw [hkd1] at hs
      dsimp only at hs
      unfold am_obj at hs
      split at hs
      · rename_i x hx
        obtain ⟨ci, fs⟩ := x
        try unfold am_b at hs
        split at hs
        · rename_i hb
          simp only [Bool.and_eq_true, decide_eq_true_eq] at hb
          have hci := Nat.eq_of_beq_eq_true hb.1
          try dsimp only at hci
          subst hci
          have hkd := Nat.eq_of_beq_eq_true hb.2.1
          have hb0 := Nat.eq_of_beq_eq_true hb.2.2.1
          have hyc := hb.2.2.2
          have hw1 : Jvm.Cond.methodLink (am_nm y).cls idx (am_nm a) ∈ wt_tbl := by
            rcases hw with e | e
            · exact e.2
            · omega
          obtain ⟨hc4, hn4, hs4⟩ := hz.2.2.2.2.2.2.2.2.2.2 hkd
          unfold am_call am_b at hs
          split at hs
          · rename_i hcat
            simp only [Bool.and_eq_true] at hcat
            have hh := Nat.ble_eq.mp hcat.2
            replace hcat := hcat.1
            obtain ⟨r, h1, mc1, ms1, he, hle, hk9, hm9, hr, hp⟩ := hs
            obtain ⟨xs, ex1, ex2, ex3⟩ := am_take_ok _ _ _ _ _ ht
            rw [List.append_nil] at ex1
            subst ex1
            intro q H locs ls g1 g2 g3 g4 g5 g6 g7 g8
            obtain ⟨hpre, hA1⟩ := am_start (as := (.ref o :: as)) C hh g1 g3 g4 g5
            have hM := hE a (.ref o :: as) h r h1 mc1 ms1 hlt he q H.size hle
            have hkw : (match am_kd a with | 0 => Jvm.Cond.static (am_nm a) | _ => Jvm.Cond.instanceMethod (am_nm a)) ∈ wt_tbl := hz.2.1
            rw [hkd] at hkw
            have hst : st.map (am_rv q) = (as.map (am_rv q)).reverse ++ .ref (q o) :: rest.map (am_rv q) := by
              rw [ex2, List.map_append, List.map_reverse]
              rfl
            refine am_after (z := a) (as := (.ref o :: as)) C hP hle hk9 hm9 hr hp g1 g2 g5 g6 hA1 (?_ : va_Run p l e R s m args below meth c H locs k n mc1 ms1 (F0 m pc ls (st.map (am_rv q))) (rest.map (am_rv q)) (am_Q D ty q h r h1 H.size (List.map (am_rv q) (.ref o :: as)).toArray) (va_A (am_rz q ty h) H.size))
            have hgi : GoodIn am_tblg (va_wsSU (am_nm y).cls idx (am_nm a) (am_ws a)) := by
              intro w9 hw9
              unfold va_wsSU at hw9
              rcases List.mem_append.mp hw9 with h9 | h9
              · simp only [List.mem_cons, List.not_mem_nil, or_false] at h9
                rcases h9 with rfl | rfl | rfl | rfl | rfl
                · exact ⟨am_mg hw1 rfl, good_of_word rfl⟩
                · exact ⟨am_mg hs4 rfl, good_of_word rfl⟩
                · exact ⟨am_mg (by rw [hyc, hc4]; exact am_v_sup) rfl, good_of_word rfl⟩
                · exact ⟨am_mg hkw rfl, good_of_word rfl⟩
                · exact ⟨am_mg hz.2.2.2.2.2.1 rfl, good_of_word rfl⟩
              · exact (am_goodin hz) _ h9
            exact va_runSU (C := "java/lang/StringBuilder") (As := as.map (am_rv q)) (C.2.2.2.2.2.2.2.2.1.1 7 _ rfl).2 ⟨C.1, C.2.1, C.2.2.1, C.2.2.2.2.1, C.2.2.2.2.2.2.2.1⟩ hM (va_cwSU (am_na a) C.2.2.2.2.2.2.2.1 hgi rfl rfl rfl ⟨hn4, hz.2.2.2.2.2.2.1.2.2⟩ ⟨C.2.2.2.1.2.2.1, Nat.le_trans (by show 8 + (am_ml a + 11) + 60 * (d + 3) ≤ 60 * (d + 4); have := hz.2.2.2.2.2.2.2.1; omega) C.2.2.2.1.2.2.2⟩) ⟨hpre.1, va_recv C.2.2.2.2.2.2.2.2.1 g3 (am_cl_get (ci := 7) (by decide)) (am_rz_get hx), hpre.2⟩ rfl (by rw [List.length_map]; exact ex3) g6.1 hst (lv_room (by rw [am_catm]; exact Nat.ble_eq.mp hcat)) hd ⟨Nat.le_trans hk9 C.2.2.2.1.1, Nat.le_trans hm9 C.2.2.2.1.2.1⟩
          · exact hs.elim
        · exact hs.elim
      · exact hs.elim
  · exact hs.elim
end OPS
