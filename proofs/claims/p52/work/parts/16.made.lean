/-! ===== what is made; calls; ends; switches ===== -/
theorem am_wI : Jvm.Cond.arrayClass .int ∈ wt_tbl := List.mem_of_getElem? (i := 111) (by decide +kernel)
theorem am_wJ : Jvm.Cond.arrayClass .long ∈ wt_tbl := List.mem_of_getElem? (i := 922) (by decide +kernel)
theorem am_wB : Jvm.Cond.arrayClass .byte ∈ wt_tbl := List.mem_of_getElem? (i := 347) (by decide +kernel)
theorem am_dfl_map {q : Nat → Nat} {ci : Nat} (hc : ci < 9) : (am_dfl ci).map (am_rv q) = am_dfl ci := by
  match ci, hc with
  | 0, _ => rfl
  | 1, _ => rfl
  | 2, _ => rfl
  | 3, _ => rfl
  | 4, _ => rfl
  | 5, _ => rfl
  | 6, _ => rfl
  | 7, _ => rfl
  | 8, _ => rfl
theorem am_dfl_V {ci : Nat} (j : Nat) (hj : j < am_Nf ci) : defaultValue (am_ty ci j) = vp_V (am_dfl ci) j := by
  unfold vp_V am_dfl
  rw [List.getD_eq_getElem?_getD, List.getElem?_map, List.getElem?_range hj]
  rfl
/-- one new cell -/
theorem am_new1 {q0 q : Nat → Nat} {ty : Nat → ClassId} {h0 h : am_H} {lv : am_L} {st : List Value} (x : am_C) (q9 : Nat) (g1 : am_ag q0 q h0.length h.length) (g2 : h0.length ≤ h.length) (hn : am_nh h.length (h.length + 1) lv st h = true) :
    am_ag q0 (va_up q h.length q9) h0.length (h ++ [x]).length ∧ h0.length ≤ (h ++ [x]).length ∧ am_rz (va_up q h.length q9) ty (h ++ [x]) = am_rz q ty h ++ [(q9, am_rc (va_up q h.length q9) ty x)] ∧ am_rl (va_up q h.length q9) lv = am_rl q lv ∧ st.map (am_rv (va_up q h.length q9)) = st.map (am_rv q) := by
  simp only [am_nh, Bool.and_eq_true] at hn
  have hq : ∀ j, (j < h.length ∨ h.length + 1 ≤ j) → va_up q h.length q9 j = q j := fun j hj => by
    unfold va_up
    rw [if_neg]
    omega
  refine ⟨fun j hj => ?_, by rw [List.length_append]; omega, ?_, am_nl_rl hq hn.1, am_ns_rv hq hn.2.1⟩
  · rw [List.length_append] at hj
    rw [hq j (by simp only [List.length_cons, List.length_nil] at hj; omega)]
    exact g1 j (by simp only [List.length_cons, List.length_nil] at hj; omega)
  · rw [am_rz_app, am_nh_rz hq (Nat.le_refl _) hn.2.2]
    congr 2
    unfold va_up
    rw [if_pos rfl]
/-- a method's behaviour, as its callers use it -/
def am_Q (D : va_G) (ty : Nat → ClassId) (q : Nat → Nat) (h : am_H) (r : Option Value) (h1 : am_H) (sz : Nat) : Array Value → State → Outcome → State → Prop := fun _ st oc t =>
  (∃ q1 : Nat → Nat, am_ag q q1 h.length h1.length ∧ oc = .returned (r.map (am_rv q1)) ∧ va_P D vwCl (am_rz q1 ty h1) t.heap ∧ va_K D vwCl (am_tys ty) t ∧ va_D (va_A (am_rz q ty h) sz) (am_rz q1 ty h1)) ∧ va_F (va_A (am_rz q ty h) sz) st t
def am_P (sc : Option (Nat × (Nat → Int32))) (D : va_G) (ty : Nat → ClassId) (q : Nat → Nat) (h : am_H) (sz : Nat) (U : State) : Prop := U.heap.size = sz ∧ va_P D vwCl (am_rz q ty h) U.heap ∧ va_K D vwCl (am_tys ty) U ∧ va_D (fun _ => True) (am_rz q ty h) ∧ am_X sc q (va_A (am_rz q ty h) sz) U U.heap
def am_MetD (sc : Option (Nat × (Nat → Int32))) (l : Launch) (d : Nat) (D : va_G) (ty : Nat → ClassId) (y : Nat) (as : List Value) (h : am_H) (r : Option Value) (h1 : am_H) (mc ms : Nat) : Prop :=
  ∀ (q : Nat → Nat) (sz : Nat), h.length ≤ h1.length → Met l (am_nm y) (am_ws y) (am_rm d mc ms) (va_Pc (as.map (am_rv q)) (am_P sc D ty q h sz)) (am_Q D ty q h r h1 sz) mc ms (va_A (am_rz q ty h) sz)
theorem am_take_ok : ∀ (n : Nat) (acc st as rest : List Value), am_take n acc st = some (as, rest) → ∃ xs, as = xs ++ acc ∧ st = xs.reverse ++ rest ∧ xs.length = n
  | 0, acc, st, as, rest, h => by
    cases h
    exact ⟨[], rfl, rfl, rfl⟩
  | n + 1, acc, [], as, rest, h => by cases h
  | n + 1, acc, v :: st, as, rest, h => by
    obtain ⟨xs, e1, e2, e3⟩ := am_take_ok n (v :: acc) st as rest h
    exact ⟨xs ++ [v], by rw [e1]; simp, by rw [e2]; simp, by simp [e3]⟩
theorem am_sw_in {x : Int32} {K : Nat × List Nat → Prop} {dd : Nat × List Nat} : ∀ (ts : List (Nat × List Nat)) (lo : Int), am_sw x K dd lo ts → ∀ (i : Nat) (t : Nat × List Nat), ts[i]? = some t → x.toInt = lo + i → K t
  | [], lo, h, i, t, ht, hx => by cases ht
  | t0 :: ts, lo, h, 0, t, ht, hx => by
    cases ht
    exact h.1 (by omega)
  | t0 :: ts, lo, h, i + 1, t, ht, hx => am_sw_in ts (lo + 1) (h.2 (by omega)) i t ht (by omega)
theorem am_sw_out {x : Int32} {K : Nat × List Nat → Prop} {dd : Nat × List Nat} : ∀ (ts : List (Nat × List Nat)) (lo : Int), am_sw x K dd lo ts → (x.toInt < lo ∨ lo + (ts.length : Int) ≤ x.toInt) → K dd
  | [], lo, h, hx => h
  | t0 :: ts, lo, h, hx => am_sw_out ts (lo + 1) (h.2 (by simp only [List.length_cons] at hx; omega)) (by simp only [List.length_cons] at hx; omega)
theorem am_lw_ok {x : Int32} {K : Nat × List Nat → Prop} {dd : Nat × List Nat} {pc : Nat} {dflt : Int} (h1 : (pc : Int) + dflt = (dd.1 : Int)) : ∀ (ps : List (Int × Int)) (ts : List (Nat × List Nat)), am_lok pc ps ts = true → am_lw x K dd ps ts → ∃ t, K t ∧ (pc : Int) + Op.lookupswitch.offset ps dflt x.toInt = (t.1 : Int)
  | [], [], hk, h => ⟨dd, h, h1⟩
  | [], t :: ts, hk, h => by cases hk
  | p :: ps, [], hk, h => by cases hk
  | p :: ps, t :: ts, hk, h => by
    simp only [am_lok, Bool.and_eq_true, decide_eq_true_eq] at hk
    obtain ⟨p1, p2⟩ := p
    rw [Op.lookupswitch.offset_cons]
    by_cases e : x.toInt = p1
    · rw [if_pos e.symm]
      exact ⟨t, h.1 e, hk.1⟩
    · rw [if_neg (fun q => e q.symm)]
      exact am_lw_ok h1 ps ts hk.2 (h.2 e)
theorem am_tok_len {pc : Nat} : ∀ (os : List Int) (ts : List (Nat × List Nat)), am_tok pc os ts = true → os.length = ts.length
  | [], [], _ => rfl
  | [], t :: ts, h => by cases h
  | o :: os, [], h => by cases h
  | o :: os, t :: ts, h => by
    simp only [am_tok, Bool.and_eq_true] at h
    simp [am_tok_len os ts h.2]
theorem am_tok_get {pc : Nat} : ∀ (os : List Int) (ts : List (Nat × List Nat)), am_tok pc os ts = true → ∀ (i : Nat) (o : Int), os[i]? = some o → ∃ t, ts[i]? = some t ∧ (pc : Int) + o = (t.1 : Int)
  | [], [], _, i, o, h => by cases h
  | [], t :: ts, h, i, o, _ => by cases h
  | o :: os, [], h, _, _, _ => by cases h
  | o :: os, t :: ts, h, 0, o1, h1 => by
    simp only [am_tok, Bool.and_eq_true, decide_eq_true_eq] at h
    cases h1
    exact ⟨t, rfl, h.1⟩
  | o :: os, t :: ts, h, i + 1, o1, h1 => by
    simp only [am_tok, Bool.and_eq_true] at h
    exact am_tok_get os ts h.2 i o1 h1
section OPS
variable {p : Program} {l : Launch} {e : Env} {R : Room} {s : State} {m : MethodId} {args : Array Value} {below : List Frame} {meth : Method} {c : Code} {sc : Option (Nat × (Nat → Int32))} {y d mc ms : Nat} {Φ : Option Value → am_H → Prop} {D : va_G} {ty : Nat → ClassId} {A : Nat → Prop} {q0 : Nat → Nat} {h0 : am_H} {Qf : State → Prop}
variable {E : am_E} {P : am_S → Prop} {pc a b k n : Nat} {kf kt : Option (List Nat)} {tg : List (Nat × List Nat)} {lv : am_L} {st : List Value} {h : am_H}
theorem am_o_ldc (C : am_Cx p l e R s m args below meth c sc y d mc ms Φ D ty A q0 h0 Qf) (hP : ∀ x : am_S, P x → am_Wt p l e R s m args below meth c y mc ms D ty A q0 h0 Qf x) {idx : Nat} {len : Nat} (hd : decode (am_code y) pc = .ok (.ldc idx, len)) (hn : len = 2) (hb0 : b = 0) (hw : Jvm.Cond.constant (am_nm y).cls idx (Int32.ofNat a) ∈ wt_tbl) (hs : am_ex E sc y mc ms Φ P (.ldc idx) a b kf kt tg pc lv st h k n) : am_Wt p l e R s m args below meth c y mc ms D ty A q0 h0 Qf (pc, lv, st, h, k, n) := by
  subst hn
  have hs1 : P (pc + 2, am_pick kf lv, .int (Int32.ofNat a) :: st, h, k, n) := by
    subst hb0
    exact hs
  intro q H locs ls g1 g2 g3 g4 g5 g6 g7 g8
  exact lv_ldc C.1 C.2.1 C.2.2.2.2.1 (C.2.2.2.2.2.2.2.1 _ (am_mg hw rfl)) hd (hP _ (hs1) q H locs ls g1 g2 g3 g4 g5 (am_has_pick _ g6) g7 g8)
theorem am_o_ldcS (C : am_Cx p l e R s m args below meth c sc y d mc ms Φ D ty A q0 h0 Qf) (hP : ∀ x : am_S, P x → am_Wt p l e R s m args below meth c y mc ms D ty A q0 h0 Qf x) {idx : Nat} {len : Nat} (hd : decode (am_code y) pc = .ok (.ldc idx, len)) (hn : len = 2) (hb0 : b = 7) (hw : am_lds a (am_nm y).cls idx = true) (hs : am_ex E sc y mc ms Φ P (.ldc idx) a b kf kt tg pc lv st h k n) : am_Wt p l e R s m args below meth c y mc ms D ty A q0 h0 Qf (pc, lv, st, h, k, n) := by
  subst hn
  subst hb0
  replace hs : am_b _ _ := hs
  unfold am_b at hs
  split at hs
  rotate_left
  · exact hs.elim
  rename_i hh
  replace hh : h.length ≤ 2000000 := Nat.ble_eq.mp hh
  intro q H locs ls g1 g2 g3 g4 g5 g6 g7 g8
  have hq : ∀ i, q (am_pS + i) = q0 (am_pS + i) := fun i => g1 _ (Or.inr (Nat.le_trans hh (by show 2000000 ≤ 3000000 + i; omega)))
  unfold am_lds at hw
  simp only [Bool.or_eq_true, decide_eq_true_eq] at hw
  rcases hw with ⟨rfl, hw, rfl⟩ | ⟨rfl, hw, rfl⟩ | ⟨rfl, hw, rfl⟩ | ⟨rfl, hw, rfl⟩ | ⟨rfl, hw, rfl⟩ | ⟨rfl, hw, rfl⟩ | ⟨rfl, hw, rfl⟩
  · exact va_ldcS (own := am_so 0) (tx := am_stx 0) (q := q (am_pS + 0)) C.1 C.2.1 (by show s.vm.findClass "LockedToAnothers$LawBook" = _; rw [← hw]; exact C.2.2.2.2.1) (by rw [hq]; exact C.2.2.2.2.2.2.2.2.2.2.1.2.2.1 0 (by omega)) hd (hP _ (hs) q H locs ls g1 g2 g3 g4 g5 (am_has_pick _ g6) g7 g8)
  · exact va_ldcS (own := am_so 1) (tx := am_stx 1) (q := q (am_pS + 1)) C.1 C.2.1 (by show s.vm.findClass "LockedToAnothers$Reader" = _; rw [← hw]; exact C.2.2.2.2.1) (by rw [hq]; exact C.2.2.2.2.2.2.2.2.2.2.1.2.2.1 1 (by omega)) hd (hP _ (hs) q H locs ls g1 g2 g3 g4 g5 (am_has_pick _ g6) g7 g8)
  · exact va_ldcS (own := am_so 2) (tx := am_stx 2) (q := q (am_pS + 2)) C.1 C.2.1 (by show s.vm.findClass "LockedToAnothers$Reader" = _; rw [← hw]; exact C.2.2.2.2.1) (by rw [hq]; exact C.2.2.2.2.2.2.2.2.2.2.1.2.2.1 2 (by omega)) hd (hP _ (hs) q H locs ls g1 g2 g3 g4 g5 (am_has_pick _ g6) g7 g8)
  · exact va_ldcS (own := am_so 3) (tx := am_stx 3) (q := q (am_pS + 3)) C.1 C.2.1 (by show s.vm.findClass "LockedToAnothersLaw" = _; rw [← hw]; exact C.2.2.2.2.1) (by rw [hq]; exact C.2.2.2.2.2.2.2.2.2.2.1.2.2.1 3 (by omega)) hd (hP _ (hs) q H locs ls g1 g2 g3 g4 g5 (am_has_pick _ g6) g7 g8)
  · exact va_ldcS (own := am_so 4) (tx := am_stx 4) (q := q (am_pS + 4)) C.1 C.2.1 (by show s.vm.findClass "LockedToAnothersLaw" = _; rw [← hw]; exact C.2.2.2.2.1) (by rw [hq]; exact C.2.2.2.2.2.2.2.2.2.2.1.2.2.1 4 (by omega)) hd (hP _ (hs) q H locs ls g1 g2 g3 g4 g5 (am_has_pick _ g6) g7 g8)
  · exact va_ldcS (own := am_so 5) (tx := am_stx 5) (q := q (am_pS + 5)) C.1 C.2.1 (by show s.vm.findClass "LockedToAnothersLaw" = _; rw [← hw]; exact C.2.2.2.2.1) (by rw [hq]; exact C.2.2.2.2.2.2.2.2.2.2.1.2.2.1 5 (by omega)) hd (hP _ (hs) q H locs ls g1 g2 g3 g4 g5 (am_has_pick _ g6) g7 g8)
  · exact va_ldcS (own := am_so 6) (tx := am_stx 6) (q := q (am_pS + 6)) C.1 C.2.1 (by show s.vm.findClass "LockedToAnothersLaw" = _; rw [← hw]; exact C.2.2.2.2.1) (by rw [hq]; exact C.2.2.2.2.2.2.2.2.2.2.1.2.2.1 6 (by omega)) hd (hP _ (hs) q H locs ls g1 g2 g3 g4 g5 (am_has_pick _ g6) g7 g8)
theorem am_o_ldc_w (C : am_Cx p l e R s m args below meth c sc y d mc ms Φ D ty A q0 h0 Qf) (hP : ∀ x : am_S, P x → am_Wt p l e R s m args below meth c y mc ms D ty A q0 h0 Qf x) {idx : Nat} {len : Nat} (hd : decode (am_code y) pc = .ok (.ldc_w idx, len)) (hn : len = 3) (hw : Jvm.Cond.constant (am_nm y).cls idx (Int32.ofNat a) ∈ wt_tbl) (hs : am_ex E sc y mc ms Φ P (.ldc_w idx) a b kf kt tg pc lv st h k n) : am_Wt p l e R s m args below meth c y mc ms D ty A q0 h0 Qf (pc, lv, st, h, k, n) := by
  subst hn
  replace hs : am_b _ _ := hs
  unfold am_b at hs
  split at hs
  · intro q H locs ls g1 g2 g3 g4 g5 g6 g7 g8
    exact lv_ldcw C.1 C.2.1 C.2.2.2.2.1 (C.2.2.2.2.2.2.2.1 _ (am_mg hw rfl)) hd (hP _ (hs) q H locs ls g1 g2 g3 g4 g5 (am_has_pick _ g6) g7 g8)
  · exact hs.elim
theorem am_o_ldc2_w (C : am_Cx p l e R s m args below meth c sc y d mc ms Φ D ty A q0 h0 Qf) (hP : ∀ x : am_S, P x → am_Wt p l e R s m args below meth c y mc ms D ty A q0 h0 Qf x) {idx : Nat} {len : Nat} (hd : decode (am_code y) pc = .ok (.ldc2_w idx, len)) (hn : len = 3) (hw : (b = 1 ∧ Jvm.Cond.constantLong (am_nm y).cls idx (Int64.ofNat a) ∈ wt_tbl) ∨ (b = 2 ∧ Jvm.Cond.constantLong (am_nm y).cls idx (-(Int64.ofNat a)) ∈ wt_tbl)) (hs : am_ex E sc y mc ms Φ P (.ldc2_w idx) a b kf kt tg pc lv st h k n) : am_Wt p l e R s m args below meth c y mc ms D ty A q0 h0 Qf (pc, lv, st, h, k, n) := by
  subst hn
  rcases hw with ⟨rfl, hw⟩ | ⟨rfl, hw⟩
  · replace hs : P _ := hs
    intro q H locs ls g1 g2 g3 g4 g5 g6 g7 g8
    exact lv_ldc2 C.1 C.2.1 C.2.2.2.2.1 (C.2.2.2.2.2.2.2.1 _ (am_mg hw rfl)) hd (hP _ (hs) q H locs ls g1 g2 g3 g4 g5 (am_has_pick _ g6) g7 g8)
  · replace hs : P _ := hs
    intro q H locs ls g1 g2 g3 g4 g5 g6 g7 g8
    exact lv_ldc2 C.1 C.2.1 C.2.2.2.2.1 (C.2.2.2.2.2.2.2.1 _ (am_mg hw rfl)) hd (hP _ (hs) q H locs ls g1 g2 g3 g4 g5 (am_has_pick _ g6) g7 g8)
theorem am_o_new (C : am_Cx p l e R s m args below meth c sc y d mc ms Φ D ty A q0 h0 Qf) (hP : ∀ x : am_S, P x → am_Wt p l e R s m args below meth c y mc ms D ty A q0 h0 Qf x) {idx : Nat} {len : Nat} (hd : decode (am_code y) pc = .ok (.new idx, len)) (hn : len = 3) (hc : a < 9) (hw : Jvm.Cond.classLink (am_nm y).cls idx (am_R a) ∈ wt_tbl ∧ Jvm.Cond.instantiable (am_R a) (am_Nf a) ∈ wt_tbl ∧ Jvm.Cond.initialized (am_R a) ∈ wt_tbl) (hs : am_ex E sc y mc ms Φ P (.new idx) a b kf kt tg pc lv st h k n) : am_Wt p l e R s m args below meth c y mc ms D ty A q0 h0 Qf (pc, lv, st, h, k, n) := by
  subst hn
  replace hs : am_b _ (am_b _ _) := hs
  unfold am_b at hs
  split at hs
  · rename_i hn
    split at hs
    · rename_i hm
      simp only [Bool.and_eq_true] at hm
      intro q H locs ls g1 g2 g3 g4 g5 g6 g7 g8
      refine va_new (fs := am_dfl a) C.1 C.2.1 C.2.2.2.2.2.2.2.1 (fun w h9 => am_mg (am_cl_in hc w h9) (am_cl_good w h9)) (am_ty a) (am_ty_ok hc) C.2.2.2.2.1 (C.2.2.2.2.2.2.2.1 _ (am_mg hw.1 rfl)) (C.2.2.2.2.2.2.2.1 _ (am_mg hw.2.1 rfl)) (C.2.2.2.2.2.2.2.1 _ (am_mg hw.2.2 rfl)) C.2.2.2.2.2.2.2.2.1 g3 g4 g5 C.2.2.2.2.2.2.2.2.2.1 (am_cl_get hc) (fun j hj => am_dfl_V j hj) (Nat.le_trans (Nat.ble_eq.mp hm.1) C.2.2.2.1.1) (Nat.le_trans (Nat.ble_eq.mp hm.2) C.2.2.2.1.2.1) hd (fun q9 H1 P1 D1 S1 => ?_)
      obtain ⟨e1, e2, e3, e4, e5⟩ := am_new1 (q0 := q0) (q := q) (ty := ty) (h0 := h0) (h := h) (.inr (a, am_dfl a)) q9 g1 g2 hn
      have e6 : am_rc (va_up q h.length q9) ty (.inr (a, am_dfl a)) = .inr (a, am_dfl a) := by show Sum.inr (a, (am_dfl a).map _) = _; rw [am_dfl_map hc]
      rw [e6] at e3
      refine W.eq (g2 := F0 m (pc + 3) ls ((Value.ref h.length :: st).map (am_rv (va_up q h.length q9)))) ?_ ?_
      · show F0 m (pc + 3) ls (Value.ref q9 :: st.map (am_rv q)) = F0 m (pc + 3) ls (Value.ref (va_up q h.length q9 h.length) :: st.map (am_rv (va_up q h.length q9)))
        rw [e5]
        unfold va_up
        rw [if_pos rfl]
      · exact hP _ hs (va_up q h.length q9) H1 locs ls e1 e2 (by rw [e3]; exact P1) (by rw [e3]; exact D1) S1 (am_has_pick _ (by rw [e4]; exact g6)) (Nat.ble_eq.mp hm.1) (Nat.ble_eq.mp hm.2)
    · exact hs.elim
  · exact hs.elim
theorem am_o_newarray (C : am_Cx p l e R s m args below meth c sc y d mc ms Φ D ty A q0 h0 Qf) (hP : ∀ x : am_S, P x → am_Wt p l e R s m args below meth c y mc ms D ty A q0 h0 Qf x) {t : ArrayType} {len : Nat} (hd : decode (am_code y) pc = .ok (.newarray t, len)) (hn : len = 2)  (hs : am_ex E sc y mc ms Φ P (.newarray t) a b kf kt tg pc lv st h k n) : am_Wt p l e R s m args below meth c y mc ms D ty A q0 h0 Qf (pc, lv, st, h, k, n) := by
  subst hn
  replace hs : am_i1 st _ := hs
  unfold am_i1 at hs
  split at hs
  · rename_i x r
    unfold am_b at hs
    split at hs
    · rename_i hn
      split at hs
      · rename_i hm
        simp only [Bool.and_eq_true, Bool.not_eq_true', decide_eq_false_iff_not] at hm
        cases t with
        | int =>
          replace hs : P _ := hs
          intro q H locs ls g1 g2 g3 g4 g5 g6 g7 g8
          refine va_newa (atype := .int) (a0 := (x.toNatClampNeg, .inl (fun _ => 0))) C.1 C.2.1 (C.2.2.2.2.2.2.2.1 _ (am_mg am_wI rfl)) rfl C.2.2.2.2.2.2.2.2.1 g3 g4 g5 C.2.2.2.2.2.2.2.2.2.1 (fun _ => rfl) hm.1 rfl (by have := Nat.ble_eq.mp hm.2.1; show x.toNatClampNeg * 4 ≤ _; omega) (Nat.le_trans (Nat.ble_eq.mp hm.2.2.1) C.2.2.2.1.1) (Nat.le_trans (Nat.ble_eq.mp hm.2.2.2) C.2.2.2.1.2.1) hd (fun q9 cA H1 K1 P1 D1 S1 => ?_)
          have hcA := am_tys_uniq (k := 0) C.2.2.2.2.2.2.2.2.1 rfl K1
          subst hcA
          obtain ⟨e1, e2, e3, e4, e5⟩ := am_new1 (q0 := q0) (q := q) (ty := ty) (h0 := h0) (h := h) (.inl (0, x.toNatClampNeg, .inl (fun _ => 0))) q9 g1 g2 hn
          refine W.eq (g2 := F0 m (pc + 2) ls ((Value.ref h.length :: r).map (am_rv (va_up q h.length q9)))) ?_ ?_
          · show F0 m (pc + 2) ls (Value.ref q9 :: r.map (am_rv q)) = F0 m (pc + 2) ls (Value.ref (va_up q h.length q9 h.length) :: r.map (am_rv (va_up q h.length q9)))
            rw [e5]
            unfold va_up
            rw [if_pos rfl]
          · exact hP _ hs (va_up q h.length q9) H1 locs ls e1 e2 (by rw [e3]; exact P1) (by rw [e3]; exact D1) S1 (am_has_pick _ (by rw [e4]; exact g6)) (Nat.ble_eq.mp hm.2.2.1) (Nat.ble_eq.mp hm.2.2.2)
        | byte =>
          replace hs : P _ := hs
          intro q H locs ls g1 g2 g3 g4 g5 g6 g7 g8
          refine va_newa (atype := .byte) (a0 := (x.toNatClampNeg, .inl (fun _ => 0))) C.1 C.2.1 (C.2.2.2.2.2.2.2.1 _ (am_mg am_wB rfl)) rfl C.2.2.2.2.2.2.2.2.1 g3 g4 g5 C.2.2.2.2.2.2.2.2.2.1 (fun _ => rfl) hm.1 rfl (by have := Nat.ble_eq.mp hm.2.1; show x.toNatClampNeg * 1 ≤ _; omega) (Nat.le_trans (Nat.ble_eq.mp hm.2.2.1) C.2.2.2.1.1) (Nat.le_trans (Nat.ble_eq.mp hm.2.2.2) C.2.2.2.1.2.1) hd (fun q9 cA H1 K1 P1 D1 S1 => ?_)
          have hcA := am_tys_uniq (k := 4) C.2.2.2.2.2.2.2.2.1 rfl K1
          subst hcA
          obtain ⟨e1, e2, e3, e4, e5⟩ := am_new1 (q0 := q0) (q := q) (ty := ty) (h0 := h0) (h := h) (.inl (4, x.toNatClampNeg, .inl (fun _ => 0))) q9 g1 g2 hn
          refine W.eq (g2 := F0 m (pc + 2) ls ((Value.ref h.length :: r).map (am_rv (va_up q h.length q9)))) ?_ ?_
          · show F0 m (pc + 2) ls (Value.ref q9 :: r.map (am_rv q)) = F0 m (pc + 2) ls (Value.ref (va_up q h.length q9 h.length) :: r.map (am_rv (va_up q h.length q9)))
            rw [e5]
            unfold va_up
            rw [if_pos rfl]
          · exact hP _ hs (va_up q h.length q9) H1 locs ls e1 e2 (by rw [e3]; exact P1) (by rw [e3]; exact D1) S1 (am_has_pick _ (by rw [e4]; exact g6)) (Nat.ble_eq.mp hm.2.2.1) (Nat.ble_eq.mp hm.2.2.2)
        | long =>
          replace hs : P _ := hs
          intro q H locs ls g1 g2 g3 g4 g5 g6 g7 g8
          refine va_newa (atype := .long) (a0 := (x.toNatClampNeg, .inr (.inl (fun _ => 0)))) C.1 C.2.1 (C.2.2.2.2.2.2.2.1 _ (am_mg am_wJ rfl)) rfl C.2.2.2.2.2.2.2.2.1 g3 g4 g5 C.2.2.2.2.2.2.2.2.2.1 (fun _ => rfl) hm.1 rfl (by have := Nat.ble_eq.mp hm.2.1; show x.toNatClampNeg * 8 ≤ _; omega) (Nat.le_trans (Nat.ble_eq.mp hm.2.2.1) C.2.2.2.1.1) (Nat.le_trans (Nat.ble_eq.mp hm.2.2.2) C.2.2.2.1.2.1) hd (fun q9 cA H1 K1 P1 D1 S1 => ?_)
          have hcA := am_tys_uniq (k := 1) C.2.2.2.2.2.2.2.2.1 rfl K1
          subst hcA
          obtain ⟨e1, e2, e3, e4, e5⟩ := am_new1 (q0 := q0) (q := q) (ty := ty) (h0 := h0) (h := h) (.inl (1, x.toNatClampNeg, .inr (.inl (fun _ => 0)))) q9 g1 g2 hn
          refine W.eq (g2 := F0 m (pc + 2) ls ((Value.ref h.length :: r).map (am_rv (va_up q h.length q9)))) ?_ ?_
          · show F0 m (pc + 2) ls (Value.ref q9 :: r.map (am_rv q)) = F0 m (pc + 2) ls (Value.ref (va_up q h.length q9 h.length) :: r.map (am_rv (va_up q h.length q9)))
            rw [e5]
            unfold va_up
            rw [if_pos rfl]
          · exact hP _ hs (va_up q h.length q9) H1 locs ls e1 e2 (by rw [e3]; exact P1) (by rw [e3]; exact D1) S1 (am_has_pick _ (by rw [e4]; exact g6)) (Nat.ble_eq.mp hm.2.2.1) (Nat.ble_eq.mp hm.2.2.2)
        | _ => exact False.elim hs
      · exact hs.elim
    · exact hs.elim
  · exact hs.elim
theorem am_o_anewarray (C : am_Cx p l e R s m args below meth c sc y d mc ms Φ D ty A q0 h0 Qf) (hP : ∀ x : am_S, P x → am_Wt p l e R s m args below meth c y mc ms D ty A q0 h0 Qf x) {idx : Nat} {len : Nat} (hd : decode (am_code y) pc = .ok (.anewarray idx, len)) (hn : len = 3) (hw : Jvm.Cond.classLink (am_nm y).cls idx RX6 ∈ wt_tbl) (hs : am_ex E sc y mc ms Φ P (.anewarray idx) a b kf kt tg pc lv st h k n) : am_Wt p l e R s m args below meth c y mc ms D ty A q0 h0 Qf (pc, lv, st, h, k, n) := by
  subst hn
  replace hs : am_i1 st _ := hs
  unfold am_i1 at hs
  split at hs
  · rename_i x r
    unfold am_b at hs
    split at hs
    · rename_i hn
      split at hs
      · rename_i hm
        simp only [Bool.and_eq_true, Bool.not_eq_true', decide_eq_false_iff_not] at hm
        intro q H locs ls g1 g2 g3 g4 g5 g6 g7 g8
        refine va_newq (C := RX6) (N' := x.toNatClampNeg) C.1 C.2.1 C.2.2.2.2.1 (C.2.2.2.2.2.2.2.1 _ (am_mg hw rfl)) C.2.2.2.2.2.2.2.2.2.2.1.2.1.2.1 C.2.2.2.2.2.2.2.2.1 g3 g4 g5 C.2.2.2.2.2.2.2.2.2.1 hm.1 rfl (by have := Nat.ble_eq.mp hm.2.1; omega) (Nat.le_trans (Nat.ble_eq.mp hm.2.2.1) C.2.2.2.1.1) (Nat.le_trans (Nat.ble_eq.mp hm.2.2.2) C.2.2.2.1.2.1) hd (fun q9 cA H1 K1 P1 D1 S1 => ?_)
        have hcA := am_tys_uniq (k := 2) C.2.2.2.2.2.2.2.2.1 rfl K1
        subst hcA
        obtain ⟨e1, e2, e3, e4, e5⟩ := am_new1 (q0 := q0) (q := q) (ty := ty) (h0 := h0) (h := h) (.inl (2, x.toNatClampNeg, .inr (.inr (.inr (.inr (fun _ => none)))))) q9 g1 g2 hn
        have e6 : am_rc (va_up q h.length q9) ty (.inl (2, x.toNatClampNeg, .inr (.inr (.inr (.inr (fun _ => none)))))) = .inl (ty 2, x.toNatClampNeg, .inr (.inr (.inr (.inr (fun _ => none))))) := by
          show Sum.inl (ty 2, x.toNatClampNeg, Sum.inr (Sum.inr (Sum.inr (Sum.inr (fun i => if i < x.toNatClampNeg then Option.map _ none else none))))) = _
          congr 7
          funext i
          split <;> rfl
        rw [e6] at e3
        refine W.eq (g2 := F0 m (pc + 3) ls ((Value.ref h.length :: r).map (am_rv (va_up q h.length q9)))) ?_ ?_
        · show F0 m (pc + 3) ls (Value.ref q9 :: r.map (am_rv q)) = F0 m (pc + 3) ls (Value.ref (va_up q h.length q9 h.length) :: r.map (am_rv (va_up q h.length q9)))
          rw [e5]
          unfold va_up
          rw [if_pos rfl]
        · exact hP _ hs (va_up q h.length q9) H1 locs ls e1 e2 (by rw [e3]; exact P1) (by rw [e3]; exact D1) S1 (am_has_pick _ (by rw [e4]; exact g6)) (Nat.ble_eq.mp hm.2.2.1) (Nat.ble_eq.mp hm.2.2.2)
      · exact hs.elim
    · exact hs.elim
  · exact hs.elim
theorem am_o_ireturn (C : am_Cx p l e R s m args below meth c sc y d mc ms Φ D ty A q0 h0 Qf) (hP : ∀ x : am_S, P x → am_Wt p l e R s m args below meth c y mc ms D ty A q0 h0 Qf x)  {len : Nat} (hd : decode (am_code y) pc = .ok (.ireturn, len)) (hn : len = 1)  (hs : am_ex E sc y mc ms Φ P (.ireturn) a b kf kt tg pc lv st h k n) : am_Wt p l e R s m args below meth c y mc ms D ty A q0 h0 Qf (pc, lv, st, h, k, n) := by
  subst hn
  unfold am_ex at hs
  dsimp only at hs
  split at hs
  · split at hs
    · rename_i x _ t ht
      intro q H locs ls g1 g2 g3 g4 g5 g6 g7 g8
      exact C.2.2.2.2.2.2.2.2.2.2.2 .ireturn (some (.int x)) h q H locs ls pc k n ⟨t, ht, hs.1⟩ hd hs.2 g1 g2 g3 g4 g5 g7 g8
    · exact hs.elim
  · exact hs.elim
theorem am_o_lreturn (C : am_Cx p l e R s m args below meth c sc y d mc ms Φ D ty A q0 h0 Qf) (hP : ∀ x : am_S, P x → am_Wt p l e R s m args below meth c y mc ms D ty A q0 h0 Qf x)  {len : Nat} (hd : decode (am_code y) pc = .ok (.lreturn, len)) (hn : len = 1)  (hs : am_ex E sc y mc ms Φ P (.lreturn) a b kf kt tg pc lv st h k n) : am_Wt p l e R s m args below meth c y mc ms D ty A q0 h0 Qf (pc, lv, st, h, k, n) := by
  subst hn
  unfold am_ex at hs
  dsimp only at hs
  split at hs
  · rename_i x
    unfold am_b at hs
    split at hs
    · rename_i ht
      have ht9 : am_ret y = some .long := of_decide_eq_true ht
      intro q H locs ls g1 g2 g3 g4 g5 g6 g7 g8
      exact C.2.2.2.2.2.2.2.2.2.2.2 .lreturn (some (.long x)) h q H locs ls pc k n ht9 hd hs g1 g2 g3 g4 g5 g7 g8
    · exact hs.elim
  · exact hs.elim
theorem am_o_areturn (C : am_Cx p l e R s m args below meth c sc y d mc ms Φ D ty A q0 h0 Qf) (hP : ∀ x : am_S, P x → am_Wt p l e R s m args below meth c y mc ms D ty A q0 h0 Qf x)  {len : Nat} (hd : decode (am_code y) pc = .ok (.areturn, len)) (hn : len = 1)  (hs : am_ex E sc y mc ms Φ P (.areturn) a b kf kt tg pc lv st h k n) : am_Wt p l e R s m args below meth c y mc ms D ty A q0 h0 Qf (pc, lv, st, h, k, n) := by
  subst hn
  unfold am_ex at hs
  dsimp only at hs
  split at hs
  · rename_i x
    split at hs
    · rename_i n9 ht
      intro q H locs ls g1 g2 g3 g4 g5 g6 g7 g8
      exact C.2.2.2.2.2.2.2.2.2.2.2 .areturn (some (.ref x)) h q H locs ls pc k n ⟨_, ht, Or.inl ⟨_, rfl⟩⟩ hd hs g1 g2 g3 g4 g5 g7 g8
    · rename_i n9 ht
      intro q H locs ls g1 g2 g3 g4 g5 g6 g7 g8
      exact C.2.2.2.2.2.2.2.2.2.2.2 .areturn (some (.ref x)) h q H locs ls pc k n ⟨_, ht, Or.inr ⟨_, rfl⟩⟩ hd hs g1 g2 g3 g4 g5 g7 g8
    · exact hs.elim
  · exact hs.elim
theorem am_o_return_ (C : am_Cx p l e R s m args below meth c sc y d mc ms Φ D ty A q0 h0 Qf) (hP : ∀ x : am_S, P x → am_Wt p l e R s m args below meth c y mc ms D ty A q0 h0 Qf x)  {len : Nat} (hd : decode (am_code y) pc = .ok (.return_, len)) (hn : len = 1)  (hs : am_ex E sc y mc ms Φ P (.return_) a b kf kt tg pc lv st h k n) : am_Wt p l e R s m args below meth c y mc ms D ty A q0 h0 Qf (pc, lv, st, h, k, n) := by
  subst hn
  unfold am_ex at hs
  dsimp only at hs
  split at hs
  · unfold am_b at hs
    split at hs
    · rename_i ht
      have ht9 : am_ret y = none := of_decide_eq_true ht
      intro q H locs ls g1 g2 g3 g4 g5 g6 g7 g8
      exact C.2.2.2.2.2.2.2.2.2.2.2 .return_ none h q H locs ls pc k n ht9 hd hs g1 g2 g3 g4 g5 g7 g8
    · exact hs.elim
  · exact hs.elim
theorem am_o_tableswitch (C : am_Cx p l e R s m args below meth c sc y d mc ms Φ D ty A q0 h0 Qf) (hP : ∀ x : am_S, P x → am_Wt p l e R s m args below meth c y mc ms D ty A q0 h0 Qf x) {dflt lo hi : Int} {offs : Array Int} {len : Nat} (hd : decode (am_code y) pc = .ok (.tableswitch dflt lo hi offs, len)) (ht : ∀ dd ts, tg = dd :: ts → (pc : Int) + dflt = (dd.1 : Int) ∧ hi = lo + (ts.length : Int) - 1 ∧ am_tok pc offs.toList ts = true) (hs : am_ex E sc y mc ms Φ P (.tableswitch dflt lo hi offs) a b kf kt tg pc lv st h k n) : am_Wt p l e R s m args below meth c y mc ms D ty A q0 h0 Qf (pc, lv, st, h, k, n) := by
  replace hs : am_i1 st _ := hs
  unfold am_i1 at hs
  split at hs
  · rename_i x r
    split at hs
    · exact hs.elim
    · rename_i dd ts
      obtain ⟨h1, h2, h3⟩ := ht dd ts rfl
      have hl := am_tok_len _ _ h3
      intro q H locs ls g1 g2 g3 g4 g5 g6 g7 g8
      by_cases hx : x.toInt < lo ∨ hi < x.toInt
      · exact lv_tableOut C.1 C.2.1 hd hx h1 (hP _ (am_sw_out ts lo hs (by omega)) q H locs ls g1 g2 g3 g4 g5 (am_has_pick (some dd.2) g6) g7 g8)
      · have hi9 : (x.toInt - lo).toNat < offs.toList.length := by omega
        obtain ⟨t9, ht9, he9⟩ := am_tok_get _ _ h3 (x.toInt - lo).toNat _ (List.getElem?_eq_getElem hi9)
        exact lv_tableIn C.1 C.2.1 hd (fun q => hx (Or.inl q)) (fun q => hx (Or.inr q)) (by rw [← Array.getElem?_toList]; exact List.getElem?_eq_getElem hi9) he9 (hP _ (am_sw_in ts lo hs _ t9 ht9 (by omega)) q H locs ls g1 g2 g3 g4 g5 (am_has_pick (some t9.2) g6) g7 g8)
  · exact hs.elim
theorem am_o_lookupswitch (C : am_Cx p l e R s m args below meth c sc y d mc ms Φ D ty A q0 h0 Qf) (hP : ∀ x : am_S, P x → am_Wt p l e R s m args below meth c y mc ms D ty A q0 h0 Qf x) {dflt : Int} {ps : Array (Int × Int)} {len : Nat} (hd : decode (am_code y) pc = .ok (.lookupswitch dflt ps, len)) (ht : ∀ dd ts, tg = dd :: ts → (pc : Int) + dflt = (dd.1 : Int) ∧ (ps.toList.zip (ps.toList.drop 1)).all (fun (a, next) => a.1 < next.1) = true ∧ am_lok pc ps.toList ts = true) (hs : am_ex E sc y mc ms Φ P (.lookupswitch dflt ps) a b kf kt tg pc lv st h k n) : am_Wt p l e R s m args below meth c y mc ms D ty A q0 h0 Qf (pc, lv, st, h, k, n) := by
  replace hs : am_i1 st _ := hs
  unfold am_i1 at hs
  split at hs
  · rename_i x r
    split at hs
    · exact hs.elim
    · rename_i dd ts
      obtain ⟨h1, h2, h3⟩ := ht dd ts rfl
      obtain ⟨t9, k9, e9⟩ := am_lw_ok h1 _ _ h3 hs
      intro q H locs ls g1 g2 g3 g4 g5 g6 g7 g8
      exact lv_lookup C.1 C.2.1 hd h2 rfl e9 (hP _ (k9) q H locs ls g1 g2 g3 g4 g5 (am_has_pick (some t9.2) g6) g7 g8)
  · exact hs.elim
end OPS
