/-! ===== the abstract machine runs: so does the machine ===== -/
section OPS
variable {p : Program} {l : Launch} {e : Env} {R : Room} {s : State} {m : MethodId} {args : Array Value} {below : List Frame} {meth : Method} {c : Code} {sc : Option (Nat × (Nat → Int32))} {y d mc ms : Nat} {Φ : Option Value → am_H → Prop} {D : va_G} {ty : Nat → ClassId} {A : Nat → Prop} {q0 : Nat → Nat} {h0 : am_H} {Qf : State → Prop}
variable {E : am_E} {P : am_S → Prop} {pc a b k n : Nat} {kf kt : Option (List Nat)} {tg : List (Nat × List Nat)} {lv : am_L} {st : List Value} {h : am_H}
theorem am_exec (C : am_Cx p l e R s m args below meth c sc y d mc ms Φ D ty A q0 h0 Qf) (hP : ∀ x : am_S, P x → am_Wt p l e R s m args below meth c y mc ms D ty A q0 h0 Qf x) (hE : ∀ (z : Nat) (as : List Value) (h : am_H) (r : Option Value) (h1 : am_H) (mc1 ms1 : Nat), z < 129 → E z as h r h1 mc1 ms1 → am_MetD sc l d D ty z as h r h1 mc1 ms1) {i : Instr} {hint : Nat} (hd : am_dkB y pc i = true) (hl : am_lkB y pc i a b hint tg = true) (hs : am_ex E sc y mc ms Φ P i a b kf kt tg pc lv st h k n) : am_Wt p l e R s m args below meth c y mc ms D ty A q0 h0 Qf (pc, lv, st, h, k, n) := by
  cases i with
  | iconst x => exact am_o_iconst C hP (of_decide_eq_true hd) rfl hs
  | bipush x => exact am_o_bipush C hP (of_decide_eq_true hd) rfl hs
  | sipush x => exact am_o_sipush C hP (of_decide_eq_true hd) rfl hs
  | lconst x => exact am_o_lconst C hP (of_decide_eq_true hd) rfl hs
  | aconst_null => exact am_o_aconst_null C hP (of_decide_eq_true hd) rfl hs
  | iload x => exact am_o_iload C hP (of_decide_eq_true hd) rfl hs
  | iload_n x => exact am_o_iload_n C hP (of_decide_eq_true hd) rfl hs
  | lload x => exact am_o_lload C hP (of_decide_eq_true hd) rfl hs
  | lload_n x => exact am_o_lload_n C hP (of_decide_eq_true hd) rfl hs
  | aload x => exact am_o_aload C hP (of_decide_eq_true hd) rfl hs
  | aload_n x => exact am_o_aload_n C hP (of_decide_eq_true hd) rfl hs
  | istore x => exact am_o_istore C hP (of_decide_eq_true hd) rfl hs
  | istore_n x => exact am_o_istore_n C hP (of_decide_eq_true hd) rfl hs
  | astore x => exact am_o_astore C hP (of_decide_eq_true hd) rfl hs
  | astore_n x => exact am_o_astore_n C hP (of_decide_eq_true hd) rfl hs
  | lstore x => exact am_o_lstore C hP (of_decide_eq_true hd) rfl hs
  | lstore_n x => exact am_o_lstore_n C hP (of_decide_eq_true hd) rfl hs
  | iinc x z => exact am_o_iinc C hP (of_decide_eq_true hd) rfl hs
  | iadd => exact am_o_iadd C hP (of_decide_eq_true hd) rfl hs
  | isub => exact am_o_isub C hP (of_decide_eq_true hd) rfl hs
  | imul => exact am_o_imul C hP (of_decide_eq_true hd) rfl hs
  | iand => exact am_o_iand C hP (of_decide_eq_true hd) rfl hs
  | ior => exact am_o_ior C hP (of_decide_eq_true hd) rfl hs
  | ixor => exact am_o_ixor C hP (of_decide_eq_true hd) rfl hs
  | ishl => exact am_o_ishl C hP (of_decide_eq_true hd) rfl hs
  | ishr => exact am_o_ishr C hP (of_decide_eq_true hd) rfl hs
  | iushr => exact am_o_iushr C hP (of_decide_eq_true hd) rfl hs
  | ladd => exact am_o_ladd C hP (of_decide_eq_true hd) rfl hs
  | lsub => exact am_o_lsub C hP (of_decide_eq_true hd) rfl hs
  | lmul => exact am_o_lmul C hP (of_decide_eq_true hd) rfl hs
  | lcmp => exact am_o_lcmp C hP (of_decide_eq_true hd) rfl hs
  | idiv => exact am_o_idiv C hP (of_decide_eq_true hd) rfl hs
  | irem => exact am_o_irem C hP (of_decide_eq_true hd) rfl hs
  | ldiv => exact am_o_ldiv C hP (of_decide_eq_true hd) rfl hs
  | lrem => exact am_o_lrem C hP (of_decide_eq_true hd) rfl hs
  | ineg => exact am_o_ineg C hP (of_decide_eq_true hd) rfl hs
  | i2l => exact am_o_i2l C hP (of_decide_eq_true hd) rfl hs
  | l2i => exact am_o_l2i C hP (of_decide_eq_true hd) rfl hs
  | i2b => exact am_o_i2b C hP (of_decide_eq_true hd) rfl hs
  | i2s => exact am_o_i2s C hP (of_decide_eq_true hd) rfl hs
  | i2c => exact am_o_i2c C hP (of_decide_eq_true hd) rfl hs
  | land => exact am_o_land C hP (of_decide_eq_true hd) rfl hs
  | lor => exact am_o_lor C hP (of_decide_eq_true hd) rfl hs
  | lxor => exact am_o_lxor C hP (of_decide_eq_true hd) rfl hs
  | lshl => exact am_o_lshl C hP (of_decide_eq_true hd) rfl hs
  | lshr => exact am_o_lshr C hP (of_decide_eq_true hd) rfl hs
  | lushr => exact am_o_lushr C hP (of_decide_eq_true hd) rfl hs
  | dup => exact am_o_dup C hP (of_decide_eq_true hd) rfl hs
  | dup2 => exact am_o_dup2 C hP (of_decide_eq_true hd) rfl hs
  | pop => exact am_o_pop C hP (of_decide_eq_true hd) rfl hs
  | iaload => exact am_o_iaload C hP (of_decide_eq_true hd) rfl hs
  | baload => exact am_o_baload C hP (of_decide_eq_true hd) rfl hs
  | laload => exact am_o_laload C hP (of_decide_eq_true hd) rfl hs
  | aaload => exact am_o_aaload C hP (of_decide_eq_true hd) rfl hs
  | iastore => exact am_o_iastore C hP (of_decide_eq_true hd) rfl hs
  | bastore => exact am_o_bastore C hP (of_decide_eq_true hd) rfl hs
  | lastore => exact am_o_lastore C hP (of_decide_eq_true hd) rfl hs
  | aastore => exact am_o_aastore C hP (of_decide_eq_true hd) rfl hs
  | arraylength => exact am_o_arraylength C hP (of_decide_eq_true hd) rfl hs
  | newarray t => exact am_o_newarray C hP (of_decide_eq_true hd) rfl hs
  | ireturn => exact am_o_ireturn C hP (of_decide_eq_true hd) rfl hs
  | lreturn => exact am_o_lreturn C hP (of_decide_eq_true hd) rfl hs
  | areturn => exact am_o_areturn C hP (of_decide_eq_true hd) rfl hs
  | return_ => exact am_o_return_ C hP (of_decide_eq_true hd) rfl hs
  | goto off => exact am_o_goto C hP (of_decide_eq_true hd) rfl (of_decide_eq_true hl) hs
  | ifCond cc off => exact am_o_ifCond C hP (of_decide_eq_true hd) rfl (of_decide_eq_true hl) hs
  | if_icmp cc off => exact am_o_if_icmp C hP (of_decide_eq_true hd) rfl (of_decide_eq_true hl) hs
  | ifnull off => exact am_o_ifnull C hP (of_decide_eq_true hd) rfl (of_decide_eq_true hl) hs
  | ifnonnull off => exact am_o_ifnonnull C hP (of_decide_eq_true hd) rfl (of_decide_eq_true hl) hs
  | tableswitch dflt lo hi offs =>
    have he : ∃ len, decode (am_code y) pc = .ok (.tableswitch dflt lo hi offs, len) := by
      simp only [am_dkB] at hd
      split at hd
      · rename_i j len e
        have e1 := of_decide_eq_true hd
        subst e1
        exact ⟨_, e⟩
      · cases hd
    obtain ⟨len, he⟩ := he
    refine am_o_tableswitch C hP he (fun dd ts e => ?_) hs
    subst e
    simp only [am_lkB, Bool.and_eq_true, Bool.or_eq_true, decide_eq_true_eq] at hl
    exact ⟨hl.1, hl.2.1, hl.2.2⟩
  | lookupswitch dflt ps =>
    have he : ∃ len, decode (am_code y) pc = .ok (.lookupswitch dflt ps, len) := by
      simp only [am_dkB] at hd
      split at hd
      · rename_i j len e
        have e1 := of_decide_eq_true hd
        subst e1
        exact ⟨_, e⟩
      · cases hd
    obtain ⟨len, he⟩ := he
    refine am_o_lookupswitch C hP he (fun dd ts e => ?_) hs
    subst e
    simp only [am_lkB, Bool.and_eq_true, Bool.or_eq_true, decide_eq_true_eq] at hl
    exact ⟨hl.1, hl.2.1, hl.2.2⟩
  | getfield idx =>
    simp only [am_lkB, Bool.and_eq_true, Bool.or_eq_true, decide_eq_true_eq] at hl
    exact am_o_getfield C hP (of_decide_eq_true hd) rfl (Nat.ble_eq.mp hl.1) (Nat.ble_eq.mp hl.2.1) (am_isw_mem hl.2.2) hs
  | putfield idx =>
    simp only [am_lkB, Bool.and_eq_true, Bool.or_eq_true, decide_eq_true_eq] at hl
    exact am_o_putfield C hP (of_decide_eq_true hd) rfl (Nat.ble_eq.mp hl.1.1) (Nat.ble_eq.mp hl.1.2.1) (am_isw_mem hl.1.2.2) hl.2 hs
  | getstatic idx =>
    simp only [am_lkB, Bool.and_eq_true, Bool.or_eq_true, decide_eq_true_eq] at hl
    rcases hl with hl | hl | hl
    · obtain ⟨rfl, -⟩ := hl
      exact False.elim hs
    · exact am_o_getstaticC C hP (of_decide_eq_true hd) rfl hl.1 (am_isw_mem hl.2) hs
    · exact am_o_getstaticO C hP (of_decide_eq_true hd) rfl hl.1 (am_isw_mem hl.2) hs
  | ldc idx =>
    match b, hl, hs with
    | 0, hl, hs => exact am_o_ldc C hP (of_decide_eq_true hd) rfl rfl (am_isw_mem hl) hs
    | b9 + 1, hl, hs =>
      simp only [am_lkB, Bool.and_eq_true, Bool.or_eq_true, decide_eq_true_eq] at hl
      exact am_o_ldcS C hP (of_decide_eq_true hd) rfl hl.1 hl.2 hs
  | ldc_w idx => exact am_o_ldc_w C hP (of_decide_eq_true hd) rfl (am_isw_mem hl) hs
  | ldc2_w idx =>
    simp only [am_lkB, Bool.and_eq_true, Bool.or_eq_true, decide_eq_true_eq] at hl
    refine am_o_ldc2_w C hP (of_decide_eq_true hd) rfl ?_ hs
    rcases hl with hl | hl
    · exact Or.inl ⟨hl.1, am_isw_mem hl.2⟩
    · exact Or.inr ⟨hl.1, am_isw_mem hl.2⟩
  | new idx =>
    simp only [am_lkB, Bool.and_eq_true, Bool.or_eq_true, decide_eq_true_eq] at hl
    exact am_o_new C hP (of_decide_eq_true hd) rfl (Nat.ble_eq.mp hl.1) ⟨am_isw_mem hl.2, am_ni (Nat.ble_eq.mp hl.1)⟩ hs
  | anewarray idx => exact am_o_anewarray C hP (of_decide_eq_true hd) rfl (am_isw_mem hl) hs
  | multianewarray idx dm =>
    simp only [am_lkB, Bool.and_eq_true, decide_eq_true_eq] at hl
    obtain ⟨rfl, hl⟩ := hl
    exact am_o_multianewarray C hP (of_decide_eq_true hd) rfl (am_isw_mem hl) hs
  | invokestatic idx =>
    cases ha : Nat.ble 9000 a with
    | false =>
      simp only [am_lkB, ha, Bool.and_eq_true, Bool.or_eq_true, decide_eq_true_eq] at hl
      refine am_o_invokestatic C hP hE (of_decide_eq_true hd) rfl ha (Nat.ble_eq.mp hl.1) (am_mok_all (Nat.ble_eq.mp hl.1)) ?_ hs
      rcases hl.2 with hl | hl
      · exact Or.inl ⟨hl.1, am_isw_mem hl.2⟩
      · exact Or.inr ⟨hl.1, "LockedToAnothers", am_isw_mem hl.2⟩
    | true =>
      simp only [am_lkB, ha, Bool.and_eq_true, Bool.or_eq_true, decide_eq_true_eq] at hl
      rcases hl with hl | hl | hl | hl | hl
      · exact am_o_prim_max C hP (of_decide_eq_true hd) rfl hl.1 (am_isw_mem hl.2) hs
      · exact am_o_prim_min C hP (of_decide_eq_true hd) rfl hl.1 (am_isw_mem hl.2) hs
      · exact am_o_prim_copy C hP (of_decide_eq_true hd) rfl hl.1 (am_isw_mem hl.2) hs
      · exact am_o_prim_check C hP (of_decide_eq_true hd) rfl hl.1 (am_isw_mem hl.2) hs
      · subst hl
        exact False.elim hs
  | invokevirtual idx =>
    cases ha : Nat.ble 9000 a with
    | false =>
      simp only [am_lkB, ha, Bool.and_eq_true, Bool.or_eq_true, decide_eq_true_eq] at hl
      refine am_o_invokevirtual C hP hE (of_decide_eq_true hd) rfl ha (Nat.ble_eq.mp hl.1) (am_mok_all (Nat.ble_eq.mp hl.1)) ?_ hs
      rcases hl.2 with (hl | hl) | hl
      · exact Or.inl ⟨hl.1, hl.2.1, am_isw_mem hl.2.2⟩
      · exact Or.inr (Or.inl ⟨hl.1, am_isw_mem hl.2⟩)
      · exact Or.inr (Or.inr ⟨hl.1, "LockedToAnothers", am_isw_mem hl.2⟩)
    | true =>
      unfold am_ex at hs
      dsimp only at hs
      rw [ha] at hs
      exact hs.elim
  | invokespecial idx =>
    cases ha : Nat.ble 9000 a with
    | false =>
      simp only [am_lkB, ha, Bool.and_eq_true, Bool.or_eq_true, decide_eq_true_eq] at hl
      refine am_o_invokespecial C hP hE (of_decide_eq_true hd) rfl ha (Nat.ble_eq.mp hl.1) (am_mok_all (Nat.ble_eq.mp hl.1)) ?_ hs
      rcases hl.2 with hl | hl
      · exact Or.inl ⟨hl.1, am_isw_mem hl.2⟩
      · exact Or.inr ⟨hl.1, "LockedToAnothers", am_isw_mem hl.2⟩
    | true =>
      simp only [am_lkB, ha, Bool.and_eq_true, Bool.or_eq_true, decide_eq_true_eq] at hl
      exact am_o_prim_init C hP (of_decide_eq_true hd) rfl hl.1 (am_isw_mem hl.2) hs
  | _ => exact False.elim hs
theorem am_simul (C : am_Cx p l e R s m args below meth c sc y d mc ms Φ D ty A q0 h0 Qf) (hE : ∀ (z : Nat) (as : List Value) (h : am_H) (r : Option Value) (h1 : am_H) (mc1 ms1 : Nat), z < 129 → E z as h r h1 mc1 ms1 → am_MetD sc l d D ty z as h r h1 mc1 ms1) (x : am_S) (hg : am_go E sc y mc ms Φ x) : am_Wt p l e R s m args below meth c y mc ms D ty A q0 h0 Qf x := by
  refine hg _ (fun x P hP hs => ?_)
  obtain ⟨pc, lv, st, h, k, n⟩ := x
  unfold am_step at hs
  split at hs
  · exact hs.elim
  · rename_i e he
    have ok := (am_tb_ok he).1
    unfold am_okB at ok
    simp only [Bool.and_eq_true] at ok
    exact am_exec C hP hE ok.1 ok.2 hs
end OPS
theorem am_args_rl {q : Nat → Nat} : ∀ (as : List Value) (i : Nat), lv_args i (as.map (am_rv q)) = am_rl q (lv_args i as)
  | [], _ => rfl
  | v :: vs, i => by
    show (i, am_rv q v) :: lv_args (if (am_rv q v).category = 2 then i + 2 else i + 1) (vs.map (am_rv q)) = (i, am_rv q v) :: am_rl q (lv_args (if v.category = 2 then i + 2 else i + 1) vs)
    rw [am_rv_cat, am_args_rl vs]
theorem am_args_len {q : Nat → Nat} : ∀ (as : List Value), (lg_sl (as.map (am_rv q))).length = (lg_sl as).length
  | [] => rfl
  | v :: vs => by
    have ih := am_args_len (q := q) vs
    unfold lg_sl at ih ⊢
    rw [List.map_cons, List.flatMap_cons, List.flatMap_cons, List.length_append, List.length_append, ih, am_rv_cat]
    by_cases hc : v.category = 2
    · rw [if_pos hc, if_pos hc]
      rfl
    · rw [if_neg hc, if_neg hc]
      rfl
/-- a method of the abstract machine, as a contract of the machine -/
theorem am_met {sc : Option (Nat × (Nat → Int32))} {l : Launch} {D : va_G} {ty : Nat → ClassId} : ∀ (d y : Nat) (as : List Value) (h : am_H) (r : Option Value) (h1 : am_H) (mc ms : Nat), y < 129 → am_run sc d y as h r h1 mc ms → am_MetD sc l d D ty y as h r h1 mc ms
  | 0, _, _, _, _, _, _, _, _, hr => hr.elim
  | d + 1, y, as, h, r, h1, mc, ms, hy, hr => by
    obtain ⟨hn, hg⟩ := hr
    intro q sz hle
    have hz := am_mok_all hy
    refine Met.ofW (cc := am_code y) (maxL := am_ml y) (ret := am_ret y) hz.2.2.2.2.2.2.2.2.1 rfl ?_
    intro p e s m args below meth c s₁ B hml hv
    obtain ⟨rfl, hsz, hP, hK, hD0, hX⟩ := hv
    subst hsz
    have hD := hD0.self (sz := s.heap.size)
    have hl := lv_entry (as.map (am_rv q)) (n := am_ml y) (by rw [am_args_len]; exact Nat.ble_eq.mp hn)
    rw [lg_entry_eq]
    rw [am_args_rl] at hl
    have hts := atoms_spec (ws := am_ws y) B.pre
    refine am_simul (E := am_fr (am_run sc d)) (sc := sc) (d := d) (Φ := fun r2 h2 => r2 = r ∧ h2 = h1) (q0 := q) (h0 := h) ⟨B.exec, B.bytes, hml, ⟨Nat.le_refl _, Nat.le_refl _, Nat.le_refl _, Nat.le_refl _⟩, findClass_of_methodNamed B.named, trivial, fun hin => (name_of_methodNamed B.named B.method).1.trans hin, fun w hw => hts w (List.mem_cons_of_mem _ hw), hK, fun x hx => Or.inr hx, hX, ?_⟩ (am_frame (fun z as h r h1 mc1 ms1 hz9 hr9 => am_met d z as h r h1 mc1 ms1 hz9 hr9)) (0, lv_args 0 as, [], h, 0, 0) hg q s.heap [] _ (fun _ _ => rfl) (Nat.le_refl _) hP hD va_S.rf hl (Nat.zero_le _) (Nat.zero_le _)
    rintro i r2 h2 q2 H locs ls pc k n he hd ⟨rfl, rfl⟩ a1 a2 a3 a4 a5 a6 a7
    have hq : ∀ (t : State), t.heap = H → s.WarmedH t.vm → am_Q D ty q h r2 h2 s.heap.size (as.map (am_rv q)).toArray s (.returned (r2.map (am_rv q2))) t := fun t e9 hW => ⟨⟨q2, a1, rfl, by rw [e9]; exact a3, va_K.moved hW.alike hK, a4⟩, a5.F e9⟩
    refine W.widen a6 a7 ?_
    unfold am_end at he
    split at he
    · obtain ⟨t, h8, h9⟩ := he
      exact W.zret B.exec B.bytes (B.returns.trans h8) h9 hq a5.2.2 hd B.notSynchronized
    · exact W.lret B.exec B.bytes (B.returns.trans he) hq a5.2.2 hd B.notSynchronized
    · obtain ⟨t, h8, h9⟩ := he
      refine W.aret B.exec B.bytes (B.returns.trans h8) h9 (Or.inr ⟨_, rfl⟩) hq a5.2.2 hd B.notSynchronized
    · exact W.vret B.exec B.bytes (B.returns.trans he) hq a5.2.2 hd B.notSynchronized
    · exact he.elim
