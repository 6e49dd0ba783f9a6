/-! ===== how a run is shown: instruction by instruction, or to the end of a block ===== -/
theorem am_go_step {E : am_E} {sc : Option (Nat × (Nat → Int32))} {y mc ms : Nat} {Φ : Option Value → am_H → Prop} {c : am_S} (h : am_step E sc y mc ms Φ (am_go E sc y mc ms Φ) c) : am_go E sc y mc ms Φ c :=
  fun P hP => hP c _ (fun c1 h1 => h1 P hP) h
/-- may the block go on behind this instruction -/
def am_sim (i : Instr) : Bool := match i with
  | .iconst _ => true
  | .bipush _ => true
  | .sipush _ => true
  | .lconst _ => true
  | .aconst_null => true
  | .iload _ => true
  | .iload_n _ => true
  | .lload _ => true
  | .lload_n _ => true
  | .aload _ => true
  | .aload_n _ => true
  | .istore _ => true
  | .istore_n _ => true
  | .astore _ => true
  | .astore_n _ => true
  | .lstore _ => true
  | .lstore_n _ => true
  | .iinc _ _ => true
  | .iadd => true
  | .isub => true
  | .imul => true
  | .iand => true
  | .ior => true
  | .ixor => true
  | .ishl => true
  | .ishr => true
  | .iushr => true
  | .ineg => true
  | .ladd => true
  | .lsub => true
  | .lmul => true
  | .lcmp => true
  | .land => true
  | .lor => true
  | .lxor => true
  | .lshl => true
  | .lshr => true
  | .lushr => true
  | .i2l => true
  | .l2i => true
  | .i2b => true
  | .i2s => true
  | .i2c => true
  | .dup => true
  | .dup2 => true
  | .pop => true
  | .getfield _ => true
  | .getstatic _ => true
  | .arraylength => true
  | .ldc _ => true
  | .ldc_w _ => true
  | .ldc2_w _ => true
  | _ => false
def am_nxt (i : Instr) (kf : Option (List Nat)) (P1 P2 : am_S → Prop) : am_S → Prop := match am_sim i, kf with
  | true, none => P1
  | _, _ => P2
theorem am_nxt_or {i : Instr} {kf : Option (List Nat)} {P1 P2 : am_S → Prop} {c : am_S} (h : am_nxt i kf P1 P2 c) : P1 c ∨ P2 c := by
  unfold am_nxt at h
  generalize am_sim i = b at h
  cases b with
  | false => exact Or.inr h
  | true => cases kf with
    | none => exact Or.inl h
    | some x => exact Or.inr h
/-- from c to the end of its block, or behind the first instruction that asks something -/
noncomputable def am_blk (E : am_E) (sc : Option (Nat × (Nat → Int32))) (y mc ms : Nat) (Φ : Option Value → am_H → Prop) (P : am_S → Prop) : Nat → am_S → Prop
  | 0, c => P c
  | j + 1, c => match am_tb y c.1 with
    | none => False
    | some e => am_ex E sc y mc ms Φ (am_nxt e.1 e.2.2.2.2.1 (am_blk E sc y mc ms Φ P j) P) e.1 e.2.1 e.2.2.1 e.2.2.2.2.1 e.2.2.2.2.2.1 e.2.2.2.2.2.2 c.1 c.2.1 c.2.2.1 c.2.2.2.1 c.2.2.2.2.1 c.2.2.2.2.2
theorem am_go_blk {E : am_E} {sc : Option (Nat × (Nat → Int32))} {y mc ms : Nat} {Φ : Option Value → am_H → Prop} : ∀ (j : Nat) {c : am_S}, am_blk E sc y mc ms Φ (am_go E sc y mc ms Φ) j c → am_go E sc y mc ms Φ c
  | 0, c, h => h
  | j + 1, c, h => by
    intro P hP
    rw [am_blk] at h
    split at h
    · exact h.elim
    · rename_i e he
      refine hP c (am_nxt e.1 e.2.2.2.2.1 (am_blk E sc y mc ms Φ (am_go E sc y mc ms Φ) j) (am_go E sc y mc ms Φ)) ?_ ?_
      · intro c1 h1
        rcases am_nxt_or h1 with h2 | h2
        · exact am_go_blk j h2 P hP
        · exact h2 P hP
      · unfold am_step
        rw [he]
        exact h
theorem am_run_of {sc : Option (Nat × (Nat → Int32))} {d : Nat} {y : Nat} {as : List Value} {h h1 : am_H} {r : Option Value} {mc ms : Nat} (hn : Nat.ble (lg_sl as).length (am_ml y) = true) (hg : am_go (am_fr (am_run sc d)) sc y mc ms (fun r2 h2 => r2 = r ∧ h2 = h1) (0, lv_args 0 as, [], h, 0, 0)) : am_run sc (d + 1) y as h r h1 mc ms := ⟨hn, hg⟩
