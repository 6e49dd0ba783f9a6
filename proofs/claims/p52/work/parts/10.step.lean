/-! ===== one instruction of the abstract machine ===== -/
def am_br (c : Jvm.ClassFile.Cond) (x z : Int32) (T F : Prop) : Prop := match c with
  | .eq => (x = z → T) ∧ (¬ x = z → F)
  | .ne => (¬ x = z → T) ∧ (x = z → F)
  | .lt => (x < z → T) ∧ (¬ x < z → F)
  | .ge => (z ≤ x → T) ∧ (¬ z ≤ x → F)
  | .gt => (z < x → T) ∧ (¬ z < x → F)
  | .le => (x ≤ z → T) ∧ (¬ x ≤ z → F)
/-- a call: what comes of it, what goes on -/
def am_call (E : am_E) (mc ms : Nat) (P : am_S → Prop) (z : Nat) (as : List Value) (pc : Nat) (lv : am_L) (kf : Option (List Nat)) (rest : List Value) (h : am_H) (k n : Nat) : Prop :=
  am_b (Nat.ble (am_cat rest) 8 && Nat.ble h.length am_pX) (∃ (r : Option Value) (h1 : am_H) (mc1 ms1 : Nat), E z as h r h1 mc1 ms1 ∧ h.length ≤ h1.length ∧ k + mc1 ≤ mc ∧ n + ms1 ≤ ms ∧ (h1.length = h.length ∨ am_nh h.length h1.length lv rest [] = true) ∧ P (pc + 3, am_pick kf lv, r.toList ++ rest, h1, k + mc1, n + ms1))
/-- the String constants: lengths, bytes, the places of their arrays; DigitOnes' bytes -/
def am_ln : List Nat := [40, 8, 59, 16, 16, 23, 1]
def am_byt : List (List Int32) := [[116, 97, 107, 101, 115, 32, 48, 32, 59, 32, 115, 97, 119, 115, 32, 49, 48, 32, 43, 32, 115, 111, 114, 116, 32, 42, 32, 53, 32, 59, 32, 109, 105, 110, 100, 115, 32, 49, 32, 59], [40, 41, 59, 43, 45, 42, 60, 61], [116, 97, 107, 101, 115, 32, 115, 97, 119, 115, 32, 109, 105, 110, 100, 115, 32, 111, 114, 32, 97, 110, 100, 32, 110, 111, 116, 32, 109, 111, 114, 101, 32, 115, 111, 114, 116, 32, 104, 111, 117, 114, 32, 116, 104, 105, 110, 103, 32, 109, 97, 110, 121, 32, 107, 105, 110, 100, 32], [116, 97, 107, 101, 115, 32, 109, 111, 114, 101, 43, 115, 111, 114, 116, 42], [45, 107, 105, 110, 100, 59, 115, 97, 119, 115, 32, 109, 97, 110, 121, 42], [43, 116, 104, 105, 110, 103, 59, 109, 105, 110, 100, 115, 32, 104, 111, 117, 114, 43, 109, 111, 114, 101, 42], [59]]
def am_pV : Nat := am_pS + 1000
def am_ones (j : Nat) : Int32 := Int32.ofNat (48 + j % 10)
/-- what one instruction asks, and that P holds behind it -/
noncomputable def am_ex (E : am_E) (sc : Option (Nat × (Nat → Int32))) (y mc ms : Nat) (Φ : Option Value → am_H → Prop) (P : am_S → Prop) (i : Instr) (a b : Nat) (kf kt : Option (List Nat)) (tg : List (Nat × List Nat)) (pc : Nat) (lv : am_L) (st : List Value) (h : am_H) (k n : Nat) : Prop := match i with
  | .iconst x => P (pc + 1, am_pick kf lv, .int (Int32.ofInt x) :: st, h, k, n)
  | .bipush x => P (pc + 2, am_pick kf lv, .int (Int8.ofInt x).toInt32 :: st, h, k, n)
  | .sipush x => P (pc + 3, am_pick kf lv, .int (Int16.ofInt x).toInt32 :: st, h, k, n)
  | .lconst x => P (pc + 1, am_pick kf lv, .long (Int64.ofNat (x : Nat)) :: st, h, k, n)
  | .aconst_null => P (pc + 1, am_pick kf lv, .null :: st, h, k, n)
  | .iload x => am_oi (am_get lv x) (fun v => P (pc + 2, am_pick kf lv, .int v :: st, h, k, n))
  | .iload_n x => am_oi (am_get lv (x : Nat)) (fun v => P (pc + 1, am_pick kf lv, .int v :: st, h, k, n))
  | .lload x => am_ol (am_get lv x) (fun v => P (pc + 2, am_pick kf lv, .long v :: st, h, k, n))
  | .lload_n x => am_ol (am_get lv (x : Nat)) (fun v => P (pc + 1, am_pick kf lv, .long v :: st, h, k, n))
  | .aload x => am_oa (am_get lv x) (fun v => P (pc + 2, am_pick kf lv, .ref v :: st, h, k, n))
  | .aload_n x => am_oa (am_get lv (x : Nat)) (fun v => P (pc + 1, am_pick kf lv, .ref v :: st, h, k, n))
  | .istore x => am_i1 st (fun v r => am_b (Nat.ble (x + 1) (am_ml y)) (P (pc + 2, am_pick kf (am_set1 x (.int v) lv), r, h, k, n)))
  | .istore_n x => am_i1 st (fun v r => am_b (Nat.ble ((x : Nat) + 1) (am_ml y)) (P (pc + 1, am_pick kf (am_set1 (x : Nat) (.int v) lv), r, h, k, n)))
  | .astore x => am_r1 st (fun v r => am_b (Nat.ble (x + 1) (am_ml y)) (P (pc + 2, am_pick kf (am_set1 x (.ref v) lv), r, h, k, n)))
  | .astore_n x => am_r1 st (fun v r => am_b (Nat.ble ((x : Nat) + 1) (am_ml y)) (P (pc + 1, am_pick kf (am_set1 (x : Nat) (.ref v) lv), r, h, k, n)))
  | .lstore x => am_l1 st (fun v r => am_b (Nat.ble (x + 2) (am_ml y)) (P (pc + 2, am_pick kf (am_set2 x (.long v) lv), r, h, k, n)))
  | .lstore_n x => am_l1 st (fun v r => am_b (Nat.ble ((x : Nat) + 2) (am_ml y)) (P (pc + 1, am_pick kf (am_set2 (x : Nat) (.long v) lv), r, h, k, n)))
  | .iinc x z => am_oi (am_get lv x) (fun v => am_b (Nat.ble (x + 1) (am_ml y)) (P (pc + 3, am_pick kf (am_set1 x (.int (v + Int32.ofInt z)) lv), st, h, k, n)))
  | .iadd => am_i2 st (fun x z r => P (pc + 1, am_pick kf lv, .int (x + z) :: r, h, k, n))
  | .isub => am_i2 st (fun x z r => P (pc + 1, am_pick kf lv, .int (x - z) :: r, h, k, n))
  | .imul => am_i2 st (fun x z r => P (pc + 1, am_pick kf lv, .int (x * z) :: r, h, k, n))
  | .iand => am_i2 st (fun x z r => P (pc + 1, am_pick kf lv, .int (x &&& z) :: r, h, k, n))
  | .ior => am_i2 st (fun x z r => P (pc + 1, am_pick kf lv, .int (x ||| z) :: r, h, k, n))
  | .ixor => am_i2 st (fun x z r => P (pc + 1, am_pick kf lv, .int (x ^^^ z) :: r, h, k, n))
  | .ishl => am_i2 st (fun x z r => P (pc + 1, am_pick kf lv, .int (x <<< (z &&& 31)) :: r, h, k, n))
  | .ishr => am_i2 st (fun x z r => P (pc + 1, am_pick kf lv, .int (x >>> (z &&& 31)) :: r, h, k, n))
  | .iushr => am_i2 st (fun x z r => P (pc + 1, am_pick kf lv, .int ((x.toUInt32 >>> (z.toUInt32 &&& Int32.toUInt32 31)).toInt32) :: r, h, k, n))
  | .idiv => am_i2 st (fun x z r => ¬ z = 0 ∧ P (pc + 1, am_pick kf lv, .int (x / z) :: r, h, k, n))
  | .irem => am_i2 st (fun x z r => ¬ z = 0 ∧ P (pc + 1, am_pick kf lv, .int (x - x / z * z) :: r, h, k, n))
  | .ineg => am_i1 st (fun x r => P (pc + 1, am_pick kf lv, .int (-x) :: r, h, k, n))
  | .ladd => am_l2 st (fun x z r => P (pc + 1, am_pick kf lv, .long (x + z) :: r, h, k, n))
  | .lsub => am_l2 st (fun x z r => P (pc + 1, am_pick kf lv, .long (x - z) :: r, h, k, n))
  | .lmul => am_l2 st (fun x z r => P (pc + 1, am_pick kf lv, .long (x * z) :: r, h, k, n))
  | .land => am_l2 st (fun x z r => P (pc + 1, am_pick kf lv, .long (x &&& z) :: r, h, k, n))
  | .lor => am_l2 st (fun x z r => P (pc + 1, am_pick kf lv, .long (x ||| z) :: r, h, k, n))
  | .lxor => am_l2 st (fun x z r => P (pc + 1, am_pick kf lv, .long (x ^^^ z) :: r, h, k, n))
  | .lshl => am_i1 st (fun z r0 => am_l1 r0 (fun x r => P (pc + 1, am_pick kf lv, .long (x <<< (z.toInt64 &&& 63)) :: r, h, k, n)))
  | .lshr => am_i1 st (fun z r0 => am_l1 r0 (fun x r => P (pc + 1, am_pick kf lv, .long (x >>> (z.toInt64 &&& 63)) :: r, h, k, n)))
  | .lushr => am_i1 st (fun z r0 => am_l1 r0 (fun x r => P (pc + 1, am_pick kf lv, .long ((x.toUInt64 >>> (z.toInt64.toUInt64 &&& Int64.toUInt64 63)).toInt64) :: r, h, k, n)))
  | .ldiv => am_l2 st (fun x z r => ¬ z = 0 ∧ P (pc + 1, am_pick kf lv, .long (x / z) :: r, h, k, n))
  | .lrem => am_l2 st (fun x z r => ¬ z = 0 ∧ P (pc + 1, am_pick kf lv, .long (x - x / z * z) :: r, h, k, n))
  | .lcmp => am_l2 st (fun x z r => P (pc + 1, am_pick kf lv, .int (lg_cmp x z) :: r, h, k, n))
  | .i2l => am_i1 st (fun x r => P (pc + 1, am_pick kf lv, .long x.toInt64 :: r, h, k, n))
  | .l2i => am_l1 st (fun x r => P (pc + 1, am_pick kf lv, .int x.toInt32 :: r, h, k, n))
  | .i2b => am_i1 st (fun x r => P (pc + 1, am_pick kf lv, .int x.toInt8.toInt32 :: r, h, k, n))
  | .i2s => am_i1 st (fun x r => P (pc + 1, am_pick kf lv, .int x.toInt16.toInt32 :: r, h, k, n))
  | .i2c => am_i1 st (fun x r => P (pc + 1, am_pick kf lv, .int (x.toUInt32 % 65536).toInt32 :: r, h, k, n))
  | .dup => am_b (Nat.beq ((st.headD .null).category) 1) (am_ov st.head? (fun v => P (pc + 1, am_pick kf lv, v :: st, h, k, n)))
  | .dup2 => am_ov st.head? (fun v => am_ov st.tail.head? (fun w => am_b (Nat.beq v.category 1 && Nat.beq w.category 1) (P (pc + 1, am_pick kf lv, v :: w :: st, h, k, n))))
  | .pop => am_ov st.head? (fun v => am_b (Nat.beq v.category 1) (P (pc + 1, am_pick kf lv, st.tail, h, k, n)))
  | .goto _ => P (a, am_pick kt lv, st, h, k, n)
  | .ifCond c _ => am_i1 st (fun x r => am_br c x 0 (P (a, am_pick kt lv, r, h, k, n)) (P (pc + 3, am_pick kf lv, r, h, k, n)))
  | .if_icmp c _ => am_i2 st (fun x z r => am_br c x z (P (a, am_pick kt lv, r, h, k, n)) (P (pc + 3, am_pick kf lv, r, h, k, n)))
  | .ifnull _ => am_ov st.head? (fun v => match v with
    | .null => P (a, am_pick kt lv, st.tail, h, k, n)
    | .ref _ => P (pc + 3, am_pick kf lv, st.tail, h, k, n)
    | _ => False)
  | .ifnonnull _ => am_ov st.head? (fun v => match v with
    | .ref _ => P (a, am_pick kt lv, st.tail, h, k, n)
    | .null => P (pc + 3, am_pick kf lv, st.tail, h, k, n)
    | _ => False)
  | .tableswitch _ lo _ _ => am_i1 st (fun x r => match tg with
    | [] => False
    | d :: ts => am_sw x (fun t => P (t.1, am_pick (some t.2) lv, r, h, k, n)) d lo ts)
  | .lookupswitch _ ps => am_i1 st (fun x r => match tg with
    | [] => False
    | d :: ts => am_lw x (fun t => P (t.1, am_pick (some t.2) lv, r, h, k, n)) d ps.toList ts)
  | .getfield _ => am_r1 st (fun o r => match Nat.beq a 8 && Nat.ble am_pS o with
    | true => am_b (Nat.ble o (am_pS + 6) && Nat.ble h.length am_pX) (match b with
      | 0 => P (pc + 3, am_pick kf lv, .ref (o + 1000) :: r, h, k, n)
      | 1 => P (pc + 3, am_pick kf lv, .int 0 :: r, h, k, n)
      | _ => False)
    | false => am_obj h o (fun ci fs => am_b (Nat.beq ci a) (am_ov fs[b]? (fun v => P (pc + 3, am_pick kf lv, v :: r, h, k, n)))))
  | .putfield _ => am_ov st.head? (fun v => am_r1 st.tail (fun o r => am_obj h o (fun ci fs => am_b (Nat.beq ci a && Nat.ble (b + 1) fs.length) (narrow (am_ty a b) v = v ∧ fits (am_ty a b) v = true ∧ P (pc + 3, am_pick kf lv, r, h.set o (.inr (ci, fs.set b v)), k, n)))))
  | .getstatic _ => match a with
    | 0 => False
    | 2 => am_b (Nat.ble h.length am_pX) (P (pc + 3, am_pick kf lv, .ref (am_pX + 1) :: st, h, k, n))
    | _ => P (pc + 3, am_pick kf lv, .int 1 :: st, h, k, n)
  | .baload => am_i1 st (fun i r0 => am_r1 r0 (fun o r => match h[o]? with
    | none => (match Nat.ble am_pV o with
      | true => am_b (Nat.ble o (am_pV + 6) && Nat.ble h.length am_pX) (vp_in i (am_ln.getD (o - am_pV) 0) ∧ P (pc + 1, am_pick kf lv, .int ((am_byt.getD (o - am_pV) []).getD i.toNatClampNeg 0) :: r, h, k, n))
      | false => am_b (Nat.beq o (am_pX + 1) && Nat.ble h.length am_pX) (vp_in i 100 ∧ P (pc + 1, am_pick kf lv, .int (am_ones i.toNatClampNeg) :: r, h, k, n)))
    | some _ => am_arr h o (fun t a => am_b (Nat.beq t 4) (am_ai a (fun f => vp_in i a.1 ∧ P (pc + 1, am_pick kf lv, .int (f i.toNatClampNeg) :: r, h, k, n))))))
  | .iaload => am_i1 st (fun i r0 => am_r1 r0 (fun o r => match h[o]? with
    | none => (match Nat.beq o am_pL with
      | true => (match sc with
        | some w => am_b (Nat.ble h.length am_pX) (vp_in i w.1 ∧ P (pc + 1, am_pick kf lv, .int (w.2 i.toNatClampNeg) :: r, h, k, n))
        | none => False)
      | false => False)
    | some _ => am_arr h o (fun t a => am_b (Nat.beq t 0) (am_ai a (fun f => vp_in i a.1 ∧ P (pc + 1, am_pick kf lv, .int (f i.toNatClampNeg) :: r, h, k, n))))))
  | .laload => am_i1 st (fun i r0 => am_r1 r0 (fun o r => am_arr h o (fun t a => am_b (Nat.beq t 1) (am_al a (fun f => vp_in i a.1 ∧ P (pc + 1, am_pick kf lv, .long (f i.toNatClampNeg) :: r, h, k, n))))))
  | .aaload => am_i1 st (fun i r0 => am_r1 r0 (fun o r => am_arr h o (fun t a => am_b (Nat.beq t 2 || Nat.beq t 3) (am_aq a (fun f => vp_in i a.1 ∧ P (pc + 1, am_pick kf lv, va_rf (f i.toNatClampNeg) :: r, h, k, n))))))
  | .iastore => am_i1 st (fun x r1 => am_i1 r1 (fun i r0 => am_r1 r0 (fun o r => am_arr h o (fun t a => am_b (Nat.beq t 0) (am_ai a (fun f => vp_in i a.1 ∧ P (pc + 1, am_pick kf lv, r, h.set o (.inl (0, a.1, .inl (upd f i.toNatClampNeg x))), k, n)))))))
  | .bastore => am_i1 st (fun x r1 => am_i1 r1 (fun i r0 => am_r1 r0 (fun o r => am_arr h o (fun t a => am_b (Nat.beq t 4) (am_ai a (fun f => vp_in i a.1 ∧ P (pc + 1, am_pick kf lv, r, h.set o (.inl (4, a.1, .inl (upd f i.toNatClampNeg (vp_nar .byte x)))), k, n)))))))
  | .lastore => am_l1 st (fun x r1 => am_i1 r1 (fun i r0 => am_r1 r0 (fun o r => am_arr h o (fun t a => am_b (Nat.beq t 1) (am_al a (fun f => vp_in i a.1 ∧ P (pc + 1, am_pick kf lv, r, h.set o (.inl (1, a.1, .inr (.inl (vp_updL f i.toNatClampNeg x)))), k, n)))))))
  | .aastore => am_r1 st (fun w r1 => am_i1 r1 (fun i r0 => am_r1 r0 (fun o r => am_arr h o (fun t a => am_b (Nat.beq t 2) (am_aq a (fun f => am_obj h w (fun ci _ => am_b (Nat.beq ci 5) (vp_in i a.1 ∧ P (pc + 1, am_pick kf lv, r, h.set o (.inl (2, a.1, .inr (.inr (.inr (.inr (va_up f i.toNatClampNeg (some w))))))), k, n))))))))) 
  | .arraylength => am_r1 st (fun o r => match h[o]? with
    | none => (match Nat.ble am_pV o with
      | true => am_b (Nat.ble o (am_pV + 6) && Nat.ble h.length am_pX) (P (pc + 1, am_pick kf lv, .int (Int32.ofNat (am_ln.getD (o - am_pV) 0)) :: r, h, k, n))
      | false => (match sc with
        | some w => am_b (Nat.beq o am_pL && Nat.ble h.length am_pX) (P (pc + 1, am_pick kf lv, .int (Int32.ofNat w.1) :: r, h, k, n))
        | none => False))
    | some _ => am_arr h o (fun t a => am_b (Nat.ble t 4) (P (pc + 1, am_pick kf lv, .int (Int32.ofNat a.1) :: r, h, k, n))))
  | .new _ => am_b (am_nh h.length (h.length + 1) lv st h) (am_b (Nat.ble (k + 1) mc && Nat.ble (n + am_Nf a) ms) (P (pc + 3, am_pick kf lv, .ref h.length :: st, h ++ [.inr (a, am_dfl a)], k + 1, n + am_Nf a)))
  | .newarray t => am_i1 st (fun x r => am_b (am_nh h.length (h.length + 1) lv r h) (am_b (!decide (x < 0) && (Nat.ble x.toNatClampNeg 4096 && (Nat.ble (k + 1) mc && Nat.ble (n + x.toNatClampNeg) ms))) (match t with
    | .int => P (pc + 2, am_pick kf lv, .ref h.length :: r, h ++ [.inl (0, x.toNatClampNeg, .inl (fun _ => 0))], k + 1, n + x.toNatClampNeg)
    | .long => P (pc + 2, am_pick kf lv, .ref h.length :: r, h ++ [.inl (1, x.toNatClampNeg, .inr (.inl (fun _ => 0)))], k + 1, n + x.toNatClampNeg)
    | .byte => P (pc + 2, am_pick kf lv, .ref h.length :: r, h ++ [.inl (4, x.toNatClampNeg, .inl (fun _ => 0))], k + 1, n + x.toNatClampNeg)
    | _ => False)))
  | .anewarray _ => am_i1 st (fun x r => am_b (am_nh h.length (h.length + 1) lv r h) (am_b (!decide (x < 0) && (Nat.ble x.toNatClampNeg 4096 && (Nat.ble (k + 1) mc && Nat.ble (n + x.toNatClampNeg) ms))) (P (pc + 3, am_pick kf lv, .ref h.length :: r, h ++ [.inl (2, x.toNatClampNeg, .inr (.inr (.inr (.inr (fun _ => none)))))], k + 1, n + x.toNatClampNeg))))
  | .multianewarray _ _ => am_i2 st (fun w x r => am_b (am_nh h.length (h.length + 1 + w.toNatClampNeg) lv r h) (am_b (!decide (x < 0) && (!decide (w < 0) && (Nat.ble x.toNatClampNeg 4096 && (Nat.ble w.toNatClampNeg 64 && (Nat.ble (k + 1 + w.toNatClampNeg) mc && Nat.ble (n + w.toNatClampNeg + w.toNatClampNeg * x.toNatClampNeg) ms))))) (P (pc + 4, am_pick kf lv, .ref h.length :: r, (h ++ [.inl (3, w.toNatClampNeg, .inr (.inr (.inr (.inr (fun i => some (h.length + 1 + i))))))]) ++ List.replicate w.toNatClampNeg (.inl (0, x.toNatClampNeg, .inl (fun _ => 0))), k + 1 + w.toNatClampNeg, n + w.toNatClampNeg + w.toNatClampNeg * x.toNatClampNeg))))
  | .ldc _ => match b with
    | 0 => P (pc + 2, am_pick kf lv, .int (Int32.ofNat a) :: st, h, k, n)
    | 7 => am_b (Nat.ble h.length am_pX) (P (pc + 2, am_pick kf lv, .ref (am_pS + a) :: st, h, k, n))
    | _ => False
  | .ldc_w _ => am_b (Nat.beq b 0) (P (pc + 3, am_pick kf lv, .int (Int32.ofNat a) :: st, h, k, n))
  | .ldc2_w _ => match b with
    | 1 => P (pc + 3, am_pick kf lv, .long (Int64.ofNat a) :: st, h, k, n)
    | 2 => P (pc + 3, am_pick kf lv, .long (-(Int64.ofNat a)) :: st, h, k, n)
    | _ => False
  | .invokestatic _ => match Nat.ble 9000 a with
    | false => (match am_take (am_na a) [] st with
      | some (as, rest) => am_b (Nat.beq (am_kd a) 0) (am_call E mc ms P a as pc lv kf rest h k n)
      | none => False)
    | true => (match a with
      | 9001 => am_i2 st (fun x z r => am_b (Nat.ble (am_cat r) 8) (P (pc + 3, am_pick kf lv, .int (if x < z then z else x) :: r, h, k, n)))
      | 9002 => am_i2 st (fun x z r => am_b (Nat.ble (am_cat r) 8) (P (pc + 3, am_pick kf lv, .int (if z < x then z else x) :: r, h, k, n)))
      | 9003 => am_i1 st (fun w s1 => am_i1 s1 (fun dp s2 => am_r1 s2 (fun o s3 => am_i1 s3 (fun sp s4 => am_r1 s4 (fun o0 r => match h[o0]? with
        | none => am_b (Nat.ble am_pV o0 && (Nat.ble o0 (am_pV + 6) && Nat.ble h.length am_pX)) (am_arr h o (fun t1 a1 => am_b (Nat.beq t1 4 && Nat.ble (am_cat r) 8) (am_ai a1 (fun g => ¬ sp < 0 ∧ ¬ dp < 0 ∧ ¬ w < 0 ∧ sp.toNatClampNeg + w.toNatClampNeg ≤ am_ln.getD (o0 - am_pV) 0 ∧ dp.toNatClampNeg + w.toNatClampNeg ≤ a1.1 ∧ P (pc + 3, am_pick kf lv, r, h.set o (.inl (4, a1.1, .inl (va_cpy (fun j => (am_byt.getD (o0 - am_pV) []).getD j 0) g sp.toNatClampNeg dp.toNatClampNeg w.toNatClampNeg))), k, n)))))
        | some _ => am_arr h o0 (fun t0 a0 => am_arr h o (fun t1 a1 => am_b ((Nat.beq t0 0 || Nat.beq t0 4) && (Nat.beq t1 t0 && Nat.ble (am_cat r) 8)) (am_ai a0 (fun f => am_ai a1 (fun g => ¬ sp < 0 ∧ ¬ dp < 0 ∧ ¬ w < 0 ∧ sp.toNatClampNeg + w.toNatClampNeg ≤ a0.1 ∧ dp.toNatClampNeg + w.toNatClampNeg ≤ a1.1 ∧ (t0 = 4 → ∀ i, i < w.toNatClampNeg → fits .byte (.int (f (sp.toNatClampNeg + i))) = true) ∧ P (pc + 3, am_pick kf lv, r, h.set o (.inl (t0, a1.1, .inl (va_cpy f g sp.toNatClampNeg dp.toNatClampNeg w.toNatClampNeg))), k, n)))))))))))
      | 9004 => am_i2 st (fun x z r => am_b (Nat.ble (am_cat r) 8 && Nat.ble h.length am_pX) (¬ x < 0 ∧ x < z ∧ P (pc + 3, am_pick kf lv, r, h, k, n)))
      | _ => False)
  | .invokevirtual _ => match Nat.ble 9000 a with
    | false => (match am_take (am_na a) [] st with
      | some (as, .ref o :: rest) => (match Nat.beq (am_kd a) 1 with
        | true => (match Nat.beq (am_ci a) 8 && Nat.ble am_pS o with
          | true => am_b (Nat.ble o (am_pS + 6) && !(Nat.beq b 2)) (am_call E mc ms P a (.ref o :: as) pc lv kf rest h k n)
          | false => am_obj h o (fun ci _ => am_b (Nat.beq ci (am_ci a) && (Nat.ble (ci + 1) 9 && !(Nat.beq b 2))) (am_call E mc ms P a (.ref o :: as) pc lv kf rest h k n)))
        | false => am_obj h o (fun ci _ => am_b (Nat.beq ci 7 && (Nat.beq (am_kd a) 3 && Nat.beq b 0 || Nat.beq (am_kd a) 5 && Nat.beq b 2)) (am_call E mc ms P a (.ref o :: as) pc lv kf rest h k n)))
      | _ => False)
    | true => False
  | .invokespecial _ => match Nat.ble 9000 a with
    | false => (match am_take (am_na a) [] st with
      | some (as, .ref o :: rest) => (match Nat.beq (am_kd a) 2 with
        | true => am_call E mc ms P a (.ref o :: as) pc lv kf rest h k n
        | false => am_obj h o (fun ci _ => am_b (Nat.beq ci 7 && (Nat.beq (am_kd a) 4 && (Nat.beq b 0 && decide ((am_nm y).cls = "java/lang/StringBuilder")))) (am_call E mc ms P a (.ref o :: as) pc lv kf rest h k n)))
      | _ => False)
    | true => am_b (Nat.beq a 9999) (am_r1 st (fun _ r => am_b (Nat.ble (am_cat r) 8) (P (pc + 3, am_pick kf lv, r, h, k, n))))
  | .ireturn => match st with
    | [.int x] => (match am_ret y with
      | some t => narrow t (.int x) = .int x ∧ Φ (some (.int x)) h
      | none => False)
    | _ => False
  | .lreturn => match st with
    | [.long x] => am_b (decide (am_ret y = some .long)) (Φ (some (.long x)) h)
    | _ => False
  | .areturn => match st with
    | [.ref x] => (match am_ret y with
      | some (.object _) => Φ (some (.ref x)) h
      | some (.array _) => Φ (some (.ref x)) h
      | _ => False)
    | _ => False
  | .return_ => match st with
    | [] => am_b (decide (am_ret y = none)) (Φ none h)
    | _ => False
  | _ => False
noncomputable def am_step (E : am_E) (sc : Option (Nat × (Nat → Int32))) (y mc ms : Nat) (Φ : Option Value → am_H → Prop) (P : am_S → Prop) (c : am_S) : Prop := match am_tb y c.1 with
  | none => False
  | some e => am_ex E sc y mc ms Φ P e.1 e.2.1 e.2.2.1 e.2.2.2.2.1 e.2.2.2.2.2.1 e.2.2.2.2.2.2 c.1 c.2.1 c.2.2.1 c.2.2.2.1 c.2.2.2.2.1 c.2.2.2.2.2
/-- a method runs from c to its end: the least predicate that the instructions carry back -/
noncomputable def am_go (E : am_E) (sc : Option (Nat × (Nat → Int32))) (y mc ms : Nat) (Φ : Option Value → am_H → Prop) (c : am_S) : Prop := ∀ P : am_S → Prop, (∀ (c : am_S) (P1 : am_S → Prop), (∀ c1, P1 c1 → P c1) → am_step E sc y mc ms Φ P1 c → P c) → P c
/-- a run over a part of the heap is a run over the heap: the part's n cells stand behind lo others; what is new comes at the end -/
def am_ro (lo n off : Nat) (k : Nat) : Nat := bif Nat.ble am_pX k then k else bif Nat.ble n k then k + off else k + lo
def am_mv (r : Nat → Nat) (v : Value) : Value := match v with
  | .ref a => .ref (r a)
  | v => v
def am_mc (r : Nat → Nat) (c : am_C) : am_C := match c with
  | .inr o => .inr (o.1, o.2.map (am_mv r))
  | .inl (t, n, .inr (.inr (.inr (.inr f)))) => .inl (t, n, .inr (.inr (.inr (.inr (fun i => if i < n then (f i).map r else f i)))))
  | c => c
def am_fr (E : am_E) : am_E := fun z as h r h1 mc ms => ∃ (pre post h0 h2 : am_H) (as0 : List Value) (r0 : Option Value), E z as0 h0 r0 h2 mc ms ∧ h0.length ≤ h2.length ∧ h2.length + (pre.length + post.length) ≤ am_pX ∧ (h2.length = h0.length ∨ (pre ++ post).all (am_nc (pre.length + (h0.length + post.length)) (pre.length + (h2.length + post.length))) = true) ∧ as = as0.map (am_mv (am_ro pre.length h0.length (pre.length + post.length))) ∧ h = pre ++ (h0.map (am_mc (am_ro pre.length h0.length (pre.length + post.length))) ++ post) ∧ r = r0.map (am_mv (am_ro pre.length h0.length (pre.length + post.length))) ∧ h1 = pre ++ ((h2.take h0.length).map (am_mc (am_ro pre.length h0.length (pre.length + post.length))) ++ (post ++ (h2.drop h0.length).map (am_mc (am_ro pre.length h0.length (pre.length + post.length)))))
/-- a method, by how deep its calls go -/
noncomputable def am_run (sc : Option (Nat × (Nat → Int32))) : Nat → am_E
  | 0 => fun _ _ _ _ _ _ _ => False
  | d + 1 => fun y as h r h1 mc ms => Nat.ble (lg_sl as).length (am_ml y) = true ∧ am_go (am_fr (am_run sc d)) sc y mc ms (fun r2 h2 => r2 = r ∧ h2 = h1) (0, lv_args 0 as, [], h, 0, 0)
