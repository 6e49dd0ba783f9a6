/-! ===== the law's own methods as functions, and that each does what its function says ===== -/
def F_W_bits (L : Nat) (xs : Nat → Int32) (a0 : Int32) : Option (Int32) :=
  some ((((((((a0 - ((a0.toUInt32 >>> ((nI 1).toUInt32 &&& Int32.toUInt32 31)).toInt32 &&& (nI 1431655765))) &&& (nI 858993459)) + (((a0 - ((a0.toUInt32 >>> ((nI 1).toUInt32 &&& Int32.toUInt32 31)).toInt32 &&& (nI 1431655765))).toUInt32 >>> ((nI 2).toUInt32 &&& Int32.toUInt32 31)).toInt32 &&& (nI 858993459))) + ((((a0 - ((a0.toUInt32 >>> ((nI 1).toUInt32 &&& Int32.toUInt32 31)).toInt32 &&& (nI 1431655765))) &&& (nI 858993459)) + (((a0 - ((a0.toUInt32 >>> ((nI 1).toUInt32 &&& Int32.toUInt32 31)).toInt32 &&& (nI 1431655765))).toUInt32 >>> ((nI 2).toUInt32 &&& Int32.toUInt32 31)).toInt32 &&& (nI 858993459))).toUInt32 >>> ((nI 4).toUInt32 &&& Int32.toUInt32 31)).toInt32) &&& (nI 252645135)) + ((((((a0 - ((a0.toUInt32 >>> ((nI 1).toUInt32 &&& Int32.toUInt32 31)).toInt32 &&& (nI 1431655765))) &&& (nI 858993459)) + (((a0 - ((a0.toUInt32 >>> ((nI 1).toUInt32 &&& Int32.toUInt32 31)).toInt32 &&& (nI 1431655765))).toUInt32 >>> ((nI 2).toUInt32 &&& Int32.toUInt32 31)).toInt32 &&& (nI 858993459))) + ((((a0 - ((a0.toUInt32 >>> ((nI 1).toUInt32 &&& Int32.toUInt32 31)).toInt32 &&& (nI 1431655765))) &&& (nI 858993459)) + (((a0 - ((a0.toUInt32 >>> ((nI 1).toUInt32 &&& Int32.toUInt32 31)).toInt32 &&& (nI 1431655765))).toUInt32 >>> ((nI 2).toUInt32 &&& Int32.toUInt32 31)).toInt32 &&& (nI 858993459))).toUInt32 >>> ((nI 4).toUInt32 &&& Int32.toUInt32 31)).toInt32) &&& (nI 252645135)).toUInt32 >>> ((nI 8).toUInt32 &&& Int32.toUInt32 31)).toInt32) + (((((((a0 - ((a0.toUInt32 >>> ((nI 1).toUInt32 &&& Int32.toUInt32 31)).toInt32 &&& (nI 1431655765))) &&& (nI 858993459)) + (((a0 - ((a0.toUInt32 >>> ((nI 1).toUInt32 &&& Int32.toUInt32 31)).toInt32 &&& (nI 1431655765))).toUInt32 >>> ((nI 2).toUInt32 &&& Int32.toUInt32 31)).toInt32 &&& (nI 858993459))) + ((((a0 - ((a0.toUInt32 >>> ((nI 1).toUInt32 &&& Int32.toUInt32 31)).toInt32 &&& (nI 1431655765))) &&& (nI 858993459)) + (((a0 - ((a0.toUInt32 >>> ((nI 1).toUInt32 &&& Int32.toUInt32 31)).toInt32 &&& (nI 1431655765))).toUInt32 >>> ((nI 2).toUInt32 &&& Int32.toUInt32 31)).toInt32 &&& (nI 858993459))).toUInt32 >>> ((nI 4).toUInt32 &&& Int32.toUInt32 31)).toInt32) &&& (nI 252645135)) + ((((((a0 - ((a0.toUInt32 >>> ((nI 1).toUInt32 &&& Int32.toUInt32 31)).toInt32 &&& (nI 1431655765))) &&& (nI 858993459)) + (((a0 - ((a0.toUInt32 >>> ((nI 1).toUInt32 &&& Int32.toUInt32 31)).toInt32 &&& (nI 1431655765))).toUInt32 >>> ((nI 2).toUInt32 &&& Int32.toUInt32 31)).toInt32 &&& (nI 858993459))) + ((((a0 - ((a0.toUInt32 >>> ((nI 1).toUInt32 &&& Int32.toUInt32 31)).toInt32 &&& (nI 1431655765))) &&& (nI 858993459)) + (((a0 - ((a0.toUInt32 >>> ((nI 1).toUInt32 &&& Int32.toUInt32 31)).toInt32 &&& (nI 1431655765))).toUInt32 >>> ((nI 2).toUInt32 &&& Int32.toUInt32 31)).toInt32 &&& (nI 858993459))).toUInt32 >>> ((nI 4).toUInt32 &&& Int32.toUInt32 31)).toInt32) &&& (nI 252645135)).toUInt32 >>> ((nI 8).toUInt32 &&& Int32.toUInt32 31)).toInt32).toUInt32 >>> ((nI 16).toUInt32 &&& Int32.toUInt32 31)).toInt32) &&& (nI 63))
theorem T_W_bits {L : Nat} {xs : Nat → Int32} {D : Nat} {g : am_H} (hh : g.length ≤ am_pX) {o : Int32} (a0 : Int32) (H : F_W_bits L xs a0 = some o) : am_gp L xs D 84 o g (0, [(0, .int a0)], [], g, 0, 0) := by
  unfold F_W_bits at H
  exact am_go_blk 42 ⟨rfl, am_fp H⟩
theorem M_W_bits {L : Nat} {xs : Nat → Int32} {D : Nat} {g : am_H} (hh : g.length ≤ am_pX) {o : Int32} {a0 : Int32} (H : F_W_bits L xs a0 = some o) : am_run (some (L, xs)) (D + 1) 84 [.int a0] g (some (.int o)) g 0 0 :=
  am_run_of rfl (T_W_bits hh a0 H)
def F_W_lbits (L : Nat) (xs : Nat → Int32) (a0 : Int64) : Option (Int32) :=
  some (((((((((a0 - ((a0.toUInt64 >>> ((nI 1).toInt64.toUInt64 &&& Int64.toUInt64 63)).toInt64 &&& (lN 6148914691236517205))) &&& (lN 3689348814741910323)) + (((a0 - ((a0.toUInt64 >>> ((nI 1).toInt64.toUInt64 &&& Int64.toUInt64 63)).toInt64 &&& (lN 6148914691236517205))).toUInt64 >>> ((nI 2).toInt64.toUInt64 &&& Int64.toUInt64 63)).toInt64 &&& (lN 3689348814741910323))) + ((((a0 - ((a0.toUInt64 >>> ((nI 1).toInt64.toUInt64 &&& Int64.toUInt64 63)).toInt64 &&& (lN 6148914691236517205))) &&& (lN 3689348814741910323)) + (((a0 - ((a0.toUInt64 >>> ((nI 1).toInt64.toUInt64 &&& Int64.toUInt64 63)).toInt64 &&& (lN 6148914691236517205))).toUInt64 >>> ((nI 2).toInt64.toUInt64 &&& Int64.toUInt64 63)).toInt64 &&& (lN 3689348814741910323))).toUInt64 >>> ((nI 4).toInt64.toUInt64 &&& Int64.toUInt64 63)).toInt64) &&& (lN 1085102592571150095)) + ((((((a0 - ((a0.toUInt64 >>> ((nI 1).toInt64.toUInt64 &&& Int64.toUInt64 63)).toInt64 &&& (lN 6148914691236517205))) &&& (lN 3689348814741910323)) + (((a0 - ((a0.toUInt64 >>> ((nI 1).toInt64.toUInt64 &&& Int64.toUInt64 63)).toInt64 &&& (lN 6148914691236517205))).toUInt64 >>> ((nI 2).toInt64.toUInt64 &&& Int64.toUInt64 63)).toInt64 &&& (lN 3689348814741910323))) + ((((a0 - ((a0.toUInt64 >>> ((nI 1).toInt64.toUInt64 &&& Int64.toUInt64 63)).toInt64 &&& (lN 6148914691236517205))) &&& (lN 3689348814741910323)) + (((a0 - ((a0.toUInt64 >>> ((nI 1).toInt64.toUInt64 &&& Int64.toUInt64 63)).toInt64 &&& (lN 6148914691236517205))).toUInt64 >>> ((nI 2).toInt64.toUInt64 &&& Int64.toUInt64 63)).toInt64 &&& (lN 3689348814741910323))).toUInt64 >>> ((nI 4).toInt64.toUInt64 &&& Int64.toUInt64 63)).toInt64) &&& (lN 1085102592571150095)).toUInt64 >>> ((nI 8).toInt64.toUInt64 &&& Int64.toUInt64 63)).toInt64) + (((((((a0 - ((a0.toUInt64 >>> ((nI 1).toInt64.toUInt64 &&& Int64.toUInt64 63)).toInt64 &&& (lN 6148914691236517205))) &&& (lN 3689348814741910323)) + (((a0 - ((a0.toUInt64 >>> ((nI 1).toInt64.toUInt64 &&& Int64.toUInt64 63)).toInt64 &&& (lN 6148914691236517205))).toUInt64 >>> ((nI 2).toInt64.toUInt64 &&& Int64.toUInt64 63)).toInt64 &&& (lN 3689348814741910323))) + ((((a0 - ((a0.toUInt64 >>> ((nI 1).toInt64.toUInt64 &&& Int64.toUInt64 63)).toInt64 &&& (lN 6148914691236517205))) &&& (lN 3689348814741910323)) + (((a0 - ((a0.toUInt64 >>> ((nI 1).toInt64.toUInt64 &&& Int64.toUInt64 63)).toInt64 &&& (lN 6148914691236517205))).toUInt64 >>> ((nI 2).toInt64.toUInt64 &&& Int64.toUInt64 63)).toInt64 &&& (lN 3689348814741910323))).toUInt64 >>> ((nI 4).toInt64.toUInt64 &&& Int64.toUInt64 63)).toInt64) &&& (lN 1085102592571150095)) + ((((((a0 - ((a0.toUInt64 >>> ((nI 1).toInt64.toUInt64 &&& Int64.toUInt64 63)).toInt64 &&& (lN 6148914691236517205))) &&& (lN 3689348814741910323)) + (((a0 - ((a0.toUInt64 >>> ((nI 1).toInt64.toUInt64 &&& Int64.toUInt64 63)).toInt64 &&& (lN 6148914691236517205))).toUInt64 >>> ((nI 2).toInt64.toUInt64 &&& Int64.toUInt64 63)).toInt64 &&& (lN 3689348814741910323))) + ((((a0 - ((a0.toUInt64 >>> ((nI 1).toInt64.toUInt64 &&& Int64.toUInt64 63)).toInt64 &&& (lN 6148914691236517205))) &&& (lN 3689348814741910323)) + (((a0 - ((a0.toUInt64 >>> ((nI 1).toInt64.toUInt64 &&& Int64.toUInt64 63)).toInt64 &&& (lN 6148914691236517205))).toUInt64 >>> ((nI 2).toInt64.toUInt64 &&& Int64.toUInt64 63)).toInt64 &&& (lN 3689348814741910323))).toUInt64 >>> ((nI 4).toInt64.toUInt64 &&& Int64.toUInt64 63)).toInt64) &&& (lN 1085102592571150095)).toUInt64 >>> ((nI 8).toInt64.toUInt64 &&& Int64.toUInt64 63)).toInt64).toUInt64 >>> ((nI 16).toInt64.toUInt64 &&& Int64.toUInt64 63)).toInt64) + ((((((((a0 - ((a0.toUInt64 >>> ((nI 1).toInt64.toUInt64 &&& Int64.toUInt64 63)).toInt64 &&& (lN 6148914691236517205))) &&& (lN 3689348814741910323)) + (((a0 - ((a0.toUInt64 >>> ((nI 1).toInt64.toUInt64 &&& Int64.toUInt64 63)).toInt64 &&& (lN 6148914691236517205))).toUInt64 >>> ((nI 2).toInt64.toUInt64 &&& Int64.toUInt64 63)).toInt64 &&& (lN 3689348814741910323))) + ((((a0 - ((a0.toUInt64 >>> ((nI 1).toInt64.toUInt64 &&& Int64.toUInt64 63)).toInt64 &&& (lN 6148914691236517205))) &&& (lN 3689348814741910323)) + (((a0 - ((a0.toUInt64 >>> ((nI 1).toInt64.toUInt64 &&& Int64.toUInt64 63)).toInt64 &&& (lN 6148914691236517205))).toUInt64 >>> ((nI 2).toInt64.toUInt64 &&& Int64.toUInt64 63)).toInt64 &&& (lN 3689348814741910323))).toUInt64 >>> ((nI 4).toInt64.toUInt64 &&& Int64.toUInt64 63)).toInt64) &&& (lN 1085102592571150095)) + ((((((a0 - ((a0.toUInt64 >>> ((nI 1).toInt64.toUInt64 &&& Int64.toUInt64 63)).toInt64 &&& (lN 6148914691236517205))) &&& (lN 3689348814741910323)) + (((a0 - ((a0.toUInt64 >>> ((nI 1).toInt64.toUInt64 &&& Int64.toUInt64 63)).toInt64 &&& (lN 6148914691236517205))).toUInt64 >>> ((nI 2).toInt64.toUInt64 &&& Int64.toUInt64 63)).toInt64 &&& (lN 3689348814741910323))) + ((((a0 - ((a0.toUInt64 >>> ((nI 1).toInt64.toUInt64 &&& Int64.toUInt64 63)).toInt64 &&& (lN 6148914691236517205))) &&& (lN 3689348814741910323)) + (((a0 - ((a0.toUInt64 >>> ((nI 1).toInt64.toUInt64 &&& Int64.toUInt64 63)).toInt64 &&& (lN 6148914691236517205))).toUInt64 >>> ((nI 2).toInt64.toUInt64 &&& Int64.toUInt64 63)).toInt64 &&& (lN 3689348814741910323))).toUInt64 >>> ((nI 4).toInt64.toUInt64 &&& Int64.toUInt64 63)).toInt64) &&& (lN 1085102592571150095)).toUInt64 >>> ((nI 8).toInt64.toUInt64 &&& Int64.toUInt64 63)).toInt64) + (((((((a0 - ((a0.toUInt64 >>> ((nI 1).toInt64.toUInt64 &&& Int64.toUInt64 63)).toInt64 &&& (lN 6148914691236517205))) &&& (lN 3689348814741910323)) + (((a0 - ((a0.toUInt64 >>> ((nI 1).toInt64.toUInt64 &&& Int64.toUInt64 63)).toInt64 &&& (lN 6148914691236517205))).toUInt64 >>> ((nI 2).toInt64.toUInt64 &&& Int64.toUInt64 63)).toInt64 &&& (lN 3689348814741910323))) + ((((a0 - ((a0.toUInt64 >>> ((nI 1).toInt64.toUInt64 &&& Int64.toUInt64 63)).toInt64 &&& (lN 6148914691236517205))) &&& (lN 3689348814741910323)) + (((a0 - ((a0.toUInt64 >>> ((nI 1).toInt64.toUInt64 &&& Int64.toUInt64 63)).toInt64 &&& (lN 6148914691236517205))).toUInt64 >>> ((nI 2).toInt64.toUInt64 &&& Int64.toUInt64 63)).toInt64 &&& (lN 3689348814741910323))).toUInt64 >>> ((nI 4).toInt64.toUInt64 &&& Int64.toUInt64 63)).toInt64) &&& (lN 1085102592571150095)) + ((((((a0 - ((a0.toUInt64 >>> ((nI 1).toInt64.toUInt64 &&& Int64.toUInt64 63)).toInt64 &&& (lN 6148914691236517205))) &&& (lN 3689348814741910323)) + (((a0 - ((a0.toUInt64 >>> ((nI 1).toInt64.toUInt64 &&& Int64.toUInt64 63)).toInt64 &&& (lN 6148914691236517205))).toUInt64 >>> ((nI 2).toInt64.toUInt64 &&& Int64.toUInt64 63)).toInt64 &&& (lN 3689348814741910323))) + ((((a0 - ((a0.toUInt64 >>> ((nI 1).toInt64.toUInt64 &&& Int64.toUInt64 63)).toInt64 &&& (lN 6148914691236517205))) &&& (lN 3689348814741910323)) + (((a0 - ((a0.toUInt64 >>> ((nI 1).toInt64.toUInt64 &&& Int64.toUInt64 63)).toInt64 &&& (lN 6148914691236517205))).toUInt64 >>> ((nI 2).toInt64.toUInt64 &&& Int64.toUInt64 63)).toInt64 &&& (lN 3689348814741910323))).toUInt64 >>> ((nI 4).toInt64.toUInt64 &&& Int64.toUInt64 63)).toInt64) &&& (lN 1085102592571150095)).toUInt64 >>> ((nI 8).toInt64.toUInt64 &&& Int64.toUInt64 63)).toInt64).toUInt64 >>> ((nI 16).toInt64.toUInt64 &&& Int64.toUInt64 63)).toInt64).toUInt64 >>> ((nI 32).toInt64.toUInt64 &&& Int64.toUInt64 63)).toInt64).toInt32 &&& (nI 127))
theorem T_W_lbits {L : Nat} {xs : Nat → Int32} {D : Nat} {g : am_H} (hh : g.length ≤ am_pX) {o : Int32} (a0 : Int64) (H : F_W_lbits L xs a0 = some o) : am_gp L xs D 85 o g (0, [(0, .long a0)], [], g, 0, 0) := by
  unfold F_W_lbits at H
  exact am_go_blk 49 ⟨rfl, am_fp H⟩
theorem M_W_lbits {L : Nat} {xs : Nat → Int32} {D : Nat} {g : am_H} (hh : g.length ≤ am_pX) {o : Int32} {a0 : Int64} (H : F_W_lbits L xs a0 = some o) : am_run (some (L, xs)) (D + 1) 85 [.long a0] g (some (.int o)) g 0 0 :=
  am_run_of rfl (T_W_lbits hh a0 H)
def F_W_at_13 (L : Nat) (xs : Nat → Int32) (s0 : Int32) : Option (Int32) :=
  some s0
def F_W_at (L : Nat) (xs : Nat → Int32) (a1 : Int32) : Option (Int32) :=
  if (nI L) ≤ a1 then (F_W_at_13 L xs (nI 0)) else (am_ck (am_in a1 L) (F_W_at_13 L xs (xs a1.toNatClampNeg)))
theorem T_W_at_13 {L : Nat} {xs : Nat → Int32} {D : Nat} {g : am_H} (hh : g.length ≤ am_pX) {o : Int32} (s0 : Int32) (H : F_W_at_13 L xs s0 = some o) : am_gp L xs D 109 o g (13, [], [.int s0], g, 0, 0) := by
  unfold F_W_at_13 at H
  exact am_go_blk 1 ⟨rfl, am_fp H⟩
theorem T_W_at {L : Nat} {xs : Nat → Int32} {D : Nat} {g : am_H} (hh : g.length ≤ am_pX) {o : Int32} (a1 : Int32) (H : F_W_at L xs a1 = some o) : am_gp L xs D 109 o g (0, [(0, .ref am_pL), (1, .int a1)], [], g, 0, 0) := by
  unfold F_W_at at H
  refine am_go_blk 2 (?_ : am_gp L xs D 109 o g (2, [(0, .ref am_pL), (1, .int a1)], [.ref am_pL, .int a1], g, 0, 0))
  refine am_sln rfl hh (?_ : am_gp L xs D 109 o g (3, [(0, .ref am_pL), (1, .int a1)], [.int (nI L), .int a1], g, 0, 0))
  refine am_go_blk 1 ⟨fun hc => ?_, fun hc => ?_⟩
  · have H := am_it hc H
    show am_gp L xs D 109 o g (12, [], [], g, 0, 0)
    exact am_go_blk 1 (T_W_at_13 hh (nI 0) H)
  · have H := am_ie hc H
    show am_gp L xs D 109 o g (6, [(0, .ref am_pL), (1, .int a1)], [], g, 0, 0)
    refine am_go_blk 2 (?_ : am_gp L xs D 109 o g (8, [(0, .ref am_pL), (1, .int a1)], [.int a1, .ref am_pL], g, 0, 0))
    obtain ⟨hc, H⟩ := am_ckE H
    refine am_sld rfl hh (am_inv hc) (?_ : am_gp L xs D 109 o g (9, [(0, .ref am_pL), (1, .int a1)], [.int (xs a1.toNatClampNeg)], g, 0, 0))
    exact am_go_blk 1 (T_W_at_13 hh (xs a1.toNatClampNeg) H)
theorem M_W_at {L : Nat} {xs : Nat → Int32} {D : Nat} {g : am_H} (hh : g.length ≤ am_pX) {o : Int32} {a1 : Int32} (H : F_W_at L xs a1 = some o) : am_run (some (L, xs)) (D + 1) 109 [.ref am_pL, .int a1] g (some (.int o)) g 0 0 :=
  am_run_of rfl (T_W_at hh a1 H)
def F_W_plain_17 (L : Nat) (xs : Nat → Int32) (s0 : Int32) : Option (Int32) :=
  am_ck (am_bo s0) (some s0)
def F_W_plain (L : Nat) (xs : Nat → Int32) : Option (Int32) :=
  (F_W_at L xs (nI 0)).bind fun q1 => if ((q1 >>> ((nI 5) &&& 31)) &&& (nI 3)) = 0 then (F_W_plain_17 L xs (nI 1)) else (F_W_plain_17 L xs (nI 0))
theorem T_W_plain_17 {L : Nat} {xs : Nat → Int32} {D : Nat} {g : am_H} (hh : g.length ≤ am_pX) {o : Int32} (s0 : Int32) (H : F_W_plain_17 L xs s0 = some o) : am_gp L xs (D + 1) 112 o g (17, [], [.int s0], g, 0, 0) := by
  unfold F_W_plain_17 at H
  obtain ⟨hc, H⟩ := am_ckE H
  exact am_go_blk 1 ⟨am_boE hc, am_fp H⟩
theorem T_W_plain {L : Nat} {xs : Nat → Int32} {D : Nat} {g : am_H} (hh : g.length ≤ am_pX) {o : Int32} (H : F_W_plain L xs = some o) : am_gp L xs (D + 1) 112 o g (0, [(0, .ref am_pL)], [], g, 0, 0) := by
  unfold F_W_plain at H
  refine am_go_blk 2 (?_ : am_gp L xs (D + 1) 112 o g (2, [(0, .ref am_pL)], [.int (nI 0), .ref am_pL], g, 0, 0))
  obtain ⟨q1, hq1, H⟩ := am_bnE H
  refine am_cls rfl rfl rfl (am_kcall (am_hl rfl hh) (M_W_at (D := D) hh hq1) rfl (Nat.le_refl _) (Nat.le_refl _) (?_ : am_gp L xs (D + 1) 112 o g (5, [(0, .ref am_pL)], [.int q1], g, 0, 0)))
  refine am_go_blk 5 ⟨fun hc => ?_, fun hc => ?_⟩
  · have H := am_ie hc H
    show am_gp L xs (D + 1) 112 o g (16, [], [], g, 0, 0)
    exact am_go_blk 1 (T_W_plain_17 hh (nI 0) H)
  · have H := am_it hc H
    show am_gp L xs (D + 1) 112 o g (12, [(0, .ref am_pL)], [], g, 0, 0)
    exact am_go_blk 2 (T_W_plain_17 hh (nI 1) H)
theorem M_W_plain {L : Nat} {xs : Nat → Int32} {D : Nat} {g : am_H} (hh : g.length ≤ am_pX) {o : Int32} (H : F_W_plain L xs = some o) : am_run (some (L, xs)) (D + 2) 112 [.ref am_pL] g (some (.int o)) g 0 0 :=
  am_run_of rfl (T_W_plain hh H)
def F_W_things (L : Nat) (xs : Nat → Int32) : Option (Int32) :=
  (F_W_at L xs (nI 0)).bind fun q1 => some ((nI 1) + (q1 &&& (nI 3)))
theorem T_W_things {L : Nat} {xs : Nat → Int32} {D : Nat} {g : am_H} (hh : g.length ≤ am_pX) {o : Int32} (H : F_W_things L xs = some o) : am_gp L xs (D + 1) 113 o g (0, [(0, .ref am_pL)], [], g, 0, 0) := by
  unfold F_W_things at H
  refine am_go_blk 3 (?_ : am_gp L xs (D + 1) 113 o g (3, [(0, .ref am_pL)], [.int (nI 0), .ref am_pL, .int (nI 1)], g, 0, 0))
  obtain ⟨q1, hq1, H⟩ := am_bnE H
  refine am_cls rfl rfl rfl (am_kcall (am_hl rfl hh) (M_W_at (D := D) hh hq1) rfl (Nat.le_refl _) (Nat.le_refl _) (?_ : am_gp L xs (D + 1) 113 o g (6, [(0, .ref am_pL)], [.int q1, .int (nI 1)], g, 0, 0)))
  exact am_go_blk 4 ⟨rfl, am_fp H⟩
theorem M_W_things {L : Nat} {xs : Nat → Int32} {D : Nat} {g : am_H} (hh : g.length ≤ am_pX) {o : Int32} (H : F_W_things L xs = some o) : am_run (some (L, xs)) (D + 2) 113 [.ref am_pL] g (some (.int o)) g 0 0 :=
  am_run_of rfl (T_W_things hh H)
def F_W_locks (L : Nat) (xs : Nat → Int32) : Option (Int32) :=
  (F_W_at L xs (nI 0)).bind fun q1 => some (((q1 >>> ((nI 2) &&& 31)) &&& (nI 7)) - ((q1 >>> ((nI 2) &&& 31)) &&& (nI 7)) / (nI 6) * (nI 6))
theorem T_W_locks {L : Nat} {xs : Nat → Int32} {D : Nat} {g : am_H} (hh : g.length ≤ am_pX) {o : Int32} (H : F_W_locks L xs = some o) : am_gp L xs (D + 1) 114 o g (0, [(0, .ref am_pL)], [], g, 0, 0) := by
  unfold F_W_locks at H
  refine am_go_blk 2 (?_ : am_gp L xs (D + 1) 114 o g (2, [(0, .ref am_pL)], [.int (nI 0), .ref am_pL], g, 0, 0))
  obtain ⟨q1, hq1, H⟩ := am_bnE H
  refine am_cls rfl rfl rfl (am_kcall (am_hl rfl hh) (M_W_at (D := D) hh hq1) rfl (Nat.le_refl _) (Nat.le_refl _) (?_ : am_gp L xs (D + 1) 114 o g (5, [(0, .ref am_pL)], [.int q1], g, 0, 0)))
  refine am_go_blk 6 ⟨by decide, (?_ : am_gp L xs (D + 1) 114 o g (13, [(0, .ref am_pL)], [.int (((q1 >>> ((nI 2) &&& 31)) &&& (nI 7)) - ((q1 >>> ((nI 2) &&& 31)) &&& (nI 7)) / (nI 6) * (nI 6))], g, 0, 0))⟩
  exact am_go_blk 1 ⟨rfl, am_fp H⟩
theorem M_W_locks {L : Nat} {xs : Nat → Int32} {D : Nat} {g : am_H} (hh : g.length ≤ am_pX) {o : Int32} (H : F_W_locks L xs = some o) : am_run (some (L, xs)) (D + 2) 114 [.ref am_pL] g (some (.int o)) g 0 0 :=
  am_run_of rfl (T_W_locks hh H)
def F_W_kind (L : Nat) (xs : Nat → Int32) (a1 : Int32) : Option (Int32) :=
  (F_W_at L xs ((nI 1) + a1)).bind fun q1 => some ((q1 &&& (nI 7)) - (q1 &&& (nI 7)) / (nI 6) * (nI 6))
theorem T_W_kind {L : Nat} {xs : Nat → Int32} {D : Nat} {g : am_H} (hh : g.length ≤ am_pX) {o : Int32} (a1 : Int32) (H : F_W_kind L xs a1 = some o) : am_gp L xs (D + 1) 115 o g (0, [(0, .ref am_pL), (1, .int a1)], [], g, 0, 0) := by
  unfold F_W_kind at H
  refine am_go_blk 4 (?_ : am_gp L xs (D + 1) 115 o g (4, [(0, .ref am_pL), (1, .int a1)], [.int ((nI 1) + a1), .ref am_pL], g, 0, 0))
  obtain ⟨q1, hq1, H⟩ := am_bnE H
  refine am_cls rfl rfl rfl (am_kcall (am_hl rfl hh) (M_W_at (D := D) hh hq1) rfl (Nat.le_refl _) (Nat.le_refl _) (?_ : am_gp L xs (D + 1) 115 o g (7, [(0, .ref am_pL), (1, .int a1)], [.int q1], g, 0, 0)))
  refine am_go_blk 4 ⟨by decide, (?_ : am_gp L xs (D + 1) 115 o g (13, [(0, .ref am_pL), (1, .int a1)], [.int ((q1 &&& (nI 7)) - (q1 &&& (nI 7)) / (nI 6) * (nI 6))], g, 0, 0))⟩
  exact am_go_blk 1 ⟨rfl, am_fp H⟩
theorem M_W_kind {L : Nat} {xs : Nat → Int32} {D : Nat} {g : am_H} (hh : g.length ≤ am_pX) {o : Int32} {a1 : Int32} (H : F_W_kind L xs a1 = some o) : am_run (some (L, xs)) (D + 2) 115 [.ref am_pL, .int a1] g (some (.int o)) g 0 0 :=
  am_run_of rfl (T_W_kind hh a1 H)
def F_W_more (L : Nat) (xs : Nat → Int32) (a1 : Int32) : Option (Int32) :=
  (F_W_at L xs ((nI 1) + a1)).bind fun q1 => some (((q1 >>> ((nI 3) &&& 31)) &&& (nI 15)) - ((q1 >>> ((nI 3) &&& 31)) &&& (nI 15)) / (nI 10) * (nI 10))
theorem T_W_more {L : Nat} {xs : Nat → Int32} {D : Nat} {g : am_H} (hh : g.length ≤ am_pX) {o : Int32} (a1 : Int32) (H : F_W_more L xs a1 = some o) : am_gp L xs (D + 1) 116 o g (0, [(0, .ref am_pL), (1, .int a1)], [], g, 0, 0) := by
  unfold F_W_more at H
  refine am_go_blk 4 (?_ : am_gp L xs (D + 1) 116 o g (4, [(0, .ref am_pL), (1, .int a1)], [.int ((nI 1) + a1), .ref am_pL], g, 0, 0))
  obtain ⟨q1, hq1, H⟩ := am_bnE H
  refine am_cls rfl rfl rfl (am_kcall (am_hl rfl hh) (M_W_at (D := D) hh hq1) rfl (Nat.le_refl _) (Nat.le_refl _) (?_ : am_gp L xs (D + 1) 116 o g (7, [(0, .ref am_pL), (1, .int a1)], [.int q1], g, 0, 0)))
  refine am_go_blk 6 ⟨by decide, (?_ : am_gp L xs (D + 1) 116 o g (15, [(0, .ref am_pL), (1, .int a1)], [.int (((q1 >>> ((nI 3) &&& 31)) &&& (nI 15)) - ((q1 >>> ((nI 3) &&& 31)) &&& (nI 15)) / (nI 10) * (nI 10))], g, 0, 0))⟩
  exact am_go_blk 1 ⟨rfl, am_fp H⟩
theorem M_W_more {L : Nat} {xs : Nat → Int32} {D : Nat} {g : am_H} (hh : g.length ≤ am_pX) {o : Int32} {a1 : Int32} (H : F_W_more L xs a1 = some o) : am_run (some (L, xs)) (D + 2) 116 [.ref am_pL, .int a1] g (some (.int o)) g 0 0 :=
  am_run_of rfl (T_W_more hh a1 H)
def F_W_come (L : Nat) (xs : Nat → Int32) (a1 : Int32) : Option (Int32) :=
  (F_W_at L xs ((nI 1) + a1)).bind fun q1 => some (((q1 >>> ((nI 7) &&& 31)) &&& (nI 31)) - ((q1 >>> ((nI 7) &&& 31)) &&& (nI 31)) / (nI 24) * (nI 24))
theorem T_W_come {L : Nat} {xs : Nat → Int32} {D : Nat} {g : am_H} (hh : g.length ≤ am_pX) {o : Int32} (a1 : Int32) (H : F_W_come L xs a1 = some o) : am_gp L xs (D + 1) 117 o g (0, [(0, .ref am_pL), (1, .int a1)], [], g, 0, 0) := by
  unfold F_W_come at H
  refine am_go_blk 4 (?_ : am_gp L xs (D + 1) 117 o g (4, [(0, .ref am_pL), (1, .int a1)], [.int ((nI 1) + a1), .ref am_pL], g, 0, 0))
  obtain ⟨q1, hq1, H⟩ := am_bnE H
  refine am_cls rfl rfl rfl (am_kcall (am_hl rfl hh) (M_W_at (D := D) hh hq1) rfl (Nat.le_refl _) (Nat.le_refl _) (?_ : am_gp L xs (D + 1) 117 o g (7, [(0, .ref am_pL), (1, .int a1)], [.int q1], g, 0, 0)))
  refine am_go_blk 6 ⟨by decide, (?_ : am_gp L xs (D + 1) 117 o g (16, [(0, .ref am_pL), (1, .int a1)], [.int (((q1 >>> ((nI 7) &&& 31)) &&& (nI 31)) - ((q1 >>> ((nI 7) &&& 31)) &&& (nI 31)) / (nI 24) * (nI 24))], g, 0, 0))⟩
  exact am_go_blk 1 ⟨rfl, am_fp H⟩
theorem M_W_come {L : Nat} {xs : Nat → Int32} {D : Nat} {g : am_H} (hh : g.length ≤ am_pX) {o : Int32} {a1 : Int32} (H : F_W_come L xs a1 = some o) : am_run (some (L, xs)) (D + 2) 117 [.ref am_pL, .int a1] g (some (.int o)) g 0 0 :=
  am_run_of rfl (T_W_come hh a1 H)
def F_W_owner (L : Nat) (xs : Nat → Int32) (a1 : Int32) : Option (Int32) :=
  (F_W_at L xs ((nI 5) + a1)).bind fun q1 => (F_W_things L xs ).bind fun q2 => if q2 = 0 then none else (some ((q1 &&& (nI 3)) - (q1 &&& (nI 3)) / q2 * q2))
theorem T_W_owner {L : Nat} {xs : Nat → Int32} {D : Nat} {g : am_H} (hh : g.length ≤ am_pX) {o : Int32} (a1 : Int32) (H : F_W_owner L xs a1 = some o) : am_gp L xs (D + 2) 118 o g (0, [(0, .ref am_pL), (1, .int a1)], [], g, 0, 0) := by
  unfold F_W_owner at H
  refine am_go_blk 4 (?_ : am_gp L xs (D + 2) 118 o g (4, [(0, .ref am_pL), (1, .int a1)], [.int ((nI 5) + a1), .ref am_pL], g, 0, 0))
  obtain ⟨q1, hq1, H⟩ := am_bnE H
  refine am_cls rfl rfl rfl (am_kcall (am_hl rfl hh) (M_W_at (D := D + 1) hh hq1) rfl (Nat.le_refl _) (Nat.le_refl _) (?_ : am_gp L xs (D + 2) 118 o g (7, [(0, .ref am_pL), (1, .int a1)], [.int q1], g, 0, 0)))
  refine am_go_blk 3 (?_ : am_gp L xs (D + 2) 118 o g (10, [(0, .ref am_pL), (1, .int a1)], [.ref am_pL, .int (q1 &&& (nI 3))], g, 0, 0))
  obtain ⟨q2, hq2, H⟩ := am_bnE H
  refine am_cls rfl rfl rfl (am_kcall (am_hl rfl hh) (M_W_things (D := D) hh hq2) rfl (Nat.le_refl _) (Nat.le_refl _) (?_ : am_gp L xs (D + 2) 118 o g (13, [(0, .ref am_pL), (1, .int a1)], [.int q2, .int (q1 &&& (nI 3))], g, 0, 0)))
  obtain ⟨hc, H⟩ := am_inE H
  refine am_go_blk 1 ⟨hc, (?_ : am_gp L xs (D + 2) 118 o g (14, [(0, .ref am_pL), (1, .int a1)], [.int ((q1 &&& (nI 3)) - (q1 &&& (nI 3)) / q2 * q2)], g, 0, 0))⟩
  exact am_go_blk 1 ⟨rfl, am_fp H⟩
theorem M_W_owner {L : Nat} {xs : Nat → Int32} {D : Nat} {g : am_H} (hh : g.length ≤ am_pX) {o : Int32} {a1 : Int32} (H : F_W_owner L xs a1 = some o) : am_run (some (L, xs)) (D + 3) 118 [.ref am_pL, .int a1] g (some (.int o)) g 0 0 :=
  am_run_of rfl (T_W_owner hh a1 H)
def F_W_sort (L : Nat) (xs : Nat → Int32) (a1 : Int32) : Option (Int32) :=
  (F_W_at L xs ((nI 5) + a1)).bind fun q1 => some (((q1 >>> ((nI 2) &&& 31)) &&& (nI 3)) - ((q1 >>> ((nI 2) &&& 31)) &&& (nI 3)) / (nI 3) * (nI 3))
theorem T_W_sort {L : Nat} {xs : Nat → Int32} {D : Nat} {g : am_H} (hh : g.length ≤ am_pX) {o : Int32} (a1 : Int32) (H : F_W_sort L xs a1 = some o) : am_gp L xs (D + 1) 119 o g (0, [(0, .ref am_pL), (1, .int a1)], [], g, 0, 0) := by
  unfold F_W_sort at H
  refine am_go_blk 4 (?_ : am_gp L xs (D + 1) 119 o g (4, [(0, .ref am_pL), (1, .int a1)], [.int ((nI 5) + a1), .ref am_pL], g, 0, 0))
  obtain ⟨q1, hq1, H⟩ := am_bnE H
  refine am_cls rfl rfl rfl (am_kcall (am_hl rfl hh) (M_W_at (D := D) hh hq1) rfl (Nat.le_refl _) (Nat.le_refl _) (?_ : am_gp L xs (D + 1) 119 o g (7, [(0, .ref am_pL), (1, .int a1)], [.int q1], g, 0, 0)))
  refine am_go_blk 6 ⟨by decide, (?_ : am_gp L xs (D + 1) 119 o g (13, [(0, .ref am_pL), (1, .int a1)], [.int (((q1 >>> ((nI 2) &&& 31)) &&& (nI 3)) - ((q1 >>> ((nI 2) &&& 31)) &&& (nI 3)) / (nI 3) * (nI 3))], g, 0, 0))⟩
  exact am_go_blk 1 ⟨rfl, am_fp H⟩
theorem M_W_sort {L : Nat} {xs : Nat → Int32} {D : Nat} {g : am_H} (hh : g.length ≤ am_pX) {o : Int32} {a1 : Int32} (H : F_W_sort L xs a1 = some o) : am_run (some (L, xs)) (D + 2) 119 [.ref am_pL, .int a1] g (some (.int o)) g 0 0 :=
  am_run_of rfl (T_W_sort hh a1 H)
def F_W_through_44 (L : Nat) (xs : Nat → Int32) (s0 : Int32) : Option (Int32) :=
  some s0
def F_W_through (L : Nat) (xs : Nat → Int32) (a1 : Int32) : Option (Int32) :=
  (F_W_at L xs ((nI 5) + a1)).bind fun q1 => (F_W_things L xs ).bind fun q2 => (F_W_at L xs ((nI 5) + a1)).bind fun q3 => if (((q1 >>> ((nI 4) &&& 31)) &&& (((nI 1) <<< (q2 &&& 31)) - (nI 1))) ||| (((q3 >>> ((nI 8) &&& 31)) &&& (nI 1)) <<< ((nI 8) &&& 31))) = 0 then (F_W_through_44 L xs (nI 1)) else (F_W_through_44 L xs (((q1 >>> ((nI 4) &&& 31)) &&& (((nI 1) <<< (q2 &&& 31)) - (nI 1))) ||| (((q3 >>> ((nI 8) &&& 31)) &&& (nI 1)) <<< ((nI 8) &&& 31))))
theorem T_W_through_44 {L : Nat} {xs : Nat → Int32} {D : Nat} {g : am_H} (hh : g.length ≤ am_pX) {o : Int32} (s0 : Int32) (H : F_W_through_44 L xs s0 = some o) : am_gp L xs (D + 2) 120 o g (44, [], [.int s0], g, 0, 0) := by
  unfold F_W_through_44 at H
  exact am_go_blk 1 ⟨rfl, am_fp H⟩
theorem T_W_through {L : Nat} {xs : Nat → Int32} {D : Nat} {g : am_H} (hh : g.length ≤ am_pX) {o : Int32} (a1 : Int32) (H : F_W_through L xs a1 = some o) : am_gp L xs (D + 2) 120 o g (0, [(0, .ref am_pL), (1, .int a1)], [], g, 0, 0) := by
  unfold F_W_through at H
  refine am_go_blk 4 (?_ : am_gp L xs (D + 2) 120 o g (4, [(0, .ref am_pL), (1, .int a1)], [.int ((nI 5) + a1), .ref am_pL], g, 0, 0))
  obtain ⟨q1, hq1, H⟩ := am_bnE H
  refine am_cls rfl rfl rfl (am_kcall (am_hl rfl hh) (M_W_at (D := D + 1) hh hq1) rfl (Nat.le_refl _) (Nat.le_refl _) (?_ : am_gp L xs (D + 2) 120 o g (7, [(0, .ref am_pL), (1, .int a1)], [.int q1], g, 0, 0)))
  refine am_go_blk 4 (?_ : am_gp L xs (D + 2) 120 o g (11, [(0, .ref am_pL), (1, .int a1)], [.ref am_pL, .int (nI 1), .int (q1 >>> ((nI 4) &&& 31))], g, 0, 0))
  obtain ⟨q2, hq2, H⟩ := am_bnE H
  refine am_cls rfl rfl rfl (am_kcall (am_hl rfl hh) (M_W_things (D := D) hh hq2) rfl (Nat.le_refl _) (Nat.le_refl _) (?_ : am_gp L xs (D + 2) 120 o g (14, [(0, .ref am_pL), (1, .int a1)], [.int q2, .int (nI 1), .int (q1 >>> ((nI 4) &&& 31))], g, 0, 0)))
  refine am_go_blk 8 (?_ : am_gp L xs (D + 2) 120 o g (22, [(0, .ref am_pL), (1, .int a1)], [.int ((nI 5) + a1), .ref am_pL, .int ((q1 >>> ((nI 4) &&& 31)) &&& (((nI 1) <<< (q2 &&& 31)) - (nI 1)))], g, 0, 0))
  obtain ⟨q3, hq3, H⟩ := am_bnE H
  refine am_cls rfl rfl rfl (am_kcall (am_hl rfl hh) (M_W_at (D := D + 1) hh hq3) rfl (Nat.le_refl _) (Nat.le_refl _) (?_ : am_gp L xs (D + 2) 120 o g (25, [(0, .ref am_pL), (1, .int a1)], [.int q3, .int ((q1 >>> ((nI 4) &&& 31)) &&& (((nI 1) <<< (q2 &&& 31)) - (nI 1)))], g, 0, 0)))
  refine am_go_blk 10 ⟨fun hc => ?_, fun hc => ?_⟩
  · have H := am_ie hc H
    show am_gp L xs (D + 2) 120 o g (43, [(2, .int (((q1 >>> ((nI 4) &&& 31)) &&& (((nI 1) <<< (q2 &&& 31)) - (nI 1))) ||| (((q3 >>> ((nI 8) &&& 31)) &&& (nI 1)) <<< ((nI 8) &&& 31))))], [], g, 0, 0)
    exact am_go_blk 1 (T_W_through_44 hh (((q1 >>> ((nI 4) &&& 31)) &&& (((nI 1) <<< (q2 &&& 31)) - (nI 1))) ||| (((q3 >>> ((nI 8) &&& 31)) &&& (nI 1)) <<< ((nI 8) &&& 31))) H)
  · have H := am_it hc H
    show am_gp L xs (D + 2) 120 o g (39, [(2, .int (((q1 >>> ((nI 4) &&& 31)) &&& (((nI 1) <<< (q2 &&& 31)) - (nI 1))) ||| (((q3 >>> ((nI 8) &&& 31)) &&& (nI 1)) <<< ((nI 8) &&& 31)))), (0, .ref am_pL), (1, .int a1)], [], g, 0, 0)
    exact am_go_blk 2 (T_W_through_44 hh (nI 1) H)
theorem M_W_through {L : Nat} {xs : Nat → Int32} {D : Nat} {g : am_H} (hh : g.length ≤ am_pX) {o : Int32} {a1 : Int32} (H : F_W_through L xs a1 = some o) : am_run (some (L, xs)) (D + 3) 120 [.ref am_pL, .int a1] g (some (.int o)) g 0 0 :=
  am_run_of rfl (T_W_through hh a1 H)
def F_W_sawn_23 (L : Nat) (xs : Nat → Int32) (s0 : Int32) : Option (Int32) :=
  am_ck (am_bo s0) (some s0)
def F_W_sawn (L : Nat) (xs : Nat → Int32) (a1 : Int32) : Option (Int32) :=
  (F_W_at L xs ((nI 5) + a1)).bind fun q1 => if ((q1 >>> ((nI 9) &&& 31)) &&& (nI 7)) = (nI 7) then (F_W_sawn_23 L xs (nI 1)) else (F_W_sawn_23 L xs (nI 0))
theorem T_W_sawn_23 {L : Nat} {xs : Nat → Int32} {D : Nat} {g : am_H} (hh : g.length ≤ am_pX) {o : Int32} (s0 : Int32) (H : F_W_sawn_23 L xs s0 = some o) : am_gp L xs (D + 1) 121 o g (23, [], [.int s0], g, 0, 0) := by
  unfold F_W_sawn_23 at H
  obtain ⟨hc, H⟩ := am_ckE H
  exact am_go_blk 1 ⟨am_boE hc, am_fp H⟩
theorem T_W_sawn {L : Nat} {xs : Nat → Int32} {D : Nat} {g : am_H} (hh : g.length ≤ am_pX) {o : Int32} (a1 : Int32) (H : F_W_sawn L xs a1 = some o) : am_gp L xs (D + 1) 121 o g (0, [(0, .ref am_pL), (1, .int a1)], [], g, 0, 0) := by
  unfold F_W_sawn at H
  refine am_go_blk 4 (?_ : am_gp L xs (D + 1) 121 o g (4, [(0, .ref am_pL), (1, .int a1)], [.int ((nI 5) + a1), .ref am_pL], g, 0, 0))
  obtain ⟨q1, hq1, H⟩ := am_bnE H
  refine am_cls rfl rfl rfl (am_kcall (am_hl rfl hh) (M_W_at (D := D) hh hq1) rfl (Nat.le_refl _) (Nat.le_refl _) (?_ : am_gp L xs (D + 1) 121 o g (7, [(0, .ref am_pL), (1, .int a1)], [.int q1], g, 0, 0)))
  refine am_go_blk 6 ⟨fun hc => ?_, fun hc => ?_⟩
  · have H := am_ie hc H
    show am_gp L xs (D + 1) 121 o g (22, [], [], g, 0, 0)
    exact am_go_blk 1 (T_W_sawn_23 hh (nI 0) H)
  · have H := am_it hc H
    show am_gp L xs (D + 1) 121 o g (18, [(0, .ref am_pL), (1, .int a1)], [], g, 0, 0)
    exact am_go_blk 2 (T_W_sawn_23 hh (nI 1) H)
theorem M_W_sawn {L : Nat} {xs : Nat → Int32} {D : Nat} {g : am_H} (hh : g.length ≤ am_pX) {o : Int32} {a1 : Int32} (H : F_W_sawn L xs a1 = some o) : am_run (some (L, xs)) (D + 2) 121 [.ref am_pL, .int a1] g (some (.int o)) g 0 0 :=
  am_run_of rfl (T_W_sawn hh a1 H)
def F_W_held (L : Nat) (xs : Nat → Int32) (a0 : Int32) (a1 : Int32) (a2 : Int32) : Option (Int32) :=
  some (if a1 < (if a0 < a2 then a0 else a2) then (if a0 < a2 then a0 else a2) else a1)
theorem T_W_held {L : Nat} {xs : Nat → Int32} {D : Nat} {g : am_H} (hh : g.length ≤ am_pX) {o : Int32} (a0 : Int32) (a1 : Int32) (a2 : Int32) (H : F_W_held L xs a0 a1 a2 = some o) : am_gp L xs D 122 o g (0, [(0, .int a0), (1, .int a1), (2, .int a2)], [], g, 0, 0) := by
  unfold F_W_held at H
  refine am_go_blk 4 (?_ : am_gp L xs D 122 o g (6, [(0, .int a0), (1, .int a1), (2, .int a2)], [.int (if a0 < a2 then a0 else a2), .int a1], g, 0, 0))
  refine am_go_blk 1 (?_ : am_gp L xs D 122 o g (9, [(0, .int a0), (1, .int a1), (2, .int a2)], [.int (if a1 < (if a0 < a2 then a0 else a2) then (if a0 < a2 then a0 else a2) else a1)], g, 0, 0))
  exact am_go_blk 1 ⟨rfl, am_fp H⟩
theorem M_W_held {L : Nat} {xs : Nat → Int32} {D : Nat} {g : am_H} (hh : g.length ≤ am_pX) {o : Int32} {a0 : Int32} {a1 : Int32} {a2 : Int32} (H : F_W_held L xs a0 a1 a2 = some o) : am_run (some (L, xs)) (D + 1) 122 [.int a0, .int a1, .int a2] g (some (.int o)) g 0 0 :=
  am_run_of rfl (T_W_held hh a0 a1 a2 H)
def F_W_saws_48 (L : Nat) (xs : Nat → Int32) (s0 : Int32) : Option (Int32) :=
  some s0
def F_W_saws (L : Nat) (xs : Nat → Int32) (a1 : Int32) (a2 : Int32) : Option (Int32) :=
  (F_W_plain L xs ).bind fun q1 => if q1 = 0 then ((F_W_through L xs a2).bind fun q2 => (F_W_bits L xs q2).bind fun q3 => (F_W_at L xs (nI 0)).bind fun q4 => (F_W_held L xs ((q3 * ((q4 >>> ((nI 9) &&& 31)) &&& (nI 7))) + a1) (nI 0) (nI 99)).bind fun q5 => F_W_saws_48 L xs q5) else ((F_W_sort L xs a2).bind fun q6 => F_W_saws_48 L xs ((nI 10) + ((nI 5) * q6)))
theorem T_W_saws_48 {L : Nat} {xs : Nat → Int32} {D : Nat} {g : am_H} (hh : g.length ≤ am_pX) {o : Int32} (s0 : Int32) (H : F_W_saws_48 L xs s0 = some o) : am_gp L xs (D + 3) 123 o g (48, [], [.int s0], g, 0, 0) := by
  unfold F_W_saws_48 at H
  exact am_go_blk 1 ⟨rfl, am_fp H⟩
theorem T_W_saws {L : Nat} {xs : Nat → Int32} {D : Nat} {g : am_H} (hh : g.length ≤ am_pX) {o : Int32} (a1 : Int32) (a2 : Int32) (H : F_W_saws L xs a1 a2 = some o) : am_gp L xs (D + 3) 123 o g (0, [(0, .ref am_pL), (1, .int a1), (2, .int a2)], [], g, 0, 0) := by
  unfold F_W_saws at H
  refine am_go_blk 1 (?_ : am_gp L xs (D + 3) 123 o g (1, [(0, .ref am_pL), (1, .int a1), (2, .int a2)], [.ref am_pL], g, 0, 0))
  obtain ⟨q1, hq1, H⟩ := am_bnE H
  refine am_cls rfl rfl rfl (am_kcall (am_hl rfl hh) (M_W_plain (D := D + 1) hh hq1) rfl (Nat.le_refl _) (Nat.le_refl _) (?_ : am_gp L xs (D + 3) 123 o g (4, [(0, .ref am_pL), (1, .int a1), (2, .int a2)], [.int q1], g, 0, 0)))
  refine am_go_blk 1 ⟨fun hc => ?_, fun hc => ?_⟩
  · have H := am_it hc H
    show am_gp L xs (D + 3) 123 o g (20, [(0, .ref am_pL), (1, .int a1), (2, .int a2)], [], g, 0, 0)
    refine am_go_blk 2 (?_ : am_gp L xs (D + 3) 123 o g (22, [(0, .ref am_pL), (1, .int a1), (2, .int a2)], [.int a2, .ref am_pL], g, 0, 0))
    obtain ⟨q2, hq2, H⟩ := am_bnE H
    refine am_cls rfl rfl rfl (am_kcall (am_hl rfl hh) (M_W_through (D := D) hh hq2) rfl (Nat.le_refl _) (Nat.le_refl _) (?_ : am_gp L xs (D + 3) 123 o g (25, [(0, .ref am_pL), (1, .int a1), (2, .int a2)], [.int q2], g, 0, 0)))
    obtain ⟨q3, hq3, H⟩ := am_bnE H
    refine am_cls rfl rfl rfl (am_kcall (am_hl rfl hh) (M_W_bits (D := D + 2) hh hq3) rfl (Nat.le_refl _) (Nat.le_refl _) (?_ : am_gp L xs (D + 3) 123 o g (28, [(0, .ref am_pL), (1, .int a1), (2, .int a2)], [.int q3], g, 0, 0)))
    refine am_go_blk 2 (?_ : am_gp L xs (D + 3) 123 o g (30, [(0, .ref am_pL), (1, .int a1), (2, .int a2)], [.int (nI 0), .ref am_pL, .int q3], g, 0, 0))
    obtain ⟨q4, hq4, H⟩ := am_bnE H
    refine am_cls rfl rfl rfl (am_kcall (am_hl rfl hh) (M_W_at (D := D + 2) hh hq4) rfl (Nat.le_refl _) (Nat.le_refl _) (?_ : am_gp L xs (D + 3) 123 o g (33, [(0, .ref am_pL), (1, .int a1), (2, .int a2)], [.int q4, .int q3], g, 0, 0)))
    refine am_go_blk 9 (?_ : am_gp L xs (D + 3) 123 o g (45, [(0, .ref am_pL), (1, .int a1), (2, .int a2)], [.int (nI 99), .int (nI 0), .int ((q3 * ((q4 >>> ((nI 9) &&& 31)) &&& (nI 7))) + a1)], g, 0, 0))
    obtain ⟨q5, hq5, H⟩ := am_bnE H
    refine am_cls rfl rfl rfl (am_kcall (am_hl rfl hh) (M_W_held (D := D + 2) hh hq5) rfl (Nat.le_refl _) (Nat.le_refl _) (?_ : am_gp L xs (D + 3) 123 o g (48, [], [.int q5], g, 0, 0)))
    exact T_W_saws_48 hh q5 H
  · have H := am_ie hc H
    show am_gp L xs (D + 3) 123 o g (7, [(0, .ref am_pL), (1, .int a1), (2, .int a2)], [], g, 0, 0)
    refine am_go_blk 4 (?_ : am_gp L xs (D + 3) 123 o g (12, [(0, .ref am_pL), (1, .int a1), (2, .int a2)], [.int a2, .ref am_pL, .int (nI 5), .int (nI 10)], g, 0, 0))
    obtain ⟨q6, hq6, H⟩ := am_bnE H
    refine am_cls rfl rfl rfl (am_kcall (am_hl rfl hh) (M_W_sort (D := D + 1) hh hq6) rfl (Nat.le_refl _) (Nat.le_refl _) (?_ : am_gp L xs (D + 3) 123 o g (15, [(0, .ref am_pL), (1, .int a1), (2, .int a2)], [.int q6, .int (nI 5), .int (nI 10)], g, 0, 0)))
    exact am_go_blk 3 (T_W_saws_48 hh ((nI 10) + ((nI 5) * q6)) H)
theorem M_W_saws {L : Nat} {xs : Nat → Int32} {D : Nat} {g : am_H} (hh : g.length ≤ am_pX) {o : Int32} {a1 : Int32} {a2 : Int32} (H : F_W_saws L xs a1 a2 = some o) : am_run (some (L, xs)) (D + 4) 123 [.ref am_pL, .int a1, .int a2] g (some (.int o)) g 0 0 :=
  am_run_of rfl (T_W_saws hh a1 a2 H)
def F_W_start_64 (L : Nat) (xs : Nat → Int32) (r37 : Int32 → am_U → Option (am_U)) (a2 : Int32) (s0 : Int64) (s1 : Int64) (s2 : Int32) (u : am_U) : Option (am_U) :=
  am_ck (am_in s2 160) (am_lt (hst u s2 (s1 ||| s0)) fun u8 => (F_W_owner L xs a2).bind fun q9 => am_ck (am_in ((nI 20) + ((nI 10) * a2)) 160) (am_lt (hst u8 ((nI 20) + ((nI 10) * a2)) q9.toInt64) fun u10 => (F_W_sort L xs a2).bind fun q11 => am_ck (am_in ((nI 21) + ((nI 10) * a2)) 160) (am_lt (hst u10 ((nI 21) + ((nI 10) * a2)) q11.toInt64) fun u12 => (F_W_through L xs a2).bind fun q13 => am_ck (am_in ((nI 22) + ((nI 10) * a2)) 160) (am_lt (hst u12 ((nI 22) + ((nI 10) * a2)) q13.toInt64) fun u14 => r37 (a2 + (nI 1)) u14))))
def F_W_start_37 (L : Nat) (xs : Nat → Int32) (r37 : Int32 → am_U → Option (am_U)) (a2 : Int32) (u : am_U) : Option (am_U) :=
  (F_W_locks L xs ).bind fun q4 => if q4 ≤ a2 then ((F_W_locks L xs ).bind fun q5 => am_ck (am_in (nI 10) 160) (am_lt (hst u (nI 10) q5.toInt64) fun u6 => some u6)) else (am_ck (am_in (nI 1) 160) ((F_W_sawn L xs a2).bind fun q7 => if q7 = 0 then (F_W_start_64 L xs r37 a2 (lN 0) (u.2 (nI 1).toNatClampNeg) (nI 1) u) else (F_W_start_64 L xs r37 a2 ((lN 1) <<< (a2.toInt64 &&& 63)) (u.2 (nI 1).toNatClampNeg) (nI 1) u)))
def L_W_start_37 (L : Nat) (xs : Nat → Int32) : Nat → Int32 → am_U → Option (am_U)
  | 0, _, _ => none
  | n + 1, a2, u => F_W_start_37 L xs (L_W_start_37 L xs n) a2 u
def F_W_start_10 (L : Nat) (xs : Nat → Int32) (r10 : Int32 → am_U → Option (am_U)) (a2 : Int32) (u : am_U) : Option (am_U) :=
  (F_W_things L xs ).bind fun q3 => if q3 ≤ a2 then (L_W_start_37 L xs am_NF (nI 0) u) else ((F_W_come L xs a2).bind fun q15 => am_ck (am_in ((nI 2) + a2) 160) (am_lt (hst u ((nI 2) + a2) q15.toInt64) fun u16 => r10 (a2 + (nI 1)) u16))
def L_W_start_10 (L : Nat) (xs : Nat → Int32) : Nat → Int32 → am_U → Option (am_U)
  | 0, _, _ => none
  | n + 1, a2, u => F_W_start_10 L xs (L_W_start_10 L xs n) a2 u
def F_W_start (L : Nat) (xs : Nat → Int32) (u : am_U) : Option (am_U) :=
  am_ck (am_in (nI 0) 160) (am_lt (hst u (nI 0) (lN 0)) fun u1 => am_ck (am_in (nI 1) 160) (am_lt (hst u1 (nI 1) (lN 0)) fun u2 => L_W_start_10 L xs am_NF (nI 0) u2))
theorem T_W_start_64 {L : Nat} {xs : Nat → Int32} {D : Nat} {X : am_H} (hX : X.length ≤ 1000) {o : am_U} {r37 : Int32 → am_U → Option (am_U)} (Hr37 : ∀ (a2 : Int32) (u : am_U), r37 a2 u = some o → am_guv L xs (D + 3) 124 X o (37, [(0, .ref am_pL), (1, .ref ((53 + X.length))), (2, .int a2)], [], hlw X u, 0, 0)) (a2 : Int32) (s0 : Int64) (s1 : Int64) (s2 : Int32) (u : am_U) (H : F_W_start_64 L xs r37 a2 s0 s1 s2 u = some o) : am_guv L xs (D + 3) 124 X o (64, [(0, .ref am_pL), (1, .ref ((53 + X.length))), (2, .int a2)], [.long s0, .long s1, .int s2, .ref ((53 + X.length))], hlw X u, 0, 0) := by
  unfold F_W_start_64 at H
  refine am_go_blk 1 (?_ : am_guv L xs (D + 3) 124 X o (65, [(0, .ref am_pL), (1, .ref ((53 + X.length))), (2, .int a2)], [.long (s1 ||| s0), .int s2, .ref ((53 + X.length))], hlw X u, 0, 0))
  obtain ⟨hc, H⟩ := am_ckE H
  obtain ⟨u8, eu8, H⟩ := am_ltE H
  refine am_lasd rfl hl_get (am_inv hc) (hl_set eu8) (?_ : am_guv L xs (D + 3) 124 X o (66, [(0, .ref am_pL), (1, .ref ((53 + X.length))), (2, .int a2)], [], hlw X u8, 0, 0))
  refine am_go_blk 8 (?_ : am_guv L xs (D + 3) 124 X o (76, [(0, .ref am_pL), (1, .ref ((53 + X.length))), (2, .int a2)], [.int a2, .ref am_pL, .int ((nI 20) + ((nI 10) * a2)), .ref ((53 + X.length))], hlw X u8, 0, 0))
  obtain ⟨q9, hq9, H⟩ := am_bnE H
  refine am_cls rfl rfl rfl (am_kcall (am_hl rfl (hl_le hX)) (M_W_owner (D := D) (hl_le hX) hq9) rfl (Nat.le_refl _) (Nat.le_refl _) (?_ : am_guv L xs (D + 3) 124 X o (79, [(0, .ref am_pL), (1, .ref ((53 + X.length))), (2, .int a2)], [.int q9, .int ((nI 20) + ((nI 10) * a2)), .ref ((53 + X.length))], hlw X u8, 0, 0)))
  refine am_go_blk 1 (?_ : am_guv L xs (D + 3) 124 X o (80, [(0, .ref am_pL), (1, .ref ((53 + X.length))), (2, .int a2)], [.long q9.toInt64, .int ((nI 20) + ((nI 10) * a2)), .ref ((53 + X.length))], hlw X u8, 0, 0))
  obtain ⟨hc, H⟩ := am_ckE H
  obtain ⟨u10, eu10, H⟩ := am_ltE H
  refine am_lasd rfl hl_get (am_inv hc) (hl_set eu10) (?_ : am_guv L xs (D + 3) 124 X o (81, [(0, .ref am_pL), (1, .ref ((53 + X.length))), (2, .int a2)], [], hlw X u10, 0, 0))
  refine am_go_blk 8 (?_ : am_guv L xs (D + 3) 124 X o (91, [(0, .ref am_pL), (1, .ref ((53 + X.length))), (2, .int a2)], [.int a2, .ref am_pL, .int ((nI 21) + ((nI 10) * a2)), .ref ((53 + X.length))], hlw X u10, 0, 0))
  obtain ⟨q11, hq11, H⟩ := am_bnE H
  refine am_cls rfl rfl rfl (am_kcall (am_hl rfl (hl_le hX)) (M_W_sort (D := D + 1) (hl_le hX) hq11) rfl (Nat.le_refl _) (Nat.le_refl _) (?_ : am_guv L xs (D + 3) 124 X o (94, [(0, .ref am_pL), (1, .ref ((53 + X.length))), (2, .int a2)], [.int q11, .int ((nI 21) + ((nI 10) * a2)), .ref ((53 + X.length))], hlw X u10, 0, 0)))
  refine am_go_blk 1 (?_ : am_guv L xs (D + 3) 124 X o (95, [(0, .ref am_pL), (1, .ref ((53 + X.length))), (2, .int a2)], [.long q11.toInt64, .int ((nI 21) + ((nI 10) * a2)), .ref ((53 + X.length))], hlw X u10, 0, 0))
  obtain ⟨hc, H⟩ := am_ckE H
  obtain ⟨u12, eu12, H⟩ := am_ltE H
  refine am_lasd rfl hl_get (am_inv hc) (hl_set eu12) (?_ : am_guv L xs (D + 3) 124 X o (96, [(0, .ref am_pL), (1, .ref ((53 + X.length))), (2, .int a2)], [], hlw X u12, 0, 0))
  refine am_go_blk 8 (?_ : am_guv L xs (D + 3) 124 X o (106, [(0, .ref am_pL), (1, .ref ((53 + X.length))), (2, .int a2)], [.int a2, .ref am_pL, .int ((nI 22) + ((nI 10) * a2)), .ref ((53 + X.length))], hlw X u12, 0, 0))
  obtain ⟨q13, hq13, H⟩ := am_bnE H
  refine am_cls rfl rfl rfl (am_kcall (am_hl rfl (hl_le hX)) (M_W_through (D := D) (hl_le hX) hq13) rfl (Nat.le_refl _) (Nat.le_refl _) (?_ : am_guv L xs (D + 3) 124 X o (109, [(0, .ref am_pL), (1, .ref ((53 + X.length))), (2, .int a2)], [.int q13, .int ((nI 22) + ((nI 10) * a2)), .ref ((53 + X.length))], hlw X u12, 0, 0)))
  refine am_go_blk 1 (?_ : am_guv L xs (D + 3) 124 X o (110, [(0, .ref am_pL), (1, .ref ((53 + X.length))), (2, .int a2)], [.long q13.toInt64, .int ((nI 22) + ((nI 10) * a2)), .ref ((53 + X.length))], hlw X u12, 0, 0))
  obtain ⟨hc, H⟩ := am_ckE H
  obtain ⟨u14, eu14, H⟩ := am_ltE H
  refine am_lasd rfl hl_get (am_inv hc) (hl_set eu14) (?_ : am_guv L xs (D + 3) 124 X o (111, [(0, .ref am_pL), (1, .ref ((53 + X.length))), (2, .int a2)], [], hlw X u14, 0, 0))
  exact am_go_blk 2 (Hr37 (a2 + (nI 1)) u14 H)
theorem T_W_start_37 {L : Nat} {xs : Nat → Int32} {D : Nat} {X : am_H} (hX : X.length ≤ 1000) {o : am_U} {r37 : Int32 → am_U → Option (am_U)} (Hr37 : ∀ (a2 : Int32) (u : am_U), r37 a2 u = some o → am_guv L xs (D + 3) 124 X o (37, [(0, .ref am_pL), (1, .ref ((53 + X.length))), (2, .int a2)], [], hlw X u, 0, 0)) (a2 : Int32) (u : am_U) (H : F_W_start_37 L xs r37 a2 u = some o) : am_guv L xs (D + 3) 124 X o (37, [(0, .ref am_pL), (1, .ref ((53 + X.length))), (2, .int a2)], [], hlw X u, 0, 0) := by
  unfold F_W_start_37 at H
  refine am_go_blk 2 (?_ : am_guv L xs (D + 3) 124 X o (39, [(0, .ref am_pL), (1, .ref ((53 + X.length))), (2, .int a2)], [.ref am_pL, .int a2], hlw X u, 0, 0))
  obtain ⟨q4, hq4, H⟩ := am_bnE H
  refine am_cls rfl rfl rfl (am_kcall (am_hl rfl (hl_le hX)) (M_W_locks (D := D + 1) (hl_le hX) hq4) rfl (Nat.le_refl _) (Nat.le_refl _) (?_ : am_guv L xs (D + 3) 124 X o (42, [(0, .ref am_pL), (1, .ref ((53 + X.length))), (2, .int a2)], [.int q4, .int a2], hlw X u, 0, 0)))
  refine am_go_blk 1 ⟨fun hc => ?_, fun hc => ?_⟩
  · have H := am_it hc H
    show am_guv L xs (D + 3) 124 X o (117, [(0, .ref am_pL), (1, .ref ((53 + X.length)))], [], hlw X u, 0, 0)
    refine am_go_blk 3 (?_ : am_guv L xs (D + 3) 124 X o (121, [(0, .ref am_pL), (1, .ref ((53 + X.length)))], [.ref am_pL, .int (nI 10), .ref ((53 + X.length))], hlw X u, 0, 0))
    obtain ⟨q5, hq5, H⟩ := am_bnE H
    refine am_cls rfl rfl rfl (am_kcall (am_hl rfl (hl_le hX)) (M_W_locks (D := D + 1) (hl_le hX) hq5) rfl (Nat.le_refl _) (Nat.le_refl _) (?_ : am_guv L xs (D + 3) 124 X o (124, [(0, .ref am_pL), (1, .ref ((53 + X.length)))], [.int q5, .int (nI 10), .ref ((53 + X.length))], hlw X u, 0, 0)))
    refine am_go_blk 1 (?_ : am_guv L xs (D + 3) 124 X o (125, [(0, .ref am_pL), (1, .ref ((53 + X.length)))], [.long q5.toInt64, .int (nI 10), .ref ((53 + X.length))], hlw X u, 0, 0))
    obtain ⟨hc, H⟩ := am_ckE H
    obtain ⟨u6, eu6, H⟩ := am_ltE H
    refine am_lasd rfl hl_get (am_inv hc) (hl_set eu6) (?_ : am_guv L xs (D + 3) 124 X o (126, [(0, .ref am_pL), (1, .ref ((53 + X.length)))], [], hlw X u6, 0, 0))
    exact am_go_blk 1 (am_fuv H)
  · have H := am_ie hc H
    show am_guv L xs (D + 3) 124 X o (45, [(0, .ref am_pL), (1, .ref ((53 + X.length))), (2, .int a2)], [], hlw X u, 0, 0)
    refine am_go_blk 3 (?_ : am_guv L xs (D + 3) 124 X o (48, [(0, .ref am_pL), (1, .ref ((53 + X.length))), (2, .int a2)], [.int (nI 1), .ref ((53 + X.length)), .int (nI 1), .ref ((53 + X.length))], hlw X u, 0, 0))
    obtain ⟨hc, H⟩ := am_ckE H
    refine am_lald rfl hl_get (am_inv hc) (?_ : am_guv L xs (D + 3) 124 X o (49, [(0, .ref am_pL), (1, .ref ((53 + X.length))), (2, .int a2)], [.long (u.2 (nI 1).toNatClampNeg), .int (nI 1), .ref ((53 + X.length))], hlw X u, 0, 0))
    refine am_go_blk 2 (?_ : am_guv L xs (D + 3) 124 X o (51, [(0, .ref am_pL), (1, .ref ((53 + X.length))), (2, .int a2)], [.int a2, .ref am_pL, .long (u.2 (nI 1).toNatClampNeg), .int (nI 1), .ref ((53 + X.length))], hlw X u, 0, 0))
    obtain ⟨q7, hq7, H⟩ := am_bnE H
    refine am_cls rfl rfl rfl (am_kcall (am_hl rfl (hl_le hX)) (M_W_sawn (D := D + 1) (hl_le hX) hq7) rfl (Nat.le_refl _) (Nat.le_refl _) (?_ : am_guv L xs (D + 3) 124 X o (54, [(0, .ref am_pL), (1, .ref ((53 + X.length))), (2, .int a2)], [.int q7, .long (u.2 (nI 1).toNatClampNeg), .int (nI 1), .ref ((53 + X.length))], hlw X u, 0, 0)))
    refine am_go_blk 1 ⟨fun hc => ?_, fun hc => ?_⟩
    · have H := am_it hc H
      show am_guv L xs (D + 3) 124 X o (63, [(0, .ref am_pL), (1, .ref ((53 + X.length))), (2, .int a2)], [.long (u.2 (nI 1).toNatClampNeg), .int (nI 1), .ref ((53 + X.length))], hlw X u, 0, 0)
      exact am_go_blk 1 (T_W_start_64 hX Hr37 a2 (lN 0) (u.2 (nI 1).toNatClampNeg) (nI 1) u H)
    · have H := am_ie hc H
      show am_guv L xs (D + 3) 124 X o (57, [(0, .ref am_pL), (1, .ref ((53 + X.length))), (2, .int a2)], [.long (u.2 (nI 1).toNatClampNeg), .int (nI 1), .ref ((53 + X.length))], hlw X u, 0, 0)
      exact am_go_blk 4 (T_W_start_64 hX Hr37 a2 ((lN 1) <<< (a2.toInt64 &&& 63)) (u.2 (nI 1).toNatClampNeg) (nI 1) u H)
theorem TL_W_start_37 {L : Nat} {xs : Nat → Int32} {D : Nat} {X : am_H} (hX : X.length ≤ 1000) {o : am_U} : ∀ (N : Nat) (a2 : Int32) (u : am_U), L_W_start_37 L xs N a2 u = some o → am_guv L xs (D + 3) 124 X o (37, [(0, .ref am_pL), (1, .ref ((53 + X.length))), (2, .int a2)], [], hlw X u, 0, 0)
  | 0, _, _, H => by cases H
  | N + 1, a2, u, H => T_W_start_37 hX (TL_W_start_37 hX N) a2 u H
theorem T_W_start_10 {L : Nat} {xs : Nat → Int32} {D : Nat} {X : am_H} (hX : X.length ≤ 1000) {o : am_U} {r10 : Int32 → am_U → Option (am_U)} (Hr10 : ∀ (a2 : Int32) (u : am_U), r10 a2 u = some o → am_guv L xs (D + 3) 124 X o (10, [(0, .ref am_pL), (1, .ref ((53 + X.length))), (2, .int a2)], [], hlw X u, 0, 0)) (a2 : Int32) (u : am_U) (H : F_W_start_10 L xs r10 a2 u = some o) : am_guv L xs (D + 3) 124 X o (10, [(0, .ref am_pL), (1, .ref ((53 + X.length))), (2, .int a2)], [], hlw X u, 0, 0) := by
  unfold F_W_start_10 at H
  refine am_go_blk 2 (?_ : am_guv L xs (D + 3) 124 X o (12, [(0, .ref am_pL), (1, .ref ((53 + X.length))), (2, .int a2)], [.ref am_pL, .int a2], hlw X u, 0, 0))
  obtain ⟨q3, hq3, H⟩ := am_bnE H
  refine am_cls rfl rfl rfl (am_kcall (am_hl rfl (hl_le hX)) (M_W_things (D := D + 1) (hl_le hX) hq3) rfl (Nat.le_refl _) (Nat.le_refl _) (?_ : am_guv L xs (D + 3) 124 X o (15, [(0, .ref am_pL), (1, .ref ((53 + X.length))), (2, .int a2)], [.int q3, .int a2], hlw X u, 0, 0)))
  refine am_go_blk 1 ⟨fun hc => ?_, fun hc => ?_⟩
  · have H := am_it hc H
    show am_guv L xs (D + 3) 124 X o (35, [(0, .ref am_pL), (1, .ref ((53 + X.length)))], [], hlw X u, 0, 0)
    exact am_go_blk 2 (TL_W_start_37 hX am_NF (nI 0) u H)
  · have H := am_ie hc H
    show am_guv L xs (D + 3) 124 X o (18, [(0, .ref am_pL), (1, .ref ((53 + X.length))), (2, .int a2)], [], hlw X u, 0, 0)
    refine am_go_blk 6 (?_ : am_guv L xs (D + 3) 124 X o (24, [(0, .ref am_pL), (1, .ref ((53 + X.length))), (2, .int a2)], [.int a2, .ref am_pL, .int ((nI 2) + a2), .ref ((53 + X.length))], hlw X u, 0, 0))
    obtain ⟨q15, hq15, H⟩ := am_bnE H
    refine am_cls rfl rfl rfl (am_kcall (am_hl rfl (hl_le hX)) (M_W_come (D := D + 1) (hl_le hX) hq15) rfl (Nat.le_refl _) (Nat.le_refl _) (?_ : am_guv L xs (D + 3) 124 X o (27, [(0, .ref am_pL), (1, .ref ((53 + X.length))), (2, .int a2)], [.int q15, .int ((nI 2) + a2), .ref ((53 + X.length))], hlw X u, 0, 0)))
    refine am_go_blk 1 (?_ : am_guv L xs (D + 3) 124 X o (28, [(0, .ref am_pL), (1, .ref ((53 + X.length))), (2, .int a2)], [.long q15.toInt64, .int ((nI 2) + a2), .ref ((53 + X.length))], hlw X u, 0, 0))
    obtain ⟨hc, H⟩ := am_ckE H
    obtain ⟨u16, eu16, H⟩ := am_ltE H
    refine am_lasd rfl hl_get (am_inv hc) (hl_set eu16) (?_ : am_guv L xs (D + 3) 124 X o (29, [(0, .ref am_pL), (1, .ref ((53 + X.length))), (2, .int a2)], [], hlw X u16, 0, 0))
    exact am_go_blk 2 (Hr10 (a2 + (nI 1)) u16 H)
theorem TL_W_start_10 {L : Nat} {xs : Nat → Int32} {D : Nat} {X : am_H} (hX : X.length ≤ 1000) {o : am_U} : ∀ (N : Nat) (a2 : Int32) (u : am_U), L_W_start_10 L xs N a2 u = some o → am_guv L xs (D + 3) 124 X o (10, [(0, .ref am_pL), (1, .ref ((53 + X.length))), (2, .int a2)], [], hlw X u, 0, 0)
  | 0, _, _, H => by cases H
  | N + 1, a2, u, H => T_W_start_10 hX (TL_W_start_10 hX N) a2 u H
theorem T_W_start {L : Nat} {xs : Nat → Int32} {D : Nat} {X : am_H} (hX : X.length ≤ 1000) {o : am_U} (u : am_U) (H : F_W_start L xs u = some o) : am_guv L xs (D + 3) 124 X o (0, [(0, .ref am_pL), (1, .ref ((53 + X.length)))], [], hlw X u, 0, 0) := by
  unfold F_W_start at H
  refine am_go_blk 3 (?_ : am_guv L xs (D + 3) 124 X o (3, [(0, .ref am_pL), (1, .ref ((53 + X.length)))], [.long (lN 0), .int (nI 0), .ref ((53 + X.length))], hlw X u, 0, 0))
  obtain ⟨hc, H⟩ := am_ckE H
  obtain ⟨u1, eu1, H⟩ := am_ltE H
  refine am_lasd rfl hl_get (am_inv hc) (hl_set eu1) (?_ : am_guv L xs (D + 3) 124 X o (4, [(0, .ref am_pL), (1, .ref ((53 + X.length)))], [], hlw X u1, 0, 0))
  refine am_go_blk 3 (?_ : am_guv L xs (D + 3) 124 X o (7, [(0, .ref am_pL), (1, .ref ((53 + X.length)))], [.long (lN 0), .int (nI 1), .ref ((53 + X.length))], hlw X u1, 0, 0))
  obtain ⟨hc, H⟩ := am_ckE H
  obtain ⟨u2, eu2, H⟩ := am_ltE H
  refine am_lasd rfl hl_get (am_inv hc) (hl_set eu2) (?_ : am_guv L xs (D + 3) 124 X o (8, [(0, .ref am_pL), (1, .ref ((53 + X.length)))], [], hlw X u2, 0, 0))
  exact am_go_blk 2 (TL_W_start_10 hX am_NF (nI 0) u2 H)
theorem M_W_start {L : Nat} {xs : Nat → Int32} {D : Nat} {X : am_H} (hX : X.length ≤ 1000) {o : am_U} {u : am_U} (H : F_W_start L xs u = some o) : am_run (some (L, xs)) (D + 4) 124 [.ref am_pL, .ref ((53 + X.length))] (hlw X u) none (hlw X o) 0 0 :=
  am_run_of rfl (T_W_start hX u H)
def F_W_fix_51 (L : Nat) (xs : Nat → Int32) (u : am_U) : Option (Int32 × am_U) :=
  some ((nI 0), u)
def F_W_fix_108 (L : Nat) (xs : Nat → Int32) (u : am_U) : Option (Int32 × am_U) :=
  some ((nI 0), u)
def F_W_fix_145 (L : Nat) (xs : Nat → Int32) (s0 : Int32) (u : am_U) : Option (Int32 × am_U) :=
  am_ck (am_bo s0) (some (s0, u))
def F_W_fix_110 (L : Nat) (xs : Nat → Int32) (a2 : Int32) (a3 : Int32) (u : am_U) : Option (Int32 × am_U) :=
  am_ck (am_in ((nI 22) + ((nI 10) * a2)) 160) (am_ck (am_in (nI 0) 160) (if (lg_cmp (((u.2 ((nI 22) + ((nI 10) * a2)).toNatClampNeg) &&& ((u.2 (nI 0).toNatClampNeg) ^^^ (-lN 1))) &&& (((lN 1) <<< (a3.toInt64 &&& 63)) ^^^ (-lN 1))) (lN 0)) = 0 then (F_W_fix_145 L xs (nI 0) u) else (F_W_fix_145 L xs (nI 1) u)))
def F_W_fix_79 (L : Nat) (xs : Nat → Int32) (a2 : Int32) (a3 : Int32) (a4 : Int32) (u : am_U) : Option (Int32 × am_U) :=
  if a4 = (nI 4) then (am_ck (am_in ((nI 21) + ((nI 10) * a2)) 160) ((F_W_more L xs a3).bind fun q1 => if 0 < (lg_cmp ((lN 3) * (u.2 ((nI 21) + ((nI 10) * a2)).toNatClampNeg)) q1.toInt64) then (F_W_fix_110 L xs a2 a3 u) else (F_W_fix_108 L xs u))) else (F_W_fix_110 L xs a2 a3 u)
def F_W_fix_65 (L : Nat) (xs : Nat → Int32) (a2 : Int32) (a3 : Int32) (a4 : Int32) (u : am_U) : Option (Int32 × am_U) :=
  am_ck (am_in ((nI 21) + ((nI 10) * a2)) 160) (if (lg_cmp (u.2 ((nI 21) + ((nI 10) * a2)).toNatClampNeg) (lN 0)) = 0 then (F_W_fix_108 L xs u) else (F_W_fix_79 L xs a2 a3 a4 u))
def F_W_fix (L : Nat) (xs : Nat → Int32) (a2 : Int32) (a3 : Int32) (a4 : Int32) (u : am_U) : Option (Int32 × am_U) :=
  am_ck (am_in (nI 1) 160) (if (lg_cmp (((u.2 (nI 1).toNatClampNeg) >>> (a2.toInt64 &&& 63)) &&& (lN 1)) (lN 1)) = 0 then (F_W_fix_51 L xs u) else (am_ck (am_in (nI 0) 160) (am_ck (am_in ((nI 20) + ((nI 10) * a2)) 160) (if (lg_cmp (((u.2 (nI 0).toNatClampNeg) >>> (((u.2 ((nI 20) + ((nI 10) * a2)).toNatClampNeg).toInt32).toInt64 &&& 63)) &&& (lN 1)) (lN 1)) = 0 then (F_W_fix_51 L xs u) else (am_ck (am_in ((nI 22) + ((nI 10) * a2)) 160) (if (lg_cmp (((u.2 ((nI 22) + ((nI 10) * a2)).toNatClampNeg) >>> (a3.toInt64 &&& 63)) &&& (lN 1)) (lN 0)) = 0 then (F_W_fix_51 L xs u) else (if a4 = (nI 2) then (F_W_fix_65 L xs a2 a3 a4 u) else (if a4 = (nI 4) then (F_W_fix_65 L xs a2 a3 a4 u) else (F_W_fix_79 L xs a2 a3 a4 u)))))))))
theorem T_W_fix_51 {L : Nat} {xs : Nat → Int32} {D : Nat} {X : am_H} (hX : X.length ≤ 1000) {o : Int32 × am_U} (u : am_U) (H : F_W_fix_51 L xs u = some o) : am_gu L xs (D + 2) 125 X o (51, [], [], hlw X u, 0, 0) := by
  unfold F_W_fix_51 at H
  exact am_go_blk 2 ⟨rfl, am_fu H⟩
theorem T_W_fix_108 {L : Nat} {xs : Nat → Int32} {D : Nat} {X : am_H} (hX : X.length ≤ 1000) {o : Int32 × am_U} (u : am_U) (H : F_W_fix_108 L xs u = some o) : am_gu L xs (D + 2) 125 X o (108, [], [], hlw X u, 0, 0) := by
  unfold F_W_fix_108 at H
  exact am_go_blk 2 ⟨rfl, am_fu H⟩
theorem T_W_fix_145 {L : Nat} {xs : Nat → Int32} {D : Nat} {X : am_H} (hX : X.length ≤ 1000) {o : Int32 × am_U} (s0 : Int32) (u : am_U) (H : F_W_fix_145 L xs s0 u = some o) : am_gu L xs (D + 2) 125 X o (145, [], [.int s0], hlw X u, 0, 0) := by
  unfold F_W_fix_145 at H
  obtain ⟨hc, H⟩ := am_ckE H
  exact am_go_blk 1 ⟨am_boE hc, am_fu H⟩
theorem T_W_fix_110 {L : Nat} {xs : Nat → Int32} {D : Nat} {X : am_H} (hX : X.length ≤ 1000) {o : Int32 × am_U} (a2 : Int32) (a3 : Int32) (u : am_U) (H : F_W_fix_110 L xs a2 a3 u = some o) : am_gu L xs (D + 2) 125 X o (110, [(1, .ref ((53 + X.length))), (2, .int a2), (3, .int a3)], [], hlw X u, 0, 0) := by
  unfold F_W_fix_110 at H
  refine am_go_blk 6 (?_ : am_gu L xs (D + 2) 125 X o (118, [(1, .ref ((53 + X.length))), (2, .int a2), (3, .int a3)], [.int ((nI 22) + ((nI 10) * a2)), .ref ((53 + X.length))], hlw X u, 0, 0))
  obtain ⟨hc, H⟩ := am_ckE H
  refine am_lald rfl hl_get (am_inv hc) (?_ : am_gu L xs (D + 2) 125 X o (119, [(1, .ref ((53 + X.length))), (2, .int a2), (3, .int a3)], [.long (u.2 ((nI 22) + ((nI 10) * a2)).toNatClampNeg)], hlw X u, 0, 0))
  refine am_go_blk 2 (?_ : am_gu L xs (D + 2) 125 X o (121, [(1, .ref ((53 + X.length))), (2, .int a2), (3, .int a3)], [.int (nI 0), .ref ((53 + X.length)), .long (u.2 ((nI 22) + ((nI 10) * a2)).toNatClampNeg)], hlw X u, 0, 0))
  obtain ⟨hc, H⟩ := am_ckE H
  refine am_lald rfl hl_get (am_inv hc) (?_ : am_gu L xs (D + 2) 125 X o (122, [(1, .ref ((53 + X.length))), (2, .int a2), (3, .int a3)], [.long (u.2 (nI 0).toNatClampNeg), .long (u.2 ((nI 22) + ((nI 10) * a2)).toNatClampNeg)], hlw X u, 0, 0))
  refine am_go_blk 12 ⟨fun hc => ?_, fun hc => ?_⟩
  · have H := am_it hc H
    show am_gu L xs (D + 2) 125 X o (144, [], [], hlw X u, 0, 0)
    exact am_go_blk 1 (T_W_fix_145 hX (nI 0) u H)
  · have H := am_ie hc H
    show am_gu L xs (D + 2) 125 X o (140, [(1, .ref ((53 + X.length))), (2, .int a2), (3, .int a3)], [], hlw X u, 0, 0)
    exact am_go_blk 2 (T_W_fix_145 hX (nI 1) u H)
theorem T_W_fix_79 {L : Nat} {xs : Nat → Int32} {D : Nat} {X : am_H} (hX : X.length ≤ 1000) {o : Int32 × am_U} (a2 : Int32) (a3 : Int32) (a4 : Int32) (u : am_U) (H : F_W_fix_79 L xs a2 a3 a4 u = some o) : am_gu L xs (D + 2) 125 X o (79, [(0, .ref am_pL), (1, .ref ((53 + X.length))), (2, .int a2), (3, .int a3), (4, .int a4)], [], hlw X u, 0, 0) := by
  unfold F_W_fix_79 at H
  refine am_go_blk 3 ⟨fun hc => ?_, fun hc => ?_⟩
  · have H := am_ie hc H
    exact T_W_fix_110 hX a2 a3 u H
  · have H := am_it hc H
    show am_gu L xs (D + 2) 125 X o (85, [(0, .ref am_pL), (1, .ref ((53 + X.length))), (2, .int a2), (3, .int a3), (4, .int a4)], [], hlw X u, 0, 0)
    refine am_go_blk 7 (?_ : am_gu L xs (D + 2) 125 X o (96, [(0, .ref am_pL), (1, .ref ((53 + X.length))), (2, .int a2), (3, .int a3), (4, .int a4)], [.int ((nI 21) + ((nI 10) * a2)), .ref ((53 + X.length)), .long (lN 3)], hlw X u, 0, 0))
    obtain ⟨hc, H⟩ := am_ckE H
    refine am_lald rfl hl_get (am_inv hc) (?_ : am_gu L xs (D + 2) 125 X o (97, [(0, .ref am_pL), (1, .ref ((53 + X.length))), (2, .int a2), (3, .int a3), (4, .int a4)], [.long (u.2 ((nI 21) + ((nI 10) * a2)).toNatClampNeg), .long (lN 3)], hlw X u, 0, 0))
    refine am_go_blk 3 (?_ : am_gu L xs (D + 2) 125 X o (100, [(0, .ref am_pL), (1, .ref ((53 + X.length))), (2, .int a2), (3, .int a3), (4, .int a4)], [.int a3, .ref am_pL, .long ((lN 3) * (u.2 ((nI 21) + ((nI 10) * a2)).toNatClampNeg))], hlw X u, 0, 0))
    obtain ⟨q1, hq1, H⟩ := am_bnE H
    refine am_cls rfl rfl rfl (am_kcall (am_hl rfl (hl_le hX)) (M_W_more (D := D) (hl_le hX) hq1) rfl (Nat.le_refl _) (Nat.le_refl _) (?_ : am_gu L xs (D + 2) 125 X o (103, [(0, .ref am_pL), (1, .ref ((53 + X.length))), (2, .int a2), (3, .int a3), (4, .int a4)], [.int q1, .long ((lN 3) * (u.2 ((nI 21) + ((nI 10) * a2)).toNatClampNeg))], hlw X u, 0, 0)))
    refine am_go_blk 3 ⟨fun hc => ?_, fun hc => ?_⟩
    · have H := am_it hc H
      exact T_W_fix_110 hX a2 a3 u H
    · have H := am_ie hc H
      exact T_W_fix_108 hX u H
theorem T_W_fix_65 {L : Nat} {xs : Nat → Int32} {D : Nat} {X : am_H} (hX : X.length ≤ 1000) {o : Int32 × am_U} (a2 : Int32) (a3 : Int32) (a4 : Int32) (u : am_U) (H : F_W_fix_65 L xs a2 a3 a4 u = some o) : am_gu L xs (D + 2) 125 X o (65, [(0, .ref am_pL), (1, .ref ((53 + X.length))), (2, .int a2), (3, .int a3), (4, .int a4)], [], hlw X u, 0, 0) := by
  unfold F_W_fix_65 at H
  refine am_go_blk 6 (?_ : am_gu L xs (D + 2) 125 X o (73, [(0, .ref am_pL), (1, .ref ((53 + X.length))), (2, .int a2), (3, .int a3), (4, .int a4)], [.int ((nI 21) + ((nI 10) * a2)), .ref ((53 + X.length))], hlw X u, 0, 0))
  obtain ⟨hc, H⟩ := am_ckE H
  refine am_lald rfl hl_get (am_inv hc) (?_ : am_gu L xs (D + 2) 125 X o (74, [(0, .ref am_pL), (1, .ref ((53 + X.length))), (2, .int a2), (3, .int a3), (4, .int a4)], [.long (u.2 ((nI 21) + ((nI 10) * a2)).toNatClampNeg)], hlw X u, 0, 0))
  refine am_go_blk 3 ⟨fun hc => ?_, fun hc => ?_⟩
  · have H := am_it hc H
    exact T_W_fix_108 hX u H
  · have H := am_ie hc H
    exact T_W_fix_79 hX a2 a3 a4 u H
theorem T_W_fix {L : Nat} {xs : Nat → Int32} {D : Nat} {X : am_H} (hX : X.length ≤ 1000) {o : Int32 × am_U} (a2 : Int32) (a3 : Int32) (a4 : Int32) (u : am_U) (H : F_W_fix L xs a2 a3 a4 u = some o) : am_gu L xs (D + 2) 125 X o (0, [(0, .ref am_pL), (1, .ref ((53 + X.length))), (2, .int a2), (3, .int a3), (4, .int a4)], [], hlw X u, 0, 0) := by
  unfold F_W_fix at H
  refine am_go_blk 2 (?_ : am_gu L xs (D + 2) 125 X o (2, [(0, .ref am_pL), (1, .ref ((53 + X.length))), (2, .int a2), (3, .int a3), (4, .int a4)], [.int (nI 1), .ref ((53 + X.length))], hlw X u, 0, 0))
  obtain ⟨hc, H⟩ := am_ckE H
  refine am_lald rfl hl_get (am_inv hc) (?_ : am_gu L xs (D + 2) 125 X o (3, [(0, .ref am_pL), (1, .ref ((53 + X.length))), (2, .int a2), (3, .int a3), (4, .int a4)], [.long (u.2 (nI 1).toNatClampNeg)], hlw X u, 0, 0))
  refine am_go_blk 7 ⟨fun hc => ?_, fun hc => ?_⟩
  · have H := am_it hc H
    exact T_W_fix_51 hX u H
  · have H := am_ie hc H
    show am_gu L xs (D + 2) 125 X o (12, [(0, .ref am_pL), (1, .ref ((53 + X.length))), (2, .int a2), (3, .int a3), (4, .int a4)], [], hlw X u, 0, 0)
    refine am_go_blk 2 (?_ : am_gu L xs (D + 2) 125 X o (14, [(0, .ref am_pL), (1, .ref ((53 + X.length))), (2, .int a2), (3, .int a3), (4, .int a4)], [.int (nI 0), .ref ((53 + X.length))], hlw X u, 0, 0))
    obtain ⟨hc, H⟩ := am_ckE H
    refine am_lald rfl hl_get (am_inv hc) (?_ : am_gu L xs (D + 2) 125 X o (15, [(0, .ref am_pL), (1, .ref ((53 + X.length))), (2, .int a2), (3, .int a3), (4, .int a4)], [.long (u.2 (nI 0).toNatClampNeg)], hlw X u, 0, 0))
    refine am_go_blk 6 (?_ : am_gu L xs (D + 2) 125 X o (23, [(0, .ref am_pL), (1, .ref ((53 + X.length))), (2, .int a2), (3, .int a3), (4, .int a4)], [.int ((nI 20) + ((nI 10) * a2)), .ref ((53 + X.length)), .long (u.2 (nI 0).toNatClampNeg)], hlw X u, 0, 0))
    obtain ⟨hc, H⟩ := am_ckE H
    refine am_lald rfl hl_get (am_inv hc) (?_ : am_gu L xs (D + 2) 125 X o (24, [(0, .ref am_pL), (1, .ref ((53 + X.length))), (2, .int a2), (3, .int a3), (4, .int a4)], [.long (u.2 ((nI 20) + ((nI 10) * a2)).toNatClampNeg), .long (u.2 (nI 0).toNatClampNeg)], hlw X u, 0, 0))
    refine am_go_blk 7 ⟨fun hc => ?_, fun hc => ?_⟩
    · have H := am_it hc H
      exact T_W_fix_51 hX u H
    · have H := am_ie hc H
      show am_gu L xs (D + 2) 125 X o (33, [(0, .ref am_pL), (1, .ref ((53 + X.length))), (2, .int a2), (3, .int a3), (4, .int a4)], [], hlw X u, 0, 0)
      refine am_go_blk 6 (?_ : am_gu L xs (D + 2) 125 X o (41, [(0, .ref am_pL), (1, .ref ((53 + X.length))), (2, .int a2), (3, .int a3), (4, .int a4)], [.int ((nI 22) + ((nI 10) * a2)), .ref ((53 + X.length))], hlw X u, 0, 0))
      obtain ⟨hc, H⟩ := am_ckE H
      refine am_lald rfl hl_get (am_inv hc) (?_ : am_gu L xs (D + 2) 125 X o (42, [(0, .ref am_pL), (1, .ref ((53 + X.length))), (2, .int a2), (3, .int a3), (4, .int a4)], [.long (u.2 ((nI 22) + ((nI 10) * a2)).toNatClampNeg)], hlw X u, 0, 0))
      refine am_go_blk 7 ⟨fun hc => ?_, fun hc => ?_⟩
      · have H := am_ie hc H
        show am_gu L xs (D + 2) 125 X o (53, [(0, .ref am_pL), (1, .ref ((53 + X.length))), (2, .int a2), (3, .int a3), (4, .int a4)], [], hlw X u, 0, 0)
        refine am_go_blk 3 ⟨fun hc => ?_, fun hc => ?_⟩
        · have H := am_it hc H
          exact T_W_fix_65 hX a2 a3 a4 u H
        · have H := am_ie hc H
          show am_gu L xs (D + 2) 125 X o (59, [(0, .ref am_pL), (1, .ref ((53 + X.length))), (2, .int a2), (3, .int a3), (4, .int a4)], [], hlw X u, 0, 0)
          refine am_go_blk 3 ⟨fun hc => ?_, fun hc => ?_⟩
          · have H := am_ie hc H
            exact T_W_fix_79 hX a2 a3 a4 u H
          · have H := am_it hc H
            exact T_W_fix_65 hX a2 a3 a4 u H
      · have H := am_it hc H
        exact T_W_fix_51 hX u H
theorem M_W_fix {L : Nat} {xs : Nat → Int32} {D : Nat} {X : am_H} (hX : X.length ≤ 1000) {o : Int32 × am_U} {a2 : Int32} {a3 : Int32} {a4 : Int32} {u : am_U} (H : F_W_fix L xs a2 a3 a4 u = some o) : am_run (some (L, xs)) (D + 3) 125 [.ref am_pL, .ref ((53 + X.length)), .int a2, .int a3, .int a4] (hlw X u) (some (.int o.1)) (hlw X o.2) 0 0 :=
  am_run_of rfl (T_W_fix hX a2 a3 a4 u H)
def F_W_holds_57 (L : Nat) (xs : Nat → Int32) (r5 : Int32 → Int32 → Int32 → am_U → Option (Int32 × am_U)) (a2 : Int32) (a4 : Int32) (s0 : Int32) (s1 : Int32) (u : am_U) : Option (Int32 × am_U) :=
  r5 a2 (s1 ||| s0) (a4 + (nI 1)) u
def F_W_holds_56 (L : Nat) (xs : Nat → Int32) (r5 : Int32 → Int32 → Int32 → am_U → Option (Int32 × am_U)) (a2 : Int32) (a4 : Int32) (s0 : Int32) (u : am_U) : Option (Int32 × am_U) :=
  F_W_holds_57 L xs r5 a2 a4 (nI 0) s0 u
def F_W_holds_5 (L : Nat) (xs : Nat → Int32) (r5 : Int32 → Int32 → Int32 → am_U → Option (Int32 × am_U)) (a2 : Int32) (a3 : Int32) (a4 : Int32) (u : am_U) : Option (Int32 × am_U) :=
  am_ck (am_in (nI 10) 160) (if 0 ≤ (lg_cmp a4.toInt64 (u.2 (nI 10).toNatClampNeg)) then (some (a3, u)) else (am_ck (am_in ((nI 20) + ((nI 10) * a4)) 160) (if (lg_cmp (u.2 ((nI 20) + ((nI 10) * a4)).toNatClampNeg) a2.toInt64) = 0 then (F_W_holds_56 L xs r5 a2 a4 a3 u) else ((F_W_kind L xs a2).bind fun q1 => (F_W_fix L xs a4 a2 q1 u).bind fun q2 => if q2.1 = 0 then (F_W_holds_56 L xs r5 a2 a4 a3 q2.2) else (F_W_holds_57 L xs r5 a2 a4 ((nI 1) <<< (a4 &&& 31)) a3 q2.2)))))
def L_W_holds_5 (L : Nat) (xs : Nat → Int32) : Nat → Int32 → Int32 → Int32 → am_U → Option (Int32 × am_U)
  | 0, _, _, _, _ => none
  | n + 1, a2, a3, a4, u => F_W_holds_5 L xs (L_W_holds_5 L xs n) a2 a3 a4 u
def F_W_holds (L : Nat) (xs : Nat → Int32) (a2 : Int32) (u : am_U) : Option (Int32 × am_U) :=
  L_W_holds_5 L xs am_NF a2 (nI 0) (nI 0) u
theorem T_W_holds_57 {L : Nat} {xs : Nat → Int32} {D : Nat} {X : am_H} (hX : X.length ≤ 1000) {o : Int32 × am_U} {r5 : Int32 → Int32 → Int32 → am_U → Option (Int32 × am_U)} (Hr5 : ∀ (a2 : Int32) (a3 : Int32) (a4 : Int32) (u : am_U), r5 a2 a3 a4 u = some o → am_gu L xs (D + 3) 126 X o (5, [(0, .ref am_pL), (1, .ref ((53 + X.length))), (2, .int a2), (3, .int a3), (4, .int a4)], [], hlw X u, 0, 0)) (a2 : Int32) (a4 : Int32) (s0 : Int32) (s1 : Int32) (u : am_U) (H : F_W_holds_57 L xs r5 a2 a4 s0 s1 u = some o) : am_gu L xs (D + 3) 126 X o (57, [(0, .ref am_pL), (1, .ref ((53 + X.length))), (2, .int a2), (4, .int a4)], [.int s0, .int s1], hlw X u, 0, 0) := by
  unfold F_W_holds_57 at H
  exact am_go_blk 4 (Hr5 a2 (s1 ||| s0) (a4 + (nI 1)) u H)
theorem T_W_holds_56 {L : Nat} {xs : Nat → Int32} {D : Nat} {X : am_H} (hX : X.length ≤ 1000) {o : Int32 × am_U} {r5 : Int32 → Int32 → Int32 → am_U → Option (Int32 × am_U)} (Hr5 : ∀ (a2 : Int32) (a3 : Int32) (a4 : Int32) (u : am_U), r5 a2 a3 a4 u = some o → am_gu L xs (D + 3) 126 X o (5, [(0, .ref am_pL), (1, .ref ((53 + X.length))), (2, .int a2), (3, .int a3), (4, .int a4)], [], hlw X u, 0, 0)) (a2 : Int32) (a4 : Int32) (s0 : Int32) (u : am_U) (H : F_W_holds_56 L xs r5 a2 a4 s0 u = some o) : am_gu L xs (D + 3) 126 X o (56, [(0, .ref am_pL), (1, .ref ((53 + X.length))), (2, .int a2), (4, .int a4)], [.int s0], hlw X u, 0, 0) := by
  unfold F_W_holds_56 at H
  exact am_go_blk 1 (T_W_holds_57 hX Hr5 a2 a4 (nI 0) s0 u H)
theorem T_W_holds_5 {L : Nat} {xs : Nat → Int32} {D : Nat} {X : am_H} (hX : X.length ≤ 1000) {o : Int32 × am_U} {r5 : Int32 → Int32 → Int32 → am_U → Option (Int32 × am_U)} (Hr5 : ∀ (a2 : Int32) (a3 : Int32) (a4 : Int32) (u : am_U), r5 a2 a3 a4 u = some o → am_gu L xs (D + 3) 126 X o (5, [(0, .ref am_pL), (1, .ref ((53 + X.length))), (2, .int a2), (3, .int a3), (4, .int a4)], [], hlw X u, 0, 0)) (a2 : Int32) (a3 : Int32) (a4 : Int32) (u : am_U) (H : F_W_holds_5 L xs r5 a2 a3 a4 u = some o) : am_gu L xs (D + 3) 126 X o (5, [(0, .ref am_pL), (1, .ref ((53 + X.length))), (2, .int a2), (3, .int a3), (4, .int a4)], [], hlw X u, 0, 0) := by
  unfold F_W_holds_5 at H
  refine am_go_blk 4 (?_ : am_gu L xs (D + 3) 126 X o (11, [(0, .ref am_pL), (1, .ref ((53 + X.length))), (2, .int a2), (3, .int a3), (4, .int a4)], [.int (nI 10), .ref ((53 + X.length)), .long a4.toInt64], hlw X u, 0, 0))
  obtain ⟨hc, H⟩ := am_ckE H
  refine am_lald rfl hl_get (am_inv hc) (?_ : am_gu L xs (D + 3) 126 X o (12, [(0, .ref am_pL), (1, .ref ((53 + X.length))), (2, .int a2), (3, .int a3), (4, .int a4)], [.long (u.2 (nI 10).toNatClampNeg), .long a4.toInt64], hlw X u, 0, 0))
  refine am_go_blk 2 ⟨fun hc => ?_, fun hc => ?_⟩
  · have H := am_it hc H
    show am_gu L xs (D + 3) 126 X o (65, [(3, .int a3)], [], hlw X u, 0, 0)
    exact am_go_blk 2 ⟨rfl, am_fu H⟩
  · have H := am_ie hc H
    show am_gu L xs (D + 3) 126 X o (16, [(0, .ref am_pL), (1, .ref ((53 + X.length))), (2, .int a2), (3, .int a3), (4, .int a4)], [], hlw X u, 0, 0)
    refine am_go_blk 7 (?_ : am_gu L xs (D + 3) 126 X o (26, [(0, .ref am_pL), (1, .ref ((53 + X.length))), (2, .int a2), (3, .int a3), (4, .int a4)], [.int ((nI 20) + ((nI 10) * a4)), .ref ((53 + X.length)), .int a3], hlw X u, 0, 0))
    obtain ⟨hc, H⟩ := am_ckE H
    refine am_lald rfl hl_get (am_inv hc) (?_ : am_gu L xs (D + 3) 126 X o (27, [(0, .ref am_pL), (1, .ref ((53 + X.length))), (2, .int a2), (3, .int a3), (4, .int a4)], [.long (u.2 ((nI 20) + ((nI 10) * a4)).toNatClampNeg), .int a3], hlw X u, 0, 0))
    refine am_go_blk 4 ⟨fun hc => ?_, fun hc => ?_⟩
    · have H := am_it hc H
      exact T_W_holds_56 hX Hr5 a2 a4 a3 u H
    · have H := am_ie hc H
      show am_gu L xs (D + 3) 126 X o (33, [(0, .ref am_pL), (1, .ref ((53 + X.length))), (2, .int a2), (3, .int a3), (4, .int a4)], [.int a3], hlw X u, 0, 0)
      refine am_go_blk 6 (?_ : am_gu L xs (D + 3) 126 X o (40, [(0, .ref am_pL), (1, .ref ((53 + X.length))), (2, .int a2), (3, .int a3), (4, .int a4)], [.int a2, .ref am_pL, .int a2, .int a4, .ref ((53 + X.length)), .ref am_pL, .int a3], hlw X u, 0, 0))
      obtain ⟨q1, hq1, H⟩ := am_bnE H
      refine am_cls rfl rfl rfl (am_kcall (am_hl rfl (hl_le hX)) (M_W_kind (D := D + 1) (hl_le hX) hq1) rfl (Nat.le_refl _) (Nat.le_refl _) (?_ : am_gu L xs (D + 3) 126 X o (43, [(0, .ref am_pL), (1, .ref ((53 + X.length))), (2, .int a2), (3, .int a3), (4, .int a4)], [.int q1, .int a2, .int a4, .ref ((53 + X.length)), .ref am_pL, .int a3], hlw X u, 0, 0)))
      obtain ⟨q2, hq2, H⟩ := am_bnE H
      refine am_cls rfl rfl rfl (am_kcall (am_hl rfl (hl_le hX)) (M_W_fix (D := D) hX hq2) hl_len2 (Nat.le_refl _) (Nat.le_refl _) (?_ : am_gu L xs (D + 3) 126 X o (46, [(0, .ref am_pL), (1, .ref ((53 + X.length))), (2, .int a2), (3, .int a3), (4, .int a4)], [.int q2.1, .int a3], hlw X q2.2, 0, 0)))
      refine am_go_blk 1 ⟨fun hc => ?_, fun hc => ?_⟩
      · have H := am_it hc H
        exact T_W_holds_56 hX Hr5 a2 a4 a3 q2.2 H
      · have H := am_ie hc H
        show am_gu L xs (D + 3) 126 X o (49, [(0, .ref am_pL), (1, .ref ((53 + X.length))), (2, .int a2), (3, .int a3), (4, .int a4)], [.int a3], hlw X q2.2, 0, 0)
        exact am_go_blk 4 (T_W_holds_57 hX Hr5 a2 a4 ((nI 1) <<< (a4 &&& 31)) a3 q2.2 H)
theorem TL_W_holds_5 {L : Nat} {xs : Nat → Int32} {D : Nat} {X : am_H} (hX : X.length ≤ 1000) {o : Int32 × am_U} : ∀ (N : Nat) (a2 : Int32) (a3 : Int32) (a4 : Int32) (u : am_U), L_W_holds_5 L xs N a2 a3 a4 u = some o → am_gu L xs (D + 3) 126 X o (5, [(0, .ref am_pL), (1, .ref ((53 + X.length))), (2, .int a2), (3, .int a3), (4, .int a4)], [], hlw X u, 0, 0)
  | 0, _, _, _, _, H => by cases H
  | N + 1, a2, a3, a4, u, H => T_W_holds_5 hX (TL_W_holds_5 hX N) a2 a3 a4 u H
theorem T_W_holds {L : Nat} {xs : Nat → Int32} {D : Nat} {X : am_H} (hX : X.length ≤ 1000) {o : Int32 × am_U} (a2 : Int32) (u : am_U) (H : F_W_holds L xs a2 u = some o) : am_gu L xs (D + 3) 126 X o (0, [(0, .ref am_pL), (1, .ref ((53 + X.length))), (2, .int a2)], [], hlw X u, 0, 0) := by
  unfold F_W_holds at H
  exact am_go_blk 4 (TL_W_holds_5 hX am_NF a2 (nI 0) (nI 0) u H)
theorem M_W_holds {L : Nat} {xs : Nat → Int32} {D : Nat} {X : am_H} (hX : X.length ≤ 1000) {o : Int32 × am_U} {a2 : Int32} {u : am_U} (H : F_W_holds L xs a2 u = some o) : am_run (some (L, xs)) (D + 4) 126 [.ref am_pL, .ref ((53 + X.length)), .int a2] (hlw X u) (some (.int o.1)) (hlw X o.2) 0 0 :=
  am_run_of rfl (T_W_holds hX a2 u H)
def F_W_can_26 (L : Nat) (xs : Nat → Int32) (s0 : Int32) (u : am_U) : Option (Int32 × am_U) :=
  am_ck (am_bo s0) (some (s0, u))
def F_W_can_25 (L : Nat) (xs : Nat → Int32) (u : am_U) : Option (Int32 × am_U) :=
  F_W_can_26 L xs (nI 0) u
def F_W_can (L : Nat) (xs : Nat → Int32) (a2 : Int32) (u : am_U) : Option (Int32 × am_U) :=
  am_ck (am_in (nI 0) 160) (if (lg_cmp (((u.2 (nI 0).toNatClampNeg) >>> (a2.toInt64 &&& 63)) &&& (lN 1)) (lN 0)) = 0 then ((F_W_holds L xs a2 u).bind fun q1 => if q1.1 = 0 then (F_W_can_26 L xs (nI 1) q1.2) else (F_W_can_25 L xs q1.2)) else (F_W_can_25 L xs u))
theorem T_W_can_26 {L : Nat} {xs : Nat → Int32} {D : Nat} {X : am_H} (hX : X.length ≤ 1000) {o : Int32 × am_U} (s0 : Int32) (u : am_U) (H : F_W_can_26 L xs s0 u = some o) : am_gu L xs (D + 4) 127 X o (26, [], [.int s0], hlw X u, 0, 0) := by
  unfold F_W_can_26 at H
  obtain ⟨hc, H⟩ := am_ckE H
  exact am_go_blk 1 ⟨am_boE hc, am_fu H⟩
theorem T_W_can_25 {L : Nat} {xs : Nat → Int32} {D : Nat} {X : am_H} (hX : X.length ≤ 1000) {o : Int32 × am_U} (u : am_U) (H : F_W_can_25 L xs u = some o) : am_gu L xs (D + 4) 127 X o (25, [], [], hlw X u, 0, 0) := by
  unfold F_W_can_25 at H
  exact am_go_blk 1 (T_W_can_26 hX (nI 0) u H)
theorem T_W_can {L : Nat} {xs : Nat → Int32} {D : Nat} {X : am_H} (hX : X.length ≤ 1000) {o : Int32 × am_U} (a2 : Int32) (u : am_U) (H : F_W_can L xs a2 u = some o) : am_gu L xs (D + 4) 127 X o (0, [(0, .ref am_pL), (1, .ref ((53 + X.length))), (2, .int a2)], [], hlw X u, 0, 0) := by
  unfold F_W_can at H
  refine am_go_blk 2 (?_ : am_gu L xs (D + 4) 127 X o (2, [(0, .ref am_pL), (1, .ref ((53 + X.length))), (2, .int a2)], [.int (nI 0), .ref ((53 + X.length))], hlw X u, 0, 0))
  obtain ⟨hc, H⟩ := am_ckE H
  refine am_lald rfl hl_get (am_inv hc) (?_ : am_gu L xs (D + 4) 127 X o (3, [(0, .ref am_pL), (1, .ref ((53 + X.length))), (2, .int a2)], [.long (u.2 (nI 0).toNatClampNeg)], hlw X u, 0, 0))
  refine am_go_blk 7 ⟨fun hc => ?_, fun hc => ?_⟩
  · have H := am_ie hc H
    exact T_W_can_25 hX u H
  · have H := am_it hc H
    show am_gu L xs (D + 4) 127 X o (12, [(0, .ref am_pL), (1, .ref ((53 + X.length))), (2, .int a2)], [], hlw X u, 0, 0)
    refine am_go_blk 3 (?_ : am_gu L xs (D + 4) 127 X o (15, [(0, .ref am_pL), (1, .ref ((53 + X.length))), (2, .int a2)], [.int a2, .ref ((53 + X.length)), .ref am_pL], hlw X u, 0, 0))
    obtain ⟨q1, hq1, H⟩ := am_bnE H
    refine am_cls rfl rfl rfl (am_kcall (am_hl rfl (hl_le hX)) (M_W_holds (D := D) hX hq1) hl_len2 (Nat.le_refl _) (Nat.le_refl _) (?_ : am_gu L xs (D + 4) 127 X o (18, [(0, .ref am_pL), (1, .ref ((53 + X.length))), (2, .int a2)], [.int q1.1], hlw X q1.2, 0, 0)))
    refine am_go_blk 1 ⟨fun hc => ?_, fun hc => ?_⟩
    · have H := am_ie hc H
      exact T_W_can_25 hX q1.2 H
    · have H := am_it hc H
      show am_gu L xs (D + 4) 127 X o (21, [(0, .ref am_pL), (1, .ref ((53 + X.length))), (2, .int a2)], [], hlw X q1.2, 0, 0)
      exact am_go_blk 2 (T_W_can_26 hX (nI 1) q1.2 H)
theorem M_W_can {L : Nat} {xs : Nat → Int32} {D : Nat} {X : am_H} (hX : X.length ≤ 1000) {o : Int32 × am_U} {a2 : Int32} {u : am_U} (H : F_W_can L xs a2 u = some o) : am_run (some (L, xs)) (D + 5) 127 [.ref am_pL, .ref ((53 + X.length)), .int a2] (hlw X u) (some (.int o.1)) (hlw X o.2) 0 0 :=
  am_run_of rfl (T_W_can hX a2 u H)
def F_W_last_56 (L : Nat) (xs : Nat → Int32) (r7 : Int64 → Int32 → am_U → Option (Int32 × am_U)) (r17 : Int64 → Int32 → Int32 → am_U → Option (Int32 × am_U)) (a2 : Int64) (a4 : Int32) (a5 : Int32) (u : am_U) : Option (Int32 × am_U) :=
  r17 a2 a4 (a5 + (nI 1)) u
def F_W_last_17 (L : Nat) (xs : Nat → Int32) (r7 : Int64 → Int32 → am_U → Option (Int32 × am_U)) (r17 : Int64 → Int32 → Int32 → am_U → Option (Int32 × am_U)) (a2 : Int64) (a4 : Int32) (a5 : Int32) (u : am_U) : Option (Int32 × am_U) :=
  (F_W_things L xs ).bind fun q2 => if q2 ≤ a5 then (r7 a2 (a4 + (nI 1)) u) else ((F_W_kind L xs a5).bind fun q3 => if q3 = (nI 5) then (F_W_last_56 L xs r7 r17 a2 a4 a5 u) else ((F_W_can L xs a5 u).bind fun q4 => if q4.1 = 0 then (F_W_last_56 L xs r7 r17 a2 a4 a5 q4.2) else (am_ck (am_in (nI 0) 160) (am_ck (am_in (nI 0) 160) (am_lt (hst q4.2 (nI 0) ((q4.2.2 (nI 0).toNatClampNeg) ||| ((lN 1) <<< (a5.toInt64 &&& 63)))) fun u5 => F_W_last_56 L xs r7 r17 a2 a4 a5 u5)))))
def L_W_last_17 (L : Nat) (xs : Nat → Int32) (r7 : Int64 → Int32 → am_U → Option (Int32 × am_U)) : Nat → Int64 → Int32 → Int32 → am_U → Option (Int32 × am_U)
  | 0, _, _, _, _ => none
  | n + 1, a2, a4, a5, u => F_W_last_17 L xs r7 (L_W_last_17 L xs r7 n) a2 a4 a5 u
def F_W_last_7 (L : Nat) (xs : Nat → Int32) (r7 : Int64 → Int32 → am_U → Option (Int32 × am_U)) (a2 : Int64) (a4 : Int32) (u : am_U) : Option (Int32 × am_U) :=
  if (nI 8) ≤ a4 then (am_ck (am_in (nI 0) 160) (am_ck (am_in (nI 0) 160) (am_lt (hst u (nI 0) a2) fun u1 => some ((u.2 (nI 0).toNatClampNeg).toInt32, u1)))) else (L_W_last_17 L xs r7 am_NF a2 a4 (nI 0) u)
def L_W_last_7 (L : Nat) (xs : Nat → Int32) : Nat → Int64 → Int32 → am_U → Option (Int32 × am_U)
  | 0, _, _, _ => none
  | n + 1, a2, a4, u => F_W_last_7 L xs (L_W_last_7 L xs n) a2 a4 u
def F_W_last (L : Nat) (xs : Nat → Int32) (u : am_U) : Option (Int32 × am_U) :=
  am_ck (am_in (nI 0) 160) (L_W_last_7 L xs am_NF (u.2 (nI 0).toNatClampNeg) (nI 0) u)
theorem T_W_last_56 {L : Nat} {xs : Nat → Int32} {D : Nat} {X : am_H} (hX : X.length ≤ 1000) {o : Int32 × am_U} {r7 : Int64 → Int32 → am_U → Option (Int32 × am_U)} {r17 : Int64 → Int32 → Int32 → am_U → Option (Int32 × am_U)} (Hr7 : ∀ (a2 : Int64) (a4 : Int32) (u : am_U), r7 a2 a4 u = some o → am_gu L xs (D + 5) 128 X o (7, [(0, .ref am_pL), (1, .ref ((53 + X.length))), (2, .long a2), (4, .int a4)], [], hlw X u, 0, 0)) (Hr17 : ∀ (a2 : Int64) (a4 : Int32) (a5 : Int32) (u : am_U), r17 a2 a4 a5 u = some o → am_gu L xs (D + 5) 128 X o (17, [(0, .ref am_pL), (1, .ref ((53 + X.length))), (2, .long a2), (4, .int a4), (5, .int a5)], [], hlw X u, 0, 0)) (a2 : Int64) (a4 : Int32) (a5 : Int32) (u : am_U) (H : F_W_last_56 L xs r7 r17 a2 a4 a5 u = some o) : am_gu L xs (D + 5) 128 X o (56, [(0, .ref am_pL), (1, .ref ((53 + X.length))), (2, .long a2), (4, .int a4), (5, .int a5)], [], hlw X u, 0, 0) := by
  unfold F_W_last_56 at H
  exact am_go_blk 2 (Hr17 a2 a4 (a5 + (nI 1)) u H)
theorem T_W_last_17 {L : Nat} {xs : Nat → Int32} {D : Nat} {X : am_H} (hX : X.length ≤ 1000) {o : Int32 × am_U} {r7 : Int64 → Int32 → am_U → Option (Int32 × am_U)} {r17 : Int64 → Int32 → Int32 → am_U → Option (Int32 × am_U)} (Hr7 : ∀ (a2 : Int64) (a4 : Int32) (u : am_U), r7 a2 a4 u = some o → am_gu L xs (D + 5) 128 X o (7, [(0, .ref am_pL), (1, .ref ((53 + X.length))), (2, .long a2), (4, .int a4)], [], hlw X u, 0, 0)) (Hr17 : ∀ (a2 : Int64) (a4 : Int32) (a5 : Int32) (u : am_U), r17 a2 a4 a5 u = some o → am_gu L xs (D + 5) 128 X o (17, [(0, .ref am_pL), (1, .ref ((53 + X.length))), (2, .long a2), (4, .int a4), (5, .int a5)], [], hlw X u, 0, 0)) (a2 : Int64) (a4 : Int32) (a5 : Int32) (u : am_U) (H : F_W_last_17 L xs r7 r17 a2 a4 a5 u = some o) : am_gu L xs (D + 5) 128 X o (17, [(0, .ref am_pL), (1, .ref ((53 + X.length))), (2, .long a2), (4, .int a4), (5, .int a5)], [], hlw X u, 0, 0) := by
  unfold F_W_last_17 at H
  refine am_go_blk 2 (?_ : am_gu L xs (D + 5) 128 X o (20, [(0, .ref am_pL), (1, .ref ((53 + X.length))), (2, .long a2), (4, .int a4), (5, .int a5)], [.ref am_pL, .int a5], hlw X u, 0, 0))
  obtain ⟨q2, hq2, H⟩ := am_bnE H
  refine am_cls rfl rfl rfl (am_kcall (am_hl rfl (hl_le hX)) (M_W_things (D := D + 3) (hl_le hX) hq2) rfl (Nat.le_refl _) (Nat.le_refl _) (?_ : am_gu L xs (D + 5) 128 X o (23, [(0, .ref am_pL), (1, .ref ((53 + X.length))), (2, .long a2), (4, .int a4), (5, .int a5)], [.int q2, .int a5], hlw X u, 0, 0)))
  refine am_go_blk 1 ⟨fun hc => ?_, fun hc => ?_⟩
  · have H := am_it hc H
    show am_gu L xs (D + 5) 128 X o (62, [(0, .ref am_pL), (1, .ref ((53 + X.length))), (2, .long a2), (4, .int a4)], [], hlw X u, 0, 0)
    exact am_go_blk 2 (Hr7 a2 (a4 + (nI 1)) u H)
  · have H := am_ie hc H
    show am_gu L xs (D + 5) 128 X o (26, [(0, .ref am_pL), (1, .ref ((53 + X.length))), (2, .long a2), (4, .int a4), (5, .int a5)], [], hlw X u, 0, 0)
    refine am_go_blk 2 (?_ : am_gu L xs (D + 5) 128 X o (29, [(0, .ref am_pL), (1, .ref ((53 + X.length))), (2, .long a2), (4, .int a4), (5, .int a5)], [.int a5, .ref am_pL], hlw X u, 0, 0))
    obtain ⟨q3, hq3, H⟩ := am_bnE H
    refine am_cls rfl rfl rfl (am_kcall (am_hl rfl (hl_le hX)) (M_W_kind (D := D + 3) (hl_le hX) hq3) rfl (Nat.le_refl _) (Nat.le_refl _) (?_ : am_gu L xs (D + 5) 128 X o (32, [(0, .ref am_pL), (1, .ref ((53 + X.length))), (2, .long a2), (4, .int a4), (5, .int a5)], [.int q3], hlw X u, 0, 0)))
    refine am_go_blk 2 ⟨fun hc => ?_, fun hc => ?_⟩
    · have H := am_it hc H
      exact T_W_last_56 hX Hr7 Hr17 a2 a4 a5 u H
    · have H := am_ie hc H
      show am_gu L xs (D + 5) 128 X o (36, [(0, .ref am_pL), (1, .ref ((53 + X.length))), (2, .long a2), (4, .int a4), (5, .int a5)], [], hlw X u, 0, 0)
      refine am_go_blk 3 (?_ : am_gu L xs (D + 5) 128 X o (40, [(0, .ref am_pL), (1, .ref ((53 + X.length))), (2, .long a2), (4, .int a4), (5, .int a5)], [.int a5, .ref ((53 + X.length)), .ref am_pL], hlw X u, 0, 0))
      obtain ⟨q4, hq4, H⟩ := am_bnE H
      refine am_cls rfl rfl rfl (am_kcall (am_hl rfl (hl_le hX)) (M_W_can (D := D) hX hq4) hl_len2 (Nat.le_refl _) (Nat.le_refl _) (?_ : am_gu L xs (D + 5) 128 X o (43, [(0, .ref am_pL), (1, .ref ((53 + X.length))), (2, .long a2), (4, .int a4), (5, .int a5)], [.int q4.1], hlw X q4.2, 0, 0)))
      refine am_go_blk 1 ⟨fun hc => ?_, fun hc => ?_⟩
      · have H := am_it hc H
        exact T_W_last_56 hX Hr7 Hr17 a2 a4 a5 q4.2 H
      · have H := am_ie hc H
        show am_gu L xs (D + 5) 128 X o (46, [(0, .ref am_pL), (1, .ref ((53 + X.length))), (2, .long a2), (4, .int a4), (5, .int a5)], [], hlw X q4.2, 0, 0)
        refine am_go_blk 3 (?_ : am_gu L xs (D + 5) 128 X o (49, [(0, .ref am_pL), (1, .ref ((53 + X.length))), (2, .long a2), (4, .int a4), (5, .int a5)], [.int (nI 0), .ref ((53 + X.length)), .int (nI 0), .ref ((53 + X.length))], hlw X q4.2, 0, 0))
        obtain ⟨hc, H⟩ := am_ckE H
        refine am_lald rfl hl_get (am_inv hc) (?_ : am_gu L xs (D + 5) 128 X o (50, [(0, .ref am_pL), (1, .ref ((53 + X.length))), (2, .long a2), (4, .int a4), (5, .int a5)], [.long (q4.2.2 (nI 0).toNatClampNeg), .int (nI 0), .ref ((53 + X.length))], hlw X q4.2, 0, 0))
        refine am_go_blk 4 (?_ : am_gu L xs (D + 5) 128 X o (55, [(0, .ref am_pL), (1, .ref ((53 + X.length))), (2, .long a2), (4, .int a4), (5, .int a5)], [.long ((q4.2.2 (nI 0).toNatClampNeg) ||| ((lN 1) <<< (a5.toInt64 &&& 63))), .int (nI 0), .ref ((53 + X.length))], hlw X q4.2, 0, 0))
        obtain ⟨hc, H⟩ := am_ckE H
        obtain ⟨u5, eu5, H⟩ := am_ltE H
        refine am_lasd rfl hl_get (am_inv hc) (hl_set eu5) (?_ : am_gu L xs (D + 5) 128 X o (56, [(0, .ref am_pL), (1, .ref ((53 + X.length))), (2, .long a2), (4, .int a4), (5, .int a5)], [], hlw X u5, 0, 0))
        exact T_W_last_56 hX Hr7 Hr17 a2 a4 a5 u5 H
theorem TL_W_last_17 {L : Nat} {xs : Nat → Int32} {D : Nat} {X : am_H} (hX : X.length ≤ 1000) {o : Int32 × am_U} {r7 : Int64 → Int32 → am_U → Option (Int32 × am_U)} (Hr7 : ∀ (a2 : Int64) (a4 : Int32) (u : am_U), r7 a2 a4 u = some o → am_gu L xs (D + 5) 128 X o (7, [(0, .ref am_pL), (1, .ref ((53 + X.length))), (2, .long a2), (4, .int a4)], [], hlw X u, 0, 0)) : ∀ (N : Nat) (a2 : Int64) (a4 : Int32) (a5 : Int32) (u : am_U), L_W_last_17 L xs r7 N a2 a4 a5 u = some o → am_gu L xs (D + 5) 128 X o (17, [(0, .ref am_pL), (1, .ref ((53 + X.length))), (2, .long a2), (4, .int a4), (5, .int a5)], [], hlw X u, 0, 0)
  | 0, _, _, _, _, H => by cases H
  | N + 1, a2, a4, a5, u, H => T_W_last_17 hX Hr7 (TL_W_last_17 hX Hr7 N) a2 a4 a5 u H
theorem T_W_last_7 {L : Nat} {xs : Nat → Int32} {D : Nat} {X : am_H} (hX : X.length ≤ 1000) {o : Int32 × am_U} {r7 : Int64 → Int32 → am_U → Option (Int32 × am_U)} (Hr7 : ∀ (a2 : Int64) (a4 : Int32) (u : am_U), r7 a2 a4 u = some o → am_gu L xs (D + 5) 128 X o (7, [(0, .ref am_pL), (1, .ref ((53 + X.length))), (2, .long a2), (4, .int a4)], [], hlw X u, 0, 0)) (a2 : Int64) (a4 : Int32) (u : am_U) (H : F_W_last_7 L xs r7 a2 a4 u = some o) : am_gu L xs (D + 5) 128 X o (7, [(0, .ref am_pL), (1, .ref ((53 + X.length))), (2, .long a2), (4, .int a4)], [], hlw X u, 0, 0) := by
  unfold F_W_last_7 at H
  refine am_go_blk 3 ⟨fun hc => ?_, fun hc => ?_⟩
  · have H := am_it hc H
    show am_gu L xs (D + 5) 128 X o (68, [(1, .ref ((53 + X.length))), (2, .long a2)], [], hlw X u, 0, 0)
    refine am_go_blk 2 (?_ : am_gu L xs (D + 5) 128 X o (70, [(1, .ref ((53 + X.length))), (2, .long a2)], [.int (nI 0), .ref ((53 + X.length))], hlw X u, 0, 0))
    obtain ⟨hc, H⟩ := am_ckE H
    refine am_lald rfl hl_get (am_inv hc) (?_ : am_gu L xs (D + 5) 128 X o (71, [(1, .ref ((53 + X.length))), (2, .long a2)], [.long (u.2 (nI 0).toNatClampNeg)], hlw X u, 0, 0))
    refine am_go_blk 5 (?_ : am_gu L xs (D + 5) 128 X o (77, [(4, .int ((u.2 (nI 0).toNatClampNeg).toInt32)), (1, .ref ((53 + X.length))), (2, .long a2)], [.long a2, .int (nI 0), .ref ((53 + X.length))], hlw X u, 0, 0))
    obtain ⟨hc, H⟩ := am_ckE H
    obtain ⟨u1, eu1, H⟩ := am_ltE H
    refine am_lasd rfl hl_get (am_inv hc) (hl_set eu1) (?_ : am_gu L xs (D + 5) 128 X o (78, [(4, .int ((u.2 (nI 0).toNatClampNeg).toInt32)), (1, .ref ((53 + X.length))), (2, .long a2)], [], hlw X u1, 0, 0))
    exact am_go_blk 2 ⟨rfl, am_fu H⟩
  · have H := am_ie hc H
    show am_gu L xs (D + 5) 128 X o (14, [(0, .ref am_pL), (1, .ref ((53 + X.length))), (2, .long a2), (4, .int a4)], [], hlw X u, 0, 0)
    exact am_go_blk 2 (TL_W_last_17 hX Hr7 am_NF a2 a4 (nI 0) u H)
theorem TL_W_last_7 {L : Nat} {xs : Nat → Int32} {D : Nat} {X : am_H} (hX : X.length ≤ 1000) {o : Int32 × am_U} : ∀ (N : Nat) (a2 : Int64) (a4 : Int32) (u : am_U), L_W_last_7 L xs N a2 a4 u = some o → am_gu L xs (D + 5) 128 X o (7, [(0, .ref am_pL), (1, .ref ((53 + X.length))), (2, .long a2), (4, .int a4)], [], hlw X u, 0, 0)
  | 0, _, _, _, H => by cases H
  | N + 1, a2, a4, u, H => T_W_last_7 hX (TL_W_last_7 hX N) a2 a4 u H
theorem T_W_last {L : Nat} {xs : Nat → Int32} {D : Nat} {X : am_H} (hX : X.length ≤ 1000) {o : Int32 × am_U} (u : am_U) (H : F_W_last L xs u = some o) : am_gu L xs (D + 5) 128 X o (0, [(0, .ref am_pL), (1, .ref ((53 + X.length)))], [], hlw X u, 0, 0) := by
  unfold F_W_last at H
  refine am_go_blk 2 (?_ : am_gu L xs (D + 5) 128 X o (2, [(0, .ref am_pL), (1, .ref ((53 + X.length)))], [.int (nI 0), .ref ((53 + X.length))], hlw X u, 0, 0))
  obtain ⟨hc, H⟩ := am_ckE H
  refine am_lald rfl hl_get (am_inv hc) (?_ : am_gu L xs (D + 5) 128 X o (3, [(0, .ref am_pL), (1, .ref ((53 + X.length)))], [.long (u.2 (nI 0).toNatClampNeg)], hlw X u, 0, 0))
  exact am_go_blk 3 (TL_W_last_7 hX am_NF (u.2 (nI 0).toNatClampNeg) (nI 0) u H)
theorem M_W_last {L : Nat} {xs : Nat → Int32} {D : Nat} {X : am_H} (hX : X.length ≤ 1000) {o : Int32 × am_U} {u : am_U} (H : F_W_last L xs u = some o) : am_run (some (L, xs)) (D + 6) 128 [.ref am_pL, .ref ((53 + X.length))] (hlw X u) (some (.int o.1)) (hlw X o.2) 0 0 :=
  am_run_of rfl (T_W_last hX u H)
