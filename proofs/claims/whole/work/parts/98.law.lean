/-! ===== the law: all calls; from its first instruction ===== -/
set_option maxRecDepth 100000 in
theorem LOOP {L : Nat} {xs : Nat → Int32} (hL : L ≤ 3584) : ∀ (d i : Nat) (w : am_W), RR w → L ≤ i + d → i ≤ L + 7 → am_gl L xs (18, [(0, .ref am_pL), (1, .ref 0), (2, .ref 53), (3, .int (nI i))], [], ww w, 75, 4893) := by
  intro d
  have stop : ∀ (i : Nat) (w : am_W), ¬ i + 7 ≤ L → i ≤ L + 7 → am_gl L xs (18, [(0, .ref am_pL), (1, .ref 0), (2, .ref 53), (3, .int (nI i))], [], ww w, 75, 4893) := fun i w hi hb => by
    refine am_go_blk 3 (?_ : am_gl L xs (21, [(0, .ref am_pL), (1, .ref 0), (2, .ref 53), (3, .int (nI i))], [.int (nI L), .int (nI i)], ww w, 75, 4893))
    refine am_go_blk 3 ⟨fun _ => (?_ : am_gl L xs (1722, [], [], ww w, 75, 4893)), fun hc => absurd (show nI L - nI 7 < nI i from ?_) hc⟩
    · exact am_go_blk 2 ⟨rfl, rfl⟩
    · rw [Int32.lt_iff_toInt_lt, pk_sub_toInt (by omega) (by omega), nI_toInt (by omega)]
      omega
  induction d with
  | zero => exact fun i w hw h1 h2 => stop i w (by omega) h2
  | succ d ih =>
    intro i w hw h1 h2
    by_cases hi : i + 7 ≤ L
    · have C : ∀ w2, RR w2 → am_gl L xs (1716, [(0, .ref am_pL), (1, .ref 0), (2, .ref 53), (3, .int (nI i))], [], ww w2, 75, 4893) := fun w2 hw2 => by
        refine am_go_blk 2 (?_ : am_gl L xs (18, [(0, .ref am_pL), (1, .ref 0), (2, .ref 53), (3, .int (nI i + nI 7))], [], ww w2, 75, 4893))
        rw [nI_add]
        exact ih (i + 7) w2 hw2 (by omega) (by omega)
      refine am_go_blk 3 (?_ : am_gl L xs (21, [(0, .ref am_pL), (1, .ref 0), (2, .ref 53), (3, .int (nI i))], [.int (nI L), .int (nI i)], ww w, 75, 4893))
      refine am_go_blk 3 ⟨fun hc => absurd (show nI L - nI 7 < nI i from hc) ?_, fun _ => (?_ : am_gl L xs (27, [(0, .ref am_pL), (1, .ref 0), (2, .ref 53), (3, .int (nI i))], [], ww w, 75, 4893))⟩
      · rw [Int32.lt_iff_toInt_lt, pk_sub_toInt (by omega) (by omega), nI_toInt (by omega)]
        omega
      · refine am_go_blk 3 ⟨am_inv (in_nI (by omega : i < L) (by omega)), (?_ : am_gl L xs (30, [(0, .ref am_pL), (1, .ref 0), (2, .ref 53), (3, .int (nI i))], [.int (xs (nI i).toNatClampNeg)], ww w, 75, 4893))⟩
        exact am_go_blk 3 ⟨fun _ => CS_0 hL hi hw C, fun _ => ⟨fun _ => CS_1 hL hi hw C, fun _ => ⟨fun _ => CS_2 hL hi hw C, fun _ => ⟨fun _ => CS_3 hL hi hw C, fun _ => ⟨fun _ => CS_4 hL hi hw C, fun _ => ⟨fun _ => CS_5 hL hi hw C, fun _ => ⟨fun _ => CS_6 hL hi hw C, fun _ => ⟨fun _ => CS_7 hL hi hw C, fun _ => ⟨fun _ => CS_8 hL hi hw C, fun _ => ⟨fun _ => CS_9 hL hi hw C, fun _ => ⟨fun _ => CS_10 hL hi hw C, fun _ => ⟨fun _ => CS_11 hL hi hw C, fun _ => ⟨fun _ => CS_12 hL hi hw C, fun _ => ⟨fun _ => CS_13 hL hi hw C, fun _ => ⟨fun _ => CS_14 hL hi hw C, fun _ => ⟨fun _ => CS_15 hL hi hw C, fun _ => ⟨fun _ => CS_16 hL hi hw C, fun _ => ⟨fun _ => CS_17 hL hi hw C, fun _ => ⟨fun _ => CS_18 hL hi hw C, fun _ => ⟨fun _ => CS_19 hL hi hw C, fun _ => ⟨fun _ => CS_20 hL hi hw C, fun _ => ⟨fun _ => CS_21 hL hi hw C, fun _ => ⟨fun _ => CS_22 hL hi hw C, fun _ => ⟨fun _ => CS_23 hL hi hw C, fun _ => ⟨fun _ => CS_24 hL hi hw C, fun _ => ⟨fun _ => CS_25 hL hi hw C, fun _ => ⟨fun _ => CS_26 hL hi hw C, fun _ => ⟨fun _ => CS_27 hL hi hw C, fun _ => ⟨fun _ => CS_28 hL hi hw C, fun _ => ⟨fun _ => CS_29 hL hi hw C, fun _ => ⟨fun _ => CS_30 hL hi hw C, fun _ => ⟨fun _ => CS_31 hL hi hw C, fun _ => ⟨fun _ => CS_32 hL hi hw C, fun _ => ⟨fun _ => CS_33 hL hi hw C, fun _ => ⟨fun _ => CS_34 hL hi hw C, fun _ => ⟨fun _ => CS_35 hL hi hw C, fun _ => ⟨fun _ => CS_36 hL hi hw C, fun _ => ⟨fun _ => CS_37 hL hi hw C, fun _ => ⟨fun _ => CS_38 hL hi hw C, fun _ => ⟨fun _ => CS_39 hL hi hw C, fun _ => ⟨fun _ => CS_40 hL hi hw C, fun _ => ⟨fun _ => CS_41 hL hi hw C, fun _ => ⟨fun _ => CS_42 hL hi hw C, fun _ => ⟨fun _ => CS_43 hL hi hw C, fun _ => ⟨fun _ => CS_44 hL hi hw C, fun _ => ⟨fun _ => CS_45 hL hi hw C, fun _ => ⟨fun _ => CS_46 hL hi hw C, fun _ => ⟨fun _ => CS_47 hL hi hw C, fun _ => ⟨fun _ => CS_48 hL hi hw C, fun _ => C w hw⟩⟩⟩⟩⟩⟩⟩⟩⟩⟩⟩⟩⟩⟩⟩⟩⟩⟩⟩⟩⟩⟩⟩⟩⟩⟩⟩⟩⟩⟩⟩⟩⟩⟩⟩⟩⟩⟩⟩⟩⟩⟩⟩⟩⟩⟩⟩⟩⟩
    · exact stop i w hi h2
set_option maxRecDepth 100000 in
theorem am_law_ok : am_law := fun L xs hL => by
  obtain ⟨w1, w4, r, hr, hz, ht, hR⟩ := BEGIN
  have hz : (wsf w1 17 1 (nI 1)).2.2 = some 0 := hz
  generalize hw : wsf w1 17 1 (nI 1) = w at hz ht
  show am_gl L xs (0, [(0, .ref am_pL)], [], [], 0, 0)
  refine am_go_blk 1 (?_ : am_gl L xs (3, [(0, .ref am_pL)], [.ref 0], [.inr (6, [.null, .null, .null, .null, .null, .null, .null, .null, .int 0, .int 0])], 1, 10))
  refine am_go_blk 1 (?_ : am_gl L xs (4, [(0, .ref am_pL)], [.ref 0, .ref 0], [.inr (6, [.null, .null, .null, .null, .null, .null, .null, .null, .int 0, .int 0])], 1, 10))
  refine am_go_blk 1 ⟨none, H_C68 w, 52, 2117, C68 (D := 892) hr hw hz, Nat.le_of_ble_eq_true rfl, (show 1 + 52 ≤ 600000 by omega), (show 10 + 2117 ≤ 7302249 by omega), Or.inr rfl, (?_ : am_gl L xs (7, [(0, .ref am_pL)], [.ref 0], H_C68 w, 1 + 52, 10 + 2117))⟩
  show am_gl L xs (7, [(0, .ref am_pL)], [.ref 0], H_C68 w, 53, 2127)
  refine am_go_blk 1 (?_ : am_gl L xs (8, [(1, .ref 0), (0, .ref am_pL)], [], H_C68 w, 53, 2127))
  refine am_go_blk 1 (?_ : am_gl L xs (11, [(1, .ref 0), (0, .ref am_pL)], [.ref 53], (H_C68 w ++ [.inr (7, [.int 0, .null, .null, .null, .int 0, .int 0, .null, .int 0, .null, .int 0, .null, .null, .int 0, .int 0, .int 0, .int 0, .int 0, .int 0, .int 0, .int 0, .null, .null, .null, .null, .null, .int 0, .int 0, .int 0, .int 0, .null, .null, .int 0, .int 0, .int 0, .null, .null, .null, .null, .null, .null, .int 0, .null])]), 54, 2169))
  refine am_go_blk 1 (?_ : am_gl L xs (12, [(1, .ref 0), (0, .ref am_pL)], [.ref 53, .ref 53], (H_C68 w ++ [.inr (7, [.int 0, .null, .null, .null, .int 0, .int 0, .null, .int 0, .null, .int 0, .null, .null, .int 0, .int 0, .int 0, .int 0, .int 0, .int 0, .int 0, .int 0, .null, .null, .null, .null, .null, .int 0, .int 0, .int 0, .int 0, .null, .null, .int 0, .int 0, .int 0, .null, .null, .null, .null, .null, .null, .int 0, .null])]), 54, 2169))
  refine am_go_blk 1 ⟨none, ww w4, 21, 2724, C136 (D := 994) ht, Nat.le_of_ble_eq_true rfl, (show 54 + 21 ≤ 600000 by omega), (show 2169 + 2724 ≤ 7302249 by omega), Or.inr rfl, (?_ : am_gl L xs (15, [(1, .ref 0), (0, .ref am_pL)], [.ref 53], ww w4, 54 + 21, 2169 + 2724))⟩
  show am_gl L xs (15, [(1, .ref 0), (0, .ref am_pL)], [.ref 53], ww w4, 75, 4893)
  refine am_go_blk 3 (?_ : am_gl L xs (18, [(0, .ref am_pL), (1, .ref 0), (2, .ref 53), (3, .int (nI 0))], [], ww w4, 75, 4893))
  exact LOOP hL L 0 w4 hR (by omega) (by omega)
