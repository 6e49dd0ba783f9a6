/-! ===== the methods as functions, and that each does what its function says: Law_sawing .. Loc_sawFor ===== -/
def F_Law_sawing (a1 : Int32) (a2 : Int32) (w : am_W) : Option (Int32 × am_W) :=
  am_ck (am_in a2 10) ((F_Law_says a1 (nI 1) (w.1 5 a2.toNatClampNeg) a2 (nI 0) w).bind fun q1 => some (q1.1, q1.2))
theorem T_Law_sawing {sc : Option (Nat × (Nat → Int32))} {D : Nat} {o : Int32 × am_W} (a1 : Int32) (a2 : Int32) (w : am_W) (H : F_Law_sawing a1 a2 w = some o) : am_gi sc (D + 4) 7 o (0, [(0, .ref 17), (1, .int a1), (2, .int a2)], [], ww w, 0, 0) := by
  unfold F_Law_sawing at H
  obtain ⟨hc, H⟩ := am_ckE H
  refine am_go_blk 8 ⟨am_inv hc, (?_ : am_gi sc (D + 4) 7 o (12, [(0, .ref 17), (1, .int a1), (2, .int a2)], [.int (w.1 5 a2.toNatClampNeg), .int (nI 1), .int a1, .ref 17], ww w, 0, 0))⟩
  obtain ⟨q1, hqq1, H⟩ := am_bnE H
  refine am_go_blk 2 (?_ : am_gi sc (D + 4) 7 o (14, [(0, .ref 17), (1, .int a1), (2, .int a2)], [.int (nI 0), .int a2, .int (w.1 5 a2.toNatClampNeg), .int (nI 1), .int a1, .ref 17], ww w, 0, 0))
  refine am_invd rfl rfl rfl rfl (am_calli rfl (M_Law_says (D := D) hqq1) (?_ : am_gi sc (D + 4) 7 o (17, [(0, .ref 17), (1, .int a1), (2, .int a2)], [.int q1.1], ww q1.2, 0, 0)))
  exact am_go_blk 1 ⟨rfl, am_fi H⟩
theorem M_Law_sawing {sc : Option (Nat × (Nat → Int32))} {D : Nat} {o : Int32 × am_W} {a1 : Int32} {a2 : Int32} {w : am_W} (H : F_Law_sawing a1 a2 w = some o) : am_run sc (D + 5) 7 [.ref 17, .int a1, .int a2] (ww w) (some (.int o.1)) (ww o.2) 0 0 :=
  am_run_of rfl (T_Law_sawing a1 a2 w H)
def F_Loc_saw (a1 : Int32) (w : am_W) : Option (Int32 × am_W) :=
  (F_Rail_isLock a1 w).bind fun q1 => if q1.1 = 0 then (some ((-nI 5), q1.2)) else ((F_Rail_isShut a1 q1.2).bind fun q2 => if q2.1 = 0 then (some ((-nI 3), q2.2)) else (am_lt (wsf q2.2 1 3 ((q2.2.1 1 3) ||| ((nI 1) <<< (a1 &&& 31)))) fun w3 => (F_Law_sawing (w3.1 17 2) a1 w3).bind fun q4 => some (q4.1, q4.2)))
theorem T_Loc_saw {sc : Option (Nat × (Nat → Int32))} {D : Nat} {o : Int32 × am_W} (a1 : Int32) (w : am_W) (H : F_Loc_saw a1 w = some o) : am_gi sc (D + 5) 59 o (0, [(0, .ref 0), (1, .int a1)], [], ww w, 0, 0) := by
  unfold F_Loc_saw at H
  obtain ⟨q1, hqq1, H⟩ := am_bnE H
  refine am_go_blk 3 (?_ : am_gi sc (D + 5) 59 o (5, [(0, .ref 0), (1, .int a1)], [.int a1, .ref 1], ww w, 0, 0))
  refine am_invd rfl rfl rfl rfl (am_calli rfl (M_Rail_isLock (D := D + 4) hqq1) (?_ : am_gi sc (D + 5) 59 o (8, [(0, .ref 0), (1, .int a1)], [.int q1.1], ww q1.2, 0, 0)))
  refine am_go_blk 1 ⟨fun hc => ?_, fun hc => ?_⟩
  · have H := am_ie hc H
    show am_gi sc (D + 5) 59 o (14, [(0, .ref 0), (1, .int a1)], [], ww q1.2, 0, 0)
    obtain ⟨q2, hqq2, H⟩ := am_bnE H
    refine am_go_blk 3 (?_ : am_gi sc (D + 5) 59 o (19, [(0, .ref 0), (1, .int a1)], [.int a1, .ref 1], ww q1.2, 0, 0))
    refine am_invd rfl rfl rfl rfl (am_calli rfl (M_Rail_isShut (D := D + 3) hqq2) (?_ : am_gi sc (D + 5) 59 o (22, [(0, .ref 0), (1, .int a1)], [.int q2.1], ww q2.2, 0, 0)))
    refine am_go_blk 1 ⟨fun hc => ?_, fun hc => ?_⟩
    · have H := am_ie hc H
      show am_gi sc (D + 5) 59 o (28, [(0, .ref 0), (1, .int a1)], [], ww q2.2, 0, 0)
      obtain ⟨w3, ew3, H⟩ := am_ltE H
      refine am_go_blk 9 ⟨rfl, rfl, am_hp (ww_f1_3 ew3) (?_ : am_gi sc (D + 5) 59 o (43, [(0, .ref 0), (1, .int a1)], [], ww w3, 0, 0))⟩
      obtain ⟨q4, hqq4, H⟩ := am_bnE H
      refine am_go_blk 6 (?_ : am_gi sc (D + 5) 59 o (55, [(0, .ref 0), (1, .int a1)], [.int a1, .int (w3.1 17 2), .ref 17], ww w3, 0, 0))
      refine am_invd rfl rfl rfl rfl (am_calli rfl (M_Law_sawing (D := D) hqq4) (?_ : am_gi sc (D + 5) 59 o (58, [(0, .ref 0), (1, .int a1)], [.int q4.1], ww q4.2, 0, 0)))
      exact am_go_blk 1 ⟨rfl, am_fi H⟩
    · have H := am_it hc H
      show am_gi sc (D + 5) 59 o (25, [(0, .ref 0), (1, .int a1)], [], ww q2.2, 0, 0)
      exact am_go_blk 2 ⟨rfl, am_fi H⟩
  · have H := am_it hc H
    show am_gi sc (D + 5) 59 o (11, [(0, .ref 0), (1, .int a1)], [], ww q1.2, 0, 0)
    exact am_go_blk 2 ⟨rfl, am_fi H⟩
theorem M_Loc_saw {sc : Option (Nat × (Nat → Int32))} {D : Nat} {o : Int32 × am_W} {a1 : Int32} {w : am_W} (H : F_Loc_saw a1 w = some o) : am_run sc (D + 6) 59 [.ref 0, .int a1] (ww w) (some (.int o.1)) (ww o.2) 0 0 :=
  am_run_of rfl (T_Loc_saw a1 w H)
def F_Rail_awaited_43 (r11 : Int32 → Int32 → Int32 → am_W → Option (Int32 × am_W)) (a2 : Int32) (a4 : Int32) (s0 : Int32) (s1 : Int32) (w : am_W) : Option (Int32 × am_W) :=
  r11 a2 (s1 ||| s0) (a4 + (nI 1)) w
def F_Rail_awaited_11 (r11 : Int32 → Int32 → Int32 → am_W → Option (Int32 × am_W)) (a2 : Int32) (a3 : Int32) (a4 : Int32) (w : am_W) : Option (Int32 × am_W) :=
  if (w.1 1 2) ≤ a4 then (some (a3, w)) else ((F_Loc_has a2 a4 w).bind fun q2 => if q2.1 = 0 then (F_Rail_awaited_43 r11 a2 a4 (nI 0) a3 q2.2) else (am_ck (am_in a4 10) (F_Rail_awaited_43 r11 a2 a4 ((nI 1) <<< ((q2.2.1 5 a4.toNatClampNeg) &&& 31)) a3 q2.2)))
def L_Rail_awaited_11 : Nat → Int32 → Int32 → Int32 → am_W → Option (Int32 × am_W)
  | 0, _, _, _, _ => none
  | n + 1, a2, a3, a4, w => F_Rail_awaited_11 (L_Rail_awaited_11 n) a2 a3 a4 w
def F_Rail_awaited (a1 : Int32) (w : am_W) : Option (Int32 × am_W) :=
  (F_Rail_holders a1 w).bind fun q1 => L_Rail_awaited_11 am_NF q1.1 (nI 0) (nI 0) q1.2
theorem T_Rail_awaited_43 {sc : Option (Nat × (Nat → Int32))} {D : Nat} {o : Int32 × am_W} {r11 : Int32 → Int32 → Int32 → am_W → Option (Int32 × am_W)} (Hr11 : ∀ (a2 : Int32) (a3 : Int32) (a4 : Int32) (w : am_W) , r11 a2 a3 a4 w = some o → am_gi sc (D + 4) 29 o (11, [(0, .ref 1), (2, .int a2), (3, .int a3), (4, .int a4)], [], ww w, 0, 0)) (a2 : Int32) (a4 : Int32) (s0 : Int32) (s1 : Int32) (w : am_W) (H : F_Rail_awaited_43 r11 a2 a4 s0 s1 w = some o) : am_gi sc (D + 4) 29 o (43, [(0, .ref 1), (2, .int a2), (4, .int a4)], [.int s0, .int s1], ww w, 0, 0) := by
  unfold F_Rail_awaited_43 at H
  exact am_go_blk 4 (Hr11 a2 (s1 ||| s0) (a4 + (nI 1)) w H)
theorem T_Rail_awaited_11 {sc : Option (Nat × (Nat → Int32))} {D : Nat} {o : Int32 × am_W} {r11 : Int32 → Int32 → Int32 → am_W → Option (Int32 × am_W)} (Hr11 : ∀ (a2 : Int32) (a3 : Int32) (a4 : Int32) (w : am_W) , r11 a2 a3 a4 w = some o → am_gi sc (D + 4) 29 o (11, [(0, .ref 1), (2, .int a2), (3, .int a3), (4, .int a4)], [], ww w, 0, 0)) (a2 : Int32) (a3 : Int32) (a4 : Int32) (w : am_W) (H : F_Rail_awaited_11 r11 a2 a3 a4 w = some o) : am_gi sc (D + 4) 29 o (11, [(0, .ref 1), (2, .int a2), (3, .int a3), (4, .int a4)], [], ww w, 0, 0) := by
  unfold F_Rail_awaited_11 at H
  refine am_go_blk 4 ⟨fun hc => ?_, fun hc => ?_⟩
  · have H := am_it hc H
    show am_gi sc (D + 4) 29 o (51, [(3, .int a3)], [], ww w, 0, 0)
    exact am_go_blk 2 ⟨rfl, am_fi H⟩
  · have H := am_ie hc H
    show am_gi sc (D + 4) 29 o (20, [(0, .ref 1), (2, .int a2), (3, .int a3), (4, .int a4)], [], ww w, 0, 0)
    obtain ⟨q2, hqq2, H⟩ := am_bnE H
    refine am_go_blk 3 (?_ : am_gi sc (D + 4) 29 o (24, [(0, .ref 1), (2, .int a2), (3, .int a3), (4, .int a4)], [.int a4, .int a2, .int a3], ww w, 0, 0))
    refine am_cls rfl rfl rfl (am_calli rfl (M_Loc_has (D := D + 3) hqq2) (?_ : am_gi sc (D + 4) 29 o (27, [(0, .ref 1), (2, .int a2), (3, .int a3), (4, .int a4)], [.int q2.1, .int a3], ww q2.2, 0, 0)))
    refine am_go_blk 1 ⟨fun hc => ?_, fun hc => ?_⟩
    · have H := am_it hc H
      show am_gi sc (D + 4) 29 o (42, [(0, .ref 1), (2, .int a2), (4, .int a4)], [.int a3], ww q2.2, 0, 0)
      exact am_go_blk 1 (T_Rail_awaited_43 Hr11 a2 a4 (nI 0) a3 q2.2 H)
    · have H := am_ie hc H
      show am_gi sc (D + 4) 29 o (30, [(0, .ref 1), (2, .int a2), (3, .int a3), (4, .int a4)], [.int a3], ww q2.2, 0, 0)
      obtain ⟨hc, H⟩ := am_ckE H
      refine am_go_blk 5 ⟨am_inv hc, (?_ : am_gi sc (D + 4) 29 o (38, [(0, .ref 1), (2, .int a2), (3, .int a3), (4, .int a4)], [.int (q2.2.1 5 a4.toNatClampNeg), .int (nI 1), .int a3], ww q2.2, 0, 0))⟩
      exact am_go_blk 2 (T_Rail_awaited_43 Hr11 a2 a4 ((nI 1) <<< ((q2.2.1 5 a4.toNatClampNeg) &&& 31)) a3 q2.2 H)
theorem TL_Rail_awaited_11 {sc : Option (Nat × (Nat → Int32))} {D : Nat} {o : Int32 × am_W} : ∀ (n : Nat) (a2 : Int32) (a3 : Int32) (a4 : Int32) (w : am_W) , L_Rail_awaited_11 n a2 a3 a4 w = some o → am_gi sc (D + 4) 29 o (11, [(0, .ref 1), (2, .int a2), (3, .int a3), (4, .int a4)], [], ww w, 0, 0)
  | 0, _, _, _, _, H => by cases H
  | n + 1, a2, a3, a4, w, H => T_Rail_awaited_11 (TL_Rail_awaited_11 n) a2 a3 a4 w H
theorem T_Rail_awaited {sc : Option (Nat × (Nat → Int32))} {D : Nat} {o : Int32 × am_W} (a1 : Int32) (w : am_W) (H : F_Rail_awaited a1 w = some o) : am_gi sc (D + 4) 29 o (0, [(0, .ref 1), (1, .int a1)], [], ww w, 0, 0) := by
  unfold F_Rail_awaited at H
  obtain ⟨q1, hqq1, H⟩ := am_bnE H
  refine am_go_blk 2 (?_ : am_gi sc (D + 4) 29 o (2, [(0, .ref 1), (1, .int a1)], [.int a1, .ref 1], ww w, 0, 0))
  refine am_invd rfl rfl rfl rfl (am_calli rfl (M_Rail_holders (D := D) hqq1) (?_ : am_gi sc (D + 4) 29 o (5, [(0, .ref 1), (1, .int a1)], [.int q1.1], ww q1.2, 0, 0)))
  exact am_go_blk 5 (TL_Rail_awaited_11 am_NF q1.1 (nI 0) (nI 0) q1.2 H)
theorem M_Rail_awaited {sc : Option (Nat × (Nat → Int32))} {D : Nat} {o : Int32 × am_W} {a1 : Int32} {w : am_W} (H : F_Rail_awaited a1 w = some o) : am_run sc (D + 5) 29 [.ref 1, .int a1] (ww w) (some (.int o.1)) (ww o.2) 0 0 :=
  am_run_of rfl (T_Rail_awaited a1 w H)
def F_Loc_waits_24 (s0 : Int32) (w : am_W) : Option (Int32 × am_W) :=
  some (s0, w)
def F_Loc_waits (a1 : Int32) (w : am_W) : Option (Int32 × am_W) :=
  (F_Rail_isThing a1 w).bind fun q1 => if q1.1 = 0 then (F_Loc_waits_24 (-nI 5) q1.2) else ((F_Rail_awaited a1 q1.2).bind fun q2 => F_Loc_waits_24 q2.1 q2.2)
theorem T_Loc_waits_24 {sc : Option (Nat × (Nat → Int32))} {D : Nat} {o : Int32 × am_W} (s0 : Int32) (w : am_W) (H : F_Loc_waits_24 s0 w = some o) : am_gi sc (D + 5) 60 o (24, [], [.int s0], ww w, 0, 0) := by
  unfold F_Loc_waits_24 at H
  exact am_go_blk 1 ⟨rfl, am_fi H⟩
theorem T_Loc_waits {sc : Option (Nat × (Nat → Int32))} {D : Nat} {o : Int32 × am_W} (a1 : Int32) (w : am_W) (H : F_Loc_waits a1 w = some o) : am_gi sc (D + 5) 60 o (0, [(0, .ref 0), (1, .int a1)], [], ww w, 0, 0) := by
  unfold F_Loc_waits at H
  obtain ⟨q1, hqq1, H⟩ := am_bnE H
  refine am_go_blk 3 (?_ : am_gi sc (D + 5) 60 o (5, [(0, .ref 0), (1, .int a1)], [.int a1, .ref 1], ww w, 0, 0))
  refine am_invd rfl rfl rfl rfl (am_calli rfl (M_Rail_isThing (D := D + 4) hqq1) (?_ : am_gi sc (D + 5) 60 o (8, [(0, .ref 0), (1, .int a1)], [.int q1.1], ww q1.2, 0, 0)))
  refine am_go_blk 1 ⟨fun hc => ?_, fun hc => ?_⟩
  · have H := am_it hc H
    show am_gi sc (D + 5) 60 o (22, [], [], ww q1.2, 0, 0)
    exact am_go_blk 1 (T_Loc_waits_24 (-nI 5) q1.2 H)
  · have H := am_ie hc H
    show am_gi sc (D + 5) 60 o (11, [(0, .ref 0), (1, .int a1)], [], ww q1.2, 0, 0)
    obtain ⟨q2, hqq2, H⟩ := am_bnE H
    refine am_go_blk 3 (?_ : am_gi sc (D + 5) 60 o (16, [(0, .ref 0), (1, .int a1)], [.int a1, .ref 1], ww q1.2, 0, 0))
    refine am_invd rfl rfl rfl rfl (am_calli rfl (M_Rail_awaited (D := D) hqq2) (?_ : am_gi sc (D + 5) 60 o (19, [(0, .ref 0), (1, .int a1)], [.int q2.1], ww q2.2, 0, 0)))
    exact am_go_blk 1 (T_Loc_waits_24 q2.1 q2.2 H)
theorem M_Loc_waits {sc : Option (Nat × (Nat → Int32))} {D : Nat} {o : Int32 × am_W} {a1 : Int32} {w : am_W} (H : F_Loc_waits a1 w = some o) : am_run sc (D + 6) 60 [.ref 0, .int a1] (ww w) (some (.int o.1)) (ww o.2) 0 0 :=
  am_run_of rfl (T_Loc_waits a1 w H)
def F_Rail_goneAtLast_45 (a2 : Int32) (w : am_W) : Option (Int32 × am_W) :=
  some (a2, w)
def F_Rail_goneAtLast_7 (r7 : Int32 → Int32 → Int32 → am_W → Option (Int32 × am_W)) (a1 : Int32) (a2 : Int32) (a3 : Int32) (w : am_W) : Option (Int32 × am_W) :=
  if (nI 8) ≤ a3 then (F_Rail_goneAtLast_45 a2 w) else ((F_Rail_canGo a2 a1 w).bind fun q1 => if (q1.1 &&& (q1.2.1 1 4)) = 0 then (F_Rail_goneAtLast_45 a2 q1.2) else (r7 a1 (a2 ||| (q1.1 &&& (q1.2.1 1 4))) (a3 + (nI 1)) q1.2))
def L_Rail_goneAtLast_7 : Nat → Int32 → Int32 → Int32 → am_W → Option (Int32 × am_W)
  | 0, _, _, _, _ => none
  | n + 1, a1, a2, a3, w => F_Rail_goneAtLast_7 (L_Rail_goneAtLast_7 n) a1 a2 a3 w
def F_Rail_goneAtLast (a1 : Int32) (w : am_W) : Option (Int32 × am_W) :=
  L_Rail_goneAtLast_7 am_NF a1 (w.1 1 1) (nI 0) w
theorem T_Rail_goneAtLast_45 {sc : Option (Nat × (Nat → Int32))} {D : Nat} {o : Int32 × am_W} (a2 : Int32) (w : am_W) (H : F_Rail_goneAtLast_45 a2 w = some o) : am_gi sc (D + 2) 31 o (45, [(2, .int a2)], [], ww w, 0, 0) := by
  unfold F_Rail_goneAtLast_45 at H
  exact am_go_blk 2 ⟨rfl, am_fi H⟩
theorem T_Rail_goneAtLast_7 {sc : Option (Nat × (Nat → Int32))} {D : Nat} {o : Int32 × am_W} {r7 : Int32 → Int32 → Int32 → am_W → Option (Int32 × am_W)} (Hr7 : ∀ (a1 : Int32) (a2 : Int32) (a3 : Int32) (w : am_W) , r7 a1 a2 a3 w = some o → am_gi sc (D + 2) 31 o (7, [(0, .ref 1), (1, .int a1), (2, .int a2), (3, .int a3)], [], ww w, 0, 0)) (a1 : Int32) (a2 : Int32) (a3 : Int32) (w : am_W) (H : F_Rail_goneAtLast_7 r7 a1 a2 a3 w = some o) : am_gi sc (D + 2) 31 o (7, [(0, .ref 1), (1, .int a1), (2, .int a2), (3, .int a3)], [], ww w, 0, 0) := by
  unfold F_Rail_goneAtLast_7 at H
  refine am_go_blk 3 ⟨fun hc => ?_, fun hc => ?_⟩
  · have H := am_it hc H
    exact T_Rail_goneAtLast_45 a2 w H
  · have H := am_ie hc H
    show am_gi sc (D + 2) 31 o (13, [(0, .ref 1), (1, .int a1), (2, .int a2), (3, .int a3)], [], ww w, 0, 0)
    obtain ⟨q1, hqq1, H⟩ := am_bnE H
    refine am_go_blk 3 (?_ : am_gi sc (D + 2) 31 o (16, [(0, .ref 1), (1, .int a1), (2, .int a2), (3, .int a3)], [.int a1, .int a2, .ref 1], ww w, 0, 0))
    refine am_invd rfl rfl rfl rfl (am_calli rfl (M_Rail_canGo (D := D) hqq1) (?_ : am_gi sc (D + 2) 31 o (19, [(0, .ref 1), (1, .int a1), (2, .int a2), (3, .int a3)], [.int q1.1], ww q1.2, 0, 0)))
    refine am_go_blk 6 ⟨fun hc => ?_, fun hc => ?_⟩
    · have H := am_ie hc H
      show am_gi sc (D + 2) 31 o (34, [(0, .ref 1), (1, .int a1), (2, .int a2), (3, .int a3), (4, .int (q1.1 &&& (q1.2.1 1 4)))], [], ww q1.2, 0, 0)
      exact am_go_blk 6 (Hr7 a1 (a2 ||| (q1.1 &&& (q1.2.1 1 4))) (a3 + (nI 1)) q1.2 H)
    · have H := am_it hc H
      show am_gi sc (D + 2) 31 o (31, [(4, .int (q1.1 &&& (q1.2.1 1 4))), (0, .ref 1), (1, .int a1), (2, .int a2), (3, .int a3)], [], ww q1.2, 0, 0)
      exact am_go_blk 1 (T_Rail_goneAtLast_45 a2 q1.2 H)
theorem TL_Rail_goneAtLast_7 {sc : Option (Nat × (Nat → Int32))} {D : Nat} {o : Int32 × am_W} : ∀ (n : Nat) (a1 : Int32) (a2 : Int32) (a3 : Int32) (w : am_W) , L_Rail_goneAtLast_7 n a1 a2 a3 w = some o → am_gi sc (D + 2) 31 o (7, [(0, .ref 1), (1, .int a1), (2, .int a2), (3, .int a3)], [], ww w, 0, 0)
  | 0, _, _, _, _, H => by cases H
  | n + 1, a1, a2, a3, w, H => T_Rail_goneAtLast_7 (TL_Rail_goneAtLast_7 n) a1 a2 a3 w H
theorem T_Rail_goneAtLast {sc : Option (Nat × (Nat → Int32))} {D : Nat} {o : Int32 × am_W} (a1 : Int32) (w : am_W) (H : F_Rail_goneAtLast a1 w = some o) : am_gi sc (D + 2) 31 o (0, [(0, .ref 1), (1, .int a1)], [], ww w, 0, 0) := by
  unfold F_Rail_goneAtLast at H
  exact am_go_blk 5 (TL_Rail_goneAtLast_7 am_NF a1 (w.1 1 1) (nI 0) w H)
theorem M_Rail_goneAtLast {sc : Option (Nat × (Nat → Int32))} {D : Nat} {o : Int32 × am_W} {a1 : Int32} {w : am_W} (H : F_Rail_goneAtLast a1 w = some o) : am_run sc (D + 3) 31 [.ref 1, .int a1] (ww w) (some (.int o.1)) (ww o.2) 0 0 :=
  am_run_of rfl (T_Rail_goneAtLast a1 w H)
def F_Loc_never (w : am_W) : Option (Int32 × am_W) :=
  (F_Rail_allThings w).bind fun q1 => (F_Rail_goneAtLast (q1.2.1 1 3) q1.2).bind fun q2 => some ((q1.1 &&& (q2.1 ^^^ (-nI 1))), q2.2)
theorem T_Loc_never {sc : Option (Nat × (Nat → Int32))} {D : Nat} {o : Int32 × am_W} (w : am_W) (H : F_Loc_never w = some o) : am_gi sc (D + 3) 61 o (0, [(0, .ref 0)], [], ww w, 0, 0) := by
  unfold F_Loc_never at H
  obtain ⟨q1, hqq1, H⟩ := am_bnE H
  refine am_go_blk 2 (?_ : am_gi sc (D + 3) 61 o (4, [(0, .ref 0)], [.ref 1], ww w, 0, 0))
  refine am_invd rfl rfl rfl rfl (am_calli rfl (M_Rail_allThings (D := D + 2) hqq1) (?_ : am_gi sc (D + 3) 61 o (7, [(0, .ref 0)], [.int q1.1], ww q1.2, 0, 0)))
  obtain ⟨q2, hqq2, H⟩ := am_bnE H
  refine am_go_blk 5 (?_ : am_gi sc (D + 3) 61 o (18, [(0, .ref 0)], [.int (q1.2.1 1 3), .ref 1, .int q1.1], ww q1.2, 0, 0))
  refine am_invd rfl rfl rfl rfl (am_calli rfl (M_Rail_goneAtLast (D := D) hqq2) (?_ : am_gi sc (D + 3) 61 o (21, [(0, .ref 0)], [.int q2.1, .int q1.1], ww q2.2, 0, 0)))
  exact am_go_blk 4 ⟨rfl, am_fi H⟩
theorem M_Loc_never {sc : Option (Nat × (Nat → Int32))} {D : Nat} {o : Int32 × am_W} {w : am_W} (H : F_Loc_never w = some o) : am_run sc (D + 4) 61 [.ref 0] (ww w) (some (.int o.1)) (ww o.2) 0 0 :=
  am_run_of rfl (T_Loc_never w H)
def F_Loc_isEither_14 (s0 : Int32) (w : am_W) : Option (Int32 × am_W) :=
  am_ck (am_bo s0) (some (s0, w))
def F_Loc_isEither_9 (w : am_W) : Option (Int32 × am_W) :=
  F_Loc_isEither_14 (nI 1) w
def F_Loc_isEither (a0 : Int32) (w : am_W) : Option (Int32 × am_W) :=
  if a0 = 0 then (F_Loc_isEither_9 w) else (if a0 = (nI 1) then (F_Loc_isEither_9 w) else (F_Loc_isEither_14 (nI 0) w))
theorem T_Loc_isEither_14 {sc : Option (Nat × (Nat → Int32))} {D : Nat} {o : Int32 × am_W} (s0 : Int32) (w : am_W) (H : F_Loc_isEither_14 s0 w = some o) : am_gi sc D 66 o (14, [], [.int s0], ww w, 0, 0) := by
  unfold F_Loc_isEither_14 at H
  obtain ⟨hc, H⟩ := am_ckE H
  exact am_go_blk 1 ⟨am_boE hc, am_fi H⟩
theorem T_Loc_isEither_9 {sc : Option (Nat × (Nat → Int32))} {D : Nat} {o : Int32 × am_W} (w : am_W) (H : F_Loc_isEither_9 w = some o) : am_gi sc D 66 o (9, [], [], ww w, 0, 0) := by
  unfold F_Loc_isEither_9 at H
  exact am_go_blk 2 (T_Loc_isEither_14 (nI 1) w H)
theorem T_Loc_isEither {sc : Option (Nat × (Nat → Int32))} {D : Nat} {o : Int32 × am_W} (a0 : Int32) (w : am_W) (H : F_Loc_isEither a0 w = some o) : am_gi sc D 66 o (0, [(0, .int a0)], [], ww w, 0, 0) := by
  unfold F_Loc_isEither at H
  refine am_go_blk 2 ⟨fun hc => ?_, fun hc => ?_⟩
  · have H := am_it hc H
    exact T_Loc_isEither_9 w H
  · have H := am_ie hc H
    show am_gi sc D 66 o (4, [(0, .int a0)], [], ww w, 0, 0)
    refine am_go_blk 3 ⟨fun hc => ?_, fun hc => ?_⟩
    · have H := am_ie hc H
      show am_gi sc D 66 o (13, [], [], ww w, 0, 0)
      exact am_go_blk 1 (T_Loc_isEither_14 (nI 0) w H)
    · have H := am_it hc H
      exact T_Loc_isEither_9 w H
theorem M_Loc_isEither {sc : Option (Nat × (Nat → Int32))} {D : Nat} {o : Int32 × am_W} {a0 : Int32} {w : am_W} (H : F_Loc_isEither a0 w = some o) : am_run sc (D + 1) 66 [.int a0] (ww w) (some (.int o.1)) (ww o.2) 0 0 :=
  am_run_of rfl (T_Loc_isEither a0 w H)
def F_Ord_countAll_136 (r43 : Int32 → am_W → Option (am_W)) (a1 : Int32) (w : am_W) : Option (am_W) :=
  r43 (a1 + (nI 1)) w
def F_Ord_countAll_130 (r43 : Int32 → am_W → Option (am_W)) (r92 : Int32 → Int32 → Int32 → am_W → Option (am_W)) (a1 : Int32) (a2 : Int32) (a3 : Int32) (w : am_W) : Option (am_W) :=
  r92 a1 a2 (a3 + (nI 1)) w
def F_Ord_countAll_92 (r43 : Int32 → am_W → Option (am_W)) (r92 : Int32 → Int32 → Int32 → am_W → Option (am_W)) (a1 : Int32) (a2 : Int32) (a3 : Int32) (w : am_W) : Option (am_W) :=
  if (w.1 1 0) ≤ a3 then (F_Ord_countAll_136 r43 a1 w) else ((F_Loc_has a2 a3 w).bind fun q4 => if q4.1 = 0 then (F_Ord_countAll_130 r43 r92 a1 a2 a3 q4.2) else (am_ck (am_in (a1 ||| ((nI 1) <<< (a3 &&& 31))) 256) (am_ck (am_in a1 256) (am_ck (am_in (a1 ||| ((nI 1) <<< (a3 &&& 31))) 256) (am_lt (wst q4.2 37 (a1 ||| ((nI 1) <<< (a3 &&& 31))) ((q4.2.1 37 (a1 ||| ((nI 1) <<< (a3 &&& 31))).toNatClampNeg) + (q4.2.1 37 a1.toNatClampNeg))) fun w5 => F_Ord_countAll_130 r43 r92 a1 a2 a3 w5)))))
def L_Ord_countAll_92 (r43 : Int32 → am_W → Option (am_W)) : Nat → Int32 → Int32 → Int32 → am_W → Option (am_W)
  | 0, _, _, _, _ => none
  | n + 1, a1, a2, a3, w => F_Ord_countAll_92 r43 (L_Ord_countAll_92 r43 n) a1 a2 a3 w
def F_Ord_countAll_43 (r43 : Int32 → am_W → Option (am_W)) (a1 : Int32) (w : am_W) : Option (am_W) :=
  (F_Rail_allThings w).bind fun q2 => if q2.1 < a1 then (some q2.2) else (am_ck (am_in a1 256) (if (q2.2.1 37 a1.toNatClampNeg) = 0 then (F_Ord_countAll_136 r43 a1 q2.2) else ((F_Rail_canGo a1 (q2.2.1 1 3) q2.2).bind fun q3 => L_Ord_countAll_92 r43 am_NF a1 (q3.1 &&& (q3.2.1 1 4)) (nI 0) q3.2)))
def L_Ord_countAll_43 : Nat → Int32 → am_W → Option (am_W)
  | 0, _, _ => none
  | n + 1, a1, w => F_Ord_countAll_43 (L_Ord_countAll_43 n) a1 w
def F_Ord_countAll_2 (r2 : Int32 → am_W → Option (am_W)) (a1 : Int32) (w : am_W) : Option (am_W) :=
  if (nI 256) ≤ a1 then (am_ck (am_in (w.1 1 1) 256) (am_lt (wst w 37 (w.1 1 1) (nI 1)) fun w1 => L_Ord_countAll_43 am_NF (w1.1 1 1) w1)) else (am_ck (am_in a1 256) (am_lt (wst w 37 a1 (nI 0)) fun w6 => r2 (a1 + (nI 1)) w6))
def L_Ord_countAll_2 : Nat → Int32 → am_W → Option (am_W)
  | 0, _, _ => none
  | n + 1, a1, w => F_Ord_countAll_2 (L_Ord_countAll_2 n) a1 w
def F_Ord_countAll (w : am_W) : Option (am_W) :=
  L_Ord_countAll_2 am_NF (nI 0) w
theorem T_Ord_countAll_136 {sc : Option (Nat × (Nat → Int32))} {D : Nat} {o : am_W} {r43 : Int32 → am_W → Option (am_W)} (Hr43 : ∀ (a1 : Int32) (w : am_W) , r43 a1 w = some o → am_gv sc (D + 2) 12 o (43, [(0, .ref 36), (1, .int a1)], [], ww w, 0, 0)) (a1 : Int32) (w : am_W) (H : F_Ord_countAll_136 r43 a1 w = some o) : am_gv sc (D + 2) 12 o (136, [(0, .ref 36), (1, .int a1)], [], ww w, 0, 0) := by
  unfold F_Ord_countAll_136 at H
  exact am_go_blk 2 (Hr43 (a1 + (nI 1)) w H)
theorem T_Ord_countAll_130 {sc : Option (Nat × (Nat → Int32))} {D : Nat} {o : am_W} {r43 : Int32 → am_W → Option (am_W)} {r92 : Int32 → Int32 → Int32 → am_W → Option (am_W)} (Hr43 : ∀ (a1 : Int32) (w : am_W) , r43 a1 w = some o → am_gv sc (D + 2) 12 o (43, [(0, .ref 36), (1, .int a1)], [], ww w, 0, 0)) (Hr92 : ∀ (a1 : Int32) (a2 : Int32) (a3 : Int32) (w : am_W) , r92 a1 a2 a3 w = some o → am_gv sc (D + 2) 12 o (92, [(0, .ref 36), (1, .int a1), (2, .int a2), (3, .int a3)], [], ww w, 0, 0)) (a1 : Int32) (a2 : Int32) (a3 : Int32) (w : am_W) (H : F_Ord_countAll_130 r43 r92 a1 a2 a3 w = some o) : am_gv sc (D + 2) 12 o (130, [(0, .ref 36), (1, .int a1), (2, .int a2), (3, .int a3)], [], ww w, 0, 0) := by
  unfold F_Ord_countAll_130 at H
  exact am_go_blk 2 (Hr92 a1 a2 (a3 + (nI 1)) w H)
theorem T_Ord_countAll_92 {sc : Option (Nat × (Nat → Int32))} {D : Nat} {o : am_W} {r43 : Int32 → am_W → Option (am_W)} {r92 : Int32 → Int32 → Int32 → am_W → Option (am_W)} (Hr43 : ∀ (a1 : Int32) (w : am_W) , r43 a1 w = some o → am_gv sc (D + 2) 12 o (43, [(0, .ref 36), (1, .int a1)], [], ww w, 0, 0)) (Hr92 : ∀ (a1 : Int32) (a2 : Int32) (a3 : Int32) (w : am_W) , r92 a1 a2 a3 w = some o → am_gv sc (D + 2) 12 o (92, [(0, .ref 36), (1, .int a1), (2, .int a2), (3, .int a3)], [], ww w, 0, 0)) (a1 : Int32) (a2 : Int32) (a3 : Int32) (w : am_W) (H : F_Ord_countAll_92 r43 r92 a1 a2 a3 w = some o) : am_gv sc (D + 2) 12 o (92, [(0, .ref 36), (1, .int a1), (2, .int a2), (3, .int a3)], [], ww w, 0, 0) := by
  unfold F_Ord_countAll_92 at H
  refine am_go_blk 5 ⟨fun hc => ?_, fun hc => ?_⟩
  · have H := am_it hc H
    exact T_Ord_countAll_136 Hr43 a1 w H
  · have H := am_ie hc H
    show am_gv sc (D + 2) 12 o (103, [(0, .ref 36), (1, .int a1), (2, .int a2), (3, .int a3)], [], ww w, 0, 0)
    obtain ⟨q4, hqq4, H⟩ := am_bnE H
    refine am_go_blk 2 (?_ : am_gv sc (D + 2) 12 o (105, [(0, .ref 36), (1, .int a1), (2, .int a2), (3, .int a3)], [.int a3, .int a2], ww w, 0, 0))
    refine am_cls rfl rfl rfl (am_calli rfl (M_Loc_has (D := D + 1) hqq4) (?_ : am_gv sc (D + 2) 12 o (108, [(0, .ref 36), (1, .int a1), (2, .int a2), (3, .int a3)], [.int q4.1], ww q4.2, 0, 0)))
    refine am_go_blk 1 ⟨fun hc => ?_, fun hc => ?_⟩
    · have H := am_it hc H
      exact T_Ord_countAll_130 Hr43 Hr92 a1 a2 a3 q4.2 H
    · have H := am_ie hc H
      show am_gv sc (D + 2) 12 o (111, [(0, .ref 36), (1, .int a1), (2, .int a2), (3, .int a3)], [], ww q4.2, 0, 0)
      obtain ⟨hc, H⟩ := am_ckE H
      refine am_go_blk 9 ⟨am_inv hc, (?_ : am_gv sc (D + 2) 12 o (122, [(0, .ref 36), (1, .int a1), (2, .int a2), (3, .int a3)], [.int (q4.2.1 37 (a1 ||| ((nI 1) <<< (a3 &&& 31))).toNatClampNeg), .int (a1 ||| ((nI 1) <<< (a3 &&& 31))), .ref 37], ww q4.2, 0, 0))⟩
      obtain ⟨hc, H⟩ := am_ckE H
      refine am_go_blk 4 ⟨am_inv hc, (?_ : am_gv sc (D + 2) 12 o (128, [(0, .ref 36), (1, .int a1), (2, .int a2), (3, .int a3)], [.int (q4.2.1 37 a1.toNatClampNeg), .int (q4.2.1 37 (a1 ||| ((nI 1) <<< (a3 &&& 31))).toNatClampNeg), .int (a1 ||| ((nI 1) <<< (a3 &&& 31))), .ref 37], ww q4.2, 0, 0))⟩
      obtain ⟨hc, H⟩ := am_ckE H
      obtain ⟨w5, ew5, H⟩ := am_ltE H
      refine am_go_blk 2 ⟨am_inv hc, am_hp (ww_s37 ew5) (?_ : am_gv sc (D + 2) 12 o (130, [(0, .ref 36), (1, .int a1), (2, .int a2), (3, .int a3)], [], ww w5, 0, 0))⟩
      exact T_Ord_countAll_130 Hr43 Hr92 a1 a2 a3 w5 H
theorem TL_Ord_countAll_92 {sc : Option (Nat × (Nat → Int32))} {D : Nat} {o : am_W} {r43 : Int32 → am_W → Option (am_W)} (Hr43 : ∀ (a1 : Int32) (w : am_W) , r43 a1 w = some o → am_gv sc (D + 2) 12 o (43, [(0, .ref 36), (1, .int a1)], [], ww w, 0, 0)) : ∀ (n : Nat) (a1 : Int32) (a2 : Int32) (a3 : Int32) (w : am_W) , L_Ord_countAll_92 r43 n a1 a2 a3 w = some o → am_gv sc (D + 2) 12 o (92, [(0, .ref 36), (1, .int a1), (2, .int a2), (3, .int a3)], [], ww w, 0, 0)
  | 0, _, _, _, _, H => by cases H
  | n + 1, a1, a2, a3, w, H => T_Ord_countAll_92 Hr43 (TL_Ord_countAll_92 Hr43 n) a1 a2 a3 w H
theorem T_Ord_countAll_43 {sc : Option (Nat × (Nat → Int32))} {D : Nat} {o : am_W} {r43 : Int32 → am_W → Option (am_W)} (Hr43 : ∀ (a1 : Int32) (w : am_W) , r43 a1 w = some o → am_gv sc (D + 2) 12 o (43, [(0, .ref 36), (1, .int a1)], [], ww w, 0, 0)) (a1 : Int32) (w : am_W) (H : F_Ord_countAll_43 r43 a1 w = some o) : am_gv sc (D + 2) 12 o (43, [(0, .ref 36), (1, .int a1)], [], ww w, 0, 0) := by
  unfold F_Ord_countAll_43 at H
  obtain ⟨q2, hqq2, H⟩ := am_bnE H
  refine am_go_blk 3 (?_ : am_gv sc (D + 2) 12 o (48, [(0, .ref 36), (1, .int a1)], [.ref 1, .int a1], ww w, 0, 0))
  refine am_invd rfl rfl rfl rfl (am_calli rfl (M_Rail_allThings (D := D + 1) hqq2) (?_ : am_gv sc (D + 2) 12 o (51, [(0, .ref 36), (1, .int a1)], [.int q2.1, .int a1], ww q2.2, 0, 0)))
  refine am_go_blk 1 ⟨fun hc => ?_, fun hc => ?_⟩
  · have H := am_it hc H
    show am_gv sc (D + 2) 12 o (142, [], [], ww q2.2, 0, 0)
    exact am_go_blk 1 (am_fv H)
  · have H := am_ie hc H
    show am_gv sc (D + 2) 12 o (54, [(0, .ref 36), (1, .int a1)], [], ww q2.2, 0, 0)
    obtain ⟨hc, H⟩ := am_ckE H
    refine am_go_blk 4 ⟨am_inv hc, (?_ : am_gv sc (D + 2) 12 o (60, [(0, .ref 36), (1, .int a1)], [.int (q2.2.1 37 a1.toNatClampNeg)], ww q2.2, 0, 0))⟩
    refine am_go_blk 1 ⟨fun hc => ?_, fun hc => ?_⟩
    · have H := am_ie hc H
      show am_gv sc (D + 2) 12 o (66, [(0, .ref 36), (1, .int a1)], [], ww q2.2, 0, 0)
      obtain ⟨q3, hqq3, H⟩ := am_bnE H
      refine am_go_blk 6 (?_ : am_gv sc (D + 2) 12 o (78, [(0, .ref 36), (1, .int a1)], [.int (q2.2.1 1 3), .int a1, .ref 1], ww q2.2, 0, 0))
      refine am_invd rfl rfl rfl rfl (am_calli rfl (M_Rail_canGo (D := D) hqq3) (?_ : am_gv sc (D + 2) 12 o (81, [(0, .ref 36), (1, .int a1)], [.int q3.1], ww q3.2, 0, 0)))
      exact am_go_blk 7 (TL_Ord_countAll_92 Hr43 am_NF a1 (q3.1 &&& (q3.2.1 1 4)) (nI 0) q3.2 H)
    · have H := am_it hc H
      show am_gv sc (D + 2) 12 o (63, [(0, .ref 36), (1, .int a1)], [], ww q2.2, 0, 0)
      exact am_go_blk 1 (T_Ord_countAll_136 Hr43 a1 q2.2 H)
theorem TL_Ord_countAll_43 {sc : Option (Nat × (Nat → Int32))} {D : Nat} {o : am_W} : ∀ (n : Nat) (a1 : Int32) (w : am_W) , L_Ord_countAll_43 n a1 w = some o → am_gv sc (D + 2) 12 o (43, [(0, .ref 36), (1, .int a1)], [], ww w, 0, 0)
  | 0, _, _, H => by cases H
  | n + 1, a1, w, H => T_Ord_countAll_43 (TL_Ord_countAll_43 n) a1 w H
theorem T_Ord_countAll_2 {sc : Option (Nat × (Nat → Int32))} {D : Nat} {o : am_W} {r2 : Int32 → am_W → Option (am_W)} (Hr2 : ∀ (a1 : Int32) (w : am_W) , r2 a1 w = some o → am_gv sc (D + 2) 12 o (2, [(0, .ref 36), (1, .int a1)], [], ww w, 0, 0)) (a1 : Int32) (w : am_W) (H : F_Ord_countAll_2 r2 a1 w = some o) : am_gv sc (D + 2) 12 o (2, [(0, .ref 36), (1, .int a1)], [], ww w, 0, 0) := by
  unfold F_Ord_countAll_2 at H
  refine am_go_blk 3 ⟨fun hc => ?_, fun hc => ?_⟩
  · have H := am_it hc H
    show am_gv sc (D + 2) 12 o (22, [(0, .ref 36)], [], ww w, 0, 0)
    obtain ⟨hc, H⟩ := am_ckE H
    obtain ⟨w1, ew1, H⟩ := am_ltE H
    refine am_go_blk 7 ⟨am_inv hc, am_hp (ww_s37 ew1) (?_ : am_gv sc (D + 2) 12 o (35, [(0, .ref 36)], [], ww w1, 0, 0))⟩
    exact am_go_blk 4 (TL_Ord_countAll_43 am_NF (w1.1 1 1) w1 H)
  · have H := am_ie hc H
    show am_gv sc (D + 2) 12 o (9, [(0, .ref 36), (1, .int a1)], [], ww w, 0, 0)
    obtain ⟨hc, H⟩ := am_ckE H
    obtain ⟨w6, ew6, H⟩ := am_ltE H
    refine am_go_blk 5 ⟨am_inv hc, am_hp (ww_s37 ew6) (?_ : am_gv sc (D + 2) 12 o (16, [(0, .ref 36), (1, .int a1)], [], ww w6, 0, 0))⟩
    exact am_go_blk 2 (Hr2 (a1 + (nI 1)) w6 H)
theorem TL_Ord_countAll_2 {sc : Option (Nat × (Nat → Int32))} {D : Nat} {o : am_W} : ∀ (n : Nat) (a1 : Int32) (w : am_W) , L_Ord_countAll_2 n a1 w = some o → am_gv sc (D + 2) 12 o (2, [(0, .ref 36), (1, .int a1)], [], ww w, 0, 0)
  | 0, _, _, H => by cases H
  | n + 1, a1, w, H => T_Ord_countAll_2 (TL_Ord_countAll_2 n) a1 w H
theorem T_Ord_countAll {sc : Option (Nat × (Nat → Int32))} {D : Nat} {o : am_W} (w : am_W) (H : F_Ord_countAll w = some o) : am_gv sc (D + 2) 12 o (0, [(0, .ref 36)], [], ww w, 0, 0) := by
  unfold F_Ord_countAll at H
  exact am_go_blk 2 (TL_Ord_countAll_2 am_NF (nI 0) w H)
theorem M_Ord_countAll {sc : Option (Nat × (Nat → Int32))} {D : Nat} {o : am_W} {w : am_W} (H : F_Ord_countAll w = some o) : am_run sc (D + 3) 12 [.ref 36] (ww w) none (ww o) 0 0 :=
  am_run_of rfl (T_Ord_countAll w H)
def F_Ord_fewestAhead_82 (r8 : Int32 → Int32 → Int32 → am_W → Option (Int32 × am_W)) (a1 : Int32) (a2 : Int32) (a3 : Int32) (w : am_W) : Option (Int32 × am_W) :=
  r8 a1 a2 (a3 + (nI 1)) w
def F_Ord_fewestAhead_81 (r8 : Int32 → Int32 → Int32 → am_W → Option (Int32 × am_W)) (a1 : Int32) (a3 : Int32) (s0 : Int32) (w : am_W) : Option (Int32 × am_W) :=
  F_Ord_fewestAhead_82 r8 a1 s0 a3 w
def F_Ord_fewestAhead_8 (r8 : Int32 → Int32 → Int32 → am_W → Option (Int32 × am_W)) (a1 : Int32) (a2 : Int32) (a3 : Int32) (w : am_W) : Option (Int32 × am_W) :=
  (F_Rail_allThings w).bind fun q2 => if q2.1 < a3 then (some (a2, q2.2)) else (am_ck (am_in a3 256) (if (q2.2.1 37 a3.toNatClampNeg) ≤ 0 then (F_Ord_fewestAhead_82 r8 a1 a2 a3 q2.2) else ((F_Rail_canGo a3 (q2.2.1 1 3) q2.2).bind fun q3 => (F_Loc_has q3.1 a1 q3.2).bind fun q4 => if q4.1 = 0 then (F_Ord_fewestAhead_82 r8 a1 a2 a3 q4.2) else ((F_Jint_bitCount_0f7a4 (a3 &&& ((q4.2.1 1 1) ^^^ (-nI 1))) q4.2).bind fun q5 => if 0 ≤ a2 then (F_Ord_fewestAhead_81 r8 a1 a3 (if q5.1 < a2 then q5.1 else a2) q5.2) else (F_Ord_fewestAhead_81 r8 a1 a3 q5.1 q5.2)))))
def L_Ord_fewestAhead_8 : Nat → Int32 → Int32 → Int32 → am_W → Option (Int32 × am_W)
  | 0, _, _, _, _ => none
  | n + 1, a1, a2, a3, w => F_Ord_fewestAhead_8 (L_Ord_fewestAhead_8 n) a1 a2 a3 w
def F_Ord_fewestAhead (a1 : Int32) (w : am_W) : Option (Int32 × am_W) :=
  (F_Ord_countAll w).bind fun w1 => L_Ord_fewestAhead_8 am_NF a1 (-nI 1) (nI 0) w1
theorem T_Ord_fewestAhead_82 {sc : Option (Nat × (Nat → Int32))} {D : Nat} {o : Int32 × am_W} {r8 : Int32 → Int32 → Int32 → am_W → Option (Int32 × am_W)} (Hr8 : ∀ (a1 : Int32) (a2 : Int32) (a3 : Int32) (w : am_W) , r8 a1 a2 a3 w = some o → am_gi sc (D + 3) 14 o (8, [(0, .ref 36), (1, .int a1), (2, .int a2), (3, .int a3)], [], ww w, 0, 0)) (a1 : Int32) (a2 : Int32) (a3 : Int32) (w : am_W) (H : F_Ord_fewestAhead_82 r8 a1 a2 a3 w = some o) : am_gi sc (D + 3) 14 o (82, [(0, .ref 36), (1, .int a1), (2, .int a2), (3, .int a3)], [], ww w, 0, 0) := by
  unfold F_Ord_fewestAhead_82 at H
  exact am_go_blk 2 (Hr8 a1 a2 (a3 + (nI 1)) w H)
theorem T_Ord_fewestAhead_81 {sc : Option (Nat × (Nat → Int32))} {D : Nat} {o : Int32 × am_W} {r8 : Int32 → Int32 → Int32 → am_W → Option (Int32 × am_W)} (Hr8 : ∀ (a1 : Int32) (a2 : Int32) (a3 : Int32) (w : am_W) , r8 a1 a2 a3 w = some o → am_gi sc (D + 3) 14 o (8, [(0, .ref 36), (1, .int a1), (2, .int a2), (3, .int a3)], [], ww w, 0, 0)) (a1 : Int32) (a3 : Int32) (s0 : Int32) (w : am_W) (H : F_Ord_fewestAhead_81 r8 a1 a3 s0 w = some o) : am_gi sc (D + 3) 14 o (81, [(0, .ref 36), (1, .int a1), (3, .int a3)], [.int s0], ww w, 0, 0) := by
  unfold F_Ord_fewestAhead_81 at H
  exact am_go_blk 1 (T_Ord_fewestAhead_82 Hr8 a1 s0 a3 w H)
theorem T_Ord_fewestAhead_8 {sc : Option (Nat × (Nat → Int32))} {D : Nat} {o : Int32 × am_W} {r8 : Int32 → Int32 → Int32 → am_W → Option (Int32 × am_W)} (Hr8 : ∀ (a1 : Int32) (a2 : Int32) (a3 : Int32) (w : am_W) , r8 a1 a2 a3 w = some o → am_gi sc (D + 3) 14 o (8, [(0, .ref 36), (1, .int a1), (2, .int a2), (3, .int a3)], [], ww w, 0, 0)) (a1 : Int32) (a2 : Int32) (a3 : Int32) (w : am_W) (H : F_Ord_fewestAhead_8 r8 a1 a2 a3 w = some o) : am_gi sc (D + 3) 14 o (8, [(0, .ref 36), (1, .int a1), (2, .int a2), (3, .int a3)], [], ww w, 0, 0) := by
  unfold F_Ord_fewestAhead_8 at H
  obtain ⟨q2, hqq2, H⟩ := am_bnE H
  refine am_go_blk 3 (?_ : am_gi sc (D + 3) 14 o (13, [(0, .ref 36), (1, .int a1), (2, .int a2), (3, .int a3)], [.ref 1, .int a3], ww w, 0, 0))
  refine am_invd rfl rfl rfl rfl (am_calli rfl (M_Rail_allThings (D := D + 2) hqq2) (?_ : am_gi sc (D + 3) 14 o (16, [(0, .ref 36), (1, .int a1), (2, .int a2), (3, .int a3)], [.int q2.1, .int a3], ww q2.2, 0, 0)))
  refine am_go_blk 1 ⟨fun hc => ?_, fun hc => ?_⟩
  · have H := am_it hc H
    show am_gi sc (D + 3) 14 o (88, [(2, .int a2)], [], ww q2.2, 0, 0)
    exact am_go_blk 2 ⟨rfl, am_fi H⟩
  · have H := am_ie hc H
    show am_gi sc (D + 3) 14 o (19, [(0, .ref 36), (1, .int a1), (2, .int a2), (3, .int a3)], [], ww q2.2, 0, 0)
    obtain ⟨hc, H⟩ := am_ckE H
    refine am_go_blk 4 ⟨am_inv hc, (?_ : am_gi sc (D + 3) 14 o (25, [(0, .ref 36), (1, .int a1), (2, .int a2), (3, .int a3)], [.int (q2.2.1 37 a3.toNatClampNeg)], ww q2.2, 0, 0))⟩
    refine am_go_blk 1 ⟨fun hc => ?_, fun hc => ?_⟩
    · have H := am_it hc H
      exact T_Ord_fewestAhead_82 Hr8 a1 a2 a3 q2.2 H
    · have H := am_ie hc H
      show am_gi sc (D + 3) 14 o (28, [(0, .ref 36), (1, .int a1), (2, .int a2), (3, .int a3)], [], ww q2.2, 0, 0)
      obtain ⟨q3, hqq3, H⟩ := am_bnE H
      refine am_go_blk 6 (?_ : am_gi sc (D + 3) 14 o (40, [(0, .ref 36), (1, .int a1), (2, .int a2), (3, .int a3)], [.int (q2.2.1 1 3), .int a3, .ref 1], ww q2.2, 0, 0))
      refine am_invd rfl rfl rfl rfl (am_calli rfl (M_Rail_canGo (D := D + 1) hqq3) (?_ : am_gi sc (D + 3) 14 o (43, [(0, .ref 36), (1, .int a1), (2, .int a2), (3, .int a3)], [.int q3.1], ww q3.2, 0, 0)))
      obtain ⟨q4, hqq4, H⟩ := am_bnE H
      refine am_go_blk 1 (?_ : am_gi sc (D + 3) 14 o (44, [(0, .ref 36), (1, .int a1), (2, .int a2), (3, .int a3)], [.int a1, .int q3.1], ww q3.2, 0, 0))
      refine am_cls rfl rfl rfl (am_calli rfl (M_Loc_has (D := D + 2) hqq4) (?_ : am_gi sc (D + 3) 14 o (47, [(0, .ref 36), (1, .int a1), (2, .int a2), (3, .int a3)], [.int q4.1], ww q4.2, 0, 0)))
      refine am_go_blk 1 ⟨fun hc => ?_, fun hc => ?_⟩
      · have H := am_it hc H
        exact T_Ord_fewestAhead_82 Hr8 a1 a2 a3 q4.2 H
      · have H := am_ie hc H
        show am_gi sc (D + 3) 14 o (50, [(0, .ref 36), (1, .int a1), (2, .int a2), (3, .int a3)], [], ww q4.2, 0, 0)
        obtain ⟨q5, hqq5, H⟩ := am_bnE H
        refine am_go_blk 7 (?_ : am_gi sc (D + 3) 14 o (61, [(0, .ref 36), (1, .int a1), (2, .int a2), (3, .int a3)], [.int (a3 &&& ((q4.2.1 1 1) ^^^ (-nI 1)))], ww q4.2, 0, 0))
        refine am_cls rfl rfl rfl (am_calli rfl (M_Jint_bitCount_0f7a4 (D := D + 2) hqq5) (?_ : am_gi sc (D + 3) 14 o (64, [(0, .ref 36), (1, .int a1), (2, .int a2), (3, .int a3)], [.int q5.1], ww q5.2, 0, 0)))
        refine am_go_blk 3 ⟨fun hc => ?_, fun hc => ?_⟩
        · have H := am_it hc H
          show am_gi sc (D + 3) 14 o (75, [(0, .ref 36), (1, .int a1), (2, .int a2), (3, .int a3), (4, .int q5.1)], [], ww q5.2, 0, 0)
          refine am_go_blk 3 (?_ : am_gi sc (D + 3) 14 o (81, [(0, .ref 36), (1, .int a1), (3, .int a3)], [.int (if q5.1 < a2 then q5.1 else a2)], ww q5.2, 0, 0))
          exact T_Ord_fewestAhead_81 Hr8 a1 a3 (if q5.1 < a2 then q5.1 else a2) q5.2 H
        · have H := am_ie hc H
          show am_gi sc (D + 3) 14 o (70, [(4, .int q5.1), (0, .ref 36), (1, .int a1), (2, .int a2), (3, .int a3)], [], ww q5.2, 0, 0)
          exact am_go_blk 2 (T_Ord_fewestAhead_81 Hr8 a1 a3 q5.1 q5.2 H)
theorem TL_Ord_fewestAhead_8 {sc : Option (Nat × (Nat → Int32))} {D : Nat} {o : Int32 × am_W} : ∀ (n : Nat) (a1 : Int32) (a2 : Int32) (a3 : Int32) (w : am_W) , L_Ord_fewestAhead_8 n a1 a2 a3 w = some o → am_gi sc (D + 3) 14 o (8, [(0, .ref 36), (1, .int a1), (2, .int a2), (3, .int a3)], [], ww w, 0, 0)
  | 0, _, _, _, _, H => by cases H
  | n + 1, a1, a2, a3, w, H => T_Ord_fewestAhead_8 (TL_Ord_fewestAhead_8 n) a1 a2 a3 w H
theorem T_Ord_fewestAhead {sc : Option (Nat × (Nat → Int32))} {D : Nat} {o : Int32 × am_W} (a1 : Int32) (w : am_W) (H : F_Ord_fewestAhead a1 w = some o) : am_gi sc (D + 3) 14 o (0, [(0, .ref 36), (1, .int a1)], [], ww w, 0, 0) := by
  unfold F_Ord_fewestAhead at H
  obtain ⟨w1, hqw1, H⟩ := am_bnE H
  refine am_go_blk 1 (?_ : am_gi sc (D + 3) 14 o (1, [(0, .ref 36), (1, .int a1)], [.ref 36], ww w, 0, 0))
  refine am_invd rfl rfl rfl rfl (am_callv rfl (M_Ord_countAll (D := D) hqw1) (?_ : am_gi sc (D + 3) 14 o (4, [(0, .ref 36), (1, .int a1)], [], ww w1, 0, 0)))
  exact am_go_blk 4 (TL_Ord_fewestAhead_8 am_NF a1 (-nI 1) (nI 0) w1 H)
theorem M_Ord_fewestAhead {sc : Option (Nat × (Nat → Int32))} {D : Nat} {o : Int32 × am_W} {a1 : Int32} {w : am_W} (H : F_Ord_fewestAhead a1 w = some o) : am_run sc (D + 4) 14 [.ref 36, .int a1] (ww w) (some (.int o.1)) (ww o.2) 0 0 :=
  am_run_of rfl (T_Ord_fewestAhead a1 w H)
def F_Ord_goneAhead_79 (s0 : Int32) (w : am_W) : Option (Int32 × am_W) :=
  some (s0, w)
def F_Ord_goneAhead_54 (r8 : Int32 → Int32 → Int32 → am_W → Option (Int32 × am_W)) (a1 : Int32) (a2 : Int32) (a3 : Int32) (w : am_W) : Option (Int32 × am_W) :=
  r8 a1 a2 (a3 + (nI 1)) w
def F_Ord_goneAhead_8 (r8 : Int32 → Int32 → Int32 → am_W → Option (Int32 × am_W)) (a1 : Int32) (a2 : Int32) (a3 : Int32) (w : am_W) : Option (Int32 × am_W) :=
  (F_Rail_allThings w).bind fun q2 => if q2.1 < a3 then (if 0 ≤ a2 then (F_Ord_goneAhead_79 (a2 &&& ((q2.2.1 1 1) ^^^ (-nI 1))) q2.2) else (F_Ord_goneAhead_79 (-nI 1) q2.2)) else (am_ck (am_in a3 256) (if (q2.2.1 37 a3.toNatClampNeg) ≤ 0 then (F_Ord_goneAhead_54 r8 a1 a2 a3 q2.2) else ((F_Rail_canGo a3 (q2.2.1 1 3) q2.2).bind fun q3 => (F_Loc_has q3.1 a1 q3.2).bind fun q4 => if q4.1 = 0 then (F_Ord_goneAhead_54 r8 a1 a2 a3 q4.2) else (F_Ord_goneAhead_54 r8 a1 (a2 &&& a3) a3 q4.2))))
def L_Ord_goneAhead_8 : Nat → Int32 → Int32 → Int32 → am_W → Option (Int32 × am_W)
  | 0, _, _, _, _ => none
  | n + 1, a1, a2, a3, w => F_Ord_goneAhead_8 (L_Ord_goneAhead_8 n) a1 a2 a3 w
def F_Ord_goneAhead (a1 : Int32) (w : am_W) : Option (Int32 × am_W) :=
  (F_Ord_countAll w).bind fun w1 => L_Ord_goneAhead_8 am_NF a1 (-nI 1) (nI 0) w1
theorem T_Ord_goneAhead_79 {sc : Option (Nat × (Nat → Int32))} {D : Nat} {o : Int32 × am_W} (s0 : Int32) (w : am_W) (H : F_Ord_goneAhead_79 s0 w = some o) : am_gi sc (D + 3) 13 o (79, [], [.int s0], ww w, 0, 0) := by
  unfold F_Ord_goneAhead_79 at H
  exact am_go_blk 1 ⟨rfl, am_fi H⟩
theorem T_Ord_goneAhead_54 {sc : Option (Nat × (Nat → Int32))} {D : Nat} {o : Int32 × am_W} {r8 : Int32 → Int32 → Int32 → am_W → Option (Int32 × am_W)} (Hr8 : ∀ (a1 : Int32) (a2 : Int32) (a3 : Int32) (w : am_W) , r8 a1 a2 a3 w = some o → am_gi sc (D + 3) 13 o (8, [(0, .ref 36), (1, .int a1), (2, .int a2), (3, .int a3)], [], ww w, 0, 0)) (a1 : Int32) (a2 : Int32) (a3 : Int32) (w : am_W) (H : F_Ord_goneAhead_54 r8 a1 a2 a3 w = some o) : am_gi sc (D + 3) 13 o (54, [(0, .ref 36), (1, .int a1), (2, .int a2), (3, .int a3)], [], ww w, 0, 0) := by
  unfold F_Ord_goneAhead_54 at H
  exact am_go_blk 2 (Hr8 a1 a2 (a3 + (nI 1)) w H)
theorem T_Ord_goneAhead_8 {sc : Option (Nat × (Nat → Int32))} {D : Nat} {o : Int32 × am_W} {r8 : Int32 → Int32 → Int32 → am_W → Option (Int32 × am_W)} (Hr8 : ∀ (a1 : Int32) (a2 : Int32) (a3 : Int32) (w : am_W) , r8 a1 a2 a3 w = some o → am_gi sc (D + 3) 13 o (8, [(0, .ref 36), (1, .int a1), (2, .int a2), (3, .int a3)], [], ww w, 0, 0)) (a1 : Int32) (a2 : Int32) (a3 : Int32) (w : am_W) (H : F_Ord_goneAhead_8 r8 a1 a2 a3 w = some o) : am_gi sc (D + 3) 13 o (8, [(0, .ref 36), (1, .int a1), (2, .int a2), (3, .int a3)], [], ww w, 0, 0) := by
  unfold F_Ord_goneAhead_8 at H
  obtain ⟨q2, hqq2, H⟩ := am_bnE H
  refine am_go_blk 3 (?_ : am_gi sc (D + 3) 13 o (13, [(0, .ref 36), (1, .int a1), (2, .int a2), (3, .int a3)], [.ref 1, .int a3], ww w, 0, 0))
  refine am_invd rfl rfl rfl rfl (am_calli rfl (M_Rail_allThings (D := D + 2) hqq2) (?_ : am_gi sc (D + 3) 13 o (16, [(0, .ref 36), (1, .int a1), (2, .int a2), (3, .int a3)], [.int q2.1, .int a3], ww q2.2, 0, 0)))
  refine am_go_blk 1 ⟨fun hc => ?_, fun hc => ?_⟩
  · have H := am_it hc H
    show am_gi sc (D + 3) 13 o (60, [(0, .ref 36), (2, .int a2)], [], ww q2.2, 0, 0)
    refine am_go_blk 2 ⟨fun hc => ?_, fun hc => ?_⟩
    · have H := am_it hc H
      show am_gi sc (D + 3) 13 o (68, [(0, .ref 36), (2, .int a2)], [], ww q2.2, 0, 0)
      exact am_go_blk 7 (T_Ord_goneAhead_79 (a2 &&& ((q2.2.1 1 1) ^^^ (-nI 1))) q2.2 H)
    · have H := am_ie hc H
      show am_gi sc (D + 3) 13 o (64, [(0, .ref 36), (2, .int a2)], [], ww q2.2, 0, 0)
      exact am_go_blk 2 (T_Ord_goneAhead_79 (-nI 1) q2.2 H)
  · have H := am_ie hc H
    show am_gi sc (D + 3) 13 o (19, [(0, .ref 36), (1, .int a1), (2, .int a2), (3, .int a3)], [], ww q2.2, 0, 0)
    obtain ⟨hc, H⟩ := am_ckE H
    refine am_go_blk 4 ⟨am_inv hc, (?_ : am_gi sc (D + 3) 13 o (25, [(0, .ref 36), (1, .int a1), (2, .int a2), (3, .int a3)], [.int (q2.2.1 37 a3.toNatClampNeg)], ww q2.2, 0, 0))⟩
    refine am_go_blk 1 ⟨fun hc => ?_, fun hc => ?_⟩
    · have H := am_it hc H
      exact T_Ord_goneAhead_54 Hr8 a1 a2 a3 q2.2 H
    · have H := am_ie hc H
      show am_gi sc (D + 3) 13 o (28, [(0, .ref 36), (1, .int a1), (2, .int a2), (3, .int a3)], [], ww q2.2, 0, 0)
      obtain ⟨q3, hqq3, H⟩ := am_bnE H
      refine am_go_blk 6 (?_ : am_gi sc (D + 3) 13 o (40, [(0, .ref 36), (1, .int a1), (2, .int a2), (3, .int a3)], [.int (q2.2.1 1 3), .int a3, .ref 1], ww q2.2, 0, 0))
      refine am_invd rfl rfl rfl rfl (am_calli rfl (M_Rail_canGo (D := D + 1) hqq3) (?_ : am_gi sc (D + 3) 13 o (43, [(0, .ref 36), (1, .int a1), (2, .int a2), (3, .int a3)], [.int q3.1], ww q3.2, 0, 0)))
      obtain ⟨q4, hqq4, H⟩ := am_bnE H
      refine am_go_blk 1 (?_ : am_gi sc (D + 3) 13 o (44, [(0, .ref 36), (1, .int a1), (2, .int a2), (3, .int a3)], [.int a1, .int q3.1], ww q3.2, 0, 0))
      refine am_cls rfl rfl rfl (am_calli rfl (M_Loc_has (D := D + 2) hqq4) (?_ : am_gi sc (D + 3) 13 o (47, [(0, .ref 36), (1, .int a1), (2, .int a2), (3, .int a3)], [.int q4.1], ww q4.2, 0, 0)))
      refine am_go_blk 1 ⟨fun hc => ?_, fun hc => ?_⟩
      · have H := am_it hc H
        exact T_Ord_goneAhead_54 Hr8 a1 a2 a3 q4.2 H
      · have H := am_ie hc H
        show am_gi sc (D + 3) 13 o (50, [(0, .ref 36), (1, .int a1), (2, .int a2), (3, .int a3)], [], ww q4.2, 0, 0)
        exact am_go_blk 4 (T_Ord_goneAhead_54 Hr8 a1 (a2 &&& a3) a3 q4.2 H)
theorem TL_Ord_goneAhead_8 {sc : Option (Nat × (Nat → Int32))} {D : Nat} {o : Int32 × am_W} : ∀ (n : Nat) (a1 : Int32) (a2 : Int32) (a3 : Int32) (w : am_W) , L_Ord_goneAhead_8 n a1 a2 a3 w = some o → am_gi sc (D + 3) 13 o (8, [(0, .ref 36), (1, .int a1), (2, .int a2), (3, .int a3)], [], ww w, 0, 0)
  | 0, _, _, _, _, H => by cases H
  | n + 1, a1, a2, a3, w, H => T_Ord_goneAhead_8 (TL_Ord_goneAhead_8 n) a1 a2 a3 w H
theorem T_Ord_goneAhead {sc : Option (Nat × (Nat → Int32))} {D : Nat} {o : Int32 × am_W} (a1 : Int32) (w : am_W) (H : F_Ord_goneAhead a1 w = some o) : am_gi sc (D + 3) 13 o (0, [(0, .ref 36), (1, .int a1)], [], ww w, 0, 0) := by
  unfold F_Ord_goneAhead at H
  obtain ⟨w1, hqw1, H⟩ := am_bnE H
  refine am_go_blk 1 (?_ : am_gi sc (D + 3) 13 o (1, [(0, .ref 36), (1, .int a1)], [.ref 36], ww w, 0, 0))
  refine am_invd rfl rfl rfl rfl (am_callv rfl (M_Ord_countAll (D := D) hqw1) (?_ : am_gi sc (D + 3) 13 o (4, [(0, .ref 36), (1, .int a1)], [], ww w1, 0, 0)))
  exact am_go_blk 4 (TL_Ord_goneAhead_8 am_NF a1 (-nI 1) (nI 0) w1 H)
theorem M_Ord_goneAhead {sc : Option (Nat × (Nat → Int32))} {D : Nat} {o : Int32 × am_W} {a1 : Int32} {w : am_W} (H : F_Ord_goneAhead a1 w = some o) : am_run sc (D + 4) 13 [.ref 36, .int a1] (ww w) (some (.int o.1)) (ww o.2) 0 0 :=
  am_run_of rfl (T_Ord_goneAhead a1 w H)
def F_Loc_first_61 (s0 : Int32) (w : am_W) : Option (Int32 × am_W) :=
  some (s0, w)
def F_Loc_first (a1 : Int32) (a2 : Int32) (w : am_W) : Option (Int32 × am_W) :=
  (F_Rail_isThing a1 w).bind fun q1 => if q1.1 = 0 then (some ((-nI 5), q1.2)) else ((F_Loc_isEither a2 q1.2).bind fun q2 => if q2.1 = 0 then (some ((-nI 7), q2.2)) else ((F_Rail_isGone a1 q2.2).bind fun q3 => if q3.1 = 0 then (if a2 = 0 then ((F_Ord_goneAhead a1 q3.2).bind fun q5 => F_Loc_first_61 q5.1 q5.2) else ((F_Ord_fewestAhead a1 q3.2).bind fun q4 => F_Loc_first_61 q4.1 q4.2)) else (some ((-nI 3), q3.2))))
theorem T_Loc_first_61 {sc : Option (Nat × (Nat → Int32))} {D : Nat} {o : Int32 × am_W} (s0 : Int32) (w : am_W) (H : F_Loc_first_61 s0 w = some o) : am_gi sc (D + 4) 62 o (61, [], [.int s0], ww w, 0, 0) := by
  unfold F_Loc_first_61 at H
  exact am_go_blk 1 ⟨rfl, am_fi H⟩
theorem T_Loc_first {sc : Option (Nat × (Nat → Int32))} {D : Nat} {o : Int32 × am_W} (a1 : Int32) (a2 : Int32) (w : am_W) (H : F_Loc_first a1 a2 w = some o) : am_gi sc (D + 4) 62 o (0, [(0, .ref 0), (1, .int a1), (2, .int a2)], [], ww w, 0, 0) := by
  unfold F_Loc_first at H
  obtain ⟨q1, hqq1, H⟩ := am_bnE H
  refine am_go_blk 3 (?_ : am_gi sc (D + 4) 62 o (5, [(0, .ref 0), (1, .int a1), (2, .int a2)], [.int a1, .ref 1], ww w, 0, 0))
  refine am_invd rfl rfl rfl rfl (am_calli rfl (M_Rail_isThing (D := D + 3) hqq1) (?_ : am_gi sc (D + 4) 62 o (8, [(0, .ref 0), (1, .int a1), (2, .int a2)], [.int q1.1], ww q1.2, 0, 0)))
  refine am_go_blk 1 ⟨fun hc => ?_, fun hc => ?_⟩
  · have H := am_ie hc H
    show am_gi sc (D + 4) 62 o (14, [(0, .ref 0), (1, .int a1), (2, .int a2)], [], ww q1.2, 0, 0)
    obtain ⟨q2, hqq2, H⟩ := am_bnE H
    refine am_go_blk 1 (?_ : am_gi sc (D + 4) 62 o (15, [(0, .ref 0), (1, .int a1), (2, .int a2)], [.int a2], ww q1.2, 0, 0))
    refine am_cls rfl rfl rfl (am_calli rfl (M_Loc_isEither (D := D + 3) hqq2) (?_ : am_gi sc (D + 4) 62 o (18, [(0, .ref 0), (1, .int a1), (2, .int a2)], [.int q2.1], ww q2.2, 0, 0)))
    refine am_go_blk 1 ⟨fun hc => ?_, fun hc => ?_⟩
    · have H := am_ie hc H
      show am_gi sc (D + 4) 62 o (24, [(0, .ref 0), (1, .int a1), (2, .int a2)], [], ww q2.2, 0, 0)
      obtain ⟨q3, hqq3, H⟩ := am_bnE H
      refine am_go_blk 3 (?_ : am_gi sc (D + 4) 62 o (29, [(0, .ref 0), (1, .int a1), (2, .int a2)], [.int a1, .ref 1], ww q2.2, 0, 0))
      refine am_invd rfl rfl rfl rfl (am_calli rfl (M_Rail_isGone (D := D + 2) hqq3) (?_ : am_gi sc (D + 4) 62 o (32, [(0, .ref 0), (1, .int a1), (2, .int a2)], [.int q3.1], ww q3.2, 0, 0)))
      refine am_go_blk 1 ⟨fun hc => ?_, fun hc => ?_⟩
      · have H := am_it hc H
        show am_gi sc (D + 4) 62 o (38, [(0, .ref 0), (1, .int a1), (2, .int a2)], [], ww q3.2, 0, 0)
        refine am_go_blk 2 ⟨fun hc => ?_, fun hc => ?_⟩
        · have H := am_ie hc H
          show am_gi sc (D + 4) 62 o (53, [(0, .ref 0), (1, .int a1)], [], ww q3.2, 0, 0)
          obtain ⟨q4, hqq4, H⟩ := am_bnE H
          refine am_go_blk 3 (?_ : am_gi sc (D + 4) 62 o (58, [(0, .ref 0), (1, .int a1)], [.int a1, .ref 36], ww q3.2, 0, 0))
          refine am_invd rfl rfl rfl rfl (am_calli rfl (M_Ord_fewestAhead (D := D) hqq4) (?_ : am_gi sc (D + 4) 62 o (61, [], [.int q4.1], ww q4.2, 0, 0)))
          exact T_Loc_first_61 q4.1 q4.2 H
        · have H := am_it hc H
          show am_gi sc (D + 4) 62 o (42, [(0, .ref 0), (1, .int a1), (2, .int a2)], [], ww q3.2, 0, 0)
          obtain ⟨q5, hqq5, H⟩ := am_bnE H
          refine am_go_blk 3 (?_ : am_gi sc (D + 4) 62 o (47, [(0, .ref 0), (1, .int a1), (2, .int a2)], [.int a1, .ref 36], ww q3.2, 0, 0))
          refine am_invd rfl rfl rfl rfl (am_calli rfl (M_Ord_goneAhead (D := D) hqq5) (?_ : am_gi sc (D + 4) 62 o (50, [(0, .ref 0), (1, .int a1), (2, .int a2)], [.int q5.1], ww q5.2, 0, 0)))
          exact am_go_blk 1 (T_Loc_first_61 q5.1 q5.2 H)
      · have H := am_ie hc H
        show am_gi sc (D + 4) 62 o (35, [(0, .ref 0), (1, .int a1), (2, .int a2)], [], ww q3.2, 0, 0)
        exact am_go_blk 2 ⟨rfl, am_fi H⟩
    · have H := am_it hc H
      show am_gi sc (D + 4) 62 o (21, [(0, .ref 0), (1, .int a1), (2, .int a2)], [], ww q2.2, 0, 0)
      exact am_go_blk 2 ⟨rfl, am_fi H⟩
  · have H := am_it hc H
    show am_gi sc (D + 4) 62 o (11, [(0, .ref 0), (1, .int a1), (2, .int a2)], [], ww q1.2, 0, 0)
    exact am_go_blk 2 ⟨rfl, am_fi H⟩
theorem M_Loc_first {sc : Option (Nat × (Nat → Int32))} {D : Nat} {o : Int32 × am_W} {a1 : Int32} {a2 : Int32} {w : am_W} (H : F_Loc_first a1 a2 w = some o) : am_run sc (D + 5) 62 [.ref 0, .int a1, .int a2] (ww w) (some (.int o.1)) (ww o.2) 0 0 :=
  am_run_of rfl (T_Loc_first a1 a2 w H)
def F_Loc_priceOf_34 (r4 : Int32 → Int32 → Int32 → am_W → Option (Int32 × am_W)) (a1 : Int32) (a3 : Int32) (s0 : Int32) (s1 : Int32) (w : am_W) : Option (Int32 × am_W) :=
  r4 a1 (s1 + s0) (a3 + (nI 1)) w
def F_Loc_priceOf_4 (r4 : Int32 → Int32 → Int32 → am_W → Option (Int32 × am_W)) (a1 : Int32) (a2 : Int32) (a3 : Int32) (w : am_W) : Option (Int32 × am_W) :=
  if (w.1 1 2) ≤ a3 then (some (a2, w)) else ((F_Loc_has a1 a3 w).bind fun q1 => if q1.1 = 0 then (F_Loc_priceOf_34 r4 a1 a3 (nI 0) a2 q1.2) else (am_ck (am_in a3 10) (F_Loc_priceOf_34 r4 a1 a3 (q1.2.1 44 a3.toNatClampNeg) a2 q1.2)))
def L_Loc_priceOf_4 : Nat → Int32 → Int32 → Int32 → am_W → Option (Int32 × am_W)
  | 0, _, _, _, _ => none
  | n + 1, a1, a2, a3, w => F_Loc_priceOf_4 (L_Loc_priceOf_4 n) a1 a2 a3 w
def F_Loc_priceOf (a1 : Int32) (w : am_W) : Option (Int32 × am_W) :=
  L_Loc_priceOf_4 am_NF a1 (nI 0) (nI 0) w
theorem T_Loc_priceOf_34 {sc : Option (Nat × (Nat → Int32))} {D : Nat} {o : Int32 × am_W} {r4 : Int32 → Int32 → Int32 → am_W → Option (Int32 × am_W)} (Hr4 : ∀ (a1 : Int32) (a2 : Int32) (a3 : Int32) (w : am_W) , r4 a1 a2 a3 w = some o → am_gi sc (D + 1) 71 o (4, [(0, .ref 0), (1, .int a1), (2, .int a2), (3, .int a3)], [], ww w, 0, 0)) (a1 : Int32) (a3 : Int32) (s0 : Int32) (s1 : Int32) (w : am_W) (H : F_Loc_priceOf_34 r4 a1 a3 s0 s1 w = some o) : am_gi sc (D + 1) 71 o (34, [(0, .ref 0), (1, .int a1), (3, .int a3)], [.int s0, .int s1], ww w, 0, 0) := by
  unfold F_Loc_priceOf_34 at H
  exact am_go_blk 4 (Hr4 a1 (s1 + s0) (a3 + (nI 1)) w H)
theorem T_Loc_priceOf_4 {sc : Option (Nat × (Nat → Int32))} {D : Nat} {o : Int32 × am_W} {r4 : Int32 → Int32 → Int32 → am_W → Option (Int32 × am_W)} (Hr4 : ∀ (a1 : Int32) (a2 : Int32) (a3 : Int32) (w : am_W) , r4 a1 a2 a3 w = some o → am_gi sc (D + 1) 71 o (4, [(0, .ref 0), (1, .int a1), (2, .int a2), (3, .int a3)], [], ww w, 0, 0)) (a1 : Int32) (a2 : Int32) (a3 : Int32) (w : am_W) (H : F_Loc_priceOf_4 r4 a1 a2 a3 w = some o) : am_gi sc (D + 1) 71 o (4, [(0, .ref 0), (1, .int a1), (2, .int a2), (3, .int a3)], [], ww w, 0, 0) := by
  unfold F_Loc_priceOf_4 at H
  refine am_go_blk 5 ⟨fun hc => ?_, fun hc => ?_⟩
  · have H := am_it hc H
    show am_gi sc (D + 1) 71 o (42, [(2, .int a2)], [], ww w, 0, 0)
    exact am_go_blk 2 ⟨rfl, am_fi H⟩
  · have H := am_ie hc H
    show am_gi sc (D + 1) 71 o (15, [(0, .ref 0), (1, .int a1), (2, .int a2), (3, .int a3)], [], ww w, 0, 0)
    obtain ⟨q1, hqq1, H⟩ := am_bnE H
    refine am_go_blk 3 (?_ : am_gi sc (D + 1) 71 o (18, [(0, .ref 0), (1, .int a1), (2, .int a2), (3, .int a3)], [.int a3, .int a1, .int a2], ww w, 0, 0))
    refine am_cls rfl rfl rfl (am_calli rfl (M_Loc_has (D := D) hqq1) (?_ : am_gi sc (D + 1) 71 o (21, [(0, .ref 0), (1, .int a1), (2, .int a2), (3, .int a3)], [.int q1.1, .int a2], ww q1.2, 0, 0)))
    refine am_go_blk 1 ⟨fun hc => ?_, fun hc => ?_⟩
    · have H := am_it hc H
      show am_gi sc (D + 1) 71 o (33, [(0, .ref 0), (1, .int a1), (3, .int a3)], [.int a2], ww q1.2, 0, 0)
      exact am_go_blk 1 (T_Loc_priceOf_34 Hr4 a1 a3 (nI 0) a2 q1.2 H)
    · have H := am_ie hc H
      show am_gi sc (D + 1) 71 o (24, [(0, .ref 0), (1, .int a1), (2, .int a2), (3, .int a3)], [.int a2], ww q1.2, 0, 0)
      obtain ⟨hc, H⟩ := am_ckE H
      refine am_go_blk 4 ⟨am_inv hc, (?_ : am_gi sc (D + 1) 71 o (30, [(0, .ref 0), (1, .int a1), (2, .int a2), (3, .int a3)], [.int (q1.2.1 44 a3.toNatClampNeg), .int a2], ww q1.2, 0, 0))⟩
      exact am_go_blk 1 (T_Loc_priceOf_34 Hr4 a1 a3 (q1.2.1 44 a3.toNatClampNeg) a2 q1.2 H)
theorem TL_Loc_priceOf_4 {sc : Option (Nat × (Nat → Int32))} {D : Nat} {o : Int32 × am_W} : ∀ (n : Nat) (a1 : Int32) (a2 : Int32) (a3 : Int32) (w : am_W) , L_Loc_priceOf_4 n a1 a2 a3 w = some o → am_gi sc (D + 1) 71 o (4, [(0, .ref 0), (1, .int a1), (2, .int a2), (3, .int a3)], [], ww w, 0, 0)
  | 0, _, _, _, _, H => by cases H
  | n + 1, a1, a2, a3, w, H => T_Loc_priceOf_4 (TL_Loc_priceOf_4 n) a1 a2 a3 w H
theorem T_Loc_priceOf {sc : Option (Nat × (Nat → Int32))} {D : Nat} {o : Int32 × am_W} (a1 : Int32) (w : am_W) (H : F_Loc_priceOf a1 w = some o) : am_gi sc (D + 1) 71 o (0, [(0, .ref 0), (1, .int a1)], [], ww w, 0, 0) := by
  unfold F_Loc_priceOf at H
  exact am_go_blk 4 (TL_Loc_priceOf_4 am_NF a1 (nI 0) (nI 0) w H)
theorem M_Loc_priceOf {sc : Option (Nat × (Nat → Int32))} {D : Nat} {o : Int32 × am_W} {a1 : Int32} {w : am_W} (H : F_Loc_priceOf a1 w = some o) : am_run sc (D + 2) 71 [.ref 0, .int a1] (ww w) (some (.int o.1)) (ww o.2) 0 0 :=
  am_run_of rfl (T_Loc_priceOf a1 w H)
def F_Loc_cheapestSaws_165 (s0 : Int32) (w : am_W) : Option (Int32 × am_W) :=
  some (s0, w)
def F_Loc_cheapestSaws_148 (r78 : Int32 → Int32 → Int32 → Int32 → Int32 → Int32 → am_W → Option (Int32 × am_W)) (a1 : Int32) (a2 : Int32) (a3 : Int32) (a4 : Int32) (a5 : Int32) (a6 : Int32) (w : am_W) : Option (Int32 × am_W) :=
  r78 a1 a2 a3 a4 a5 (a6 + (nI 1)) w
def F_Loc_cheapestSaws_116 (r78 : Int32 → Int32 → Int32 → Int32 → Int32 → Int32 → am_W → Option (Int32 × am_W)) (a1 : Int32) (a2 : Int32) (a3 : Int32) (a4 : Int32) (a5 : Int32) (a6 : Int32) (a7 : Int32) (w : am_W) : Option (Int32 × am_W) :=
  (F_Rail_goneAtLast ((w.1 1 3) ||| a6) w).bind fun q2 => if (a1 &&& (q2.1 ^^^ (-nI 1))) = 0 then (F_Loc_cheapestSaws_148 r78 a1 a2 a3 a6 a7 a6 q2.2) else (F_Loc_cheapestSaws_148 r78 a1 a2 a3 a4 a5 a6 q2.2)
def F_Loc_cheapestSaws_78 (r78 : Int32 → Int32 → Int32 → Int32 → Int32 → Int32 → am_W → Option (Int32 × am_W)) (a1 : Int32) (a2 : Int32) (a3 : Int32) (a4 : Int32) (a5 : Int32) (a6 : Int32) (w : am_W) : Option (Int32 × am_W) :=
  if a3 < a6 then (if a2 = 0 then (F_Loc_cheapestSaws_165 a4 w) else (F_Loc_cheapestSaws_165 a5 w)) else (if (a6 &&& (a3 ^^^ (-nI 1))) = 0 then ((F_Loc_priceOf a6 w).bind fun q1 => if a4 < 0 then (F_Loc_cheapestSaws_116 r78 a1 a2 a3 a4 a5 a6 q1.1 q1.2) else (if a5 ≤ q1.1 then (F_Loc_cheapestSaws_148 r78 a1 a2 a3 a4 a5 a6 q1.2) else (F_Loc_cheapestSaws_116 r78 a1 a2 a3 a4 a5 a6 q1.1 q1.2))) else (F_Loc_cheapestSaws_148 r78 a1 a2 a3 a4 a5 a6 w))
def L_Loc_cheapestSaws_78 : Nat → Int32 → Int32 → Int32 → Int32 → Int32 → Int32 → am_W → Option (Int32 × am_W)
  | 0, _, _, _, _, _, _, _ => none
  | n + 1, a1, a2, a3, a4, a5, a6, w => F_Loc_cheapestSaws_78 (L_Loc_cheapestSaws_78 n) a1 a2 a3 a4 a5 a6 w
def F_Loc_cheapestSaws_61 (r5 : Int32 → Int32 → Int32 → Int32 → am_W → Option (Int32 × am_W)) (a1 : Int32) (a2 : Int32) (a4 : Int32) (s0 : Int32) (s1 : Int32) (w : am_W) : Option (Int32 × am_W) :=
  r5 a1 a2 (s1 ||| s0) (a4 + (nI 1)) w
def F_Loc_cheapestSaws_5 (r5 : Int32 → Int32 → Int32 → Int32 → am_W → Option (Int32 × am_W)) (a1 : Int32) (a2 : Int32) (a3 : Int32) (a4 : Int32) (w : am_W) : Option (Int32 × am_W) :=
  if (w.1 1 2) ≤ a4 then (L_Loc_cheapestSaws_78 am_NF a1 a2 a3 (-nI 1) (-nI 1) (nI 0) w) else ((F_Law_sawing (w.1 17 2) a4 w).bind fun q3 => am_ck (am_in a4 10) (am_lt (wst q3.2 44 a4 q3.1) fun w4 => (F_Rail_isShut a4 w4).bind fun q5 => if q5.1 = 0 then (F_Loc_cheapestSaws_61 r5 a1 a2 a4 (nI 0) a3 q5.2) else (F_Loc_cheapestSaws_61 r5 a1 a2 a4 ((nI 1) <<< (a4 &&& 31)) a3 q5.2)))
def L_Loc_cheapestSaws_5 : Nat → Int32 → Int32 → Int32 → Int32 → am_W → Option (Int32 × am_W)
  | 0, _, _, _, _, _ => none
  | n + 1, a1, a2, a3, a4, w => F_Loc_cheapestSaws_5 (L_Loc_cheapestSaws_5 n) a1 a2 a3 a4 w
def F_Loc_cheapestSaws (a1 : Int32) (a2 : Int32) (w : am_W) : Option (Int32 × am_W) :=
  L_Loc_cheapestSaws_5 am_NF a1 a2 (nI 0) (nI 0) w
theorem T_Loc_cheapestSaws_165 {sc : Option (Nat × (Nat → Int32))} {D : Nat} {o : Int32 × am_W} (s0 : Int32) (w : am_W) (H : F_Loc_cheapestSaws_165 s0 w = some o) : am_gi sc (D + 5) 70 o (165, [], [.int s0], ww w, 0, 0) := by
  unfold F_Loc_cheapestSaws_165 at H
  exact am_go_blk 1 ⟨rfl, am_fi H⟩
theorem T_Loc_cheapestSaws_148 {sc : Option (Nat × (Nat → Int32))} {D : Nat} {o : Int32 × am_W} {r78 : Int32 → Int32 → Int32 → Int32 → Int32 → Int32 → am_W → Option (Int32 × am_W)} (Hr78 : ∀ (a1 : Int32) (a2 : Int32) (a3 : Int32) (a4 : Int32) (a5 : Int32) (a6 : Int32) (w : am_W) , r78 a1 a2 a3 a4 a5 a6 w = some o → am_gi sc (D + 5) 70 o (78, [(0, .ref 0), (1, .int a1), (2, .int a2), (3, .int a3), (4, .int a4), (5, .int a5), (6, .int a6)], [], ww w, 0, 0)) (a1 : Int32) (a2 : Int32) (a3 : Int32) (a4 : Int32) (a5 : Int32) (a6 : Int32) (w : am_W) (H : F_Loc_cheapestSaws_148 r78 a1 a2 a3 a4 a5 a6 w = some o) : am_gi sc (D + 5) 70 o (148, [(0, .ref 0), (1, .int a1), (2, .int a2), (3, .int a3), (4, .int a4), (5, .int a5), (6, .int a6)], [], ww w, 0, 0) := by
  unfold F_Loc_cheapestSaws_148 at H
  exact am_go_blk 2 (Hr78 a1 a2 a3 a4 a5 (a6 + (nI 1)) w H)
theorem T_Loc_cheapestSaws_116 {sc : Option (Nat × (Nat → Int32))} {D : Nat} {o : Int32 × am_W} {r78 : Int32 → Int32 → Int32 → Int32 → Int32 → Int32 → am_W → Option (Int32 × am_W)} (Hr78 : ∀ (a1 : Int32) (a2 : Int32) (a3 : Int32) (a4 : Int32) (a5 : Int32) (a6 : Int32) (w : am_W) , r78 a1 a2 a3 a4 a5 a6 w = some o → am_gi sc (D + 5) 70 o (78, [(0, .ref 0), (1, .int a1), (2, .int a2), (3, .int a3), (4, .int a4), (5, .int a5), (6, .int a6)], [], ww w, 0, 0)) (a1 : Int32) (a2 : Int32) (a3 : Int32) (a4 : Int32) (a5 : Int32) (a6 : Int32) (a7 : Int32) (w : am_W) (H : F_Loc_cheapestSaws_116 r78 a1 a2 a3 a4 a5 a6 a7 w = some o) : am_gi sc (D + 5) 70 o (116, [(0, .ref 0), (1, .int a1), (2, .int a2), (3, .int a3), (4, .int a4), (5, .int a5), (6, .int a6), (7, .int a7)], [], ww w, 0, 0) := by
  unfold F_Loc_cheapestSaws_116 at H
  obtain ⟨q2, hqq2, H⟩ := am_bnE H
  refine am_go_blk 8 (?_ : am_gi sc (D + 5) 70 o (131, [(0, .ref 0), (1, .int a1), (2, .int a2), (3, .int a3), (4, .int a4), (5, .int a5), (6, .int a6), (7, .int a7)], [.int ((w.1 1 3) ||| a6), .ref 1, .int a1], ww w, 0, 0))
  refine am_invd rfl rfl rfl rfl (am_calli rfl (M_Rail_goneAtLast (D := D + 2) hqq2) (?_ : am_gi sc (D + 5) 70 o (134, [(0, .ref 0), (1, .int a1), (2, .int a2), (3, .int a3), (4, .int a4), (5, .int a5), (6, .int a6), (7, .int a7)], [.int q2.1, .int a1], ww q2.2, 0, 0)))
  refine am_go_blk 4 ⟨fun hc => ?_, fun hc => ?_⟩
  · have H := am_ie hc H
    exact T_Loc_cheapestSaws_148 Hr78 a1 a2 a3 a4 a5 a6 q2.2 H
  · have H := am_it hc H
    show am_gi sc (D + 5) 70 o (140, [(0, .ref 0), (1, .int a1), (2, .int a2), (3, .int a3), (4, .int a4), (5, .int a5), (6, .int a6), (7, .int a7)], [], ww q2.2, 0, 0)
    exact am_go_blk 4 (T_Loc_cheapestSaws_148 Hr78 a1 a2 a3 a6 a7 a6 q2.2 H)
theorem T_Loc_cheapestSaws_78 {sc : Option (Nat × (Nat → Int32))} {D : Nat} {o : Int32 × am_W} {r78 : Int32 → Int32 → Int32 → Int32 → Int32 → Int32 → am_W → Option (Int32 × am_W)} (Hr78 : ∀ (a1 : Int32) (a2 : Int32) (a3 : Int32) (a4 : Int32) (a5 : Int32) (a6 : Int32) (w : am_W) , r78 a1 a2 a3 a4 a5 a6 w = some o → am_gi sc (D + 5) 70 o (78, [(0, .ref 0), (1, .int a1), (2, .int a2), (3, .int a3), (4, .int a4), (5, .int a5), (6, .int a6)], [], ww w, 0, 0)) (a1 : Int32) (a2 : Int32) (a3 : Int32) (a4 : Int32) (a5 : Int32) (a6 : Int32) (w : am_W) (H : F_Loc_cheapestSaws_78 r78 a1 a2 a3 a4 a5 a6 w = some o) : am_gi sc (D + 5) 70 o (78, [(0, .ref 0), (1, .int a1), (2, .int a2), (3, .int a3), (4, .int a4), (5, .int a5), (6, .int a6)], [], ww w, 0, 0) := by
  unfold F_Loc_cheapestSaws_78 at H
  refine am_go_blk 3 ⟨fun hc => ?_, fun hc => ?_⟩
  · have H := am_it hc H
    show am_gi sc (D + 5) 70 o (154, [(2, .int a2), (4, .int a4), (5, .int a5)], [], ww w, 0, 0)
    refine am_go_blk 2 ⟨fun hc => ?_, fun hc => ?_⟩
    · have H := am_ie hc H
      show am_gi sc (D + 5) 70 o (163, [(5, .int a5)], [], ww w, 0, 0)
      exact am_go_blk 1 (T_Loc_cheapestSaws_165 a5 w H)
    · have H := am_it hc H
      show am_gi sc (D + 5) 70 o (158, [(2, .int a2), (4, .int a4), (5, .int a5)], [], ww w, 0, 0)
      exact am_go_blk 2 (T_Loc_cheapestSaws_165 a4 w H)
  · have H := am_ie hc H
    show am_gi sc (D + 5) 70 o (84, [(0, .ref 0), (1, .int a1), (2, .int a2), (3, .int a3), (4, .int a4), (5, .int a5), (6, .int a6)], [], ww w, 0, 0)
    refine am_go_blk 6 ⟨fun hc => ?_, fun hc => ?_⟩
    · have H := am_it hc H
      show am_gi sc (D + 5) 70 o (96, [(0, .ref 0), (1, .int a1), (2, .int a2), (3, .int a3), (4, .int a4), (5, .int a5), (6, .int a6)], [], ww w, 0, 0)
      obtain ⟨q1, hqq1, H⟩ := am_bnE H
      refine am_go_blk 2 (?_ : am_gi sc (D + 5) 70 o (99, [(0, .ref 0), (1, .int a1), (2, .int a2), (3, .int a3), (4, .int a4), (5, .int a5), (6, .int a6)], [.int a6, .ref 0], ww w, 0, 0))
      refine am_invd rfl rfl rfl rfl (am_calli rfl (M_Loc_priceOf (D := D + 3) hqq1) (?_ : am_gi sc (D + 5) 70 o (102, [(0, .ref 0), (1, .int a1), (2, .int a2), (3, .int a3), (4, .int a4), (5, .int a5), (6, .int a6)], [.int q1.1], ww q1.2, 0, 0)))
      refine am_go_blk 3 ⟨fun hc => ?_, fun hc => ?_⟩
      · have H := am_it hc H
        exact T_Loc_cheapestSaws_116 Hr78 a1 a2 a3 a4 a5 a6 q1.1 q1.2 H
      · have H := am_ie hc H
        show am_gi sc (D + 5) 70 o (109, [(7, .int q1.1), (0, .ref 0), (1, .int a1), (2, .int a2), (3, .int a3), (4, .int a4), (5, .int a5), (6, .int a6)], [], ww q1.2, 0, 0)
        refine am_go_blk 3 ⟨fun hc => ?_, fun hc => ?_⟩
        · have H := am_it hc H
          exact T_Loc_cheapestSaws_148 Hr78 a1 a2 a3 a4 a5 a6 q1.2 H
        · have H := am_ie hc H
          exact T_Loc_cheapestSaws_116 Hr78 a1 a2 a3 a4 a5 a6 q1.1 q1.2 H
    · have H := am_ie hc H
      show am_gi sc (D + 5) 70 o (93, [(0, .ref 0), (1, .int a1), (2, .int a2), (3, .int a3), (4, .int a4), (5, .int a5), (6, .int a6)], [], ww w, 0, 0)
      exact am_go_blk 1 (T_Loc_cheapestSaws_148 Hr78 a1 a2 a3 a4 a5 a6 w H)
theorem TL_Loc_cheapestSaws_78 {sc : Option (Nat × (Nat → Int32))} {D : Nat} {o : Int32 × am_W} : ∀ (n : Nat) (a1 : Int32) (a2 : Int32) (a3 : Int32) (a4 : Int32) (a5 : Int32) (a6 : Int32) (w : am_W) , L_Loc_cheapestSaws_78 n a1 a2 a3 a4 a5 a6 w = some o → am_gi sc (D + 5) 70 o (78, [(0, .ref 0), (1, .int a1), (2, .int a2), (3, .int a3), (4, .int a4), (5, .int a5), (6, .int a6)], [], ww w, 0, 0)
  | 0, _, _, _, _, _, _, _, H => by cases H
  | n + 1, a1, a2, a3, a4, a5, a6, w, H => T_Loc_cheapestSaws_78 (TL_Loc_cheapestSaws_78 n) a1 a2 a3 a4 a5 a6 w H
theorem T_Loc_cheapestSaws_61 {sc : Option (Nat × (Nat → Int32))} {D : Nat} {o : Int32 × am_W} {r5 : Int32 → Int32 → Int32 → Int32 → am_W → Option (Int32 × am_W)} (Hr5 : ∀ (a1 : Int32) (a2 : Int32) (a3 : Int32) (a4 : Int32) (w : am_W) , r5 a1 a2 a3 a4 w = some o → am_gi sc (D + 5) 70 o (5, [(0, .ref 0), (1, .int a1), (2, .int a2), (3, .int a3), (4, .int a4)], [], ww w, 0, 0)) (a1 : Int32) (a2 : Int32) (a4 : Int32) (s0 : Int32) (s1 : Int32) (w : am_W) (H : F_Loc_cheapestSaws_61 r5 a1 a2 a4 s0 s1 w = some o) : am_gi sc (D + 5) 70 o (61, [(0, .ref 0), (1, .int a1), (2, .int a2), (4, .int a4)], [.int s0, .int s1], ww w, 0, 0) := by
  unfold F_Loc_cheapestSaws_61 at H
  exact am_go_blk 4 (Hr5 a1 a2 (s1 ||| s0) (a4 + (nI 1)) w H)
theorem T_Loc_cheapestSaws_5 {sc : Option (Nat × (Nat → Int32))} {D : Nat} {o : Int32 × am_W} {r5 : Int32 → Int32 → Int32 → Int32 → am_W → Option (Int32 × am_W)} (Hr5 : ∀ (a1 : Int32) (a2 : Int32) (a3 : Int32) (a4 : Int32) (w : am_W) , r5 a1 a2 a3 a4 w = some o → am_gi sc (D + 5) 70 o (5, [(0, .ref 0), (1, .int a1), (2, .int a2), (3, .int a3), (4, .int a4)], [], ww w, 0, 0)) (a1 : Int32) (a2 : Int32) (a3 : Int32) (a4 : Int32) (w : am_W) (H : F_Loc_cheapestSaws_5 r5 a1 a2 a3 a4 w = some o) : am_gi sc (D + 5) 70 o (5, [(0, .ref 0), (1, .int a1), (2, .int a2), (3, .int a3), (4, .int a4)], [], ww w, 0, 0) := by
  unfold F_Loc_cheapestSaws_5 at H
  refine am_go_blk 5 ⟨fun hc => ?_, fun hc => ?_⟩
  · have H := am_it hc H
    show am_gi sc (D + 5) 70 o (69, [(0, .ref 0), (1, .int a1), (2, .int a2), (3, .int a3)], [], ww w, 0, 0)
    exact am_go_blk 6 (TL_Loc_cheapestSaws_78 am_NF a1 a2 a3 (-nI 1) (-nI 1) (nI 0) w H)
  · have H := am_ie hc H
    show am_gi sc (D + 5) 70 o (17, [(0, .ref 0), (1, .int a1), (2, .int a2), (3, .int a3), (4, .int a4)], [], ww w, 0, 0)
    obtain ⟨q3, hqq3, H⟩ := am_bnE H
    refine am_go_blk 9 (?_ : am_gi sc (D + 5) 70 o (36, [(0, .ref 0), (1, .int a1), (2, .int a2), (3, .int a3), (4, .int a4)], [.int a4, .int (w.1 17 2), .ref 17, .int a4, .ref 44], ww w, 0, 0))
    refine am_invd rfl rfl rfl rfl (am_calli rfl (M_Law_sawing (D := D) hqq3) (?_ : am_gi sc (D + 5) 70 o (39, [(0, .ref 0), (1, .int a1), (2, .int a2), (3, .int a3), (4, .int a4)], [.int q3.1, .int a4, .ref 44], ww q3.2, 0, 0)))
    obtain ⟨hc, H⟩ := am_ckE H
    obtain ⟨w4, ew4, H⟩ := am_ltE H
    refine am_go_blk 1 ⟨am_inv hc, am_hp (ww_s44 ew4) (?_ : am_gi sc (D + 5) 70 o (40, [(0, .ref 0), (1, .int a1), (2, .int a2), (3, .int a3), (4, .int a4)], [], ww w4, 0, 0))⟩
    obtain ⟨q5, hqq5, H⟩ := am_bnE H
    refine am_go_blk 4 (?_ : am_gi sc (D + 5) 70 o (47, [(0, .ref 0), (1, .int a1), (2, .int a2), (3, .int a3), (4, .int a4)], [.int a4, .ref 1, .int a3], ww w4, 0, 0))
    refine am_invd rfl rfl rfl rfl (am_calli rfl (M_Rail_isShut (D := D + 3) hqq5) (?_ : am_gi sc (D + 5) 70 o (50, [(0, .ref 0), (1, .int a1), (2, .int a2), (3, .int a3), (4, .int a4)], [.int q5.1, .int a3], ww q5.2, 0, 0)))
    refine am_go_blk 1 ⟨fun hc => ?_, fun hc => ?_⟩
    · have H := am_it hc H
      show am_gi sc (D + 5) 70 o (60, [(0, .ref 0), (1, .int a1), (2, .int a2), (4, .int a4)], [.int a3], ww q5.2, 0, 0)
      exact am_go_blk 1 (T_Loc_cheapestSaws_61 Hr5 a1 a2 a4 (nI 0) a3 q5.2 H)
    · have H := am_ie hc H
      show am_gi sc (D + 5) 70 o (53, [(0, .ref 0), (1, .int a1), (2, .int a2), (3, .int a3), (4, .int a4)], [.int a3], ww q5.2, 0, 0)
      exact am_go_blk 4 (T_Loc_cheapestSaws_61 Hr5 a1 a2 a4 ((nI 1) <<< (a4 &&& 31)) a3 q5.2 H)
theorem TL_Loc_cheapestSaws_5 {sc : Option (Nat × (Nat → Int32))} {D : Nat} {o : Int32 × am_W} : ∀ (n : Nat) (a1 : Int32) (a2 : Int32) (a3 : Int32) (a4 : Int32) (w : am_W) , L_Loc_cheapestSaws_5 n a1 a2 a3 a4 w = some o → am_gi sc (D + 5) 70 o (5, [(0, .ref 0), (1, .int a1), (2, .int a2), (3, .int a3), (4, .int a4)], [], ww w, 0, 0)
  | 0, _, _, _, _, _, H => by cases H
  | n + 1, a1, a2, a3, a4, w, H => T_Loc_cheapestSaws_5 (TL_Loc_cheapestSaws_5 n) a1 a2 a3 a4 w H
theorem T_Loc_cheapestSaws {sc : Option (Nat × (Nat → Int32))} {D : Nat} {o : Int32 × am_W} (a1 : Int32) (a2 : Int32) (w : am_W) (H : F_Loc_cheapestSaws a1 a2 w = some o) : am_gi sc (D + 5) 70 o (0, [(0, .ref 0), (1, .int a1), (2, .int a2)], [], ww w, 0, 0) := by
  unfold F_Loc_cheapestSaws at H
  exact am_go_blk 4 (TL_Loc_cheapestSaws_5 am_NF a1 a2 (nI 0) (nI 0) w H)
theorem M_Loc_cheapestSaws {sc : Option (Nat × (Nat → Int32))} {D : Nat} {o : Int32 × am_W} {a1 : Int32} {a2 : Int32} {w : am_W} (H : F_Loc_cheapestSaws a1 a2 w = some o) : am_run sc (D + 6) 70 [.ref 0, .int a1, .int a2] (ww w) (some (.int o.1)) (ww o.2) 0 0 :=
  am_run_of rfl (T_Loc_cheapestSaws a1 a2 w H)
def F_Loc_sawFor_34 (s0 : Int32) (w : am_W) : Option (Int32 × am_W) :=
  some (s0, w)
def F_Loc_sawFor (a1 : Int32) (a2 : Int32) (w : am_W) : Option (Int32 × am_W) :=
  (F_Rail_isThing a1 w).bind fun q1 => if q1.1 = 0 then (some ((-nI 5), q1.2)) else ((F_Loc_isEither a2 q1.2).bind fun q2 => if q2.1 = 0 then (F_Loc_sawFor_34 (-nI 7) q2.2) else ((F_Loc_cheapestSaws ((nI 1) <<< (a1 &&& 31)) a2 q2.2).bind fun q3 => F_Loc_sawFor_34 q3.1 q3.2))
theorem T_Loc_sawFor_34 {sc : Option (Nat × (Nat → Int32))} {D : Nat} {o : Int32 × am_W} (s0 : Int32) (w : am_W) (H : F_Loc_sawFor_34 s0 w = some o) : am_gi sc (D + 6) 63 o (34, [], [.int s0], ww w, 0, 0) := by
  unfold F_Loc_sawFor_34 at H
  exact am_go_blk 1 ⟨rfl, am_fi H⟩
theorem T_Loc_sawFor {sc : Option (Nat × (Nat → Int32))} {D : Nat} {o : Int32 × am_W} (a1 : Int32) (a2 : Int32) (w : am_W) (H : F_Loc_sawFor a1 a2 w = some o) : am_gi sc (D + 6) 63 o (0, [(0, .ref 0), (1, .int a1), (2, .int a2)], [], ww w, 0, 0) := by
  unfold F_Loc_sawFor at H
  obtain ⟨q1, hqq1, H⟩ := am_bnE H
  refine am_go_blk 3 (?_ : am_gi sc (D + 6) 63 o (5, [(0, .ref 0), (1, .int a1), (2, .int a2)], [.int a1, .ref 1], ww w, 0, 0))
  refine am_invd rfl rfl rfl rfl (am_calli rfl (M_Rail_isThing (D := D + 5) hqq1) (?_ : am_gi sc (D + 6) 63 o (8, [(0, .ref 0), (1, .int a1), (2, .int a2)], [.int q1.1], ww q1.2, 0, 0)))
  refine am_go_blk 1 ⟨fun hc => ?_, fun hc => ?_⟩
  · have H := am_ie hc H
    show am_gi sc (D + 6) 63 o (14, [(0, .ref 0), (1, .int a1), (2, .int a2)], [], ww q1.2, 0, 0)
    obtain ⟨q2, hqq2, H⟩ := am_bnE H
    refine am_go_blk 1 (?_ : am_gi sc (D + 6) 63 o (15, [(0, .ref 0), (1, .int a1), (2, .int a2)], [.int a2], ww q1.2, 0, 0))
    refine am_cls rfl rfl rfl (am_calli rfl (M_Loc_isEither (D := D + 5) hqq2) (?_ : am_gi sc (D + 6) 63 o (18, [(0, .ref 0), (1, .int a1), (2, .int a2)], [.int q2.1], ww q2.2, 0, 0)))
    refine am_go_blk 1 ⟨fun hc => ?_, fun hc => ?_⟩
    · have H := am_it hc H
      show am_gi sc (D + 6) 63 o (32, [], [], ww q2.2, 0, 0)
      exact am_go_blk 1 (T_Loc_sawFor_34 (-nI 7) q2.2 H)
    · have H := am_ie hc H
      show am_gi sc (D + 6) 63 o (21, [(0, .ref 0), (1, .int a1), (2, .int a2)], [], ww q2.2, 0, 0)
      obtain ⟨q3, hqq3, H⟩ := am_bnE H
      refine am_go_blk 5 (?_ : am_gi sc (D + 6) 63 o (26, [(0, .ref 0), (1, .int a1), (2, .int a2)], [.int a2, .int ((nI 1) <<< (a1 &&& 31)), .ref 0], ww q2.2, 0, 0))
      refine am_invd rfl rfl rfl rfl (am_calli rfl (M_Loc_cheapestSaws (D := D) hqq3) (?_ : am_gi sc (D + 6) 63 o (29, [(0, .ref 0), (1, .int a1), (2, .int a2)], [.int q3.1], ww q3.2, 0, 0)))
      exact am_go_blk 1 (T_Loc_sawFor_34 q3.1 q3.2 H)
  · have H := am_it hc H
    show am_gi sc (D + 6) 63 o (11, [(0, .ref 0), (1, .int a1), (2, .int a2)], [], ww q1.2, 0, 0)
    exact am_go_blk 2 ⟨rfl, am_fi H⟩
theorem M_Loc_sawFor {sc : Option (Nat × (Nat → Int32))} {D : Nat} {o : Int32 × am_W} {a1 : Int32} {a2 : Int32} {w : am_W} (H : F_Loc_sawFor a1 a2 w = some o) : am_run sc (D + 7) 63 [.ref 0, .int a1, .int a2] (ww w) (some (.int o.1)) (ww o.2) 0 0 :=
  am_run_of rfl (T_Loc_sawFor a1 a2 w H)
