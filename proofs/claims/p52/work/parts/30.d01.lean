/-! ===== the methods as functions, and that each does what its function says: Loc_isHour .. Law_says ===== -/
def F_Loc_isHour_15 (s0 : Int32) (w : am_W) : Option (Int32 × am_W) :=
  am_ck (am_bo s0) (some (s0, w))
def F_Loc_isHour_14 (w : am_W) : Option (Int32 × am_W) :=
  F_Loc_isHour_15 (nI 0) w
def F_Loc_isHour (a0 : Int32) (w : am_W) : Option (Int32 × am_W) :=
  if a0 < 0 then (F_Loc_isHour_14 w) else (if (nI 24) ≤ a0 then (F_Loc_isHour_14 w) else (F_Loc_isHour_15 (nI 1) w))
theorem T_Loc_isHour_15 {sc : Option (Nat × (Nat → Int32))} {D : Nat} {o : Int32 × am_W} (s0 : Int32) (w : am_W) (H : F_Loc_isHour_15 s0 w = some o) : am_gi sc D 67 o (15, [], [.int s0], ww w, 0, 0) := by
  unfold F_Loc_isHour_15 at H
  obtain ⟨hc, H⟩ := am_ckE H
  exact am_go_blk 1 ⟨am_boE hc, am_fi H⟩
theorem T_Loc_isHour_14 {sc : Option (Nat × (Nat → Int32))} {D : Nat} {o : Int32 × am_W} (w : am_W) (H : F_Loc_isHour_14 w = some o) : am_gi sc D 67 o (14, [], [], ww w, 0, 0) := by
  unfold F_Loc_isHour_14 at H
  exact am_go_blk 1 (T_Loc_isHour_15 (nI 0) w H)
theorem T_Loc_isHour {sc : Option (Nat × (Nat → Int32))} {D : Nat} {o : Int32 × am_W} (a0 : Int32) (w : am_W) (H : F_Loc_isHour a0 w = some o) : am_gi sc D 67 o (0, [(0, .int a0)], [], ww w, 0, 0) := by
  unfold F_Loc_isHour at H
  refine am_go_blk 2 ⟨fun hc => ?_, fun hc => ?_⟩
  · have H := am_it hc H
    exact T_Loc_isHour_14 w H
  · have H := am_ie hc H
    show am_gi sc D 67 o (4, [(0, .int a0)], [], ww w, 0, 0)
    refine am_go_blk 3 ⟨fun hc => ?_, fun hc => ?_⟩
    · have H := am_it hc H
      exact T_Loc_isHour_14 w H
    · have H := am_ie hc H
      show am_gi sc D 67 o (10, [(0, .int a0)], [], ww w, 0, 0)
      exact am_go_blk 2 (T_Loc_isHour_15 (nI 1) w H)
theorem M_Loc_isHour {sc : Option (Nat × (Nat → Int32))} {D : Nat} {o : Int32 × am_W} {a0 : Int32} {w : am_W} (H : F_Loc_isHour a0 w = some o) : am_run sc (D + 1) 67 [.int a0] (ww w) (some (.int o.1)) (ww o.2) 0 0 :=
  am_run_of rfl (T_Loc_isHour a0 w H)
def F_Kinds_goesIn_49 (s0 : Int32) (w : am_W) : Option (Int32 × am_W) :=
  am_ck (am_bo s0) (some (s0, w))
def F_Kinds_goesIn_48 (w : am_W) : Option (Int32 × am_W) :=
  F_Kinds_goesIn_49 (nI 0) w
def F_Kinds_goesIn (a0 : Int32) (a1 : Int32) (a2 : Int32) (w : am_W) : Option (Int32 × am_W) :=
  if a0.toInt = 3 then (if a2 < (nI 6) then (F_Kinds_goesIn_48 w) else (if ((nI 6) + ((nI 2) * a1)) < a2 then (F_Kinds_goesIn_48 w) else (F_Kinds_goesIn_49 (nI 1) w))) else if a0.toInt = 5 then (some ((nI 0), w)) else (some ((nI 1), w))
theorem T_Kinds_goesIn_49 {sc : Option (Nat × (Nat → Int32))} {D : Nat} {o : Int32 × am_W} (s0 : Int32) (w : am_W) (H : F_Kinds_goesIn_49 s0 w = some o) : am_gi sc D 2 o (49, [], [.int s0], ww w, 0, 0) := by
  unfold F_Kinds_goesIn_49 at H
  obtain ⟨hc, H⟩ := am_ckE H
  exact am_go_blk 1 ⟨am_boE hc, am_fi H⟩
theorem T_Kinds_goesIn_48 {sc : Option (Nat × (Nat → Int32))} {D : Nat} {o : Int32 × am_W} (w : am_W) (H : F_Kinds_goesIn_48 w = some o) : am_gi sc D 2 o (48, [], [], ww w, 0, 0) := by
  unfold F_Kinds_goesIn_48 at H
  exact am_go_blk 1 (T_Kinds_goesIn_49 (nI 0) w H)
theorem T_Kinds_goesIn {sc : Option (Nat × (Nat → Int32))} {D : Nat} {o : Int32 × am_W} (a0 : Int32) (a1 : Int32) (a2 : Int32) (w : am_W) (H : F_Kinds_goesIn a0 a1 a2 w = some o) : am_gi sc D 2 o (0, [(0, .int a0), (1, .int a1), (2, .int a2)], [], ww w, 0, 0) := by
  unfold F_Kinds_goesIn at H
  refine am_go_blk 2 ⟨fun hc => ?_, fun hc => ?_⟩
  · have H := am_it hc H
    show am_gi sc D 2 o (28, [(1, .int a1), (2, .int a2)], [], ww w, 0, 0)
    refine am_go_blk 3 ⟨fun hc => ?_, fun hc => ?_⟩
    · have H := am_it hc H
      exact T_Kinds_goesIn_48 w H
    · have H := am_ie hc H
      show am_gi sc D 2 o (34, [(1, .int a1), (2, .int a2)], [], ww w, 0, 0)
      refine am_go_blk 7 ⟨fun hc => ?_, fun hc => ?_⟩
      · have H := am_it hc H
        exact T_Kinds_goesIn_48 w H
      · have H := am_ie hc H
        show am_gi sc D 2 o (44, [(1, .int a1), (2, .int a2)], [], ww w, 0, 0)
        exact am_go_blk 2 (T_Kinds_goesIn_49 (nI 1) w H)
  have H := am_ie hc H
  refine ⟨fun hc => ?_, fun hc => ?_⟩
  · have H := am_it hc H
    show am_gi sc D 2 o (50, [], [], ww w, 0, 0)
    exact am_go_blk 2 ⟨rfl, am_fi H⟩
  have H := am_ie hc H
  show am_gi sc D 2 o (52, [], [], ww w, 0, 0)
  exact am_go_blk 2 ⟨rfl, am_fi H⟩
theorem M_Kinds_goesIn {sc : Option (Nat × (Nat → Int32))} {D : Nat} {o : Int32 × am_W} {a0 : Int32} {a1 : Int32} {a2 : Int32} {w : am_W} (H : F_Kinds_goesIn a0 a1 a2 w = some o) : am_run sc (D + 1) 2 [.int a0, .int a1, .int a2] (ww w) (some (.int o.1)) (ww o.2) 0 0 :=
  am_run_of rfl (T_Kinds_goesIn a0 a1 a2 w H)
def F_Kinds_everGoes_2 (r2 : Int32 → Int32 → Int32 → am_W → Option (Int32 × am_W)) (a0 : Int32) (a1 : Int32) (a2 : Int32) (w : am_W) : Option (Int32 × am_W) :=
  if (nI 24) ≤ a2 then (some ((nI 0), w)) else ((F_Kinds_goesIn a0 a1 a2 w).bind fun q1 => if q1.1 = 0 then (r2 a0 a1 (a2 + (nI 1)) q1.2) else (some ((nI 1), q1.2)))
def L_Kinds_everGoes_2 : Nat → Int32 → Int32 → Int32 → am_W → Option (Int32 × am_W)
  | 0, _, _, _, _ => none
  | n + 1, a0, a1, a2, w => F_Kinds_everGoes_2 (L_Kinds_everGoes_2 n) a0 a1 a2 w
def F_Kinds_everGoes (a0 : Int32) (a1 : Int32) (w : am_W) : Option (Int32 × am_W) :=
  L_Kinds_everGoes_2 am_NF a0 a1 (nI 0) w
theorem T_Kinds_everGoes_2 {sc : Option (Nat × (Nat → Int32))} {D : Nat} {o : Int32 × am_W} {r2 : Int32 → Int32 → Int32 → am_W → Option (Int32 × am_W)} (Hr2 : ∀ (a0 : Int32) (a1 : Int32) (a2 : Int32) (w : am_W) , r2 a0 a1 a2 w = some o → am_gi sc (D + 1) 3 o (2, [(0, .int a0), (1, .int a1), (2, .int a2)], [], ww w, 0, 0)) (a0 : Int32) (a1 : Int32) (a2 : Int32) (w : am_W) (H : F_Kinds_everGoes_2 r2 a0 a1 a2 w = some o) : am_gi sc (D + 1) 3 o (2, [(0, .int a0), (1, .int a1), (2, .int a2)], [], ww w, 0, 0) := by
  unfold F_Kinds_everGoes_2 at H
  refine am_go_blk 3 ⟨fun hc => ?_, fun hc => ?_⟩
  · have H := am_it hc H
    show am_gi sc (D + 1) 3 o (25, [], [], ww w, 0, 0)
    exact am_go_blk 2 ⟨rfl, am_fi H⟩
  · have H := am_ie hc H
    show am_gi sc (D + 1) 3 o (8, [(0, .int a0), (1, .int a1), (2, .int a2)], [], ww w, 0, 0)
    obtain ⟨q1, hqq1, H⟩ := am_bnE H
    refine am_go_blk 3 (?_ : am_gi sc (D + 1) 3 o (11, [(0, .int a0), (1, .int a1), (2, .int a2)], [.int a2, .int a1, .int a0], ww w, 0, 0))
    refine am_cls rfl rfl rfl (am_calli rfl (M_Kinds_goesIn (D := D) hqq1) (?_ : am_gi sc (D + 1) 3 o (14, [(0, .int a0), (1, .int a1), (2, .int a2)], [.int q1.1], ww q1.2, 0, 0)))
    refine am_go_blk 1 ⟨fun hc => ?_, fun hc => ?_⟩
    · have H := am_it hc H
      show am_gi sc (D + 1) 3 o (19, [(0, .int a0), (1, .int a1), (2, .int a2)], [], ww q1.2, 0, 0)
      exact am_go_blk 2 (Hr2 a0 a1 (a2 + (nI 1)) q1.2 H)
    · have H := am_ie hc H
      show am_gi sc (D + 1) 3 o (17, [(0, .int a0), (1, .int a1), (2, .int a2)], [], ww q1.2, 0, 0)
      exact am_go_blk 2 ⟨rfl, am_fi H⟩
theorem TL_Kinds_everGoes_2 {sc : Option (Nat × (Nat → Int32))} {D : Nat} {o : Int32 × am_W} : ∀ (n : Nat) (a0 : Int32) (a1 : Int32) (a2 : Int32) (w : am_W) , L_Kinds_everGoes_2 n a0 a1 a2 w = some o → am_gi sc (D + 1) 3 o (2, [(0, .int a0), (1, .int a1), (2, .int a2)], [], ww w, 0, 0)
  | 0, _, _, _, _, H => by cases H
  | n + 1, a0, a1, a2, w, H => T_Kinds_everGoes_2 (TL_Kinds_everGoes_2 n) a0 a1 a2 w H
theorem T_Kinds_everGoes {sc : Option (Nat × (Nat → Int32))} {D : Nat} {o : Int32 × am_W} (a0 : Int32) (a1 : Int32) (w : am_W) (H : F_Kinds_everGoes a0 a1 w = some o) : am_gi sc (D + 1) 3 o (0, [(0, .int a0), (1, .int a1)], [], ww w, 0, 0) := by
  unfold F_Kinds_everGoes at H
  exact am_go_blk 2 (TL_Kinds_everGoes_2 am_NF a0 a1 (nI 0) w H)
theorem M_Kinds_everGoes {sc : Option (Nat × (Nat → Int32))} {D : Nat} {o : Int32 × am_W} {a0 : Int32} {a1 : Int32} {w : am_W} (H : F_Kinds_everGoes a0 a1 w = some o) : am_run sc (D + 2) 3 [.int a0, .int a1] (ww w) (some (.int o.1)) (ww o.2) 0 0 :=
  am_run_of rfl (T_Kinds_everGoes a0 a1 w H)
def F_Loc_has_13 (s0 : Int32) (w : am_W) : Option (Int32 × am_W) :=
  am_ck (am_bo s0) (some (s0, w))
def F_Loc_has (a0 : Int32) (a1 : Int32) (w : am_W) : Option (Int32 × am_W) :=
  if ((a0 >>> (a1 &&& 31)) &&& (nI 1)) = 0 then (F_Loc_has_13 (nI 0) w) else (F_Loc_has_13 (nI 1) w)
theorem T_Loc_has_13 {sc : Option (Nat × (Nat → Int32))} {D : Nat} {o : Int32 × am_W} (s0 : Int32) (w : am_W) (H : F_Loc_has_13 s0 w = some o) : am_gi sc D 64 o (13, [], [.int s0], ww w, 0, 0) := by
  unfold F_Loc_has_13 at H
  obtain ⟨hc, H⟩ := am_ckE H
  exact am_go_blk 1 ⟨am_boE hc, am_fi H⟩
theorem T_Loc_has {sc : Option (Nat × (Nat → Int32))} {D : Nat} {o : Int32 × am_W} (a0 : Int32) (a1 : Int32) (w : am_W) (H : F_Loc_has a0 a1 w = some o) : am_gi sc D 64 o (0, [(0, .int a0), (1, .int a1)], [], ww w, 0, 0) := by
  unfold F_Loc_has at H
  refine am_go_blk 6 ⟨fun hc => ?_, fun hc => ?_⟩
  · have H := am_it hc H
    show am_gi sc D 64 o (12, [], [], ww w, 0, 0)
    exact am_go_blk 1 (T_Loc_has_13 (nI 0) w H)
  · have H := am_ie hc H
    show am_gi sc D 64 o (8, [(0, .int a0), (1, .int a1)], [], ww w, 0, 0)
    exact am_go_blk 2 (T_Loc_has_13 (nI 1) w H)
theorem M_Loc_has {sc : Option (Nat × (Nat → Int32))} {D : Nat} {o : Int32 × am_W} {a0 : Int32} {a1 : Int32} {w : am_W} (H : F_Loc_has a0 a1 w = some o) : am_run sc (D + 1) 64 [.int a0, .int a1] (ww w) (some (.int o.1)) (ww o.2) 0 0 :=
  am_run_of rfl (T_Loc_has a0 a1 w H)
def F_Kinds_isHeld_37 (s0 : Int32) (w : am_W) : Option (Int32 × am_W) :=
  am_ck (am_bo s0) (some (s0, w))
def F_Kinds_isHeld_54 (s0 : Int32) (w : am_W) : Option (Int32 × am_W) :=
  am_ck (am_bo s0) (some (s0, w))
def F_Kinds_isHeld_53 (w : am_W) : Option (Int32 × am_W) :=
  F_Kinds_isHeld_54 (nI 0) w
def F_Kinds_isHeld (a0 : Int32) (a1 : Int32) (a2 : Int32) (w : am_W) : Option (Int32 × am_W) :=
  if a0.toInt = 2 then (if a2 = 0 then (F_Kinds_isHeld_37 (nI 0) w) else (F_Kinds_isHeld_37 (nI 1) w)) else if a0.toInt = 4 then (if a2 = 0 then (F_Kinds_isHeld_53 w) else (if ((nI 3) * a2) ≤ a1 then (F_Kinds_isHeld_53 w) else (F_Kinds_isHeld_54 (nI 1) w))) else (some ((nI 1), w))
theorem T_Kinds_isHeld_37 {sc : Option (Nat × (Nat → Int32))} {D : Nat} {o : Int32 × am_W} (s0 : Int32) (w : am_W) (H : F_Kinds_isHeld_37 s0 w = some o) : am_gi sc D 1 o (37, [], [.int s0], ww w, 0, 0) := by
  unfold F_Kinds_isHeld_37 at H
  obtain ⟨hc, H⟩ := am_ckE H
  exact am_go_blk 1 ⟨am_boE hc, am_fi H⟩
theorem T_Kinds_isHeld_54 {sc : Option (Nat × (Nat → Int32))} {D : Nat} {o : Int32 × am_W} (s0 : Int32) (w : am_W) (H : F_Kinds_isHeld_54 s0 w = some o) : am_gi sc D 1 o (54, [], [.int s0], ww w, 0, 0) := by
  unfold F_Kinds_isHeld_54 at H
  obtain ⟨hc, H⟩ := am_ckE H
  exact am_go_blk 1 ⟨am_boE hc, am_fi H⟩
theorem T_Kinds_isHeld_53 {sc : Option (Nat × (Nat → Int32))} {D : Nat} {o : Int32 × am_W} (w : am_W) (H : F_Kinds_isHeld_53 w = some o) : am_gi sc D 1 o (53, [], [], ww w, 0, 0) := by
  unfold F_Kinds_isHeld_53 at H
  exact am_go_blk 1 (T_Kinds_isHeld_54 (nI 0) w H)
theorem T_Kinds_isHeld {sc : Option (Nat × (Nat → Int32))} {D : Nat} {o : Int32 × am_W} (a0 : Int32) (a1 : Int32) (a2 : Int32) (w : am_W) (H : F_Kinds_isHeld a0 a1 a2 w = some o) : am_gi sc D 1 o (0, [(0, .int a0), (1, .int a1), (2, .int a2)], [], ww w, 0, 0) := by
  unfold F_Kinds_isHeld at H
  refine am_go_blk 2 ⟨fun hc => ?_, fun hc => ?_⟩
  · have H := am_it hc H
    show am_gi sc D 1 o (28, [(2, .int a2)], [], ww w, 0, 0)
    refine am_go_blk 2 ⟨fun hc => ?_, fun hc => ?_⟩
    · have H := am_it hc H
      show am_gi sc D 1 o (36, [], [], ww w, 0, 0)
      exact am_go_blk 1 (T_Kinds_isHeld_37 (nI 0) w H)
    · have H := am_ie hc H
      show am_gi sc D 1 o (32, [(2, .int a2)], [], ww w, 0, 0)
      exact am_go_blk 2 (T_Kinds_isHeld_37 (nI 1) w H)
  have H := am_ie hc H
  refine ⟨fun hc => ?_, fun hc => ?_⟩
  · have H := am_it hc H
    show am_gi sc D 1 o (38, [(1, .int a1), (2, .int a2)], [], ww w, 0, 0)
    refine am_go_blk 2 ⟨fun hc => ?_, fun hc => ?_⟩
    · have H := am_it hc H
      exact T_Kinds_isHeld_53 w H
    · have H := am_ie hc H
      show am_gi sc D 1 o (42, [(1, .int a1), (2, .int a2)], [], ww w, 0, 0)
      refine am_go_blk 5 ⟨fun hc => ?_, fun hc => ?_⟩
      · have H := am_it hc H
        exact T_Kinds_isHeld_53 w H
      · have H := am_ie hc H
        show am_gi sc D 1 o (49, [(1, .int a1), (2, .int a2)], [], ww w, 0, 0)
        exact am_go_blk 2 (T_Kinds_isHeld_54 (nI 1) w H)
  have H := am_ie hc H
  show am_gi sc D 1 o (55, [], [], ww w, 0, 0)
  exact am_go_blk 2 ⟨rfl, am_fi H⟩
theorem M_Kinds_isHeld {sc : Option (Nat × (Nat → Int32))} {D : Nat} {o : Int32 × am_W} {a0 : Int32} {a1 : Int32} {a2 : Int32} {w : am_W} (H : F_Kinds_isHeld a0 a1 a2 w = some o) : am_run sc (D + 1) 1 [.int a0, .int a1, .int a2] (ww w) (some (.int o.1)) (ww o.2) 0 0 :=
  am_run_of rfl (T_Kinds_isHeld a0 a1 a2 w H)
def F_Rail_regrip_55 (r4 : Int32 → Int32 → Int32 → am_W → Option (am_W)) (a1 : Int32) (a2 : Int32) (a3 : Int32) (w : am_W) : Option (am_W) :=
  r4 a1 a2 (a3 + (nI 1)) w
def F_Rail_regrip_4 (r4 : Int32 → Int32 → Int32 → am_W → Option (am_W)) (a1 : Int32) (a2 : Int32) (a3 : Int32) (w : am_W) : Option (am_W) :=
  if (w.1 1 0) ≤ a3 then (am_ck (am_in a1 10) (am_lt (wst w 8 a1 a2) fun w1 => some w1)) else (am_ck (am_in a1 10) ((F_Loc_has (w.1 7 a1.toNatClampNeg) a3 w).bind fun q2 => if q2.1 = 0 then (F_Rail_regrip_55 r4 a1 a2 a3 q2.2) else (am_ck (am_in a3 8) (am_ck (am_in a3 8) (am_ck (am_in a1 10) ((F_Kinds_isHeld (q2.2.1 2 a3.toNatClampNeg) (q2.2.1 3 a3.toNatClampNeg) (q2.2.1 6 a1.toNatClampNeg) q2.2).bind fun q3 => if q3.1 = 0 then (F_Rail_regrip_55 r4 a1 a2 a3 q3.2) else (F_Rail_regrip_55 r4 a1 (a2 ||| ((nI 1) <<< (a3 &&& 31))) a3 q3.2)))))))
def L_Rail_regrip_4 : Nat → Int32 → Int32 → Int32 → am_W → Option (am_W)
  | 0, _, _, _, _ => none
  | n + 1, a1, a2, a3, w => F_Rail_regrip_4 (L_Rail_regrip_4 n) a1 a2 a3 w
def F_Rail_regrip (a1 : Int32) (w : am_W) : Option (am_W) :=
  L_Rail_regrip_4 am_NF a1 (nI 0) (nI 0) w
theorem T_Rail_regrip_55 {sc : Option (Nat × (Nat → Int32))} {D : Nat} {o : am_W} {r4 : Int32 → Int32 → Int32 → am_W → Option (am_W)} (Hr4 : ∀ (a1 : Int32) (a2 : Int32) (a3 : Int32) (w : am_W) , r4 a1 a2 a3 w = some o → am_gv sc (D + 1) 26 o (4, [(0, .ref 1), (1, .int a1), (2, .int a2), (3, .int a3)], [], ww w, 0, 0)) (a1 : Int32) (a2 : Int32) (a3 : Int32) (w : am_W) (H : F_Rail_regrip_55 r4 a1 a2 a3 w = some o) : am_gv sc (D + 1) 26 o (55, [(0, .ref 1), (1, .int a1), (2, .int a2), (3, .int a3)], [], ww w, 0, 0) := by
  unfold F_Rail_regrip_55 at H
  exact am_go_blk 2 (Hr4 a1 a2 (a3 + (nI 1)) w H)
theorem T_Rail_regrip_4 {sc : Option (Nat × (Nat → Int32))} {D : Nat} {o : am_W} {r4 : Int32 → Int32 → Int32 → am_W → Option (am_W)} (Hr4 : ∀ (a1 : Int32) (a2 : Int32) (a3 : Int32) (w : am_W) , r4 a1 a2 a3 w = some o → am_gv sc (D + 1) 26 o (4, [(0, .ref 1), (1, .int a1), (2, .int a2), (3, .int a3)], [], ww w, 0, 0)) (a1 : Int32) (a2 : Int32) (a3 : Int32) (w : am_W) (H : F_Rail_regrip_4 r4 a1 a2 a3 w = some o) : am_gv sc (D + 1) 26 o (4, [(0, .ref 1), (1, .int a1), (2, .int a2), (3, .int a3)], [], ww w, 0, 0) := by
  unfold F_Rail_regrip_4 at H
  refine am_go_blk 4 ⟨fun hc => ?_, fun hc => ?_⟩
  · have H := am_it hc H
    show am_gv sc (D + 1) 26 o (61, [(0, .ref 1), (1, .int a1), (2, .int a2)], [], ww w, 0, 0)
    obtain ⟨hc, H⟩ := am_ckE H
    obtain ⟨w1, ew1, H⟩ := am_ltE H
    refine am_go_blk 5 ⟨am_inv hc, am_hp (ww_s8 ew1) (?_ : am_gv sc (D + 1) 26 o (68, [(0, .ref 1), (1, .int a1), (2, .int a2)], [], ww w1, 0, 0))⟩
    exact am_go_blk 1 (am_fv H)
  · have H := am_ie hc H
    show am_gv sc (D + 1) 26 o (12, [(0, .ref 1), (1, .int a1), (2, .int a2), (3, .int a3)], [], ww w, 0, 0)
    obtain ⟨hc, H⟩ := am_ckE H
    refine am_go_blk 4 ⟨am_inv hc, (?_ : am_gv sc (D + 1) 26 o (18, [(0, .ref 1), (1, .int a1), (2, .int a2), (3, .int a3)], [.int (w.1 7 a1.toNatClampNeg)], ww w, 0, 0))⟩
    obtain ⟨q2, hqq2, H⟩ := am_bnE H
    refine am_go_blk 1 (?_ : am_gv sc (D + 1) 26 o (19, [(0, .ref 1), (1, .int a1), (2, .int a2), (3, .int a3)], [.int a3, .int (w.1 7 a1.toNatClampNeg)], ww w, 0, 0))
    refine am_cls rfl rfl rfl (am_calli rfl (M_Loc_has (D := D) hqq2) (?_ : am_gv sc (D + 1) 26 o (22, [(0, .ref 1), (1, .int a1), (2, .int a2), (3, .int a3)], [.int q2.1], ww q2.2, 0, 0)))
    refine am_go_blk 1 ⟨fun hc => ?_, fun hc => ?_⟩
    · have H := am_it hc H
      exact T_Rail_regrip_55 Hr4 a1 a2 a3 q2.2 H
    · have H := am_ie hc H
      show am_gv sc (D + 1) 26 o (25, [(0, .ref 1), (1, .int a1), (2, .int a2), (3, .int a3)], [], ww q2.2, 0, 0)
      obtain ⟨hc, H⟩ := am_ckE H
      refine am_go_blk 4 ⟨am_inv hc, (?_ : am_gv sc (D + 1) 26 o (31, [(0, .ref 1), (1, .int a1), (2, .int a2), (3, .int a3)], [.int (q2.2.1 2 a3.toNatClampNeg)], ww q2.2, 0, 0))⟩
      obtain ⟨hc, H⟩ := am_ckE H
      refine am_go_blk 4 ⟨am_inv hc, (?_ : am_gv sc (D + 1) 26 o (37, [(0, .ref 1), (1, .int a1), (2, .int a2), (3, .int a3)], [.int (q2.2.1 3 a3.toNatClampNeg), .int (q2.2.1 2 a3.toNatClampNeg)], ww q2.2, 0, 0))⟩
      obtain ⟨hc, H⟩ := am_ckE H
      refine am_go_blk 4 ⟨am_inv hc, (?_ : am_gv sc (D + 1) 26 o (43, [(0, .ref 1), (1, .int a1), (2, .int a2), (3, .int a3)], [.int (q2.2.1 6 a1.toNatClampNeg), .int (q2.2.1 3 a3.toNatClampNeg), .int (q2.2.1 2 a3.toNatClampNeg)], ww q2.2, 0, 0))⟩
      obtain ⟨q3, hqq3, H⟩ := am_bnE H
      refine am_cls rfl rfl rfl (am_calli rfl (M_Kinds_isHeld (D := D) hqq3) (?_ : am_gv sc (D + 1) 26 o (46, [(0, .ref 1), (1, .int a1), (2, .int a2), (3, .int a3)], [.int q3.1], ww q3.2, 0, 0)))
      refine am_go_blk 1 ⟨fun hc => ?_, fun hc => ?_⟩
      · have H := am_it hc H
        exact T_Rail_regrip_55 Hr4 a1 a2 a3 q3.2 H
      · have H := am_ie hc H
        show am_gv sc (D + 1) 26 o (49, [(0, .ref 1), (1, .int a1), (2, .int a2), (3, .int a3)], [], ww q3.2, 0, 0)
        exact am_go_blk 6 (T_Rail_regrip_55 Hr4 a1 (a2 ||| ((nI 1) <<< (a3 &&& 31))) a3 q3.2 H)
theorem TL_Rail_regrip_4 {sc : Option (Nat × (Nat → Int32))} {D : Nat} {o : am_W} : ∀ (n : Nat) (a1 : Int32) (a2 : Int32) (a3 : Int32) (w : am_W) , L_Rail_regrip_4 n a1 a2 a3 w = some o → am_gv sc (D + 1) 26 o (4, [(0, .ref 1), (1, .int a1), (2, .int a2), (3, .int a3)], [], ww w, 0, 0)
  | 0, _, _, _, _, H => by cases H
  | n + 1, a1, a2, a3, w, H => T_Rail_regrip_4 (TL_Rail_regrip_4 n) a1 a2 a3 w H
theorem T_Rail_regrip {sc : Option (Nat × (Nat → Int32))} {D : Nat} {o : am_W} (a1 : Int32) (w : am_W) (H : F_Rail_regrip a1 w = some o) : am_gv sc (D + 1) 26 o (0, [(0, .ref 1), (1, .int a1)], [], ww w, 0, 0) := by
  unfold F_Rail_regrip at H
  exact am_go_blk 4 (TL_Rail_regrip_4 am_NF a1 (nI 0) (nI 0) w H)
theorem M_Rail_regrip {sc : Option (Nat × (Nat → Int32))} {D : Nat} {o : am_W} {a1 : Int32} {w : am_W} (H : F_Rail_regrip a1 w = some o) : am_run sc (D + 2) 26 [.ref 1, .int a1] (ww w) none (ww o) 0 0 :=
  am_run_of rfl (T_Rail_regrip a1 w H)
def F_Rail_putKind_47 (r47 : Int32 → am_W → Option (am_W)) (a3 : Int32) (w : am_W) : Option (am_W) :=
  if (w.1 1 2) ≤ a3 then (some w) else ((F_Rail_regrip a3 w).bind fun w4 => r47 (a3 + (nI 1)) w4)
def L_Rail_putKind_47 : Nat → Int32 → am_W → Option (am_W)
  | 0, _, _ => none
  | n + 1, a3, w => F_Rail_putKind_47 (L_Rail_putKind_47 n) a3 w
def F_Rail_putKind_42 (s0 : Int32) (w : am_W) : Option (am_W) :=
  am_lt (wsf w 1 4 s0) fun w3 => L_Rail_putKind_47 am_NF (nI 0) w3
def F_Rail_putKind (a1 : Int32) (a2 : Int32) (w : am_W) : Option (am_W) :=
  am_ck (am_in a1 8) (am_lt (wst w 2 a1 a2) fun w1 => am_ck (am_in a1 8) ((F_Kinds_everGoes a2 (w1.1 3 a1.toNatClampNeg) w1).bind fun q2 => if q2.1 = 0 then (F_Rail_putKind_42 ((q2.2.1 1 4) &&& (((nI 1) <<< (a1 &&& 31)) ^^^ (-nI 1))) q2.2) else (F_Rail_putKind_42 ((q2.2.1 1 4) ||| ((nI 1) <<< (a1 &&& 31))) q2.2)))
theorem T_Rail_putKind_47 {sc : Option (Nat × (Nat → Int32))} {D : Nat} {o : am_W} {r47 : Int32 → am_W → Option (am_W)} (Hr47 : ∀ (a3 : Int32) (w : am_W) , r47 a3 w = some o → am_gv sc (D + 2) 23 o (47, [(0, .ref 1), (3, .int a3)], [], ww w, 0, 0)) (a3 : Int32) (w : am_W) (H : F_Rail_putKind_47 r47 a3 w = some o) : am_gv sc (D + 2) 23 o (47, [(0, .ref 1), (3, .int a3)], [], ww w, 0, 0) := by
  unfold F_Rail_putKind_47 at H
  refine am_go_blk 4 ⟨fun hc => ?_, fun hc => ?_⟩
  · have H := am_it hc H
    show am_gv sc (D + 2) 23 o (66, [], [], ww w, 0, 0)
    exact am_go_blk 1 (am_fv H)
  · have H := am_ie hc H
    show am_gv sc (D + 2) 23 o (55, [(0, .ref 1), (3, .int a3)], [], ww w, 0, 0)
    obtain ⟨w4, hqw4, H⟩ := am_bnE H
    refine am_go_blk 2 (?_ : am_gv sc (D + 2) 23 o (57, [(0, .ref 1), (3, .int a3)], [.int a3, .ref 1], ww w, 0, 0))
    refine am_invd rfl rfl rfl rfl (am_callv rfl (M_Rail_regrip (D := D) hqw4) (?_ : am_gv sc (D + 2) 23 o (60, [(0, .ref 1), (3, .int a3)], [], ww w4, 0, 0)))
    exact am_go_blk 2 (Hr47 (a3 + (nI 1)) w4 H)
theorem TL_Rail_putKind_47 {sc : Option (Nat × (Nat → Int32))} {D : Nat} {o : am_W} : ∀ (n : Nat) (a3 : Int32) (w : am_W) , L_Rail_putKind_47 n a3 w = some o → am_gv sc (D + 2) 23 o (47, [(0, .ref 1), (3, .int a3)], [], ww w, 0, 0)
  | 0, _, _, H => by cases H
  | n + 1, a3, w, H => T_Rail_putKind_47 (TL_Rail_putKind_47 n) a3 w H
theorem T_Rail_putKind_42 {sc : Option (Nat × (Nat → Int32))} {D : Nat} {o : am_W} (s0 : Int32) (w : am_W) (H : F_Rail_putKind_42 s0 w = some o) : am_gv sc (D + 2) 23 o (42, [(0, .ref 1)], [.int s0, .ref 1], ww w, 0, 0) := by
  unfold F_Rail_putKind_42 at H
  obtain ⟨w3, ew3, H⟩ := am_ltE H
  refine am_go_blk 1 ⟨rfl, rfl, am_hp (ww_f1_4 ew3) (?_ : am_gv sc (D + 2) 23 o (45, [(0, .ref 1)], [], ww w3, 0, 0))⟩
  exact am_go_blk 2 (TL_Rail_putKind_47 am_NF (nI 0) w3 H)
theorem T_Rail_putKind {sc : Option (Nat × (Nat → Int32))} {D : Nat} {o : am_W} (a1 : Int32) (a2 : Int32) (w : am_W) (H : F_Rail_putKind a1 a2 w = some o) : am_gv sc (D + 2) 23 o (0, [(0, .ref 1), (1, .int a1), (2, .int a2)], [], ww w, 0, 0) := by
  unfold F_Rail_putKind at H
  obtain ⟨hc, H⟩ := am_ckE H
  obtain ⟨w1, ew1, H⟩ := am_ltE H
  refine am_go_blk 5 ⟨am_inv hc, am_hp (ww_s2 ew1) (?_ : am_gv sc (D + 2) 23 o (7, [(0, .ref 1), (1, .int a1), (2, .int a2)], [], ww w1, 0, 0))⟩
  obtain ⟨hc, H⟩ := am_ckE H
  refine am_go_blk 6 ⟨am_inv hc, (?_ : am_gv sc (D + 2) 23 o (15, [(0, .ref 1), (1, .int a1), (2, .int a2)], [.int (w1.1 3 a1.toNatClampNeg), .int a2, .ref 1], ww w1, 0, 0))⟩
  obtain ⟨q2, hqq2, H⟩ := am_bnE H
  refine am_cls rfl rfl rfl (am_calli rfl (M_Kinds_everGoes (D := D) hqq2) (?_ : am_gv sc (D + 2) 23 o (18, [(0, .ref 1), (1, .int a1), (2, .int a2)], [.int q2.1, .ref 1], ww q2.2, 0, 0)))
  refine am_go_blk 1 ⟨fun hc => ?_, fun hc => ?_⟩
  · have H := am_it hc H
    show am_gv sc (D + 2) 23 o (32, [(0, .ref 1), (1, .int a1)], [.ref 1], ww q2.2, 0, 0)
    exact am_go_blk 8 (T_Rail_putKind_42 ((q2.2.1 1 4) &&& (((nI 1) <<< (a1 &&& 31)) ^^^ (-nI 1))) q2.2 H)
  · have H := am_ie hc H
    show am_gv sc (D + 2) 23 o (21, [(0, .ref 1), (1, .int a1), (2, .int a2)], [.ref 1], ww q2.2, 0, 0)
    exact am_go_blk 7 (T_Rail_putKind_42 ((q2.2.1 1 4) ||| ((nI 1) <<< (a1 &&& 31))) q2.2 H)
theorem M_Rail_putKind {sc : Option (Nat × (Nat → Int32))} {D : Nat} {o : am_W} {a1 : Int32} {a2 : Int32} {w : am_W} (H : F_Rail_putKind a1 a2 w = some o) : am_run sc (D + 3) 23 [.ref 1, .int a1, .int a2] (ww w) none (ww o) 0 0 :=
  am_run_of rfl (T_Rail_putKind a1 a2 w H)
def F_Rail_addThing (a1 : Int32) (a2 : Int32) (a3 : Int32) (w : am_W) : Option (am_W) :=
  am_lt (wsf w 1 0 ((w.1 1 0) + (nI 1))) fun w1 => am_ck (am_in (w.1 1 0) 8) (am_lt (wst w1 3 (w.1 1 0) a2) fun w2 => am_ck (am_in (w.1 1 0) 8) (am_lt (wst w2 4 (w.1 1 0) a3) fun w3 => (F_Rail_putKind (w.1 1 0) a1 w3).bind fun w4 => some w4))
theorem T_Rail_addThing {sc : Option (Nat × (Nat → Int32))} {D : Nat} {o : am_W} (a1 : Int32) (a2 : Int32) (a3 : Int32) (w : am_W) (H : F_Rail_addThing a1 a2 a3 w = some o) : am_gv sc (D + 3) 22 o (0, [(0, .ref 1), (1, .int a1), (2, .int a2), (3, .int a3)], [], ww w, 0, 0) := by
  unfold F_Rail_addThing at H
  obtain ⟨w1, ew1, H⟩ := am_ltE H
  refine am_go_blk 9 ⟨rfl, rfl, am_hp (ww_f1_0 ew1) (?_ : am_gv sc (D + 3) 22 o (16, [(4, .int (w.1 1 0)), (0, .ref 1), (1, .int a1), (2, .int a2), (3, .int a3)], [], ww w1, 0, 0))⟩
  obtain ⟨hc, H⟩ := am_ckE H
  obtain ⟨w2, ew2, H⟩ := am_ltE H
  refine am_go_blk 5 ⟨am_inv hc, am_hp (ww_s3 ew2) (?_ : am_gv sc (D + 3) 22 o (24, [(4, .int (w.1 1 0)), (0, .ref 1), (1, .int a1), (2, .int a2), (3, .int a3)], [], ww w2, 0, 0))⟩
  obtain ⟨hc, H⟩ := am_ckE H
  obtain ⟨w3, ew3, H⟩ := am_ltE H
  refine am_go_blk 5 ⟨am_inv hc, am_hp (ww_s4 ew3) (?_ : am_gv sc (D + 3) 22 o (32, [(4, .int (w.1 1 0)), (0, .ref 1), (1, .int a1), (2, .int a2), (3, .int a3)], [], ww w3, 0, 0))⟩
  obtain ⟨w4, hqw4, H⟩ := am_bnE H
  refine am_go_blk 3 (?_ : am_gv sc (D + 3) 22 o (36, [(4, .int (w.1 1 0)), (0, .ref 1), (1, .int a1), (2, .int a2), (3, .int a3)], [.int a1, .int (w.1 1 0), .ref 1], ww w3, 0, 0))
  refine am_invd rfl rfl rfl rfl (am_callv rfl (M_Rail_putKind (D := D) hqw4) (?_ : am_gv sc (D + 3) 22 o (39, [(4, .int (w.1 1 0)), (0, .ref 1), (1, .int a1), (2, .int a2), (3, .int a3)], [], ww w4, 0, 0)))
  exact am_go_blk 1 (am_fv H)
theorem M_Rail_addThing {sc : Option (Nat × (Nat → Int32))} {D : Nat} {o : am_W} {a1 : Int32} {a2 : Int32} {a3 : Int32} {w : am_W} (H : F_Rail_addThing a1 a2 a3 w = some o) : am_run sc (D + 4) 22 [.ref 1, .int a1, .int a2, .int a3] (ww w) none (ww o) 0 0 :=
  am_run_of rfl (T_Rail_addThing a1 a2 a3 w H)
def F_Loc_thing_24 (w : am_W) : Option (Int32 × am_W) :=
  some ((-nI 2), w)
def F_Loc_thing (a1 : Int32) (a2 : Int32) (a3 : Int32) (w : am_W) : Option (Int32 × am_W) :=
  (F_Loc_isKind a1 w).bind fun q1 => if q1.1 = 0 then (F_Loc_thing_24 q1.2) else (if a2 < 0 then (F_Loc_thing_24 q1.2) else (if (nI 9) < a2 then (F_Loc_thing_24 q1.2) else ((F_Loc_isHour a3 q1.2).bind fun q2 => if q2.1 = 0 then (F_Loc_thing_24 q2.2) else (if (q2.2.1 1 0) < (nI 8) then ((F_Rail_addThing a1 a2 a3 q2.2).bind fun w3 => some (((w3.1 1 0) - (nI 1)), w3)) else (some ((-nI 4), q2.2))))))
theorem T_Loc_thing_24 {sc : Option (Nat × (Nat → Int32))} {D : Nat} {o : Int32 × am_W} (w : am_W) (H : F_Loc_thing_24 w = some o) : am_gi sc (D + 4) 52 o (24, [], [], ww w, 0, 0) := by
  unfold F_Loc_thing_24 at H
  exact am_go_blk 2 ⟨rfl, am_fi H⟩
theorem T_Loc_thing {sc : Option (Nat × (Nat → Int32))} {D : Nat} {o : Int32 × am_W} (a1 : Int32) (a2 : Int32) (a3 : Int32) (w : am_W) (H : F_Loc_thing a1 a2 a3 w = some o) : am_gi sc (D + 4) 52 o (0, [(0, .ref 0), (1, .int a1), (2, .int a2), (3, .int a3)], [], ww w, 0, 0) := by
  unfold F_Loc_thing at H
  obtain ⟨q1, hqq1, H⟩ := am_bnE H
  refine am_go_blk 1 (?_ : am_gi sc (D + 4) 52 o (1, [(0, .ref 0), (1, .int a1), (2, .int a2), (3, .int a3)], [.int a1], ww w, 0, 0))
  refine am_cls rfl rfl rfl (am_calli rfl (M_Loc_isKind (D := D + 3) hqq1) (?_ : am_gi sc (D + 4) 52 o (4, [(0, .ref 0), (1, .int a1), (2, .int a2), (3, .int a3)], [.int q1.1], ww q1.2, 0, 0)))
  refine am_go_blk 1 ⟨fun hc => ?_, fun hc => ?_⟩
  · have H := am_it hc H
    exact T_Loc_thing_24 q1.2 H
  · have H := am_ie hc H
    show am_gi sc (D + 4) 52 o (7, [(0, .ref 0), (1, .int a1), (2, .int a2), (3, .int a3)], [], ww q1.2, 0, 0)
    refine am_go_blk 2 ⟨fun hc => ?_, fun hc => ?_⟩
    · have H := am_it hc H
      exact T_Loc_thing_24 q1.2 H
    · have H := am_ie hc H
      show am_gi sc (D + 4) 52 o (11, [(0, .ref 0), (1, .int a1), (2, .int a2), (3, .int a3)], [], ww q1.2, 0, 0)
      refine am_go_blk 3 ⟨fun hc => ?_, fun hc => ?_⟩
      · have H := am_it hc H
        exact T_Loc_thing_24 q1.2 H
      · have H := am_ie hc H
        show am_gi sc (D + 4) 52 o (17, [(0, .ref 0), (1, .int a1), (2, .int a2), (3, .int a3)], [], ww q1.2, 0, 0)
        obtain ⟨q2, hqq2, H⟩ := am_bnE H
        refine am_go_blk 1 (?_ : am_gi sc (D + 4) 52 o (18, [(0, .ref 0), (1, .int a1), (2, .int a2), (3, .int a3)], [.int a3], ww q1.2, 0, 0))
        refine am_cls rfl rfl rfl (am_calli rfl (M_Loc_isHour (D := D + 3) hqq2) (?_ : am_gi sc (D + 4) 52 o (21, [(0, .ref 0), (1, .int a1), (2, .int a2), (3, .int a3)], [.int q2.1], ww q2.2, 0, 0)))
        refine am_go_blk 1 ⟨fun hc => ?_, fun hc => ?_⟩
        · have H := am_ie hc H
          show am_gi sc (D + 4) 52 o (27, [(0, .ref 0), (1, .int a1), (2, .int a2), (3, .int a3)], [], ww q2.2, 0, 0)
          refine am_go_blk 5 ⟨fun hc => ?_, fun hc => ?_⟩
          · have H := am_it hc H
            show am_gi sc (D + 4) 52 o (42, [(0, .ref 0), (1, .int a1), (2, .int a2), (3, .int a3)], [], ww q2.2, 0, 0)
            obtain ⟨w3, hqw3, H⟩ := am_bnE H
            refine am_go_blk 5 (?_ : am_gi sc (D + 4) 52 o (49, [(0, .ref 0), (1, .int a1), (2, .int a2), (3, .int a3)], [.int a3, .int a2, .int a1, .ref 1], ww q2.2, 0, 0))
            refine am_invd rfl rfl rfl rfl (am_callv rfl (M_Rail_addThing (D := D) hqw3) (?_ : am_gi sc (D + 4) 52 o (52, [(0, .ref 0), (1, .int a1), (2, .int a2), (3, .int a3)], [], ww w3, 0, 0)))
            exact am_go_blk 6 ⟨rfl, am_fi H⟩
          · have H := am_ie hc H
            show am_gi sc (D + 4) 52 o (39, [(0, .ref 0), (1, .int a1), (2, .int a2), (3, .int a3)], [], ww q2.2, 0, 0)
            exact am_go_blk 2 ⟨rfl, am_fi H⟩
        · have H := am_it hc H
          exact T_Loc_thing_24 q2.2 H
theorem M_Loc_thing {sc : Option (Nat × (Nat → Int32))} {D : Nat} {o : Int32 × am_W} {a1 : Int32} {a2 : Int32} {a3 : Int32} {w : am_W} (H : F_Loc_thing a1 a2 a3 w = some o) : am_run sc (D + 5) 52 [.ref 0, .int a1, .int a2, .int a3] (ww w) (some (.int o.1)) (ww o.2) 0 0 :=
  am_run_of rfl (T_Loc_thing a1 a2 a3 w H)
def F_Rail_isThing_17 (s0 : Int32) (w : am_W) : Option (Int32 × am_W) :=
  am_ck (am_bo s0) (some (s0, w))
def F_Rail_isThing_16 (w : am_W) : Option (Int32 × am_W) :=
  F_Rail_isThing_17 (nI 0) w
def F_Rail_isThing (a1 : Int32) (w : am_W) : Option (Int32 × am_W) :=
  if a1 < 0 then (F_Rail_isThing_16 w) else (if (w.1 1 0) ≤ a1 then (F_Rail_isThing_16 w) else (F_Rail_isThing_17 (nI 1) w))
theorem T_Rail_isThing_17 {sc : Option (Nat × (Nat → Int32))} {D : Nat} {o : Int32 × am_W} (s0 : Int32) (w : am_W) (H : F_Rail_isThing_17 s0 w = some o) : am_gi sc D 16 o (17, [], [.int s0], ww w, 0, 0) := by
  unfold F_Rail_isThing_17 at H
  obtain ⟨hc, H⟩ := am_ckE H
  exact am_go_blk 1 ⟨am_boE hc, am_fi H⟩
theorem T_Rail_isThing_16 {sc : Option (Nat × (Nat → Int32))} {D : Nat} {o : Int32 × am_W} (w : am_W) (H : F_Rail_isThing_16 w = some o) : am_gi sc D 16 o (16, [], [], ww w, 0, 0) := by
  unfold F_Rail_isThing_16 at H
  exact am_go_blk 1 (T_Rail_isThing_17 (nI 0) w H)
theorem T_Rail_isThing {sc : Option (Nat × (Nat → Int32))} {D : Nat} {o : Int32 × am_W} (a1 : Int32) (w : am_W) (H : F_Rail_isThing a1 w = some o) : am_gi sc D 16 o (0, [(0, .ref 1), (1, .int a1)], [], ww w, 0, 0) := by
  unfold F_Rail_isThing at H
  refine am_go_blk 2 ⟨fun hc => ?_, fun hc => ?_⟩
  · have H := am_it hc H
    exact T_Rail_isThing_16 w H
  · have H := am_ie hc H
    show am_gi sc D 16 o (4, [(0, .ref 1), (1, .int a1)], [], ww w, 0, 0)
    refine am_go_blk 4 ⟨fun hc => ?_, fun hc => ?_⟩
    · have H := am_it hc H
      exact T_Rail_isThing_16 w H
    · have H := am_ie hc H
      show am_gi sc D 16 o (12, [(0, .ref 1), (1, .int a1)], [], ww w, 0, 0)
      exact am_go_blk 2 (T_Rail_isThing_17 (nI 1) w H)
theorem M_Rail_isThing {sc : Option (Nat × (Nat → Int32))} {D : Nat} {o : Int32 × am_W} {a1 : Int32} {w : am_W} (H : F_Rail_isThing a1 w = some o) : am_run sc (D + 1) 16 [.ref 1, .int a1] (ww w) (some (.int o.1)) (ww o.2) 0 0 :=
  am_run_of rfl (T_Rail_isThing a1 w H)
def F_Rail_isGone (a1 : Int32) (w : am_W) : Option (Int32 × am_W) :=
  (F_Loc_has (w.1 1 1) a1 w).bind fun q1 => am_ck (am_bo q1.1) (some (q1.1, q1.2))
theorem T_Rail_isGone {sc : Option (Nat × (Nat → Int32))} {D : Nat} {o : Int32 × am_W} (a1 : Int32) (w : am_W) (H : F_Rail_isGone a1 w = some o) : am_gi sc (D + 1) 18 o (0, [(0, .ref 1), (1, .int a1)], [], ww w, 0, 0) := by
  unfold F_Rail_isGone at H
  obtain ⟨q1, hqq1, H⟩ := am_bnE H
  refine am_go_blk 3 (?_ : am_gi sc (D + 1) 18 o (5, [(0, .ref 1), (1, .int a1)], [.int a1, .int (w.1 1 1)], ww w, 0, 0))
  refine am_cls rfl rfl rfl (am_calli rfl (M_Loc_has (D := D) hqq1) (?_ : am_gi sc (D + 1) 18 o (8, [(0, .ref 1), (1, .int a1)], [.int q1.1], ww q1.2, 0, 0)))
  obtain ⟨hc, H⟩ := am_ckE H
  exact am_go_blk 1 ⟨am_boE hc, am_fi H⟩
theorem M_Rail_isGone {sc : Option (Nat × (Nat → Int32))} {D : Nat} {o : Int32 × am_W} {a1 : Int32} {w : am_W} (H : F_Rail_isGone a1 w = some o) : am_run sc (D + 2) 18 [.ref 1, .int a1] (ww w) (some (.int o.1)) (ww o.2) 0 0 :=
  am_run_of rfl (T_Rail_isGone a1 w H)
def F_Loc_told_90 (s0 : Int32) (w : am_W) : Option (Int32 × am_W) :=
  some (s0, w)
def F_Loc_told (a1 : Int32) (a2 : Int32) (w : am_W) : Option (Int32 × am_W) :=
  (F_Rail_isThing a1 w).bind fun q1 => if q1.1 = 0 then (some ((-nI 5), q1.2)) else (if a2.toInt = 0 then (am_ck (am_in a1 8) (some ((q1.2.1 2 a1.toNatClampNeg), q1.2))) else if a2.toInt = 1 then (am_ck (am_in a1 8) (some ((q1.2.1 3 a1.toNatClampNeg), q1.2))) else if a2.toInt = 2 then (am_ck (am_in a1 8) (some ((q1.2.1 4 a1.toNatClampNeg), q1.2))) else if a2.toInt = 3 then ((F_Rail_isGone a1 q1.2).bind fun q2 => if q2.1 = 0 then (F_Loc_told_90 (nI 0) q2.2) else (F_Loc_told_90 (nI 1) q2.2)) else (some ((-nI 7), q1.2)))
theorem T_Loc_told_90 {sc : Option (Nat × (Nat → Int32))} {D : Nat} {o : Int32 × am_W} (s0 : Int32) (w : am_W) (H : F_Loc_told_90 s0 w = some o) : am_gi sc (D + 2) 53 o (90, [], [.int s0], ww w, 0, 0) := by
  unfold F_Loc_told_90 at H
  exact am_go_blk 1 ⟨rfl, am_fi H⟩
theorem T_Loc_told {sc : Option (Nat × (Nat → Int32))} {D : Nat} {o : Int32 × am_W} (a1 : Int32) (a2 : Int32) (w : am_W) (H : F_Loc_told a1 a2 w = some o) : am_gi sc (D + 2) 53 o (0, [(0, .ref 0), (1, .int a1), (2, .int a2)], [], ww w, 0, 0) := by
  unfold F_Loc_told at H
  obtain ⟨q1, hqq1, H⟩ := am_bnE H
  refine am_go_blk 3 (?_ : am_gi sc (D + 2) 53 o (5, [(0, .ref 0), (1, .int a1), (2, .int a2)], [.int a1, .ref 1], ww w, 0, 0))
  refine am_invd rfl rfl rfl rfl (am_calli rfl (M_Rail_isThing (D := D + 1) hqq1) (?_ : am_gi sc (D + 2) 53 o (8, [(0, .ref 0), (1, .int a1), (2, .int a2)], [.int q1.1], ww q1.2, 0, 0)))
  refine am_go_blk 1 ⟨fun hc => ?_, fun hc => ?_⟩
  · have H := am_ie hc H
    show am_gi sc (D + 2) 53 o (14, [(0, .ref 0), (1, .int a1), (2, .int a2)], [], ww q1.2, 0, 0)
    refine am_go_blk 2 ⟨fun hc => ?_, fun hc => ?_⟩
    · have H := am_it hc H
      show am_gi sc (D + 2) 53 o (44, [(0, .ref 0), (1, .int a1)], [], ww q1.2, 0, 0)
      obtain ⟨hc, H⟩ := am_ckE H
      refine am_go_blk 5 ⟨am_inv hc, (?_ : am_gi sc (D + 2) 53 o (53, [(0, .ref 0), (1, .int a1)], [.int (q1.2.1 2 a1.toNatClampNeg)], ww q1.2, 0, 0))⟩
      exact am_go_blk 1 ⟨rfl, am_fi H⟩
    have H := am_ie hc H
    refine ⟨fun hc => ?_, fun hc => ?_⟩
    · have H := am_it hc H
      show am_gi sc (D + 2) 53 o (54, [(0, .ref 0), (1, .int a1)], [], ww q1.2, 0, 0)
      obtain ⟨hc, H⟩ := am_ckE H
      refine am_go_blk 5 ⟨am_inv hc, (?_ : am_gi sc (D + 2) 53 o (63, [(0, .ref 0), (1, .int a1)], [.int (q1.2.1 3 a1.toNatClampNeg)], ww q1.2, 0, 0))⟩
      exact am_go_blk 1 ⟨rfl, am_fi H⟩
    have H := am_ie hc H
    refine ⟨fun hc => ?_, fun hc => ?_⟩
    · have H := am_it hc H
      show am_gi sc (D + 2) 53 o (64, [(0, .ref 0), (1, .int a1)], [], ww q1.2, 0, 0)
      obtain ⟨hc, H⟩ := am_ckE H
      refine am_go_blk 5 ⟨am_inv hc, (?_ : am_gi sc (D + 2) 53 o (73, [(0, .ref 0), (1, .int a1)], [.int (q1.2.1 4 a1.toNatClampNeg)], ww q1.2, 0, 0))⟩
      exact am_go_blk 1 ⟨rfl, am_fi H⟩
    have H := am_ie hc H
    refine ⟨fun hc => ?_, fun hc => ?_⟩
    · have H := am_it hc H
      show am_gi sc (D + 2) 53 o (74, [(0, .ref 0), (1, .int a1)], [], ww q1.2, 0, 0)
      obtain ⟨q2, hqq2, H⟩ := am_bnE H
      refine am_go_blk 3 (?_ : am_gi sc (D + 2) 53 o (79, [(0, .ref 0), (1, .int a1)], [.int a1, .ref 1], ww q1.2, 0, 0))
      refine am_invd rfl rfl rfl rfl (am_calli rfl (M_Rail_isGone (D := D) hqq2) (?_ : am_gi sc (D + 2) 53 o (82, [(0, .ref 0), (1, .int a1)], [.int q2.1], ww q2.2, 0, 0)))
      refine am_go_blk 1 ⟨fun hc => ?_, fun hc => ?_⟩
      · have H := am_it hc H
        show am_gi sc (D + 2) 53 o (89, [], [], ww q2.2, 0, 0)
        exact am_go_blk 1 (T_Loc_told_90 (nI 0) q2.2 H)
      · have H := am_ie hc H
        show am_gi sc (D + 2) 53 o (85, [(0, .ref 0), (1, .int a1)], [], ww q2.2, 0, 0)
        exact am_go_blk 2 (T_Loc_told_90 (nI 1) q2.2 H)
    have H := am_ie hc H
    show am_gi sc (D + 2) 53 o (91, [], [], ww q1.2, 0, 0)
    exact am_go_blk 2 ⟨rfl, am_fi H⟩
  · have H := am_it hc H
    show am_gi sc (D + 2) 53 o (11, [(0, .ref 0), (1, .int a1), (2, .int a2)], [], ww q1.2, 0, 0)
    exact am_go_blk 2 ⟨rfl, am_fi H⟩
theorem M_Loc_told {sc : Option (Nat × (Nat → Int32))} {D : Nat} {o : Int32 × am_W} {a1 : Int32} {a2 : Int32} {w : am_W} (H : F_Loc_told a1 a2 w = some o) : am_run sc (D + 3) 53 [.ref 0, .int a1, .int a2] (ww w) (some (.int o.1)) (ww o.2) 0 0 :=
  am_run_of rfl (T_Loc_told a1 a2 w H)
def F_Loc_isSort_14 (s0 : Int32) (w : am_W) : Option (Int32 × am_W) :=
  am_ck (am_bo s0) (some (s0, w))
def F_Loc_isSort_13 (w : am_W) : Option (Int32 × am_W) :=
  F_Loc_isSort_14 (nI 0) w
def F_Loc_isSort (a0 : Int32) (w : am_W) : Option (Int32 × am_W) :=
  if a0 < 0 then (F_Loc_isSort_13 w) else (if (nI 3) ≤ a0 then (F_Loc_isSort_13 w) else (F_Loc_isSort_14 (nI 1) w))
theorem T_Loc_isSort_14 {sc : Option (Nat × (Nat → Int32))} {D : Nat} {o : Int32 × am_W} (s0 : Int32) (w : am_W) (H : F_Loc_isSort_14 s0 w = some o) : am_gi sc D 69 o (14, [], [.int s0], ww w, 0, 0) := by
  unfold F_Loc_isSort_14 at H
  obtain ⟨hc, H⟩ := am_ckE H
  exact am_go_blk 1 ⟨am_boE hc, am_fi H⟩
theorem T_Loc_isSort_13 {sc : Option (Nat × (Nat → Int32))} {D : Nat} {o : Int32 × am_W} (w : am_W) (H : F_Loc_isSort_13 w = some o) : am_gi sc D 69 o (13, [], [], ww w, 0, 0) := by
  unfold F_Loc_isSort_13 at H
  exact am_go_blk 1 (T_Loc_isSort_14 (nI 0) w H)
theorem T_Loc_isSort {sc : Option (Nat × (Nat → Int32))} {D : Nat} {o : Int32 × am_W} (a0 : Int32) (w : am_W) (H : F_Loc_isSort a0 w = some o) : am_gi sc D 69 o (0, [(0, .int a0)], [], ww w, 0, 0) := by
  unfold F_Loc_isSort at H
  refine am_go_blk 2 ⟨fun hc => ?_, fun hc => ?_⟩
  · have H := am_it hc H
    exact T_Loc_isSort_13 w H
  · have H := am_ie hc H
    show am_gi sc D 69 o (4, [(0, .int a0)], [], ww w, 0, 0)
    refine am_go_blk 3 ⟨fun hc => ?_, fun hc => ?_⟩
    · have H := am_it hc H
      exact T_Loc_isSort_13 w H
    · have H := am_ie hc H
      show am_gi sc D 69 o (9, [(0, .int a0)], [], ww w, 0, 0)
      exact am_go_blk 2 (T_Loc_isSort_14 (nI 1) w H)
theorem M_Loc_isSort {sc : Option (Nat × (Nat → Int32))} {D : Nat} {o : Int32 × am_W} {a0 : Int32} {w : am_W} (H : F_Loc_isSort a0 w = some o) : am_run sc (D + 1) 69 [.int a0] (ww w) (some (.int o.1)) (ww o.2) 0 0 :=
  am_run_of rfl (T_Loc_isSort a0 w H)
def F_Rail_allThings (w : am_W) : Option (Int32 × am_W) :=
  some ((((nI 1) <<< ((w.1 1 0) &&& 31)) - (nI 1)), w)
theorem T_Rail_allThings {sc : Option (Nat × (Nat → Int32))} {D : Nat} {o : Int32 × am_W} (w : am_W) (H : F_Rail_allThings w = some o) : am_gi sc D 21 o (0, [(0, .ref 1)], [], ww w, 0, 0) := by
  unfold F_Rail_allThings at H
  exact am_go_blk 7 ⟨rfl, am_fi H⟩
theorem M_Rail_allThings {sc : Option (Nat × (Nat → Int32))} {D : Nat} {o : Int32 × am_W} {w : am_W} (H : F_Rail_allThings w = some o) : am_run sc (D + 1) 21 [.ref 1] (ww w) (some (.int o.1)) (ww o.2) 0 0 :=
  am_run_of rfl (T_Rail_allThings w H)
def F_Rail_isThrough_24 (s0 : Int32) (w : am_W) : Option (Int32 × am_W) :=
  am_ck (am_bo s0) (some (s0, w))
def F_Rail_isThrough_23 (w : am_W) : Option (Int32 × am_W) :=
  F_Rail_isThrough_24 (nI 0) w
def F_Rail_isThrough (a1 : Int32) (w : am_W) : Option (Int32 × am_W) :=
  if a1 = 0 then (F_Rail_isThrough_23 w) else ((F_Rail_allThings w).bind fun q1 => if (a1 &&& ((q1.1 ||| (nI 256)) ^^^ (-nI 1))) = 0 then (F_Rail_isThrough_24 (nI 1) q1.2) else (F_Rail_isThrough_23 q1.2))
theorem T_Rail_isThrough_24 {sc : Option (Nat × (Nat → Int32))} {D : Nat} {o : Int32 × am_W} (s0 : Int32) (w : am_W) (H : F_Rail_isThrough_24 s0 w = some o) : am_gi sc (D + 1) 20 o (24, [], [.int s0], ww w, 0, 0) := by
  unfold F_Rail_isThrough_24 at H
  obtain ⟨hc, H⟩ := am_ckE H
  exact am_go_blk 1 ⟨am_boE hc, am_fi H⟩
theorem T_Rail_isThrough_23 {sc : Option (Nat × (Nat → Int32))} {D : Nat} {o : Int32 × am_W} (w : am_W) (H : F_Rail_isThrough_23 w = some o) : am_gi sc (D + 1) 20 o (23, [], [], ww w, 0, 0) := by
  unfold F_Rail_isThrough_23 at H
  exact am_go_blk 1 (T_Rail_isThrough_24 (nI 0) w H)
theorem T_Rail_isThrough {sc : Option (Nat × (Nat → Int32))} {D : Nat} {o : Int32 × am_W} (a1 : Int32) (w : am_W) (H : F_Rail_isThrough a1 w = some o) : am_gi sc (D + 1) 20 o (0, [(0, .ref 1), (1, .int a1)], [], ww w, 0, 0) := by
  unfold F_Rail_isThrough at H
  refine am_go_blk 2 ⟨fun hc => ?_, fun hc => ?_⟩
  · have H := am_it hc H
    exact T_Rail_isThrough_23 w H
  · have H := am_ie hc H
    show am_gi sc (D + 1) 20 o (4, [(0, .ref 1), (1, .int a1)], [], ww w, 0, 0)
    obtain ⟨q1, hqq1, H⟩ := am_bnE H
    refine am_go_blk 2 (?_ : am_gi sc (D + 1) 20 o (6, [(0, .ref 1), (1, .int a1)], [.ref 1, .int a1], ww w, 0, 0))
    refine am_invd rfl rfl rfl rfl (am_calli rfl (M_Rail_allThings (D := D) hqq1) (?_ : am_gi sc (D + 1) 20 o (9, [(0, .ref 1), (1, .int a1)], [.int q1.1, .int a1], ww q1.2, 0, 0)))
    refine am_go_blk 6 ⟨fun hc => ?_, fun hc => ?_⟩
    · have H := am_ie hc H
      exact T_Rail_isThrough_23 q1.2 H
    · have H := am_it hc H
      show am_gi sc (D + 1) 20 o (19, [(0, .ref 1), (1, .int a1)], [], ww q1.2, 0, 0)
      exact am_go_blk 2 (T_Rail_isThrough_24 (nI 1) q1.2 H)
theorem M_Rail_isThrough {sc : Option (Nat × (Nat → Int32))} {D : Nat} {o : Int32 × am_W} {a1 : Int32} {w : am_W} (H : F_Rail_isThrough a1 w = some o) : am_run sc (D + 2) 20 [.ref 1, .int a1] (ww w) (some (.int o.1)) (ww o.2) 0 0 :=
  am_run_of rfl (T_Rail_isThrough a1 w H)
def F_Rail_putSet (a1 : Int32) (a2 : Int32) (w : am_W) : Option (am_W) :=
  am_ck (am_in a1 10) (am_lt (wst w 7 a1 a2) fun w1 => (F_Rail_regrip a1 w1).bind fun w2 => some w2)
theorem T_Rail_putSet {sc : Option (Nat × (Nat → Int32))} {D : Nat} {o : am_W} (a1 : Int32) (a2 : Int32) (w : am_W) (H : F_Rail_putSet a1 a2 w = some o) : am_gv sc (D + 2) 25 o (0, [(0, .ref 1), (1, .int a1), (2, .int a2)], [], ww w, 0, 0) := by
  unfold F_Rail_putSet at H
  obtain ⟨hc, H⟩ := am_ckE H
  obtain ⟨w1, ew1, H⟩ := am_ltE H
  refine am_go_blk 5 ⟨am_inv hc, am_hp (ww_s7 ew1) (?_ : am_gv sc (D + 2) 25 o (7, [(0, .ref 1), (1, .int a1), (2, .int a2)], [], ww w1, 0, 0))⟩
  obtain ⟨w2, hqw2, H⟩ := am_bnE H
  refine am_go_blk 2 (?_ : am_gv sc (D + 2) 25 o (9, [(0, .ref 1), (1, .int a1), (2, .int a2)], [.int a1, .ref 1], ww w1, 0, 0))
  refine am_invd rfl rfl rfl rfl (am_callv rfl (M_Rail_regrip (D := D) hqw2) (?_ : am_gv sc (D + 2) 25 o (12, [(0, .ref 1), (1, .int a1), (2, .int a2)], [], ww w2, 0, 0)))
  exact am_go_blk 1 (am_fv H)
theorem M_Rail_putSet {sc : Option (Nat × (Nat → Int32))} {D : Nat} {o : am_W} {a1 : Int32} {a2 : Int32} {w : am_W} (H : F_Rail_putSet a1 a2 w = some o) : am_run sc (D + 3) 25 [.ref 1, .int a1, .int a2] (ww w) none (ww o) 0 0 :=
  am_run_of rfl (T_Rail_putSet a1 a2 w H)
def F_Rail_addLock (a1 : Int32) (a2 : Int32) (a3 : Int32) (w : am_W) : Option (am_W) :=
  am_lt (wsf w 1 2 ((w.1 1 2) + (nI 1))) fun w1 => am_ck (am_in (w.1 1 2) 10) (am_lt (wst w1 5 (w.1 1 2) a1) fun w2 => am_ck (am_in (w.1 1 2) 10) (am_lt (wst w2 6 (w.1 1 2) a2) fun w3 => (F_Rail_putSet (w.1 1 2) a3 w3).bind fun w4 => some w4))
theorem T_Rail_addLock {sc : Option (Nat × (Nat → Int32))} {D : Nat} {o : am_W} (a1 : Int32) (a2 : Int32) (a3 : Int32) (w : am_W) (H : F_Rail_addLock a1 a2 a3 w = some o) : am_gv sc (D + 3) 24 o (0, [(0, .ref 1), (1, .int a1), (2, .int a2), (3, .int a3)], [], ww w, 0, 0) := by
  unfold F_Rail_addLock at H
  obtain ⟨w1, ew1, H⟩ := am_ltE H
  refine am_go_blk 9 ⟨rfl, rfl, am_hp (ww_f1_2 ew1) (?_ : am_gv sc (D + 3) 24 o (16, [(4, .int (w.1 1 2)), (0, .ref 1), (1, .int a1), (2, .int a2), (3, .int a3)], [], ww w1, 0, 0))⟩
  obtain ⟨hc, H⟩ := am_ckE H
  obtain ⟨w2, ew2, H⟩ := am_ltE H
  refine am_go_blk 5 ⟨am_inv hc, am_hp (ww_s5 ew2) (?_ : am_gv sc (D + 3) 24 o (24, [(4, .int (w.1 1 2)), (0, .ref 1), (1, .int a1), (2, .int a2), (3, .int a3)], [], ww w2, 0, 0))⟩
  obtain ⟨hc, H⟩ := am_ckE H
  obtain ⟨w3, ew3, H⟩ := am_ltE H
  refine am_go_blk 5 ⟨am_inv hc, am_hp (ww_s6 ew3) (?_ : am_gv sc (D + 3) 24 o (32, [(4, .int (w.1 1 2)), (0, .ref 1), (1, .int a1), (2, .int a2), (3, .int a3)], [], ww w3, 0, 0))⟩
  obtain ⟨w4, hqw4, H⟩ := am_bnE H
  refine am_go_blk 3 (?_ : am_gv sc (D + 3) 24 o (36, [(4, .int (w.1 1 2)), (0, .ref 1), (1, .int a1), (2, .int a2), (3, .int a3)], [.int a3, .int (w.1 1 2), .ref 1], ww w3, 0, 0))
  refine am_invd rfl rfl rfl rfl (am_callv rfl (M_Rail_putSet (D := D) hqw4) (?_ : am_gv sc (D + 3) 24 o (39, [(4, .int (w.1 1 2)), (0, .ref 1), (1, .int a1), (2, .int a2), (3, .int a3)], [], ww w4, 0, 0)))
  exact am_go_blk 1 (am_fv H)
theorem M_Rail_addLock {sc : Option (Nat × (Nat → Int32))} {D : Nat} {o : am_W} {a1 : Int32} {a2 : Int32} {a3 : Int32} {w : am_W} (H : F_Rail_addLock a1 a2 a3 w = some o) : am_run sc (D + 4) 24 [.ref 1, .int a1, .int a2, .int a3] (ww w) none (ww o) 0 0 :=
  am_run_of rfl (T_Rail_addLock a1 a2 a3 w H)
def F_Loc_lock_29 (w : am_W) : Option (Int32 × am_W) :=
  some ((-nI 2), w)
def F_Loc_lock (a1 : Int32) (a2 : Int32) (a3 : Int32) (w : am_W) : Option (Int32 × am_W) :=
  (F_Rail_isThing a1 w).bind fun q1 => if q1.1 = 0 then (F_Loc_lock_29 q1.2) else ((F_Loc_isSort a2 q1.2).bind fun q2 => if q2.1 = 0 then (F_Loc_lock_29 q2.2) else ((F_Rail_isThrough a3 q2.2).bind fun q3 => if q3.1 = 0 then (F_Loc_lock_29 q3.2) else (if ((((nI 1) <<< (a1 &&& 31)) ||| a3) &&& (q3.2.1 1 1)) = 0 then (if (q3.2.1 1 2) < (nI 10) then ((F_Rail_addLock a1 a2 a3 q3.2).bind fun w4 => some (((w4.1 1 2) - (nI 1)), w4)) else (some ((-nI 4), q3.2))) else (some ((-nI 3), q3.2)))))
theorem T_Loc_lock_29 {sc : Option (Nat × (Nat → Int32))} {D : Nat} {o : Int32 × am_W} (w : am_W) (H : F_Loc_lock_29 w = some o) : am_gi sc (D + 4) 54 o (29, [], [], ww w, 0, 0) := by
  unfold F_Loc_lock_29 at H
  exact am_go_blk 2 ⟨rfl, am_fi H⟩
theorem T_Loc_lock {sc : Option (Nat × (Nat → Int32))} {D : Nat} {o : Int32 × am_W} (a1 : Int32) (a2 : Int32) (a3 : Int32) (w : am_W) (H : F_Loc_lock a1 a2 a3 w = some o) : am_gi sc (D + 4) 54 o (0, [(0, .ref 0), (1, .int a1), (2, .int a2), (3, .int a3)], [], ww w, 0, 0) := by
  unfold F_Loc_lock at H
  obtain ⟨q1, hqq1, H⟩ := am_bnE H
  refine am_go_blk 3 (?_ : am_gi sc (D + 4) 54 o (5, [(0, .ref 0), (1, .int a1), (2, .int a2), (3, .int a3)], [.int a1, .ref 1], ww w, 0, 0))
  refine am_invd rfl rfl rfl rfl (am_calli rfl (M_Rail_isThing (D := D + 3) hqq1) (?_ : am_gi sc (D + 4) 54 o (8, [(0, .ref 0), (1, .int a1), (2, .int a2), (3, .int a3)], [.int q1.1], ww q1.2, 0, 0)))
  refine am_go_blk 1 ⟨fun hc => ?_, fun hc => ?_⟩
  · have H := am_it hc H
    exact T_Loc_lock_29 q1.2 H
  · have H := am_ie hc H
    show am_gi sc (D + 4) 54 o (11, [(0, .ref 0), (1, .int a1), (2, .int a2), (3, .int a3)], [], ww q1.2, 0, 0)
    obtain ⟨q2, hqq2, H⟩ := am_bnE H
    refine am_go_blk 1 (?_ : am_gi sc (D + 4) 54 o (12, [(0, .ref 0), (1, .int a1), (2, .int a2), (3, .int a3)], [.int a2], ww q1.2, 0, 0))
    refine am_cls rfl rfl rfl (am_calli rfl (M_Loc_isSort (D := D + 3) hqq2) (?_ : am_gi sc (D + 4) 54 o (15, [(0, .ref 0), (1, .int a1), (2, .int a2), (3, .int a3)], [.int q2.1], ww q2.2, 0, 0)))
    refine am_go_blk 1 ⟨fun hc => ?_, fun hc => ?_⟩
    · have H := am_it hc H
      exact T_Loc_lock_29 q2.2 H
    · have H := am_ie hc H
      show am_gi sc (D + 4) 54 o (18, [(0, .ref 0), (1, .int a1), (2, .int a2), (3, .int a3)], [], ww q2.2, 0, 0)
      obtain ⟨q3, hqq3, H⟩ := am_bnE H
      refine am_go_blk 3 (?_ : am_gi sc (D + 4) 54 o (23, [(0, .ref 0), (1, .int a1), (2, .int a2), (3, .int a3)], [.int a3, .ref 1], ww q2.2, 0, 0))
      refine am_invd rfl rfl rfl rfl (am_calli rfl (M_Rail_isThrough (D := D + 2) hqq3) (?_ : am_gi sc (D + 4) 54 o (26, [(0, .ref 0), (1, .int a1), (2, .int a2), (3, .int a3)], [.int q3.1], ww q3.2, 0, 0)))
      refine am_go_blk 1 ⟨fun hc => ?_, fun hc => ?_⟩
      · have H := am_ie hc H
        show am_gi sc (D + 4) 54 o (32, [(0, .ref 0), (1, .int a1), (2, .int a2), (3, .int a3)], [], ww q3.2, 0, 0)
        refine am_go_blk 10 ⟨fun hc => ?_, fun hc => ?_⟩
        · have H := am_it hc H
          show am_gi sc (D + 4) 54 o (51, [(0, .ref 0), (1, .int a1), (2, .int a2), (3, .int a3)], [], ww q3.2, 0, 0)
          refine am_go_blk 5 ⟨fun hc => ?_, fun hc => ?_⟩
          · have H := am_it hc H
            show am_gi sc (D + 4) 54 o (66, [(0, .ref 0), (1, .int a1), (2, .int a2), (3, .int a3)], [], ww q3.2, 0, 0)
            obtain ⟨w4, hqw4, H⟩ := am_bnE H
            refine am_go_blk 5 (?_ : am_gi sc (D + 4) 54 o (73, [(0, .ref 0), (1, .int a1), (2, .int a2), (3, .int a3)], [.int a3, .int a2, .int a1, .ref 1], ww q3.2, 0, 0))
            refine am_invd rfl rfl rfl rfl (am_callv rfl (M_Rail_addLock (D := D) hqw4) (?_ : am_gi sc (D + 4) 54 o (76, [(0, .ref 0), (1, .int a1), (2, .int a2), (3, .int a3)], [], ww w4, 0, 0)))
            exact am_go_blk 6 ⟨rfl, am_fi H⟩
          · have H := am_ie hc H
            show am_gi sc (D + 4) 54 o (63, [(0, .ref 0), (1, .int a1), (2, .int a2), (3, .int a3)], [], ww q3.2, 0, 0)
            exact am_go_blk 2 ⟨rfl, am_fi H⟩
        · have H := am_ie hc H
          show am_gi sc (D + 4) 54 o (48, [(0, .ref 0), (1, .int a1), (2, .int a2), (3, .int a3)], [], ww q3.2, 0, 0)
          exact am_go_blk 2 ⟨rfl, am_fi H⟩
      · have H := am_it hc H
        exact T_Loc_lock_29 q3.2 H
theorem M_Loc_lock {sc : Option (Nat × (Nat → Int32))} {D : Nat} {o : Int32 × am_W} {a1 : Int32} {a2 : Int32} {a3 : Int32} {w : am_W} (H : F_Loc_lock a1 a2 a3 w = some o) : am_run sc (D + 5) 54 [.ref 0, .int a1, .int a2, .int a3] (ww w) (some (.int o.1)) (ww o.2) 0 0 :=
  am_run_of rfl (T_Loc_lock a1 a2 a3 w H)
def F_Rail_isLock_17 (s0 : Int32) (w : am_W) : Option (Int32 × am_W) :=
  am_ck (am_bo s0) (some (s0, w))
def F_Rail_isLock_16 (w : am_W) : Option (Int32 × am_W) :=
  F_Rail_isLock_17 (nI 0) w
def F_Rail_isLock (a1 : Int32) (w : am_W) : Option (Int32 × am_W) :=
  if a1 < 0 then (F_Rail_isLock_16 w) else (if (w.1 1 2) ≤ a1 then (F_Rail_isLock_16 w) else (F_Rail_isLock_17 (nI 1) w))
theorem T_Rail_isLock_17 {sc : Option (Nat × (Nat → Int32))} {D : Nat} {o : Int32 × am_W} (s0 : Int32) (w : am_W) (H : F_Rail_isLock_17 s0 w = some o) : am_gi sc D 17 o (17, [], [.int s0], ww w, 0, 0) := by
  unfold F_Rail_isLock_17 at H
  obtain ⟨hc, H⟩ := am_ckE H
  exact am_go_blk 1 ⟨am_boE hc, am_fi H⟩
theorem T_Rail_isLock_16 {sc : Option (Nat × (Nat → Int32))} {D : Nat} {o : Int32 × am_W} (w : am_W) (H : F_Rail_isLock_16 w = some o) : am_gi sc D 17 o (16, [], [], ww w, 0, 0) := by
  unfold F_Rail_isLock_16 at H
  exact am_go_blk 1 (T_Rail_isLock_17 (nI 0) w H)
theorem T_Rail_isLock {sc : Option (Nat × (Nat → Int32))} {D : Nat} {o : Int32 × am_W} (a1 : Int32) (w : am_W) (H : F_Rail_isLock a1 w = some o) : am_gi sc D 17 o (0, [(0, .ref 1), (1, .int a1)], [], ww w, 0, 0) := by
  unfold F_Rail_isLock at H
  refine am_go_blk 2 ⟨fun hc => ?_, fun hc => ?_⟩
  · have H := am_it hc H
    exact T_Rail_isLock_16 w H
  · have H := am_ie hc H
    show am_gi sc D 17 o (4, [(0, .ref 1), (1, .int a1)], [], ww w, 0, 0)
    refine am_go_blk 4 ⟨fun hc => ?_, fun hc => ?_⟩
    · have H := am_it hc H
      exact T_Rail_isLock_16 w H
    · have H := am_ie hc H
      show am_gi sc D 17 o (12, [(0, .ref 1), (1, .int a1)], [], ww w, 0, 0)
      exact am_go_blk 2 (T_Rail_isLock_17 (nI 1) w H)
theorem M_Rail_isLock {sc : Option (Nat × (Nat → Int32))} {D : Nat} {o : Int32 × am_W} {a1 : Int32} {w : am_W} (H : F_Rail_isLock a1 w = some o) : am_run sc (D + 1) 17 [.ref 1, .int a1] (ww w) (some (.int o.1)) (ww o.2) 0 0 :=
  am_run_of rfl (T_Rail_isLock a1 w H)
def F_Rail_isShut_32 (s0 : Int32) (w : am_W) : Option (Int32 × am_W) :=
  am_ck (am_bo s0) (some (s0, w))
def F_Rail_isShut_31 (w : am_W) : Option (Int32 × am_W) :=
  F_Rail_isShut_32 (nI 0) w
def F_Rail_isShut (a1 : Int32) (w : am_W) : Option (Int32 × am_W) :=
  (F_Loc_has (w.1 1 3) a1 w).bind fun q1 => if q1.1 = 0 then (am_ck (am_in a1 10) ((F_Loc_has (q1.2.1 1 1) (q1.2.1 5 a1.toNatClampNeg) q1.2).bind fun q2 => if q2.1 = 0 then (F_Rail_isShut_32 (nI 1) q2.2) else (F_Rail_isShut_31 q2.2))) else (F_Rail_isShut_31 q1.2)
theorem T_Rail_isShut_32 {sc : Option (Nat × (Nat → Int32))} {D : Nat} {o : Int32 × am_W} (s0 : Int32) (w : am_W) (H : F_Rail_isShut_32 s0 w = some o) : am_gi sc (D + 1) 19 o (32, [], [.int s0], ww w, 0, 0) := by
  unfold F_Rail_isShut_32 at H
  obtain ⟨hc, H⟩ := am_ckE H
  exact am_go_blk 1 ⟨am_boE hc, am_fi H⟩
theorem T_Rail_isShut_31 {sc : Option (Nat × (Nat → Int32))} {D : Nat} {o : Int32 × am_W} (w : am_W) (H : F_Rail_isShut_31 w = some o) : am_gi sc (D + 1) 19 o (31, [], [], ww w, 0, 0) := by
  unfold F_Rail_isShut_31 at H
  exact am_go_blk 1 (T_Rail_isShut_32 (nI 0) w H)
theorem T_Rail_isShut {sc : Option (Nat × (Nat → Int32))} {D : Nat} {o : Int32 × am_W} (a1 : Int32) (w : am_W) (H : F_Rail_isShut a1 w = some o) : am_gi sc (D + 1) 19 o (0, [(0, .ref 1), (1, .int a1)], [], ww w, 0, 0) := by
  unfold F_Rail_isShut at H
  obtain ⟨q1, hqq1, H⟩ := am_bnE H
  refine am_go_blk 3 (?_ : am_gi sc (D + 1) 19 o (5, [(0, .ref 1), (1, .int a1)], [.int a1, .int (w.1 1 3)], ww w, 0, 0))
  refine am_cls rfl rfl rfl (am_calli rfl (M_Loc_has (D := D) hqq1) (?_ : am_gi sc (D + 1) 19 o (8, [(0, .ref 1), (1, .int a1)], [.int q1.1], ww q1.2, 0, 0)))
  refine am_go_blk 1 ⟨fun hc => ?_, fun hc => ?_⟩
  · have H := am_ie hc H
    exact T_Rail_isShut_31 q1.2 H
  · have H := am_it hc H
    show am_gi sc (D + 1) 19 o (11, [(0, .ref 1), (1, .int a1)], [], ww q1.2, 0, 0)
    obtain ⟨hc, H⟩ := am_ckE H
    refine am_go_blk 6 ⟨am_inv hc, (?_ : am_gi sc (D + 1) 19 o (21, [(0, .ref 1), (1, .int a1)], [.int (q1.2.1 5 a1.toNatClampNeg), .int (q1.2.1 1 1)], ww q1.2, 0, 0))⟩
    obtain ⟨q2, hqq2, H⟩ := am_bnE H
    refine am_cls rfl rfl rfl (am_calli rfl (M_Loc_has (D := D) hqq2) (?_ : am_gi sc (D + 1) 19 o (24, [(0, .ref 1), (1, .int a1)], [.int q2.1], ww q2.2, 0, 0)))
    refine am_go_blk 1 ⟨fun hc => ?_, fun hc => ?_⟩
    · have H := am_ie hc H
      exact T_Rail_isShut_31 q2.2 H
    · have H := am_it hc H
      show am_gi sc (D + 1) 19 o (27, [(0, .ref 1), (1, .int a1)], [], ww q2.2, 0, 0)
      exact am_go_blk 2 (T_Rail_isShut_32 (nI 1) q2.2 H)
theorem M_Rail_isShut {sc : Option (Nat × (Nat → Int32))} {D : Nat} {o : Int32 × am_W} {a1 : Int32} {w : am_W} (H : F_Rail_isShut a1 w = some o) : am_run sc (D + 2) 19 [.ref 1, .int a1] (ww w) (some (.int o.1)) (ww o.2) 0 0 :=
  am_run_of rfl (T_Rail_isShut a1 w H)
def F_Loc_lockTold_106 (s0 : Int32) (w : am_W) : Option (Int32 × am_W) :=
  some (s0, w)
def F_Loc_lockTold (a1 : Int32) (a2 : Int32) (w : am_W) : Option (Int32 × am_W) :=
  (F_Rail_isLock a1 w).bind fun q1 => if q1.1 = 0 then (some ((-nI 5), q1.2)) else (if a2.toInt = 0 then (am_ck (am_in a1 10) (some ((q1.2.1 5 a1.toNatClampNeg), q1.2))) else if a2.toInt = 1 then (am_ck (am_in a1 10) (some ((q1.2.1 6 a1.toNatClampNeg), q1.2))) else if a2.toInt = 2 then (am_ck (am_in a1 10) (some ((q1.2.1 7 a1.toNatClampNeg), q1.2))) else if a2.toInt = 3 then (some ((((q1.2.1 1 3) >>> (a1 &&& 31)) &&& (nI 1)), q1.2)) else if a2.toInt = 4 then ((F_Rail_isShut a1 q1.2).bind fun q2 => if q2.1 = 0 then (F_Loc_lockTold_106 (nI 0) q2.2) else (F_Loc_lockTold_106 (nI 1) q2.2)) else (some ((-nI 7), q1.2)))
theorem T_Loc_lockTold_106 {sc : Option (Nat × (Nat → Int32))} {D : Nat} {o : Int32 × am_W} (s0 : Int32) (w : am_W) (H : F_Loc_lockTold_106 s0 w = some o) : am_gi sc (D + 2) 55 o (106, [], [.int s0], ww w, 0, 0) := by
  unfold F_Loc_lockTold_106 at H
  exact am_go_blk 1 ⟨rfl, am_fi H⟩
theorem T_Loc_lockTold {sc : Option (Nat × (Nat → Int32))} {D : Nat} {o : Int32 × am_W} (a1 : Int32) (a2 : Int32) (w : am_W) (H : F_Loc_lockTold a1 a2 w = some o) : am_gi sc (D + 2) 55 o (0, [(0, .ref 0), (1, .int a1), (2, .int a2)], [], ww w, 0, 0) := by
  unfold F_Loc_lockTold at H
  obtain ⟨q1, hqq1, H⟩ := am_bnE H
  refine am_go_blk 3 (?_ : am_gi sc (D + 2) 55 o (5, [(0, .ref 0), (1, .int a1), (2, .int a2)], [.int a1, .ref 1], ww w, 0, 0))
  refine am_invd rfl rfl rfl rfl (am_calli rfl (M_Rail_isLock (D := D + 1) hqq1) (?_ : am_gi sc (D + 2) 55 o (8, [(0, .ref 0), (1, .int a1), (2, .int a2)], [.int q1.1], ww q1.2, 0, 0)))
  refine am_go_blk 1 ⟨fun hc => ?_, fun hc => ?_⟩
  · have H := am_ie hc H
    show am_gi sc (D + 2) 55 o (14, [(0, .ref 0), (1, .int a1), (2, .int a2)], [], ww q1.2, 0, 0)
    refine am_go_blk 2 ⟨fun hc => ?_, fun hc => ?_⟩
    · have H := am_it hc H
      show am_gi sc (D + 2) 55 o (48, [(0, .ref 0), (1, .int a1)], [], ww q1.2, 0, 0)
      obtain ⟨hc, H⟩ := am_ckE H
      refine am_go_blk 5 ⟨am_inv hc, (?_ : am_gi sc (D + 2) 55 o (57, [(0, .ref 0), (1, .int a1)], [.int (q1.2.1 5 a1.toNatClampNeg)], ww q1.2, 0, 0))⟩
      exact am_go_blk 1 ⟨rfl, am_fi H⟩
    have H := am_ie hc H
    refine ⟨fun hc => ?_, fun hc => ?_⟩
    · have H := am_it hc H
      show am_gi sc (D + 2) 55 o (58, [(0, .ref 0), (1, .int a1)], [], ww q1.2, 0, 0)
      obtain ⟨hc, H⟩ := am_ckE H
      refine am_go_blk 5 ⟨am_inv hc, (?_ : am_gi sc (D + 2) 55 o (67, [(0, .ref 0), (1, .int a1)], [.int (q1.2.1 6 a1.toNatClampNeg)], ww q1.2, 0, 0))⟩
      exact am_go_blk 1 ⟨rfl, am_fi H⟩
    have H := am_ie hc H
    refine ⟨fun hc => ?_, fun hc => ?_⟩
    · have H := am_it hc H
      show am_gi sc (D + 2) 55 o (68, [(0, .ref 0), (1, .int a1)], [], ww q1.2, 0, 0)
      obtain ⟨hc, H⟩ := am_ckE H
      refine am_go_blk 5 ⟨am_inv hc, (?_ : am_gi sc (D + 2) 55 o (77, [(0, .ref 0), (1, .int a1)], [.int (q1.2.1 7 a1.toNatClampNeg)], ww q1.2, 0, 0))⟩
      exact am_go_blk 1 ⟨rfl, am_fi H⟩
    have H := am_ie hc H
    refine ⟨fun hc => ?_, fun hc => ?_⟩
    · have H := am_it hc H
      show am_gi sc (D + 2) 55 o (78, [(0, .ref 0), (1, .int a1)], [], ww q1.2, 0, 0)
      exact am_go_blk 8 ⟨rfl, am_fi H⟩
    have H := am_ie hc H
    refine ⟨fun hc => ?_, fun hc => ?_⟩
    · have H := am_it hc H
      show am_gi sc (D + 2) 55 o (90, [(0, .ref 0), (1, .int a1)], [], ww q1.2, 0, 0)
      obtain ⟨q2, hqq2, H⟩ := am_bnE H
      refine am_go_blk 3 (?_ : am_gi sc (D + 2) 55 o (95, [(0, .ref 0), (1, .int a1)], [.int a1, .ref 1], ww q1.2, 0, 0))
      refine am_invd rfl rfl rfl rfl (am_calli rfl (M_Rail_isShut (D := D) hqq2) (?_ : am_gi sc (D + 2) 55 o (98, [(0, .ref 0), (1, .int a1)], [.int q2.1], ww q2.2, 0, 0)))
      refine am_go_blk 1 ⟨fun hc => ?_, fun hc => ?_⟩
      · have H := am_it hc H
        show am_gi sc (D + 2) 55 o (105, [], [], ww q2.2, 0, 0)
        exact am_go_blk 1 (T_Loc_lockTold_106 (nI 0) q2.2 H)
      · have H := am_ie hc H
        show am_gi sc (D + 2) 55 o (101, [(0, .ref 0), (1, .int a1)], [], ww q2.2, 0, 0)
        exact am_go_blk 2 (T_Loc_lockTold_106 (nI 1) q2.2 H)
    have H := am_ie hc H
    show am_gi sc (D + 2) 55 o (107, [], [], ww q1.2, 0, 0)
    exact am_go_blk 2 ⟨rfl, am_fi H⟩
  · have H := am_it hc H
    show am_gi sc (D + 2) 55 o (11, [(0, .ref 0), (1, .int a1), (2, .int a2)], [], ww q1.2, 0, 0)
    exact am_go_blk 2 ⟨rfl, am_fi H⟩
theorem M_Loc_lockTold {sc : Option (Nat × (Nat → Int32))} {D : Nat} {o : Int32 × am_W} {a1 : Int32} {a2 : Int32} {w : am_W} (H : F_Loc_lockTold a1 a2 w = some o) : am_run sc (D + 3) 55 [.ref 0, .int a1, .int a2] (ww w) (some (.int o.1)) (ww o.2) 0 0 :=
  am_run_of rfl (T_Loc_lockTold a1 a2 w H)
def F_Rail_isFixing_58 (s0 : Int32) (w : am_W) : Option (Int32 × am_W) :=
  am_ck (am_bo s0) (some (s0, w))
def F_Rail_isFixing_57 (w : am_W) : Option (Int32 × am_W) :=
  F_Rail_isFixing_58 (nI 0) w
def F_Rail_isFixing_27 (a1 : Int32) (a2 : Int32) (s0 : Int32) (w : am_W) : Option (Int32 × am_W) :=
  (F_Rail_isShut a1 w).bind fun q1 => if q1.1 = 0 then (F_Rail_isFixing_57 q1.2) else (am_ck (am_in a1 10) ((F_Loc_has (q1.2.1 8 a1.toNatClampNeg) a2 q1.2).bind fun q2 => if q2.1 = 0 then (F_Rail_isFixing_57 q2.2) else (if s0 = 0 then (F_Rail_isFixing_57 q2.2) else (F_Rail_isFixing_58 (nI 1) q2.2))))
def F_Rail_isFixing (a1 : Int32) (a2 : Int32) (w : am_W) : Option (Int32 × am_W) :=
  am_ck (am_in a1 10) (if (((w.1 7 a1.toNatClampNeg) &&& ((w.1 1 1) ^^^ (-nI 1))) &&& (((nI 1) <<< (a2 &&& 31)) ^^^ (-nI 1))) = 0 then (F_Rail_isFixing_27 a1 a2 (nI 0) w) else (F_Rail_isFixing_27 a1 a2 (nI 1) w))
theorem T_Rail_isFixing_58 {sc : Option (Nat × (Nat → Int32))} {D : Nat} {o : Int32 × am_W} (s0 : Int32) (w : am_W) (H : F_Rail_isFixing_58 s0 w = some o) : am_gi sc (D + 2) 27 o (58, [], [.int s0], ww w, 0, 0) := by
  unfold F_Rail_isFixing_58 at H
  obtain ⟨hc, H⟩ := am_ckE H
  exact am_go_blk 1 ⟨am_boE hc, am_fi H⟩
theorem T_Rail_isFixing_57 {sc : Option (Nat × (Nat → Int32))} {D : Nat} {o : Int32 × am_W} (w : am_W) (H : F_Rail_isFixing_57 w = some o) : am_gi sc (D + 2) 27 o (57, [], [], ww w, 0, 0) := by
  unfold F_Rail_isFixing_57 at H
  exact am_go_blk 1 (T_Rail_isFixing_58 (nI 0) w H)
theorem T_Rail_isFixing_27 {sc : Option (Nat × (Nat → Int32))} {D : Nat} {o : Int32 × am_W} (a1 : Int32) (a2 : Int32) (s0 : Int32) (w : am_W) (H : F_Rail_isFixing_27 a1 a2 s0 w = some o) : am_gi sc (D + 2) 27 o (27, [(0, .ref 1), (1, .int a1), (2, .int a2)], [.int s0], ww w, 0, 0) := by
  unfold F_Rail_isFixing_27 at H
  obtain ⟨q1, hqq1, H⟩ := am_bnE H
  refine am_go_blk 3 (?_ : am_gi sc (D + 2) 27 o (30, [(3, .int s0), (0, .ref 1), (1, .int a1), (2, .int a2)], [.int a1, .ref 1], ww w, 0, 0))
  refine am_invd rfl rfl rfl rfl (am_calli rfl (M_Rail_isShut (D := D) hqq1) (?_ : am_gi sc (D + 2) 27 o (33, [(3, .int s0), (0, .ref 1), (1, .int a1), (2, .int a2)], [.int q1.1], ww q1.2, 0, 0)))
  refine am_go_blk 1 ⟨fun hc => ?_, fun hc => ?_⟩
  · have H := am_it hc H
    exact T_Rail_isFixing_57 q1.2 H
  · have H := am_ie hc H
    show am_gi sc (D + 2) 27 o (36, [(3, .int s0), (0, .ref 1), (1, .int a1), (2, .int a2)], [], ww q1.2, 0, 0)
    obtain ⟨hc, H⟩ := am_ckE H
    refine am_go_blk 4 ⟨am_inv hc, (?_ : am_gi sc (D + 2) 27 o (42, [(3, .int s0), (0, .ref 1), (1, .int a1), (2, .int a2)], [.int (q1.2.1 8 a1.toNatClampNeg)], ww q1.2, 0, 0))⟩
    obtain ⟨q2, hqq2, H⟩ := am_bnE H
    refine am_go_blk 1 (?_ : am_gi sc (D + 2) 27 o (43, [(3, .int s0), (0, .ref 1), (1, .int a1), (2, .int a2)], [.int a2, .int (q1.2.1 8 a1.toNatClampNeg)], ww q1.2, 0, 0))
    refine am_cls rfl rfl rfl (am_calli rfl (M_Loc_has (D := D + 1) hqq2) (?_ : am_gi sc (D + 2) 27 o (46, [(3, .int s0), (0, .ref 1), (1, .int a1), (2, .int a2)], [.int q2.1], ww q2.2, 0, 0)))
    refine am_go_blk 1 ⟨fun hc => ?_, fun hc => ?_⟩
    · have H := am_it hc H
      exact T_Rail_isFixing_57 q2.2 H
    · have H := am_ie hc H
      show am_gi sc (D + 2) 27 o (49, [(3, .int s0), (0, .ref 1), (1, .int a1), (2, .int a2)], [], ww q2.2, 0, 0)
      refine am_go_blk 2 ⟨fun hc => ?_, fun hc => ?_⟩
      · have H := am_it hc H
        exact T_Rail_isFixing_57 q2.2 H
      · have H := am_ie hc H
        show am_gi sc (D + 2) 27 o (53, [(3, .int s0), (0, .ref 1), (1, .int a1), (2, .int a2)], [], ww q2.2, 0, 0)
        exact am_go_blk 2 (T_Rail_isFixing_58 (nI 1) q2.2 H)
theorem T_Rail_isFixing {sc : Option (Nat × (Nat → Int32))} {D : Nat} {o : Int32 × am_W} (a1 : Int32) (a2 : Int32) (w : am_W) (H : F_Rail_isFixing a1 a2 w = some o) : am_gi sc (D + 2) 27 o (0, [(0, .ref 1), (1, .int a1), (2, .int a2)], [], ww w, 0, 0) := by
  unfold F_Rail_isFixing at H
  obtain ⟨hc, H⟩ := am_ckE H
  refine am_go_blk 4 ⟨am_inv hc, (?_ : am_gi sc (D + 2) 27 o (6, [(0, .ref 1), (1, .int a1), (2, .int a2)], [.int (w.1 7 a1.toNatClampNeg)], ww w, 0, 0))⟩
  refine am_go_blk 12 ⟨fun hc => ?_, fun hc => ?_⟩
  · have H := am_it hc H
    show am_gi sc (D + 2) 27 o (26, [(0, .ref 1), (1, .int a1), (2, .int a2)], [], ww w, 0, 0)
    exact am_go_blk 1 (T_Rail_isFixing_27 a1 a2 (nI 0) w H)
  · have H := am_ie hc H
    show am_gi sc (D + 2) 27 o (22, [(0, .ref 1), (1, .int a1), (2, .int a2)], [], ww w, 0, 0)
    exact am_go_blk 2 (T_Rail_isFixing_27 a1 a2 (nI 1) w H)
theorem M_Rail_isFixing {sc : Option (Nat × (Nat → Int32))} {D : Nat} {o : Int32 × am_W} {a1 : Int32} {a2 : Int32} {w : am_W} (H : F_Rail_isFixing a1 a2 w = some o) : am_run sc (D + 3) 27 [.ref 1, .int a1, .int a2] (ww w) (some (.int o.1)) (ww o.2) 0 0 :=
  am_run_of rfl (T_Rail_isFixing a1 a2 w H)
def F_Rail_holders_39 (r4 : Int32 → Int32 → Int32 → am_W → Option (Int32 × am_W)) (a1 : Int32) (a3 : Int32) (s0 : Int32) (s1 : Int32) (w : am_W) : Option (Int32 × am_W) :=
  r4 a1 (s1 ||| s0) (a3 + (nI 1)) w
def F_Rail_holders_38 (r4 : Int32 → Int32 → Int32 → am_W → Option (Int32 × am_W)) (a1 : Int32) (a3 : Int32) (s0 : Int32) (w : am_W) : Option (Int32 × am_W) :=
  F_Rail_holders_39 r4 a1 a3 (nI 0) s0 w
def F_Rail_holders_4 (r4 : Int32 → Int32 → Int32 → am_W → Option (Int32 × am_W)) (a1 : Int32) (a2 : Int32) (a3 : Int32) (w : am_W) : Option (Int32 × am_W) :=
  if (w.1 1 2) ≤ a3 then (some (a2, w)) else (am_ck (am_in a3 10) (if (w.1 5 a3.toNatClampNeg) = a1 then (F_Rail_holders_38 r4 a1 a3 a2 w) else ((F_Rail_isFixing a3 a1 w).bind fun q1 => if q1.1 = 0 then (F_Rail_holders_38 r4 a1 a3 a2 q1.2) else (F_Rail_holders_39 r4 a1 a3 ((nI 1) <<< (a3 &&& 31)) a2 q1.2))))
def L_Rail_holders_4 : Nat → Int32 → Int32 → Int32 → am_W → Option (Int32 × am_W)
  | 0, _, _, _, _ => none
  | n + 1, a1, a2, a3, w => F_Rail_holders_4 (L_Rail_holders_4 n) a1 a2 a3 w
def F_Rail_holders (a1 : Int32) (w : am_W) : Option (Int32 × am_W) :=
  L_Rail_holders_4 am_NF a1 (nI 0) (nI 0) w
theorem T_Rail_holders_39 {sc : Option (Nat × (Nat → Int32))} {D : Nat} {o : Int32 × am_W} {r4 : Int32 → Int32 → Int32 → am_W → Option (Int32 × am_W)} (Hr4 : ∀ (a1 : Int32) (a2 : Int32) (a3 : Int32) (w : am_W) , r4 a1 a2 a3 w = some o → am_gi sc (D + 3) 28 o (4, [(0, .ref 1), (1, .int a1), (2, .int a2), (3, .int a3)], [], ww w, 0, 0)) (a1 : Int32) (a3 : Int32) (s0 : Int32) (s1 : Int32) (w : am_W) (H : F_Rail_holders_39 r4 a1 a3 s0 s1 w = some o) : am_gi sc (D + 3) 28 o (39, [(0, .ref 1), (1, .int a1), (3, .int a3)], [.int s0, .int s1], ww w, 0, 0) := by
  unfold F_Rail_holders_39 at H
  exact am_go_blk 4 (Hr4 a1 (s1 ||| s0) (a3 + (nI 1)) w H)
theorem T_Rail_holders_38 {sc : Option (Nat × (Nat → Int32))} {D : Nat} {o : Int32 × am_W} {r4 : Int32 → Int32 → Int32 → am_W → Option (Int32 × am_W)} (Hr4 : ∀ (a1 : Int32) (a2 : Int32) (a3 : Int32) (w : am_W) , r4 a1 a2 a3 w = some o → am_gi sc (D + 3) 28 o (4, [(0, .ref 1), (1, .int a1), (2, .int a2), (3, .int a3)], [], ww w, 0, 0)) (a1 : Int32) (a3 : Int32) (s0 : Int32) (w : am_W) (H : F_Rail_holders_38 r4 a1 a3 s0 w = some o) : am_gi sc (D + 3) 28 o (38, [(0, .ref 1), (1, .int a1), (3, .int a3)], [.int s0], ww w, 0, 0) := by
  unfold F_Rail_holders_38 at H
  exact am_go_blk 1 (T_Rail_holders_39 Hr4 a1 a3 (nI 0) s0 w H)
theorem T_Rail_holders_4 {sc : Option (Nat × (Nat → Int32))} {D : Nat} {o : Int32 × am_W} {r4 : Int32 → Int32 → Int32 → am_W → Option (Int32 × am_W)} (Hr4 : ∀ (a1 : Int32) (a2 : Int32) (a3 : Int32) (w : am_W) , r4 a1 a2 a3 w = some o → am_gi sc (D + 3) 28 o (4, [(0, .ref 1), (1, .int a1), (2, .int a2), (3, .int a3)], [], ww w, 0, 0)) (a1 : Int32) (a2 : Int32) (a3 : Int32) (w : am_W) (H : F_Rail_holders_4 r4 a1 a2 a3 w = some o) : am_gi sc (D + 3) 28 o (4, [(0, .ref 1), (1, .int a1), (2, .int a2), (3, .int a3)], [], ww w, 0, 0) := by
  unfold F_Rail_holders_4 at H
  refine am_go_blk 4 ⟨fun hc => ?_, fun hc => ?_⟩
  · have H := am_it hc H
    show am_gi sc (D + 3) 28 o (47, [(2, .int a2)], [], ww w, 0, 0)
    exact am_go_blk 2 ⟨rfl, am_fi H⟩
  · have H := am_ie hc H
    show am_gi sc (D + 3) 28 o (12, [(0, .ref 1), (1, .int a1), (2, .int a2), (3, .int a3)], [], ww w, 0, 0)
    obtain ⟨hc, H⟩ := am_ckE H
    refine am_go_blk 5 ⟨am_inv hc, (?_ : am_gi sc (D + 3) 28 o (19, [(0, .ref 1), (1, .int a1), (2, .int a2), (3, .int a3)], [.int (w.1 5 a3.toNatClampNeg), .int a2], ww w, 0, 0))⟩
    refine am_go_blk 2 ⟨fun hc => ?_, fun hc => ?_⟩
    · have H := am_it hc H
      exact T_Rail_holders_38 Hr4 a1 a3 a2 w H
    · have H := am_ie hc H
      show am_gi sc (D + 3) 28 o (23, [(0, .ref 1), (1, .int a1), (2, .int a2), (3, .int a3)], [.int a2], ww w, 0, 0)
      obtain ⟨q1, hqq1, H⟩ := am_bnE H
      refine am_go_blk 3 (?_ : am_gi sc (D + 3) 28 o (26, [(0, .ref 1), (1, .int a1), (2, .int a2), (3, .int a3)], [.int a1, .int a3, .ref 1, .int a2], ww w, 0, 0))
      refine am_invd rfl rfl rfl rfl (am_calli rfl (M_Rail_isFixing (D := D) hqq1) (?_ : am_gi sc (D + 3) 28 o (29, [(0, .ref 1), (1, .int a1), (2, .int a2), (3, .int a3)], [.int q1.1, .int a2], ww q1.2, 0, 0)))
      refine am_go_blk 1 ⟨fun hc => ?_, fun hc => ?_⟩
      · have H := am_it hc H
        exact T_Rail_holders_38 Hr4 a1 a3 a2 q1.2 H
      · have H := am_ie hc H
        show am_gi sc (D + 3) 28 o (32, [(0, .ref 1), (1, .int a1), (2, .int a2), (3, .int a3)], [.int a2], ww q1.2, 0, 0)
        exact am_go_blk 4 (T_Rail_holders_39 Hr4 a1 a3 ((nI 1) <<< (a3 &&& 31)) a2 q1.2 H)
theorem TL_Rail_holders_4 {sc : Option (Nat × (Nat → Int32))} {D : Nat} {o : Int32 × am_W} : ∀ (n : Nat) (a1 : Int32) (a2 : Int32) (a3 : Int32) (w : am_W) , L_Rail_holders_4 n a1 a2 a3 w = some o → am_gi sc (D + 3) 28 o (4, [(0, .ref 1), (1, .int a1), (2, .int a2), (3, .int a3)], [], ww w, 0, 0)
  | 0, _, _, _, _, H => by cases H
  | n + 1, a1, a2, a3, w, H => T_Rail_holders_4 (TL_Rail_holders_4 n) a1 a2 a3 w H
theorem T_Rail_holders {sc : Option (Nat × (Nat → Int32))} {D : Nat} {o : Int32 × am_W} (a1 : Int32) (w : am_W) (H : F_Rail_holders a1 w = some o) : am_gi sc (D + 3) 28 o (0, [(0, .ref 1), (1, .int a1)], [], ww w, 0, 0) := by
  unfold F_Rail_holders at H
  exact am_go_blk 4 (TL_Rail_holders_4 am_NF a1 (nI 0) (nI 0) w H)
theorem M_Rail_holders {sc : Option (Nat × (Nat → Int32))} {D : Nat} {o : Int32 × am_W} {a1 : Int32} {w : am_W} (H : F_Rail_holders a1 w = some o) : am_run sc (D + 4) 28 [.ref 1, .int a1] (ww w) (some (.int o.1)) (ww o.2) 0 0 :=
  am_run_of rfl (T_Rail_holders a1 w H)
def F_Loc_holds_24 (s0 : Int32) (w : am_W) : Option (Int32 × am_W) :=
  some (s0, w)
def F_Loc_holds (a1 : Int32) (w : am_W) : Option (Int32 × am_W) :=
  (F_Rail_isThing a1 w).bind fun q1 => if q1.1 = 0 then (F_Loc_holds_24 (-nI 5) q1.2) else ((F_Rail_holders a1 q1.2).bind fun q2 => F_Loc_holds_24 q2.1 q2.2)
theorem T_Loc_holds_24 {sc : Option (Nat × (Nat → Int32))} {D : Nat} {o : Int32 × am_W} (s0 : Int32) (w : am_W) (H : F_Loc_holds_24 s0 w = some o) : am_gi sc (D + 4) 56 o (24, [], [.int s0], ww w, 0, 0) := by
  unfold F_Loc_holds_24 at H
  exact am_go_blk 1 ⟨rfl, am_fi H⟩
theorem T_Loc_holds {sc : Option (Nat × (Nat → Int32))} {D : Nat} {o : Int32 × am_W} (a1 : Int32) (w : am_W) (H : F_Loc_holds a1 w = some o) : am_gi sc (D + 4) 56 o (0, [(0, .ref 0), (1, .int a1)], [], ww w, 0, 0) := by
  unfold F_Loc_holds at H
  obtain ⟨q1, hqq1, H⟩ := am_bnE H
  refine am_go_blk 3 (?_ : am_gi sc (D + 4) 56 o (5, [(0, .ref 0), (1, .int a1)], [.int a1, .ref 1], ww w, 0, 0))
  refine am_invd rfl rfl rfl rfl (am_calli rfl (M_Rail_isThing (D := D + 3) hqq1) (?_ : am_gi sc (D + 4) 56 o (8, [(0, .ref 0), (1, .int a1)], [.int q1.1], ww q1.2, 0, 0)))
  refine am_go_blk 1 ⟨fun hc => ?_, fun hc => ?_⟩
  · have H := am_it hc H
    show am_gi sc (D + 4) 56 o (22, [], [], ww q1.2, 0, 0)
    exact am_go_blk 1 (T_Loc_holds_24 (-nI 5) q1.2 H)
  · have H := am_ie hc H
    show am_gi sc (D + 4) 56 o (11, [(0, .ref 0), (1, .int a1)], [], ww q1.2, 0, 0)
    obtain ⟨q2, hqq2, H⟩ := am_bnE H
    refine am_go_blk 3 (?_ : am_gi sc (D + 4) 56 o (16, [(0, .ref 0), (1, .int a1)], [.int a1, .ref 1], ww q1.2, 0, 0))
    refine am_invd rfl rfl rfl rfl (am_calli rfl (M_Rail_holders (D := D) hqq2) (?_ : am_gi sc (D + 4) 56 o (19, [(0, .ref 0), (1, .int a1)], [.int q2.1], ww q2.2, 0, 0)))
    exact am_go_blk 1 (T_Loc_holds_24 q2.1 q2.2 H)
theorem M_Loc_holds {sc : Option (Nat × (Nat → Int32))} {D : Nat} {o : Int32 × am_W} {a1 : Int32} {w : am_W} (H : F_Loc_holds a1 w = some o) : am_run sc (D + 5) 56 [.ref 0, .int a1] (ww w) (some (.int o.1)) (ww o.2) 0 0 :=
  am_run_of rfl (T_Loc_holds a1 w H)
def F_Rail_canGo_97 (r5 : Int32 → Int32 → Int32 → Int32 → am_W → Option (Int32 × am_W)) (a1 : Int32) (a2 : Int32) (a3 : Int32) (a4 : Int32) (w : am_W) : Option (Int32 × am_W) :=
  r5 a1 a2 a3 (a4 + (nI 1)) w
def F_Rail_canGo_68 (r5 : Int32 → Int32 → Int32 → Int32 → am_W → Option (Int32 × am_W)) (a1 : Int32) (a2 : Int32) (a3 : Int32) (a4 : Int32) (s0 : Int32) (w : am_W) : Option (Int32 × am_W) :=
  if s0 = 0 then (F_Rail_canGo_97 r5 a1 a2 a3 a4 w) else (am_ck (am_in a4 10) (am_ck (am_in a4 10) (F_Rail_canGo_97 r5 a1 a2 (a3 ||| ((w.1 8 a4.toNatClampNeg) &&& (((nI 1) <<< ((w.1 5 a4.toNatClampNeg) &&& 31)) ^^^ (-nI 1)))) a4 w)))
def F_Rail_canGo_5 (r5 : Int32 → Int32 → Int32 → Int32 → am_W → Option (Int32 × am_W)) (a1 : Int32) (a2 : Int32) (a3 : Int32) (a4 : Int32) (w : am_W) : Option (Int32 × am_W) :=
  if (w.1 1 2) ≤ a4 then ((F_Rail_allThings w).bind fun q1 => some (((q1.1 &&& (a1 ^^^ (-nI 1))) &&& (a3 ^^^ (-nI 1))), q1.2)) else ((F_Loc_has a2 a4 w).bind fun q2 => if q2.1 = 0 then (am_ck (am_in a4 10) ((F_Loc_has a1 (q2.2.1 5 a4.toNatClampNeg) q2.2).bind fun q3 => if q3.1 = 0 then (am_ck (am_in a4 10) (if (((q3.2.1 7 a4.toNatClampNeg) &&& (a1 ^^^ (-nI 1))) &&& (((q3.2.1 7 a4.toNatClampNeg) &&& (a1 ^^^ (-nI 1))) - (nI 1))) = 0 then (F_Rail_canGo_68 r5 a1 a2 a3 a4 (nI 0) q3.2) else (F_Rail_canGo_68 r5 a1 a2 a3 a4 (nI 1) q3.2))) else (F_Rail_canGo_97 r5 a1 a2 a3 a4 q3.2))) else (F_Rail_canGo_97 r5 a1 a2 a3 a4 q2.2))
def L_Rail_canGo_5 : Nat → Int32 → Int32 → Int32 → Int32 → am_W → Option (Int32 × am_W)
  | 0, _, _, _, _, _ => none
  | n + 1, a1, a2, a3, a4, w => F_Rail_canGo_5 (L_Rail_canGo_5 n) a1 a2 a3 a4 w
def F_Rail_canGo (a1 : Int32) (a2 : Int32) (w : am_W) : Option (Int32 × am_W) :=
  L_Rail_canGo_5 am_NF a1 a2 (nI 0) (nI 0) w
theorem T_Rail_canGo_97 {sc : Option (Nat × (Nat → Int32))} {D : Nat} {o : Int32 × am_W} {r5 : Int32 → Int32 → Int32 → Int32 → am_W → Option (Int32 × am_W)} (Hr5 : ∀ (a1 : Int32) (a2 : Int32) (a3 : Int32) (a4 : Int32) (w : am_W) , r5 a1 a2 a3 a4 w = some o → am_gi sc (D + 1) 30 o (5, [(0, .ref 1), (1, .int a1), (2, .int a2), (3, .int a3), (4, .int a4)], [], ww w, 0, 0)) (a1 : Int32) (a2 : Int32) (a3 : Int32) (a4 : Int32) (w : am_W) (H : F_Rail_canGo_97 r5 a1 a2 a3 a4 w = some o) : am_gi sc (D + 1) 30 o (97, [(0, .ref 1), (1, .int a1), (2, .int a2), (3, .int a3), (4, .int a4)], [], ww w, 0, 0) := by
  unfold F_Rail_canGo_97 at H
  exact am_go_blk 2 (Hr5 a1 a2 a3 (a4 + (nI 1)) w H)
theorem T_Rail_canGo_68 {sc : Option (Nat × (Nat → Int32))} {D : Nat} {o : Int32 × am_W} {r5 : Int32 → Int32 → Int32 → Int32 → am_W → Option (Int32 × am_W)} (Hr5 : ∀ (a1 : Int32) (a2 : Int32) (a3 : Int32) (a4 : Int32) (w : am_W) , r5 a1 a2 a3 a4 w = some o → am_gi sc (D + 1) 30 o (5, [(0, .ref 1), (1, .int a1), (2, .int a2), (3, .int a3), (4, .int a4)], [], ww w, 0, 0)) (a1 : Int32) (a2 : Int32) (a3 : Int32) (a4 : Int32) (s0 : Int32) (w : am_W) (H : F_Rail_canGo_68 r5 a1 a2 a3 a4 s0 w = some o) : am_gi sc (D + 1) 30 o (68, [(0, .ref 1), (1, .int a1), (2, .int a2), (3, .int a3), (4, .int a4)], [.int s0], ww w, 0, 0) := by
  unfold F_Rail_canGo_68 at H
  refine am_go_blk 3 ⟨fun hc => ?_, fun hc => ?_⟩
  · have H := am_it hc H
    exact T_Rail_canGo_97 Hr5 a1 a2 a3 a4 w H
  · have H := am_ie hc H
    show am_gi sc (D + 1) 30 o (75, [(6, .int s0), (0, .ref 1), (1, .int a1), (2, .int a2), (3, .int a3), (4, .int a4)], [], ww w, 0, 0)
    obtain ⟨hc, H⟩ := am_ckE H
    refine am_go_blk 5 ⟨am_inv hc, (?_ : am_gi sc (D + 1) 30 o (83, [(6, .int s0), (0, .ref 1), (1, .int a1), (2, .int a2), (3, .int a3), (4, .int a4)], [.int (w.1 8 a4.toNatClampNeg), .int a3], ww w, 0, 0))⟩
    obtain ⟨hc, H⟩ := am_ckE H
    refine am_go_blk 5 ⟨am_inv hc, (?_ : am_gi sc (D + 1) 30 o (91, [(6, .int s0), (0, .ref 1), (1, .int a1), (2, .int a2), (3, .int a3), (4, .int a4)], [.int (w.1 5 a4.toNatClampNeg), .int (nI 1), .int (w.1 8 a4.toNatClampNeg), .int a3], ww w, 0, 0))⟩
    exact am_go_blk 6 (T_Rail_canGo_97 Hr5 a1 a2 (a3 ||| ((w.1 8 a4.toNatClampNeg) &&& (((nI 1) <<< ((w.1 5 a4.toNatClampNeg) &&& 31)) ^^^ (-nI 1)))) a4 w H)
theorem T_Rail_canGo_5 {sc : Option (Nat × (Nat → Int32))} {D : Nat} {o : Int32 × am_W} {r5 : Int32 → Int32 → Int32 → Int32 → am_W → Option (Int32 × am_W)} (Hr5 : ∀ (a1 : Int32) (a2 : Int32) (a3 : Int32) (a4 : Int32) (w : am_W) , r5 a1 a2 a3 a4 w = some o → am_gi sc (D + 1) 30 o (5, [(0, .ref 1), (1, .int a1), (2, .int a2), (3, .int a3), (4, .int a4)], [], ww w, 0, 0)) (a1 : Int32) (a2 : Int32) (a3 : Int32) (a4 : Int32) (w : am_W) (H : F_Rail_canGo_5 r5 a1 a2 a3 a4 w = some o) : am_gi sc (D + 1) 30 o (5, [(0, .ref 1), (1, .int a1), (2, .int a2), (3, .int a3), (4, .int a4)], [], ww w, 0, 0) := by
  unfold F_Rail_canGo_5 at H
  refine am_go_blk 4 ⟨fun hc => ?_, fun hc => ?_⟩
  · have H := am_it hc H
    show am_gi sc (D + 1) 30 o (103, [(0, .ref 1), (1, .int a1), (3, .int a3)], [], ww w, 0, 0)
    obtain ⟨q1, hqq1, H⟩ := am_bnE H
    refine am_go_blk 1 (?_ : am_gi sc (D + 1) 30 o (104, [(0, .ref 1), (1, .int a1), (3, .int a3)], [.ref 1], ww w, 0, 0))
    refine am_invd rfl rfl rfl rfl (am_calli rfl (M_Rail_allThings (D := D) hqq1) (?_ : am_gi sc (D + 1) 30 o (107, [(0, .ref 1), (1, .int a1), (3, .int a3)], [.int q1.1], ww q1.2, 0, 0)))
    exact am_go_blk 9 ⟨rfl, am_fi H⟩
  · have H := am_ie hc H
    show am_gi sc (D + 1) 30 o (14, [(0, .ref 1), (1, .int a1), (2, .int a2), (3, .int a3), (4, .int a4)], [], ww w, 0, 0)
    obtain ⟨q2, hqq2, H⟩ := am_bnE H
    refine am_go_blk 2 (?_ : am_gi sc (D + 1) 30 o (17, [(0, .ref 1), (1, .int a1), (2, .int a2), (3, .int a3), (4, .int a4)], [.int a4, .int a2], ww w, 0, 0))
    refine am_cls rfl rfl rfl (am_calli rfl (M_Loc_has (D := D) hqq2) (?_ : am_gi sc (D + 1) 30 o (20, [(0, .ref 1), (1, .int a1), (2, .int a2), (3, .int a3), (4, .int a4)], [.int q2.1], ww q2.2, 0, 0)))
    refine am_go_blk 1 ⟨fun hc => ?_, fun hc => ?_⟩
    · have H := am_ie hc H
      exact T_Rail_canGo_97 Hr5 a1 a2 a3 a4 q2.2 H
    · have H := am_it hc H
      show am_gi sc (D + 1) 30 o (23, [(0, .ref 1), (1, .int a1), (2, .int a2), (3, .int a3), (4, .int a4)], [], ww q2.2, 0, 0)
      obtain ⟨hc, H⟩ := am_ckE H
      refine am_go_blk 5 ⟨am_inv hc, (?_ : am_gi sc (D + 1) 30 o (31, [(0, .ref 1), (1, .int a1), (2, .int a2), (3, .int a3), (4, .int a4)], [.int (q2.2.1 5 a4.toNatClampNeg), .int a1], ww q2.2, 0, 0))⟩
      obtain ⟨q3, hqq3, H⟩ := am_bnE H
      refine am_cls rfl rfl rfl (am_calli rfl (M_Loc_has (D := D) hqq3) (?_ : am_gi sc (D + 1) 30 o (34, [(0, .ref 1), (1, .int a1), (2, .int a2), (3, .int a3), (4, .int a4)], [.int q3.1], ww q3.2, 0, 0)))
      refine am_go_blk 1 ⟨fun hc => ?_, fun hc => ?_⟩
      · have H := am_it hc H
        show am_gi sc (D + 1) 30 o (40, [(0, .ref 1), (1, .int a1), (2, .int a2), (3, .int a3), (4, .int a4)], [], ww q3.2, 0, 0)
        obtain ⟨hc, H⟩ := am_ckE H
        refine am_go_blk 4 ⟨am_inv hc, (?_ : am_gi sc (D + 1) 30 o (47, [(0, .ref 1), (1, .int a1), (2, .int a2), (3, .int a3), (4, .int a4)], [.int (q3.2.1 7 a4.toNatClampNeg)], ww q3.2, 0, 0))⟩
        refine am_go_blk 11 ⟨fun hc => ?_, fun hc => ?_⟩
        · have H := am_it hc H
          show am_gi sc (D + 1) 30 o (67, [(0, .ref 1), (1, .int a1), (2, .int a2), (3, .int a3), (4, .int a4)], [], ww q3.2, 0, 0)
          exact am_go_blk 1 (T_Rail_canGo_68 Hr5 a1 a2 a3 a4 (nI 0) q3.2 H)
        · have H := am_ie hc H
          show am_gi sc (D + 1) 30 o (63, [(5, .int ((q3.2.1 7 a4.toNatClampNeg) &&& (a1 ^^^ (-nI 1)))), (0, .ref 1), (1, .int a1), (2, .int a2), (3, .int a3), (4, .int a4)], [], ww q3.2, 0, 0)
          exact am_go_blk 2 (T_Rail_canGo_68 Hr5 a1 a2 a3 a4 (nI 1) q3.2 H)
      · have H := am_ie hc H
        show am_gi sc (D + 1) 30 o (37, [(0, .ref 1), (1, .int a1), (2, .int a2), (3, .int a3), (4, .int a4)], [], ww q3.2, 0, 0)
        exact am_go_blk 1 (T_Rail_canGo_97 Hr5 a1 a2 a3 a4 q3.2 H)
theorem TL_Rail_canGo_5 {sc : Option (Nat × (Nat → Int32))} {D : Nat} {o : Int32 × am_W} : ∀ (n : Nat) (a1 : Int32) (a2 : Int32) (a3 : Int32) (a4 : Int32) (w : am_W) , L_Rail_canGo_5 n a1 a2 a3 a4 w = some o → am_gi sc (D + 1) 30 o (5, [(0, .ref 1), (1, .int a1), (2, .int a2), (3, .int a3), (4, .int a4)], [], ww w, 0, 0)
  | 0, _, _, _, _, _, H => by cases H
  | n + 1, a1, a2, a3, a4, w, H => T_Rail_canGo_5 (TL_Rail_canGo_5 n) a1 a2 a3 a4 w H
theorem T_Rail_canGo {sc : Option (Nat × (Nat → Int32))} {D : Nat} {o : Int32 × am_W} (a1 : Int32) (a2 : Int32) (w : am_W) (H : F_Rail_canGo a1 a2 w = some o) : am_gi sc (D + 1) 30 o (0, [(0, .ref 1), (1, .int a1), (2, .int a2)], [], ww w, 0, 0) := by
  unfold F_Rail_canGo at H
  exact am_go_blk 4 (TL_Rail_canGo_5 am_NF a1 a2 (nI 0) (nI 0) w H)
theorem M_Rail_canGo {sc : Option (Nat × (Nat → Int32))} {D : Nat} {o : Int32 × am_W} {a1 : Int32} {a2 : Int32} {w : am_W} (H : F_Rail_canGo a1 a2 w = some o) : am_run sc (D + 2) 30 [.ref 1, .int a1, .int a2] (ww w) (some (.int o.1)) (ww o.2) 0 0 :=
  am_run_of rfl (T_Rail_canGo a1 a2 w H)
def F_Loc_free (w : am_W) : Option (Int32 × am_W) :=
  (F_Rail_canGo (w.1 1 1) (w.1 1 3) w).bind fun q1 => some (q1.1, q1.2)
theorem T_Loc_free {sc : Option (Nat × (Nat → Int32))} {D : Nat} {o : Int32 × am_W} (w : am_W) (H : F_Loc_free w = some o) : am_gi sc (D + 2) 57 o (0, [(0, .ref 0)], [], ww w, 0, 0) := by
  unfold F_Loc_free at H
  obtain ⟨q1, hqq1, H⟩ := am_bnE H
  refine am_go_blk 8 (?_ : am_gi sc (D + 2) 57 o (18, [(0, .ref 0)], [.int (w.1 1 3), .int (w.1 1 1), .ref 1], ww w, 0, 0))
  refine am_invd rfl rfl rfl rfl (am_calli rfl (M_Rail_canGo (D := D) hqq1) (?_ : am_gi sc (D + 2) 57 o (21, [(0, .ref 0)], [.int q1.1], ww q1.2, 0, 0)))
  exact am_go_blk 1 ⟨rfl, am_fi H⟩
theorem M_Loc_free {sc : Option (Nat × (Nat → Int32))} {D : Nat} {o : Int32 × am_W} {w : am_W} (H : F_Loc_free w = some o) : am_run sc (D + 3) 57 [.ref 0] (ww w) (some (.int o.1)) (ww o.2) 0 0 :=
  am_run_of rfl (T_Loc_free w H)
def F_Jint_bitCount_0f7a4 (a0 : Int32) (w : am_W) : Option (Int32 × am_W) :=
  some (((((((((a0 - ((a0.toUInt32 >>> ((nI 1).toUInt32 &&& Int32.toUInt32 31)).toInt32 &&& (nI 1431655765))) &&& (nI 858993459)) + (((a0 - ((a0.toUInt32 >>> ((nI 1).toUInt32 &&& Int32.toUInt32 31)).toInt32 &&& (nI 1431655765))).toUInt32 >>> ((nI 2).toUInt32 &&& Int32.toUInt32 31)).toInt32 &&& (nI 858993459))) + ((((a0 - ((a0.toUInt32 >>> ((nI 1).toUInt32 &&& Int32.toUInt32 31)).toInt32 &&& (nI 1431655765))) &&& (nI 858993459)) + (((a0 - ((a0.toUInt32 >>> ((nI 1).toUInt32 &&& Int32.toUInt32 31)).toInt32 &&& (nI 1431655765))).toUInt32 >>> ((nI 2).toUInt32 &&& Int32.toUInt32 31)).toInt32 &&& (nI 858993459))).toUInt32 >>> ((nI 4).toUInt32 &&& Int32.toUInt32 31)).toInt32) &&& (nI 252645135)) + ((((((a0 - ((a0.toUInt32 >>> ((nI 1).toUInt32 &&& Int32.toUInt32 31)).toInt32 &&& (nI 1431655765))) &&& (nI 858993459)) + (((a0 - ((a0.toUInt32 >>> ((nI 1).toUInt32 &&& Int32.toUInt32 31)).toInt32 &&& (nI 1431655765))).toUInt32 >>> ((nI 2).toUInt32 &&& Int32.toUInt32 31)).toInt32 &&& (nI 858993459))) + ((((a0 - ((a0.toUInt32 >>> ((nI 1).toUInt32 &&& Int32.toUInt32 31)).toInt32 &&& (nI 1431655765))) &&& (nI 858993459)) + (((a0 - ((a0.toUInt32 >>> ((nI 1).toUInt32 &&& Int32.toUInt32 31)).toInt32 &&& (nI 1431655765))).toUInt32 >>> ((nI 2).toUInt32 &&& Int32.toUInt32 31)).toInt32 &&& (nI 858993459))).toUInt32 >>> ((nI 4).toUInt32 &&& Int32.toUInt32 31)).toInt32) &&& (nI 252645135)).toUInt32 >>> ((nI 8).toUInt32 &&& Int32.toUInt32 31)).toInt32) + (((((((a0 - ((a0.toUInt32 >>> ((nI 1).toUInt32 &&& Int32.toUInt32 31)).toInt32 &&& (nI 1431655765))) &&& (nI 858993459)) + (((a0 - ((a0.toUInt32 >>> ((nI 1).toUInt32 &&& Int32.toUInt32 31)).toInt32 &&& (nI 1431655765))).toUInt32 >>> ((nI 2).toUInt32 &&& Int32.toUInt32 31)).toInt32 &&& (nI 858993459))) + ((((a0 - ((a0.toUInt32 >>> ((nI 1).toUInt32 &&& Int32.toUInt32 31)).toInt32 &&& (nI 1431655765))) &&& (nI 858993459)) + (((a0 - ((a0.toUInt32 >>> ((nI 1).toUInt32 &&& Int32.toUInt32 31)).toInt32 &&& (nI 1431655765))).toUInt32 >>> ((nI 2).toUInt32 &&& Int32.toUInt32 31)).toInt32 &&& (nI 858993459))).toUInt32 >>> ((nI 4).toUInt32 &&& Int32.toUInt32 31)).toInt32) &&& (nI 252645135)) + ((((((a0 - ((a0.toUInt32 >>> ((nI 1).toUInt32 &&& Int32.toUInt32 31)).toInt32 &&& (nI 1431655765))) &&& (nI 858993459)) + (((a0 - ((a0.toUInt32 >>> ((nI 1).toUInt32 &&& Int32.toUInt32 31)).toInt32 &&& (nI 1431655765))).toUInt32 >>> ((nI 2).toUInt32 &&& Int32.toUInt32 31)).toInt32 &&& (nI 858993459))) + ((((a0 - ((a0.toUInt32 >>> ((nI 1).toUInt32 &&& Int32.toUInt32 31)).toInt32 &&& (nI 1431655765))) &&& (nI 858993459)) + (((a0 - ((a0.toUInt32 >>> ((nI 1).toUInt32 &&& Int32.toUInt32 31)).toInt32 &&& (nI 1431655765))).toUInt32 >>> ((nI 2).toUInt32 &&& Int32.toUInt32 31)).toInt32 &&& (nI 858993459))).toUInt32 >>> ((nI 4).toUInt32 &&& Int32.toUInt32 31)).toInt32) &&& (nI 252645135)).toUInt32 >>> ((nI 8).toUInt32 &&& Int32.toUInt32 31)).toInt32).toUInt32 >>> ((nI 16).toUInt32 &&& Int32.toUInt32 31)).toInt32) &&& (nI 63)), w)
theorem T_Jint_bitCount_0f7a4 {sc : Option (Nat × (Nat → Int32))} {D : Nat} {o : Int32 × am_W} (a0 : Int32) (w : am_W) (H : F_Jint_bitCount_0f7a4 a0 w = some o) : am_gi sc D 84 o (0, [(0, .int a0)], [], ww w, 0, 0) := by
  unfold F_Jint_bitCount_0f7a4 at H
  exact am_go_blk 42 ⟨rfl, am_fi H⟩
theorem M_Jint_bitCount_0f7a4 {sc : Option (Nat × (Nat → Int32))} {D : Nat} {o : Int32 × am_W} {a0 : Int32} {w : am_W} (H : F_Jint_bitCount_0f7a4 a0 w = some o) : am_run sc (D + 1) 84 [.int a0] (ww w) (some (.int o.1)) (ww o.2) 0 0 :=
  am_run_of rfl (T_Jint_bitCount_0f7a4 a0 w H)
def F_Loc_go (a1 : Int32) (w : am_W) : Option (Int32 × am_W) :=
  (F_Rail_isThing a1 w).bind fun q1 => if q1.1 = 0 then (some ((-nI 5), q1.2)) else ((F_Rail_canGo (q1.2.1 1 1) (q1.2.1 1 3) q1.2).bind fun q2 => (F_Loc_has q2.1 a1 q2.2).bind fun q3 => if q3.1 = 0 then (some ((-nI 3), q3.2)) else (am_lt (wsf q3.2 1 1 ((q3.2.1 1 1) ||| ((nI 1) <<< (a1 &&& 31)))) fun w4 => (F_Jint_bitCount_0f7a4 (w4.1 1 1) w4).bind fun q5 => some (((w4.1 1 0) - q5.1), q5.2)))
theorem T_Loc_go {sc : Option (Nat × (Nat → Int32))} {D : Nat} {o : Int32 × am_W} (a1 : Int32) (w : am_W) (H : F_Loc_go a1 w = some o) : am_gi sc (D + 2) 58 o (0, [(0, .ref 0), (1, .int a1)], [], ww w, 0, 0) := by
  unfold F_Loc_go at H
  obtain ⟨q1, hqq1, H⟩ := am_bnE H
  refine am_go_blk 3 (?_ : am_gi sc (D + 2) 58 o (5, [(0, .ref 0), (1, .int a1)], [.int a1, .ref 1], ww w, 0, 0))
  refine am_invd rfl rfl rfl rfl (am_calli rfl (M_Rail_isThing (D := D + 1) hqq1) (?_ : am_gi sc (D + 2) 58 o (8, [(0, .ref 0), (1, .int a1)], [.int q1.1], ww q1.2, 0, 0)))
  refine am_go_blk 1 ⟨fun hc => ?_, fun hc => ?_⟩
  · have H := am_ie hc H
    show am_gi sc (D + 2) 58 o (14, [(0, .ref 0), (1, .int a1)], [], ww q1.2, 0, 0)
    obtain ⟨q2, hqq2, H⟩ := am_bnE H
    refine am_go_blk 8 (?_ : am_gi sc (D + 2) 58 o (32, [(0, .ref 0), (1, .int a1)], [.int (q1.2.1 1 3), .int (q1.2.1 1 1), .ref 1], ww q1.2, 0, 0))
    refine am_invd rfl rfl rfl rfl (am_calli rfl (M_Rail_canGo (D := D) hqq2) (?_ : am_gi sc (D + 2) 58 o (35, [(0, .ref 0), (1, .int a1)], [.int q2.1], ww q2.2, 0, 0)))
    obtain ⟨q3, hqq3, H⟩ := am_bnE H
    refine am_go_blk 1 (?_ : am_gi sc (D + 2) 58 o (36, [(0, .ref 0), (1, .int a1)], [.int a1, .int q2.1], ww q2.2, 0, 0))
    refine am_cls rfl rfl rfl (am_calli rfl (M_Loc_has (D := D + 1) hqq3) (?_ : am_gi sc (D + 2) 58 o (39, [(0, .ref 0), (1, .int a1)], [.int q3.1], ww q3.2, 0, 0)))
    refine am_go_blk 1 ⟨fun hc => ?_, fun hc => ?_⟩
    · have H := am_ie hc H
      show am_gi sc (D + 2) 58 o (45, [(0, .ref 0), (1, .int a1)], [], ww q3.2, 0, 0)
      obtain ⟨w4, ew4, H⟩ := am_ltE H
      refine am_go_blk 9 ⟨rfl, rfl, am_hp (ww_f1_1 ew4) (?_ : am_gi sc (D + 2) 58 o (60, [(0, .ref 0), (1, .int a1)], [], ww w4, 0, 0))⟩
      obtain ⟨q5, hqq5, H⟩ := am_bnE H
      refine am_go_blk 6 (?_ : am_gi sc (D + 2) 58 o (74, [(0, .ref 0), (1, .int a1)], [.int (w4.1 1 1), .int (w4.1 1 0)], ww w4, 0, 0))
      refine am_cls rfl rfl rfl (am_calli rfl (M_Jint_bitCount_0f7a4 (D := D + 1) hqq5) (?_ : am_gi sc (D + 2) 58 o (77, [(0, .ref 0), (1, .int a1)], [.int q5.1, .int (w4.1 1 0)], ww q5.2, 0, 0)))
      exact am_go_blk 2 ⟨rfl, am_fi H⟩
    · have H := am_it hc H
      show am_gi sc (D + 2) 58 o (42, [(0, .ref 0), (1, .int a1)], [], ww q3.2, 0, 0)
      exact am_go_blk 2 ⟨rfl, am_fi H⟩
  · have H := am_it hc H
    show am_gi sc (D + 2) 58 o (11, [(0, .ref 0), (1, .int a1)], [], ww q1.2, 0, 0)
    exact am_go_blk 2 ⟨rfl, am_fi H⟩
theorem M_Loc_go {sc : Option (Nat × (Nat → Int32))} {D : Nat} {o : Int32 × am_W} {a1 : Int32} {w : am_W} (H : F_Loc_go a1 w = some o) : am_run sc (D + 3) 58 [.ref 0, .int a1] (ww w) (some (.int o.1)) (ww o.2) 0 0 :=
  am_run_of rfl (T_Loc_go a1 w H)
def F_Law_truth_9 (s0 : Int32) (w : am_W) : Option (Int32 × am_W) :=
  some (s0, w)
def F_Law_truth (a0 : Int32) (w : am_W) : Option (Int32 × am_W) :=
  if a0 = 0 then (F_Law_truth_9 (nI 0) w) else (F_Law_truth_9 (nI 1) w)
theorem T_Law_truth_9 {sc : Option (Nat × (Nat → Int32))} {D : Nat} {o : Int32 × am_W} (s0 : Int32) (w : am_W) (H : F_Law_truth_9 s0 w = some o) : am_gi sc D 10 o (9, [], [.int s0], ww w, 0, 0) := by
  unfold F_Law_truth_9 at H
  exact am_go_blk 1 ⟨rfl, am_fi H⟩
theorem T_Law_truth {sc : Option (Nat × (Nat → Int32))} {D : Nat} {o : Int32 × am_W} (a0 : Int32) (w : am_W) (H : F_Law_truth a0 w = some o) : am_gi sc D 10 o (0, [(0, .int a0)], [], ww w, 0, 0) := by
  unfold F_Law_truth at H
  refine am_go_blk 2 ⟨fun hc => ?_, fun hc => ?_⟩
  · have H := am_it hc H
    show am_gi sc D 10 o (8, [], [], ww w, 0, 0)
    exact am_go_blk 1 (T_Law_truth_9 (nI 0) w H)
  · have H := am_ie hc H
    show am_gi sc D 10 o (4, [(0, .int a0)], [], ww w, 0, 0)
    exact am_go_blk 2 (T_Law_truth_9 (nI 1) w H)
theorem M_Law_truth {sc : Option (Nat × (Nat → Int32))} {D : Nat} {o : Int32 × am_W} {a0 : Int32} {w : am_W} (H : F_Law_truth a0 w = some o) : am_run sc (D + 1) 10 [.int a0] (ww w) (some (.int o.1)) (ww o.2) 0 0 :=
  am_run_of rfl (T_Law_truth a0 w H)
def F_Law_joined_93 (s0 : Int32) (w : am_W) : Option (Int32 × am_W) :=
  (F_Law_truth s0 w).bind fun q1 => some (q1.1, q1.2)
def F_Law_joined_92 (w : am_W) : Option (Int32 × am_W) :=
  F_Law_joined_93 (nI 0) w
def F_Law_joined_76 (s0 : Int32) (w : am_W) : Option (Int32 × am_W) :=
  (F_Law_truth s0 w).bind fun q2 => some (q2.1, q2.2)
def F_Law_joined_62 (s0 : Int32) (w : am_W) : Option (Int32 × am_W) :=
  (F_Law_truth s0 w).bind fun q3 => some (q3.1, q3.2)
def F_Law_joined_110 (s0 : Int32) (w : am_W) : Option (Int32 × am_W) :=
  (F_Law_truth s0 w).bind fun q4 => some (q4.1, q4.2)
def F_Law_joined_105 (w : am_W) : Option (Int32 × am_W) :=
  F_Law_joined_110 (nI 1) w
def F_Law_joined (a0 : Int32) (a1 : Int32) (a2 : Int32) (w : am_W) : Option (Int32 × am_W) :=
  if a0.toInt = -14 then (if a1 = 0 then (F_Law_joined_92 w) else (if a2 = 0 then (F_Law_joined_92 w) else (F_Law_joined_93 (nI 1) w))) else if a0.toInt = -13 then (if a1 = a2 then (F_Law_joined_76 (nI 1) w) else (F_Law_joined_76 (nI 0) w)) else if a0.toInt = -12 then (if a2 ≤ a1 then (F_Law_joined_62 (nI 0) w) else (F_Law_joined_62 (nI 1) w)) else if a0.toInt = -11 then (some ((a1 - a2), w)) else if a0.toInt = -10 then (some ((a1 + a2), w)) else if a0.toInt = -9 then (some ((a1 * a2), w)) else (if a1 = 0 then (if a2 = 0 then (F_Law_joined_110 (nI 0) w) else (F_Law_joined_105 w)) else (F_Law_joined_105 w))
theorem T_Law_joined_93 {sc : Option (Nat × (Nat → Int32))} {D : Nat} {o : Int32 × am_W} (s0 : Int32) (w : am_W) (H : F_Law_joined_93 s0 w = some o) : am_gi sc (D + 1) 9 o (93, [], [.int s0], ww w, 0, 0) := by
  unfold F_Law_joined_93 at H
  obtain ⟨q1, hqq1, H⟩ := am_bnE H
  refine am_cls rfl rfl rfl (am_calli rfl (M_Law_truth (D := D) hqq1) (?_ : am_gi sc (D + 1) 9 o (96, [], [.int q1.1], ww q1.2, 0, 0)))
  exact am_go_blk 1 ⟨rfl, am_fi H⟩
theorem T_Law_joined_92 {sc : Option (Nat × (Nat → Int32))} {D : Nat} {o : Int32 × am_W} (w : am_W) (H : F_Law_joined_92 w = some o) : am_gi sc (D + 1) 9 o (92, [], [], ww w, 0, 0) := by
  unfold F_Law_joined_92 at H
  exact am_go_blk 1 (T_Law_joined_93 (nI 0) w H)
theorem T_Law_joined_76 {sc : Option (Nat × (Nat → Int32))} {D : Nat} {o : Int32 × am_W} (s0 : Int32) (w : am_W) (H : F_Law_joined_76 s0 w = some o) : am_gi sc (D + 1) 9 o (76, [], [.int s0], ww w, 0, 0) := by
  unfold F_Law_joined_76 at H
  obtain ⟨q2, hqq2, H⟩ := am_bnE H
  refine am_cls rfl rfl rfl (am_calli rfl (M_Law_truth (D := D) hqq2) (?_ : am_gi sc (D + 1) 9 o (79, [], [.int q2.1], ww q2.2, 0, 0)))
  exact am_go_blk 1 ⟨rfl, am_fi H⟩
theorem T_Law_joined_62 {sc : Option (Nat × (Nat → Int32))} {D : Nat} {o : Int32 × am_W} (s0 : Int32) (w : am_W) (H : F_Law_joined_62 s0 w = some o) : am_gi sc (D + 1) 9 o (62, [], [.int s0], ww w, 0, 0) := by
  unfold F_Law_joined_62 at H
  obtain ⟨q3, hqq3, H⟩ := am_bnE H
  refine am_cls rfl rfl rfl (am_calli rfl (M_Law_truth (D := D) hqq3) (?_ : am_gi sc (D + 1) 9 o (65, [], [.int q3.1], ww q3.2, 0, 0)))
  exact am_go_blk 1 ⟨rfl, am_fi H⟩
theorem T_Law_joined_110 {sc : Option (Nat × (Nat → Int32))} {D : Nat} {o : Int32 × am_W} (s0 : Int32) (w : am_W) (H : F_Law_joined_110 s0 w = some o) : am_gi sc (D + 1) 9 o (110, [], [.int s0], ww w, 0, 0) := by
  unfold F_Law_joined_110 at H
  obtain ⟨q4, hqq4, H⟩ := am_bnE H
  refine am_cls rfl rfl rfl (am_calli rfl (M_Law_truth (D := D) hqq4) (?_ : am_gi sc (D + 1) 9 o (113, [], [.int q4.1], ww q4.2, 0, 0)))
  exact am_go_blk 1 ⟨rfl, am_fi H⟩
theorem T_Law_joined_105 {sc : Option (Nat × (Nat → Int32))} {D : Nat} {o : Int32 × am_W} (w : am_W) (H : F_Law_joined_105 w = some o) : am_gi sc (D + 1) 9 o (105, [], [], ww w, 0, 0) := by
  unfold F_Law_joined_105 at H
  exact am_go_blk 2 (T_Law_joined_110 (nI 1) w H)
theorem T_Law_joined {sc : Option (Nat × (Nat → Int32))} {D : Nat} {o : Int32 × am_W} (a0 : Int32) (a1 : Int32) (a2 : Int32) (w : am_W) (H : F_Law_joined a0 a1 a2 w = some o) : am_gi sc (D + 1) 9 o (0, [(0, .int a0), (1, .int a1), (2, .int a2)], [], ww w, 0, 0) := by
  unfold F_Law_joined at H
  refine am_go_blk 2 ⟨fun hc => ?_, fun hc => ?_⟩
  · have H := am_it hc H
    show am_gi sc (D + 1) 9 o (80, [(1, .int a1), (2, .int a2)], [], ww w, 0, 0)
    refine am_go_blk 2 ⟨fun hc => ?_, fun hc => ?_⟩
    · have H := am_it hc H
      exact T_Law_joined_92 w H
    · have H := am_ie hc H
      show am_gi sc (D + 1) 9 o (84, [(1, .int a1), (2, .int a2)], [], ww w, 0, 0)
      refine am_go_blk 2 ⟨fun hc => ?_, fun hc => ?_⟩
      · have H := am_it hc H
        exact T_Law_joined_92 w H
      · have H := am_ie hc H
        show am_gi sc (D + 1) 9 o (88, [(1, .int a1), (2, .int a2)], [], ww w, 0, 0)
        exact am_go_blk 2 (T_Law_joined_93 (nI 1) w H)
  have H := am_ie hc H
  refine ⟨fun hc => ?_, fun hc => ?_⟩
  · have H := am_it hc H
    show am_gi sc (D + 1) 9 o (66, [(1, .int a1), (2, .int a2)], [], ww w, 0, 0)
    refine am_go_blk 3 ⟨fun hc => ?_, fun hc => ?_⟩
    · have H := am_ie hc H
      show am_gi sc (D + 1) 9 o (75, [], [], ww w, 0, 0)
      exact am_go_blk 1 (T_Law_joined_76 (nI 0) w H)
    · have H := am_it hc H
      show am_gi sc (D + 1) 9 o (71, [(1, .int a1), (2, .int a2)], [], ww w, 0, 0)
      exact am_go_blk 2 (T_Law_joined_76 (nI 1) w H)
  have H := am_ie hc H
  refine ⟨fun hc => ?_, fun hc => ?_⟩
  · have H := am_it hc H
    show am_gi sc (D + 1) 9 o (52, [(1, .int a1), (2, .int a2)], [], ww w, 0, 0)
    refine am_go_blk 3 ⟨fun hc => ?_, fun hc => ?_⟩
    · have H := am_it hc H
      show am_gi sc (D + 1) 9 o (61, [], [], ww w, 0, 0)
      exact am_go_blk 1 (T_Law_joined_62 (nI 0) w H)
    · have H := am_ie hc H
      show am_gi sc (D + 1) 9 o (57, [(1, .int a1), (2, .int a2)], [], ww w, 0, 0)
      exact am_go_blk 2 (T_Law_joined_62 (nI 1) w H)
  have H := am_ie hc H
  refine ⟨fun hc => ?_, fun hc => ?_⟩
  · have H := am_it hc H
    show am_gi sc (D + 1) 9 o (48, [(1, .int a1), (2, .int a2)], [], ww w, 0, 0)
    exact am_go_blk 4 ⟨rfl, am_fi H⟩
  have H := am_ie hc H
  refine ⟨fun hc => ?_, fun hc => ?_⟩
  · have H := am_it hc H
    show am_gi sc (D + 1) 9 o (44, [(1, .int a1), (2, .int a2)], [], ww w, 0, 0)
    exact am_go_blk 4 ⟨rfl, am_fi H⟩
  have H := am_ie hc H
  refine ⟨fun hc => ?_, fun hc => ?_⟩
  · have H := am_it hc H
    show am_gi sc (D + 1) 9 o (40, [(1, .int a1), (2, .int a2)], [], ww w, 0, 0)
    exact am_go_blk 4 ⟨rfl, am_fi H⟩
  have H := am_ie hc H
  show am_gi sc (D + 1) 9 o (97, [(1, .int a1), (2, .int a2)], [], ww w, 0, 0)
  refine am_go_blk 2 ⟨fun hc => ?_, fun hc => ?_⟩
  · have H := am_ie hc H
    exact T_Law_joined_105 w H
  · have H := am_it hc H
    show am_gi sc (D + 1) 9 o (101, [(1, .int a1), (2, .int a2)], [], ww w, 0, 0)
    refine am_go_blk 2 ⟨fun hc => ?_, fun hc => ?_⟩
    · have H := am_it hc H
      show am_gi sc (D + 1) 9 o (109, [], [], ww w, 0, 0)
      exact am_go_blk 1 (T_Law_joined_110 (nI 0) w H)
    · have H := am_ie hc H
      exact T_Law_joined_105 w H
theorem M_Law_joined {sc : Option (Nat × (Nat → Int32))} {D : Nat} {o : Int32 × am_W} {a0 : Int32} {a1 : Int32} {a2 : Int32} {w : am_W} (H : F_Law_joined a0 a1 a2 w = some o) : am_run sc (D + 2) 9 [.int a0, .int a1, .int a2] (ww w) (some (.int o.1)) (ww o.2) 0 0 :=
  am_run_of rfl (T_Law_joined a0 a1 a2 w H)
def F_Law_worth_185 (r22 : Int32 → Int32 → Int32 → Int32 → am_W → Option (Int32 × am_W)) (a1 : Int32) (a2 : Int32) (a3 : Int32) (a4 : Int32) (w : am_W) : Option (Int32 × am_W) :=
  r22 a1 a2 a3 (a4 + (nI 1)) w
def F_Law_worth_146 (r22 : Int32 → Int32 → Int32 → Int32 → am_W → Option (Int32 × am_W)) (a1 : Int32) (a2 : Int32) (a3 : Int32) (a4 : Int32) (s0 : Int32) (s1 : Int32) (w : am_W) : Option (Int32 × am_W) :=
  am_ck (am_in s1 64) (am_lt (wst w 35 s1 s0) fun w6 => F_Law_worth_185 r22 a1 a2 a3 a4 w6)
def F_Law_worth_131 (r22 : Int32 → Int32 → Int32 → Int32 → am_W → Option (Int32 × am_W)) (a1 : Int32) (a2 : Int32) (a3 : Int32) (a4 : Int32) (s0 : Int32) (s1 : Int32) (w : am_W) : Option (Int32 × am_W) :=
  (F_Law_truth s0 w).bind fun q7 => F_Law_worth_146 r22 a1 a2 a3 a4 q7.1 s1 q7.2
def F_Law_worth_83 (r22 : Int32 → Int32 → Int32 → Int32 → am_W → Option (Int32 × am_W)) (a1 : Int32) (a2 : Int32) (a3 : Int32) (a4 : Int32) (s0 : Int32) (s1 : Int32) (w : am_W) : Option (Int32 × am_W) :=
  am_ck (am_in s1 64) (am_lt (wst w 35 s1 s0) fun w8 => F_Law_worth_185 r22 a1 a2 (a3 + (nI 1)) a4 w8)
def F_Law_worth_22 (r22 : Int32 → Int32 → Int32 → Int32 → am_W → Option (Int32 × am_W)) (a1 : Int32) (a2 : Int32) (a3 : Int32) (a4 : Int32) (w : am_W) : Option (Int32 × am_W) :=
  am_ck (am_in a1 6) (am_ck (am_in a2 3) (if (w.1 (27 + 1 + a1.toNatClampNeg) a2.toNatClampNeg) ≤ a4 then (am_ck (am_in (nI 0) 64) (some ((w.1 35 (nI 0).toNatClampNeg), w))) else (am_ck (am_in a1 6) (am_ck (am_in a4 160) (if (w.1 (20 + 1 + a1.toNatClampNeg) a4.toNatClampNeg) ≤ (-nI 7) then (if (w.1 (20 + 1 + a1.toNatClampNeg) a4.toNatClampNeg) < (-nI 8) then (if a3 ≤ (nI 1) then (F_Law_worth_185 r22 a1 a2 a3 a4 w) else (am_ck (am_in ((a3 + (-nI 1)) - (nI 1)) 64) (am_ck (am_in (a3 + (-nI 1)) 64) ((F_Law_joined (w.1 (20 + 1 + a1.toNatClampNeg) a4.toNatClampNeg) (w.1 35 ((a3 + (-nI 1)) - (nI 1)).toNatClampNeg) (w.1 35 (a3 + (-nI 1)).toNatClampNeg) w).bind fun q4 => am_ck (am_in ((a3 + (-nI 1)) - (nI 1)) 64) (am_lt (wst q4.2 35 ((a3 + (-nI 1)) - (nI 1)) q4.1) fun w5 => F_Law_worth_185 r22 a1 a2 (a3 + (-nI 1)) a4 w5))))) else (if a3 ≤ 0 then (F_Law_worth_185 r22 a1 a2 a3 a4 w) else (if (w.1 (20 + 1 + a1.toNatClampNeg) a4.toNatClampNeg) = (-nI 8) then (am_ck (am_in (a3 - (nI 1)) 64) (if (w.1 35 (a3 - (nI 1)).toNatClampNeg) = 0 then (F_Law_worth_131 r22 a1 a2 a3 a4 (nI 1) (a3 - (nI 1)) w) else (F_Law_worth_131 r22 a1 a2 a3 a4 (nI 0) (a3 - (nI 1)) w))) else (am_ck (am_in (a3 - (nI 1)) 64) (F_Law_worth_146 r22 a1 a2 a3 a4 (-(w.1 35 (a3 - (nI 1)).toNatClampNeg)) (a3 - (nI 1)) w))))) else (if (nI 64) ≤ a3 then (F_Law_worth_185 r22 a1 a2 a3 a4 w) else (if (w.1 (20 + 1 + a1.toNatClampNeg) a4.toNatClampNeg) < 0 then (am_ck (am_in ((-nI 1) - (w.1 (20 + 1 + a1.toNatClampNeg) a4.toNatClampNeg)) 6) (F_Law_worth_83 r22 a1 a2 a3 a4 (w.1 34 ((-nI 1) - (w.1 (20 + 1 + a1.toNatClampNeg) a4.toNatClampNeg)).toNatClampNeg) a3 w)) else (F_Law_worth_83 r22 a1 a2 a3 a4 (w.1 (20 + 1 + a1.toNatClampNeg) a4.toNatClampNeg) a3 w))))))))
def L_Law_worth_22 : Nat → Int32 → Int32 → Int32 → Int32 → am_W → Option (Int32 × am_W)
  | 0, _, _, _, _, _ => none
  | n + 1, a1, a2, a3, a4, w => F_Law_worth_22 (L_Law_worth_22 n) a1 a2 a3 a4 w
def F_Law_worth_20 (a1 : Int32) (a2 : Int32) (a3 : Int32) (s0 : Int32) (w : am_W) : Option (Int32 × am_W) :=
  L_Law_worth_22 am_NF a1 a2 a3 s0 w
def F_Law_worth (a1 : Int32) (a2 : Int32) (w : am_W) : Option (Int32 × am_W) :=
  if a2 = 0 then (F_Law_worth_20 a1 a2 (nI 0) (nI 0) w) else (am_ck (am_in a1 6) (am_ck (am_in (a2 - (nI 1)) 3) (F_Law_worth_20 a1 a2 (nI 0) (w.1 (27 + 1 + a1.toNatClampNeg) (a2 - (nI 1)).toNatClampNeg) w)))
theorem T_Law_worth_185 {sc : Option (Nat × (Nat → Int32))} {D : Nat} {o : Int32 × am_W} {r22 : Int32 → Int32 → Int32 → Int32 → am_W → Option (Int32 × am_W)} (Hr22 : ∀ (a1 : Int32) (a2 : Int32) (a3 : Int32) (a4 : Int32) (w : am_W) , r22 a1 a2 a3 a4 w = some o → am_gi sc (D + 2) 8 o (22, [(0, .ref 17), (1, .int a1), (2, .int a2), (3, .int a3), (4, .int a4)], [], ww w, 0, 0)) (a1 : Int32) (a2 : Int32) (a3 : Int32) (a4 : Int32) (w : am_W) (H : F_Law_worth_185 r22 a1 a2 a3 a4 w = some o) : am_gi sc (D + 2) 8 o (185, [(0, .ref 17), (1, .int a1), (2, .int a2), (3, .int a3), (4, .int a4)], [], ww w, 0, 0) := by
  unfold F_Law_worth_185 at H
  exact am_go_blk 2 (Hr22 a1 a2 a3 (a4 + (nI 1)) w H)
theorem T_Law_worth_146 {sc : Option (Nat × (Nat → Int32))} {D : Nat} {o : Int32 × am_W} {r22 : Int32 → Int32 → Int32 → Int32 → am_W → Option (Int32 × am_W)} (Hr22 : ∀ (a1 : Int32) (a2 : Int32) (a3 : Int32) (a4 : Int32) (w : am_W) , r22 a1 a2 a3 a4 w = some o → am_gi sc (D + 2) 8 o (22, [(0, .ref 17), (1, .int a1), (2, .int a2), (3, .int a3), (4, .int a4)], [], ww w, 0, 0)) (a1 : Int32) (a2 : Int32) (a3 : Int32) (a4 : Int32) (s0 : Int32) (s1 : Int32) (w : am_W) (H : F_Law_worth_146 r22 a1 a2 a3 a4 s0 s1 w = some o) : am_gi sc (D + 2) 8 o (146, [(0, .ref 17), (1, .int a1), (2, .int a2), (3, .int a3), (4, .int a4)], [.int s0, .int s1, .ref 35], ww w, 0, 0) := by
  unfold F_Law_worth_146 at H
  obtain ⟨hc, H⟩ := am_ckE H
  obtain ⟨w6, ew6, H⟩ := am_ltE H
  refine am_go_blk 1 ⟨am_inv hc, am_hp (ww_s35 ew6) (?_ : am_gi sc (D + 2) 8 o (147, [(0, .ref 17), (1, .int a1), (2, .int a2), (3, .int a3), (4, .int a4)], [], ww w6, 0, 0))⟩
  exact am_go_blk 1 (T_Law_worth_185 Hr22 a1 a2 a3 a4 w6 H)
theorem T_Law_worth_131 {sc : Option (Nat × (Nat → Int32))} {D : Nat} {o : Int32 × am_W} {r22 : Int32 → Int32 → Int32 → Int32 → am_W → Option (Int32 × am_W)} (Hr22 : ∀ (a1 : Int32) (a2 : Int32) (a3 : Int32) (a4 : Int32) (w : am_W) , r22 a1 a2 a3 a4 w = some o → am_gi sc (D + 2) 8 o (22, [(0, .ref 17), (1, .int a1), (2, .int a2), (3, .int a3), (4, .int a4)], [], ww w, 0, 0)) (a1 : Int32) (a2 : Int32) (a3 : Int32) (a4 : Int32) (s0 : Int32) (s1 : Int32) (w : am_W) (H : F_Law_worth_131 r22 a1 a2 a3 a4 s0 s1 w = some o) : am_gi sc (D + 2) 8 o (131, [(0, .ref 17), (1, .int a1), (2, .int a2), (3, .int a3), (4, .int a4)], [.int s0, .int s1, .ref 35], ww w, 0, 0) := by
  unfold F_Law_worth_131 at H
  obtain ⟨q7, hqq7, H⟩ := am_bnE H
  refine am_cls rfl rfl rfl (am_calli rfl (M_Law_truth (D := D + 1) hqq7) (?_ : am_gi sc (D + 2) 8 o (134, [(0, .ref 17), (1, .int a1), (2, .int a2), (3, .int a3), (4, .int a4)], [.int q7.1, .int s1, .ref 35], ww q7.2, 0, 0)))
  exact am_go_blk 1 (T_Law_worth_146 Hr22 a1 a2 a3 a4 q7.1 s1 q7.2 H)
theorem T_Law_worth_83 {sc : Option (Nat × (Nat → Int32))} {D : Nat} {o : Int32 × am_W} {r22 : Int32 → Int32 → Int32 → Int32 → am_W → Option (Int32 × am_W)} (Hr22 : ∀ (a1 : Int32) (a2 : Int32) (a3 : Int32) (a4 : Int32) (w : am_W) , r22 a1 a2 a3 a4 w = some o → am_gi sc (D + 2) 8 o (22, [(0, .ref 17), (1, .int a1), (2, .int a2), (3, .int a3), (4, .int a4)], [], ww w, 0, 0)) (a1 : Int32) (a2 : Int32) (a3 : Int32) (a4 : Int32) (s0 : Int32) (s1 : Int32) (w : am_W) (H : F_Law_worth_83 r22 a1 a2 a3 a4 s0 s1 w = some o) : am_gi sc (D + 2) 8 o (83, [(0, .ref 17), (1, .int a1), (2, .int a2), (3, .int a3), (4, .int a4)], [.int s0, .int s1, .ref 35], ww w, 0, 0) := by
  unfold F_Law_worth_83 at H
  obtain ⟨hc, H⟩ := am_ckE H
  obtain ⟨w8, ew8, H⟩ := am_ltE H
  refine am_go_blk 1 ⟨am_inv hc, am_hp (ww_s35 ew8) (?_ : am_gi sc (D + 2) 8 o (84, [(0, .ref 17), (1, .int a1), (2, .int a2), (3, .int a3), (4, .int a4)], [], ww w8, 0, 0))⟩
  exact am_go_blk 2 (T_Law_worth_185 Hr22 a1 a2 (a3 + (nI 1)) a4 w8 H)
theorem T_Law_worth_22 {sc : Option (Nat × (Nat → Int32))} {D : Nat} {o : Int32 × am_W} {r22 : Int32 → Int32 → Int32 → Int32 → am_W → Option (Int32 × am_W)} (Hr22 : ∀ (a1 : Int32) (a2 : Int32) (a3 : Int32) (a4 : Int32) (w : am_W) , r22 a1 a2 a3 a4 w = some o → am_gi sc (D + 2) 8 o (22, [(0, .ref 17), (1, .int a1), (2, .int a2), (3, .int a3), (4, .int a4)], [], ww w, 0, 0)) (a1 : Int32) (a2 : Int32) (a3 : Int32) (a4 : Int32) (w : am_W) (H : F_Law_worth_22 r22 a1 a2 a3 a4 w = some o) : am_gi sc (D + 2) 8 o (22, [(0, .ref 17), (1, .int a1), (2, .int a2), (3, .int a3), (4, .int a4)], [], ww w, 0, 0) := by
  unfold F_Law_worth_22 at H
  obtain ⟨hi2, H⟩ := am_ckE H
  refine am_go_blk 5 ⟨am_inv hi2, (?_ : am_gi sc (D + 2) 8 o (30, [(0, .ref 17), (1, .int a1), (2, .int a2), (3, .int a3), (4, .int a4)], [.ref (27 + 1 + a1.toNatClampNeg), .int a4], ww w, 0, 0))⟩
  refine am_go_blk 1 (?_ : am_gi sc (D + 2) 8 o (31, [(0, .ref 17), (1, .int a1), (2, .int a2), (3, .int a3), (4, .int a4)], [.int a2, .ref (27 + 1 + a1.toNatClampNeg), .int a4], ww w, 0, 0))
  obtain ⟨hc, H⟩ := am_ckE H
  refine am_iald rfl (ww_ends (am_inl hi2)) (am_inv hc) (?_ : am_gi sc (D + 2) 8 o (32, [(0, .ref 17), (1, .int a1), (2, .int a2), (3, .int a3), (4, .int a4)], [.int (w.1 (27 + 1 + a1.toNatClampNeg) a2.toNatClampNeg), .int a4], ww w, 0, 0))
  refine am_go_blk 1 ⟨fun hc => ?_, fun hc => ?_⟩
  · have H := am_it hc H
    show am_gi sc (D + 2) 8 o (191, [(0, .ref 17)], [], ww w, 0, 0)
    obtain ⟨hc, H⟩ := am_ckE H
    refine am_go_blk 4 ⟨am_inv hc, (?_ : am_gi sc (D + 2) 8 o (197, [(0, .ref 17)], [.int (w.1 35 (nI 0).toNatClampNeg)], ww w, 0, 0))⟩
    exact am_go_blk 1 ⟨rfl, am_fi H⟩
  · have H := am_ie hc H
    show am_gi sc (D + 2) 8 o (35, [(0, .ref 17), (1, .int a1), (2, .int a2), (3, .int a3), (4, .int a4)], [], ww w, 0, 0)
    obtain ⟨hi3, H⟩ := am_ckE H
    refine am_go_blk 4 ⟨am_inv hi3, (?_ : am_gi sc (D + 2) 8 o (41, [(0, .ref 17), (1, .int a1), (2, .int a2), (3, .int a3), (4, .int a4)], [.ref (20 + 1 + a1.toNatClampNeg)], ww w, 0, 0))⟩
    refine am_go_blk 1 (?_ : am_gi sc (D + 2) 8 o (43, [(0, .ref 17), (1, .int a1), (2, .int a2), (3, .int a3), (4, .int a4)], [.int a4, .ref (20 + 1 + a1.toNatClampNeg)], ww w, 0, 0))
    obtain ⟨hc, H⟩ := am_ckE H
    refine am_iald rfl (ww_steps (am_inl hi3)) (am_inv hc) (?_ : am_gi sc (D + 2) 8 o (44, [(0, .ref 17), (1, .int a1), (2, .int a2), (3, .int a3), (4, .int a4)], [.int (w.1 (20 + 1 + a1.toNatClampNeg) a4.toNatClampNeg)], ww w, 0, 0))
    refine am_go_blk 4 ⟨fun hc => ?_, fun hc => ?_⟩
    · have H := am_it hc H
      show am_gi sc (D + 2) 8 o (90, [(0, .ref 17), (1, .int a1), (2, .int a2), (3, .int a3), (4, .int a4), (5, .int (w.1 (20 + 1 + a1.toNatClampNeg) a4.toNatClampNeg))], [], ww w, 0, 0)
      refine am_go_blk 3 ⟨fun hc => ?_, fun hc => ?_⟩
      · have H := am_it hc H
        show am_gi sc (D + 2) 8 o (150, [(0, .ref 17), (1, .int a1), (2, .int a2), (3, .int a3), (4, .int a4), (5, .int (w.1 (20 + 1 + a1.toNatClampNeg) a4.toNatClampNeg))], [], ww w, 0, 0)
        refine am_go_blk 3 ⟨fun hc => ?_, fun hc => ?_⟩
        · have H := am_it hc H
          exact T_Law_worth_185 Hr22 a1 a2 a3 a4 w H
        · have H := am_ie hc H
          show am_gi sc (D + 2) 8 o (155, [(0, .ref 17), (1, .int a1), (2, .int a2), (3, .int a3), (4, .int a4), (5, .int (w.1 (20 + 1 + a1.toNatClampNeg) a4.toNatClampNeg))], [], ww w, 0, 0)
          obtain ⟨hc, H⟩ := am_ckE H
          refine am_go_blk 13 ⟨am_inv hc, (?_ : am_gi sc (D + 2) 8 o (175, [(3, .int (a3 + (-nI 1))), (0, .ref 17), (1, .int a1), (2, .int a2), (4, .int a4), (5, .int (w.1 (20 + 1 + a1.toNatClampNeg) a4.toNatClampNeg))], [.int (w.1 35 ((a3 + (-nI 1)) - (nI 1)).toNatClampNeg), .int (w.1 (20 + 1 + a1.toNatClampNeg) a4.toNatClampNeg), .int ((a3 + (-nI 1)) - (nI 1)), .ref 35], ww w, 0, 0))⟩
          obtain ⟨hc, H⟩ := am_ckE H
          refine am_go_blk 4 ⟨am_inv hc, (?_ : am_gi sc (D + 2) 8 o (181, [(3, .int (a3 + (-nI 1))), (0, .ref 17), (1, .int a1), (2, .int a2), (4, .int a4), (5, .int (w.1 (20 + 1 + a1.toNatClampNeg) a4.toNatClampNeg))], [.int (w.1 35 (a3 + (-nI 1)).toNatClampNeg), .int (w.1 35 ((a3 + (-nI 1)) - (nI 1)).toNatClampNeg), .int (w.1 (20 + 1 + a1.toNatClampNeg) a4.toNatClampNeg), .int ((a3 + (-nI 1)) - (nI 1)), .ref 35], ww w, 0, 0))⟩
          obtain ⟨q4, hqq4, H⟩ := am_bnE H
          refine am_cls rfl rfl rfl (am_calli rfl (M_Law_joined (D := D) hqq4) (?_ : am_gi sc (D + 2) 8 o (184, [(3, .int (a3 + (-nI 1))), (0, .ref 17), (1, .int a1), (2, .int a2), (4, .int a4), (5, .int (w.1 (20 + 1 + a1.toNatClampNeg) a4.toNatClampNeg))], [.int q4.1, .int ((a3 + (-nI 1)) - (nI 1)), .ref 35], ww q4.2, 0, 0)))
          obtain ⟨hc, H⟩ := am_ckE H
          obtain ⟨w5, ew5, H⟩ := am_ltE H
          refine am_go_blk 1 ⟨am_inv hc, am_hp (ww_s35 ew5) (?_ : am_gi sc (D + 2) 8 o (185, [(0, .ref 17), (1, .int a1), (2, .int a2), (3, .int (a3 + (-nI 1))), (4, .int a4)], [], ww w5, 0, 0))⟩
          exact T_Law_worth_185 Hr22 a1 a2 (a3 + (-nI 1)) a4 w5 H
      · have H := am_ie hc H
        show am_gi sc (D + 2) 8 o (97, [(0, .ref 17), (1, .int a1), (2, .int a2), (3, .int a3), (4, .int a4), (5, .int (w.1 (20 + 1 + a1.toNatClampNeg) a4.toNatClampNeg))], [], ww w, 0, 0)
        refine am_go_blk 2 ⟨fun hc => ?_, fun hc => ?_⟩
        · have H := am_it hc H
          exact T_Law_worth_185 Hr22 a1 a2 a3 a4 w H
        · have H := am_ie hc H
          show am_gi sc (D + 2) 8 o (101, [(0, .ref 17), (1, .int a1), (2, .int a2), (3, .int a3), (4, .int a4), (5, .int (w.1 (20 + 1 + a1.toNatClampNeg) a4.toNatClampNeg))], [], ww w, 0, 0)
          refine am_go_blk 8 ⟨fun hc => ?_, fun hc => ?_⟩
          · have H := am_ie hc H
            show am_gi sc (D + 2) 8 o (137, [(0, .ref 17), (1, .int a1), (2, .int a2), (3, .int a3), (4, .int a4)], [.int (a3 - (nI 1)), .ref 35], ww w, 0, 0)
            obtain ⟨hc, H⟩ := am_ckE H
            refine am_go_blk 6 ⟨am_inv hc, (?_ : am_gi sc (D + 2) 8 o (145, [(0, .ref 17), (1, .int a1), (2, .int a2), (3, .int a3), (4, .int a4)], [.int (w.1 35 (a3 - (nI 1)).toNatClampNeg), .int (a3 - (nI 1)), .ref 35], ww w, 0, 0))⟩
            exact am_go_blk 1 (T_Law_worth_146 Hr22 a1 a2 a3 a4 (-(w.1 35 (a3 - (nI 1)).toNatClampNeg)) (a3 - (nI 1)) w H)
          · have H := am_it hc H
            show am_gi sc (D + 2) 8 o (115, [(0, .ref 17), (1, .int a1), (2, .int a2), (3, .int a3), (4, .int a4), (5, .int (w.1 (20 + 1 + a1.toNatClampNeg) a4.toNatClampNeg))], [.int (a3 - (nI 1)), .ref 35], ww w, 0, 0)
            obtain ⟨hc, H⟩ := am_ckE H
            refine am_go_blk 6 ⟨am_inv hc, (?_ : am_gi sc (D + 2) 8 o (123, [(0, .ref 17), (1, .int a1), (2, .int a2), (3, .int a3), (4, .int a4), (5, .int (w.1 (20 + 1 + a1.toNatClampNeg) a4.toNatClampNeg))], [.int (w.1 35 (a3 - (nI 1)).toNatClampNeg), .int (a3 - (nI 1)), .ref 35], ww w, 0, 0))⟩
            refine am_go_blk 1 ⟨fun hc => ?_, fun hc => ?_⟩
            · have H := am_ie hc H
              show am_gi sc (D + 2) 8 o (130, [(0, .ref 17), (1, .int a1), (2, .int a2), (3, .int a3), (4, .int a4)], [.int (a3 - (nI 1)), .ref 35], ww w, 0, 0)
              exact am_go_blk 1 (T_Law_worth_131 Hr22 a1 a2 a3 a4 (nI 0) (a3 - (nI 1)) w H)
            · have H := am_it hc H
              show am_gi sc (D + 2) 8 o (126, [(0, .ref 17), (1, .int a1), (2, .int a2), (3, .int a3), (4, .int a4), (5, .int (w.1 (20 + 1 + a1.toNatClampNeg) a4.toNatClampNeg))], [.int (a3 - (nI 1)), .ref 35], ww w, 0, 0)
              exact am_go_blk 2 (T_Law_worth_131 Hr22 a1 a2 a3 a4 (nI 1) (a3 - (nI 1)) w H)
    · have H := am_ie hc H
      show am_gi sc (D + 2) 8 o (53, [(5, .int (w.1 (20 + 1 + a1.toNatClampNeg) a4.toNatClampNeg)), (0, .ref 17), (1, .int a1), (2, .int a2), (3, .int a3), (4, .int a4)], [], ww w, 0, 0)
      refine am_go_blk 3 ⟨fun hc => ?_, fun hc => ?_⟩
      · have H := am_it hc H
        exact T_Law_worth_185 Hr22 a1 a2 a3 a4 w H
      · have H := am_ie hc H
        show am_gi sc (D + 2) 8 o (59, [(5, .int (w.1 (20 + 1 + a1.toNatClampNeg) a4.toNatClampNeg)), (0, .ref 17), (1, .int a1), (2, .int a2), (3, .int a3), (4, .int a4)], [], ww w, 0, 0)
        refine am_go_blk 5 ⟨fun hc => ?_, fun hc => ?_⟩
        · have H := am_it hc H
          show am_gi sc (D + 2) 8 o (74, [(0, .ref 17), (1, .int a1), (2, .int a2), (3, .int a3), (4, .int a4), (5, .int (w.1 (20 + 1 + a1.toNatClampNeg) a4.toNatClampNeg))], [.int a3, .ref 35], ww w, 0, 0)
          obtain ⟨hc, H⟩ := am_ckE H
          refine am_go_blk 6 ⟨am_inv hc, (?_ : am_gi sc (D + 2) 8 o (83, [(0, .ref 17), (1, .int a1), (2, .int a2), (3, .int a3), (4, .int a4)], [.int (w.1 34 ((-nI 1) - (w.1 (20 + 1 + a1.toNatClampNeg) a4.toNatClampNeg)).toNatClampNeg), .int a3, .ref 35], ww w, 0, 0))⟩
          exact T_Law_worth_83 Hr22 a1 a2 a3 a4 (w.1 34 ((-nI 1) - (w.1 (20 + 1 + a1.toNatClampNeg) a4.toNatClampNeg)).toNatClampNeg) a3 w H
        · have H := am_ie hc H
          show am_gi sc (D + 2) 8 o (69, [(5, .int (w.1 (20 + 1 + a1.toNatClampNeg) a4.toNatClampNeg)), (0, .ref 17), (1, .int a1), (2, .int a2), (3, .int a3), (4, .int a4)], [.int a3, .ref 35], ww w, 0, 0)
          exact am_go_blk 2 (T_Law_worth_83 Hr22 a1 a2 a3 a4 (w.1 (20 + 1 + a1.toNatClampNeg) a4.toNatClampNeg) a3 w H)
theorem TL_Law_worth_22 {sc : Option (Nat × (Nat → Int32))} {D : Nat} {o : Int32 × am_W} : ∀ (n : Nat) (a1 : Int32) (a2 : Int32) (a3 : Int32) (a4 : Int32) (w : am_W) , L_Law_worth_22 n a1 a2 a3 a4 w = some o → am_gi sc (D + 2) 8 o (22, [(0, .ref 17), (1, .int a1), (2, .int a2), (3, .int a3), (4, .int a4)], [], ww w, 0, 0)
  | 0, _, _, _, _, _, H => by cases H
  | n + 1, a1, a2, a3, a4, w, H => T_Law_worth_22 (TL_Law_worth_22 n) a1 a2 a3 a4 w H
theorem T_Law_worth_20 {sc : Option (Nat × (Nat → Int32))} {D : Nat} {o : Int32 × am_W} (a1 : Int32) (a2 : Int32) (a3 : Int32) (s0 : Int32) (w : am_W) (H : F_Law_worth_20 a1 a2 a3 s0 w = some o) : am_gi sc (D + 2) 8 o (20, [(0, .ref 17), (1, .int a1), (2, .int a2), (3, .int a3)], [.int s0], ww w, 0, 0) := by
  unfold F_Law_worth_20 at H
  exact am_go_blk 1 (TL_Law_worth_22 am_NF a1 a2 a3 s0 w H)
theorem T_Law_worth {sc : Option (Nat × (Nat → Int32))} {D : Nat} {o : Int32 × am_W} (a1 : Int32) (a2 : Int32) (w : am_W) (H : F_Law_worth a1 a2 w = some o) : am_gi sc (D + 2) 8 o (0, [(0, .ref 17), (1, .int a1), (2, .int a2)], [], ww w, 0, 0) := by
  unfold F_Law_worth at H
  refine am_go_blk 4 ⟨fun hc => ?_, fun hc => ?_⟩
  · have H := am_ie hc H
    show am_gi sc (D + 2) 8 o (10, [(0, .ref 17), (1, .int a1), (2, .int a2), (3, .int (nI 0))], [], ww w, 0, 0)
    obtain ⟨hi1, H⟩ := am_ckE H
    refine am_go_blk 4 ⟨am_inv hi1, (?_ : am_gi sc (D + 2) 8 o (16, [(0, .ref 17), (1, .int a1), (2, .int a2), (3, .int (nI 0))], [.ref (27 + 1 + a1.toNatClampNeg)], ww w, 0, 0))⟩
    refine am_go_blk 3 (?_ : am_gi sc (D + 2) 8 o (19, [(0, .ref 17), (1, .int a1), (2, .int a2), (3, .int (nI 0))], [.int (a2 - (nI 1)), .ref (27 + 1 + a1.toNatClampNeg)], ww w, 0, 0))
    obtain ⟨hc, H⟩ := am_ckE H
    refine am_iald rfl (ww_ends (am_inl hi1)) (am_inv hc) (?_ : am_gi sc (D + 2) 8 o (20, [(0, .ref 17), (1, .int a1), (2, .int a2), (3, .int (nI 0))], [.int (w.1 (27 + 1 + a1.toNatClampNeg) (a2 - (nI 1)).toNatClampNeg)], ww w, 0, 0))
    exact T_Law_worth_20 a1 a2 (nI 0) (w.1 (27 + 1 + a1.toNatClampNeg) (a2 - (nI 1)).toNatClampNeg) w H
  · have H := am_it hc H
    show am_gi sc (D + 2) 8 o (6, [(3, .int (nI 0)), (0, .ref 17), (1, .int a1), (2, .int a2)], [], ww w, 0, 0)
    exact am_go_blk 2 (T_Law_worth_20 a1 a2 (nI 0) (nI 0) w H)
theorem M_Law_worth {sc : Option (Nat × (Nat → Int32))} {D : Nat} {o : Int32 × am_W} {a1 : Int32} {a2 : Int32} {w : am_W} (H : F_Law_worth a1 a2 w = some o) : am_run sc (D + 3) 8 [.ref 17, .int a1, .int a2] (ww w) (some (.int o.1)) (ww o.2) 0 0 :=
  am_run_of rfl (T_Law_worth a1 a2 w H)
def F_Law_says_84 (a1 : Int32) (a2 : Int32) (a3 : Int32) (s0 : Int32) (s1 : Int32) (w : am_W) : Option (Int32 × am_W) :=
  am_ck (am_in s1 6) (am_lt (wst w 34 s1 s0) fun w6 => am_ck (am_in a3 8) (am_ck (am_in (nI 5) 6) (am_lt (wst w6 34 (nI 5) (w6.1 2 a3.toNatClampNeg)) fun w7 => (F_Law_worth a1 a2 w7).bind fun q8 => some ((if (nI 0) < (if q8.1 < (nI 99) then q8.1 else (nI 99)) then (if q8.1 < (nI 99) then q8.1 else (nI 99)) else (nI 0)), q8.2))))
def F_Law_says_40 (a1 : Int32) (a2 : Int32) (a3 : Int32) (a4 : Int32) (a5 : Int32) (s0 : Int32) (s1 : Int32) (w : am_W) : Option (Int32 × am_W) :=
  am_ck (am_in s1 6) (am_lt (wst w 34 s1 s0) fun w2 => am_ck (am_in (nI 2) 6) (am_lt (wst w2 34 (nI 2) a5) fun w3 => am_ck (am_in (nI 3) 6) (am_lt (wst w3 34 (nI 3) a3) fun w4 => if a4 = (-nI 1) then (F_Law_says_84 a1 a2 a3 (nI 0) (nI 4) w4) else (am_ck (am_in a4 10) ((F_Jint_bitCount_0f7a4 (w4.1 7 a4.toNatClampNeg) w4).bind fun q5 => F_Law_says_84 a1 a2 a3 q5.1 (nI 4) q5.2)))))
def F_Law_says (a1 : Int32) (a2 : Int32) (a3 : Int32) (a4 : Int32) (a5 : Int32) (w : am_W) : Option (Int32 × am_W) :=
  am_ck (am_in a3 8) (am_ck (am_in (nI 0) 6) (am_lt (wst w 34 (nI 0) (w.1 3 a3.toNatClampNeg)) fun w1 => if a4 = (-nI 1) then (F_Law_says_40 a1 a2 a3 a4 a5 (nI 0) (nI 1) w1) else (am_ck (am_in a4 10) (F_Law_says_40 a1 a2 a3 a4 a5 (w1.1 6 a4.toNatClampNeg) (nI 1) w1))))
theorem T_Law_says_84 {sc : Option (Nat × (Nat → Int32))} {D : Nat} {o : Int32 × am_W} (a1 : Int32) (a2 : Int32) (a3 : Int32) (s0 : Int32) (s1 : Int32) (w : am_W) (H : F_Law_says_84 a1 a2 a3 s0 s1 w = some o) : am_gi sc (D + 3) 6 o (84, [(0, .ref 17), (1, .int a1), (2, .int a2), (3, .int a3)], [.int s0, .int s1, .ref 34], ww w, 0, 0) := by
  unfold F_Law_says_84 at H
  obtain ⟨hc, H⟩ := am_ckE H
  obtain ⟨w6, ew6, H⟩ := am_ltE H
  refine am_go_blk 1 ⟨am_inv hc, am_hp (ww_s34 ew6) (?_ : am_gi sc (D + 3) 6 o (85, [(0, .ref 17), (1, .int a1), (2, .int a2), (3, .int a3)], [], ww w6, 0, 0))⟩
  obtain ⟨hc, H⟩ := am_ckE H
  refine am_go_blk 8 ⟨am_inv hc, (?_ : am_gi sc (D + 3) 6 o (99, [(0, .ref 17), (1, .int a1), (2, .int a2), (3, .int a3)], [.int (w6.1 2 a3.toNatClampNeg), .int (nI 5), .ref 34], ww w6, 0, 0))⟩
  obtain ⟨hc, H⟩ := am_ckE H
  obtain ⟨w7, ew7, H⟩ := am_ltE H
  refine am_go_blk 1 ⟨am_inv hc, am_hp (ww_s34 ew7) (?_ : am_gi sc (D + 3) 6 o (100, [(0, .ref 17), (1, .int a1), (2, .int a2), (3, .int a3)], [], ww w7, 0, 0))⟩
  obtain ⟨q8, hqq8, H⟩ := am_bnE H
  refine am_go_blk 5 (?_ : am_gi sc (D + 3) 6 o (106, [(0, .ref 17), (1, .int a1), (2, .int a2), (3, .int a3)], [.int a2, .int a1, .ref 17, .int (nI 99), .int (nI 0)], ww w7, 0, 0))
  refine am_invd rfl rfl rfl rfl (am_calli rfl (M_Law_worth (D := D) hqq8) (?_ : am_gi sc (D + 3) 6 o (109, [(0, .ref 17), (1, .int a1), (2, .int a2), (3, .int a3)], [.int q8.1, .int (nI 99), .int (nI 0)], ww q8.2, 0, 0)))
  refine am_go_blk 1 (?_ : am_gi sc (D + 3) 6 o (112, [(0, .ref 17), (1, .int a1), (2, .int a2), (3, .int a3)], [.int (if q8.1 < (nI 99) then q8.1 else (nI 99)), .int (nI 0)], ww q8.2, 0, 0))
  refine am_go_blk 1 (?_ : am_gi sc (D + 3) 6 o (115, [(0, .ref 17), (1, .int a1), (2, .int a2), (3, .int a3)], [.int (if (nI 0) < (if q8.1 < (nI 99) then q8.1 else (nI 99)) then (if q8.1 < (nI 99) then q8.1 else (nI 99)) else (nI 0))], ww q8.2, 0, 0))
  exact am_go_blk 1 ⟨rfl, am_fi H⟩
theorem T_Law_says_40 {sc : Option (Nat × (Nat → Int32))} {D : Nat} {o : Int32 × am_W} (a1 : Int32) (a2 : Int32) (a3 : Int32) (a4 : Int32) (a5 : Int32) (s0 : Int32) (s1 : Int32) (w : am_W) (H : F_Law_says_40 a1 a2 a3 a4 a5 s0 s1 w = some o) : am_gi sc (D + 3) 6 o (40, [(0, .ref 17), (1, .int a1), (2, .int a2), (3, .int a3), (4, .int a4), (5, .int a5)], [.int s0, .int s1, .ref 34], ww w, 0, 0) := by
  unfold F_Law_says_40 at H
  obtain ⟨hc, H⟩ := am_ckE H
  obtain ⟨w2, ew2, H⟩ := am_ltE H
  refine am_go_blk 1 ⟨am_inv hc, am_hp (ww_s34 ew2) (?_ : am_gi sc (D + 3) 6 o (41, [(0, .ref 17), (1, .int a1), (2, .int a2), (3, .int a3), (4, .int a4), (5, .int a5)], [], ww w2, 0, 0))⟩
  obtain ⟨hc, H⟩ := am_ckE H
  obtain ⟨w3, ew3, H⟩ := am_ltE H
  refine am_go_blk 5 ⟨am_inv hc, am_hp (ww_s34 ew3) (?_ : am_gi sc (D + 3) 6 o (49, [(0, .ref 17), (1, .int a1), (2, .int a2), (3, .int a3), (4, .int a4), (5, .int a5)], [], ww w3, 0, 0))⟩
  obtain ⟨hc, H⟩ := am_ckE H
  obtain ⟨w4, ew4, H⟩ := am_ltE H
  refine am_go_blk 5 ⟨am_inv hc, am_hp (ww_s34 ew4) (?_ : am_gi sc (D + 3) 6 o (56, [(0, .ref 17), (1, .int a1), (2, .int a2), (3, .int a3), (4, .int a4), (5, .int a5)], [], ww w4, 0, 0))⟩
  refine am_go_blk 6 ⟨fun hc => ?_, fun hc => ?_⟩
  · have H := am_ie hc H
    show am_gi sc (D + 3) 6 o (71, [(0, .ref 17), (1, .int a1), (2, .int a2), (3, .int a3), (4, .int a4)], [.int (nI 4), .ref 34], ww w4, 0, 0)
    obtain ⟨hc, H⟩ := am_ckE H
    refine am_go_blk 5 ⟨am_inv hc, (?_ : am_gi sc (D + 3) 6 o (81, [(0, .ref 17), (1, .int a1), (2, .int a2), (3, .int a3), (4, .int a4)], [.int (w4.1 7 a4.toNatClampNeg), .int (nI 4), .ref 34], ww w4, 0, 0))⟩
    obtain ⟨q5, hqq5, H⟩ := am_bnE H
    refine am_cls rfl rfl rfl (am_calli rfl (M_Jint_bitCount_0f7a4 (D := D + 2) hqq5) (?_ : am_gi sc (D + 3) 6 o (84, [(0, .ref 17), (1, .int a1), (2, .int a2), (3, .int a3)], [.int q5.1, .int (nI 4), .ref 34], ww q5.2, 0, 0)))
    exact T_Law_says_84 a1 a2 a3 q5.1 (nI 4) q5.2 H
  · have H := am_it hc H
    show am_gi sc (D + 3) 6 o (67, [(0, .ref 17), (1, .int a1), (2, .int a2), (3, .int a3), (4, .int a4), (5, .int a5)], [.int (nI 4), .ref 34], ww w4, 0, 0)
    exact am_go_blk 2 (T_Law_says_84 a1 a2 a3 (nI 0) (nI 4) w4 H)
theorem T_Law_says {sc : Option (Nat × (Nat → Int32))} {D : Nat} {o : Int32 × am_W} (a1 : Int32) (a2 : Int32) (a3 : Int32) (a4 : Int32) (a5 : Int32) (w : am_W) (H : F_Law_says a1 a2 a3 a4 a5 w = some o) : am_gi sc (D + 3) 6 o (0, [(0, .ref 17), (1, .int a1), (2, .int a2), (3, .int a3), (4, .int a4), (5, .int a5)], [], ww w, 0, 0) := by
  unfold F_Law_says at H
  obtain ⟨hc, H⟩ := am_ckE H
  refine am_go_blk 8 ⟨am_inv hc, (?_ : am_gi sc (D + 3) 6 o (14, [(0, .ref 17), (1, .int a1), (2, .int a2), (3, .int a3), (4, .int a4), (5, .int a5)], [.int (w.1 3 a3.toNatClampNeg), .int (nI 0), .ref 34], ww w, 0, 0))⟩
  obtain ⟨hc, H⟩ := am_ckE H
  obtain ⟨w1, ew1, H⟩ := am_ltE H
  refine am_go_blk 1 ⟨am_inv hc, am_hp (ww_s34 ew1) (?_ : am_gi sc (D + 3) 6 o (15, [(0, .ref 17), (1, .int a1), (2, .int a2), (3, .int a3), (4, .int a4), (5, .int a5)], [], ww w1, 0, 0))⟩
  refine am_go_blk 6 ⟨fun hc => ?_, fun hc => ?_⟩
  · have H := am_ie hc H
    show am_gi sc (D + 3) 6 o (30, [(0, .ref 17), (1, .int a1), (2, .int a2), (3, .int a3), (4, .int a4), (5, .int a5)], [.int (nI 1), .ref 34], ww w1, 0, 0)
    obtain ⟨hc, H⟩ := am_ckE H
    refine am_go_blk 5 ⟨am_inv hc, (?_ : am_gi sc (D + 3) 6 o (40, [(0, .ref 17), (1, .int a1), (2, .int a2), (3, .int a3), (4, .int a4), (5, .int a5)], [.int (w1.1 6 a4.toNatClampNeg), .int (nI 1), .ref 34], ww w1, 0, 0))⟩
    exact T_Law_says_40 a1 a2 a3 a4 a5 (w1.1 6 a4.toNatClampNeg) (nI 1) w1 H
  · have H := am_it hc H
    show am_gi sc (D + 3) 6 o (26, [(0, .ref 17), (1, .int a1), (2, .int a2), (3, .int a3), (4, .int a4), (5, .int a5)], [.int (nI 1), .ref 34], ww w1, 0, 0)
    exact am_go_blk 2 (T_Law_says_40 a1 a2 a3 a4 a5 (nI 0) (nI 1) w1 H)
theorem M_Law_says {sc : Option (Nat × (Nat → Int32))} {D : Nat} {o : Int32 × am_W} {a1 : Int32} {a2 : Int32} {a3 : Int32} {a4 : Int32} {a5 : Int32} {w : am_W} (H : F_Law_says a1 a2 a3 a4 a5 w = some o) : am_run sc (D + 4) 6 [.ref 17, .int a1, .int a2, .int a3, .int a4, .int a5] (ww w) (some (.int o.1)) (ww o.2) 0 0 :=
  am_run_of rfl (T_Law_says a1 a2 a3 a4 a5 w H)
