/-! ===== the methods as functions, and that each does what its function says: Mod_force .. Mod_saw ===== -/
def F_Mod_force (a1 : Int32) (w : am_W) : Option (Int32 × am_W) :=
  (F_Mod_in a1 (nI 0) ((w.1 53 12) - (nI 1)) w).bind fun q1 => if q1.1 = 0 then (some ((-nI 2), q1.2)) else (am_lt (wsf q1.2 53 13 a1) fun w2 => some ((q1.2.1 53 13), w2))
theorem T_Mod_force {D : Nat} {o : Int32 × am_W} (a1 : Int32) (w : am_W) (H : F_Mod_force a1 w = some o) : am_gi (D + 1) 164 o (0, [(0, .ref 53), (1, .int a1)], [], ww w, 0, 0) := by
  unfold F_Mod_force at H
  obtain ⟨q1, hqq1, H⟩ := am_bnE H
  refine am_go_blk 6 (?_ : am_gi (D + 1) 164 o (8, [(0, .ref 53), (1, .int a1)], [.int ((w.1 53 12) - (nI 1)), .int (nI 0), .int a1], ww w, 0, 0))
  refine am_cls rfl rfl rfl (am_calli rfl (M_Mod_in (D := D) hqq1) (?_ : am_gi (D + 1) 164 o (11, [(0, .ref 53), (1, .int a1)], [.int q1.1], ww q1.2, 0, 0)))
  refine am_go_blk 1 ⟨fun hc => ?_, fun hc => ?_⟩
  · have H := am_ie hc H
    show am_gi (D + 1) 164 o (17, [(0, .ref 53), (1, .int a1)], [], ww q1.2, 0, 0)
    obtain ⟨w2, ew2, H⟩ := am_ltE H
    refine am_go_blk 6 ⟨rfl, rfl, am_hp (ww_f53_13 ew2) (?_ : am_gi (D + 1) 164 o (27, [(2, .int (q1.2.1 53 13)), (0, .ref 53), (1, .int a1)], [], ww w2, 0, 0))⟩
    exact am_go_blk 2 ⟨rfl, am_fi H⟩
  · have H := am_it hc H
    show am_gi (D + 1) 164 o (14, [(0, .ref 53), (1, .int a1)], [], ww q1.2, 0, 0)
    exact am_go_blk 2 ⟨rfl, am_fi H⟩
theorem M_Mod_force {D : Nat} {o : Int32 × am_W} {a1 : Int32} {w : am_W} (H : F_Mod_force a1 w = some o) : am_run (D + 2) 164 [.ref 53, .int a1] (ww w) (some (.int o.1)) (ww o.2) 0 0 :=
  am_run_of rfl (T_Mod_force a1 w H)
def F_Mod_isThing (a1 : Int32) (w : am_W) : Option (Int32 × am_W) :=
  (F_Mod_in a1 (nI 0) ((w.1 53 0) - (nI 1)) w).bind fun q1 => am_ck (am_bo q1.1) (some (q1.1, q1.2))
theorem T_Mod_isThing {D : Nat} {o : Int32 × am_W} (a1 : Int32) (w : am_W) (H : F_Mod_isThing a1 w = some o) : am_gi (D + 1) 140 o (0, [(0, .ref 53), (1, .int a1)], [], ww w, 0, 0) := by
  unfold F_Mod_isThing at H
  obtain ⟨q1, hqq1, H⟩ := am_bnE H
  refine am_go_blk 6 (?_ : am_gi (D + 1) 140 o (8, [(0, .ref 53), (1, .int a1)], [.int ((w.1 53 0) - (nI 1)), .int (nI 0), .int a1], ww w, 0, 0))
  refine am_cls rfl rfl rfl (am_calli rfl (M_Mod_in (D := D) hqq1) (?_ : am_gi (D + 1) 140 o (11, [(0, .ref 53), (1, .int a1)], [.int q1.1], ww q1.2, 0, 0)))
  obtain ⟨hc, H⟩ := am_ckE H
  exact am_go_blk 1 ⟨am_boE hc, am_fi H⟩
theorem M_Mod_isThing {D : Nat} {o : Int32 × am_W} {a1 : Int32} {w : am_W} (H : F_Mod_isThing a1 w = some o) : am_run (D + 2) 140 [.ref 53, .int a1] (ww w) (some (.int o.1)) (ww o.2) 0 0 :=
  am_run_of rfl (T_Mod_isThing a1 w H)
def F_Mod_isHour (a0 : Int32) (w : am_W) : Option (Int32 × am_W) :=
  (F_Mod_in a0 (nI 0) (nI 23) w).bind fun q1 => am_ck (am_bo q1.1) (some (q1.1, q1.2))
theorem T_Mod_isHour {D : Nat} {o : Int32 × am_W} (a0 : Int32) (w : am_W) (H : F_Mod_isHour a0 w = some o) : am_gi (D + 1) 147 o (0, [(0, .int a0)], [], ww w, 0, 0) := by
  unfold F_Mod_isHour at H
  obtain ⟨q1, hqq1, H⟩ := am_bnE H
  refine am_go_blk 3 (?_ : am_gi (D + 1) 147 o (4, [(0, .int a0)], [.int (nI 23), .int (nI 0), .int a0], ww w, 0, 0))
  refine am_cls rfl rfl rfl (am_calli rfl (M_Mod_in (D := D) hqq1) (?_ : am_gi (D + 1) 147 o (7, [(0, .int a0)], [.int q1.1], ww q1.2, 0, 0)))
  obtain ⟨hc, H⟩ := am_ckE H
  exact am_go_blk 1 ⟨am_boE hc, am_fi H⟩
theorem M_Mod_isHour {D : Nat} {o : Int32 × am_W} {a0 : Int32} {w : am_W} (H : F_Mod_isHour a0 w = some o) : am_run (D + 2) 147 [.int a0] (ww w) (some (.int o.1)) (ww o.2) 0 0 :=
  am_run_of rfl (T_Mod_isHour a0 w H)
def F_Mod_sortOf (a1 : Int32) (w : am_W) : Option (Int32 × am_W) :=
  am_ck (am_in (((nI 3) * a1) + (nI 1)) 30) (some ((w.1 57 (((nI 3) * a1) + (nI 1)).toNatClampNeg), w))
theorem T_Mod_sortOf {D : Nat} {o : Int32 × am_W} (a1 : Int32) (w : am_W) (H : F_Mod_sortOf a1 w = some o) : am_gi D 145 o (0, [(0, .ref 53), (1, .int a1)], [], ww w, 0, 0) := by
  unfold F_Mod_sortOf at H
  obtain ⟨hc, H⟩ := am_ckE H
  refine am_go_blk 8 ⟨am_inv hc, (?_ : am_gi D 145 o (10, [(0, .ref 53), (1, .int a1)], [.int (w.1 57 (((nI 3) * a1) + (nI 1)).toNatClampNeg)], ww w, 0, 0))⟩
  exact am_go_blk 1 ⟨rfl, am_fi H⟩
theorem M_Mod_sortOf {D : Nat} {o : Int32 × am_W} {a1 : Int32} {w : am_W} (H : F_Mod_sortOf a1 w = some o) : am_run (D + 1) 145 [.ref 53, .int a1] (ww w) (some (.int o.1)) (ww o.2) 0 0 :=
  am_run_of rfl (T_Mod_sortOf a1 w H)
def F_Mod_through (a1 : Int32) (w : am_W) : Option (Int32 × am_W) :=
  am_ck (am_in (((nI 3) * a1) + (nI 2)) 30) (some ((w.1 57 (((nI 3) * a1) + (nI 2)).toNatClampNeg), w))
theorem T_Mod_through {D : Nat} {o : Int32 × am_W} (a1 : Int32) (w : am_W) (H : F_Mod_through a1 w = some o) : am_gi D 146 o (0, [(0, .ref 53), (1, .int a1)], [], ww w, 0, 0) := by
  unfold F_Mod_through at H
  obtain ⟨hc, H⟩ := am_ckE H
  refine am_go_blk 8 ⟨am_inv hc, (?_ : am_gi D 146 o (10, [(0, .ref 53), (1, .int a1)], [.int (w.1 57 (((nI 3) * a1) + (nI 2)).toNatClampNeg)], ww w, 0, 0))⟩
  exact am_go_blk 1 ⟨rfl, am_fi H⟩
theorem M_Mod_through {D : Nat} {o : Int32 × am_W} {a1 : Int32} {w : am_W} (H : F_Mod_through a1 w = some o) : am_run (D + 1) 146 [.ref 53, .int a1] (ww w) (some (.int o.1)) (ww o.2) 0 0 :=
  am_run_of rfl (T_Mod_through a1 w H)
def F_Mod_ones_4 (r4 : Int32 → Int32 → Int32 → am_W → Option (Int32 × am_W)) (a0 : Int32) (a1 : Int32) (a2 : Int32) (w : am_W) : Option (Int32 × am_W) :=
  if (nI 10) ≤ a2 then (some (a1, w)) else (r4 a0 (a1 + ((a0 >>> (a2 &&& 31)) &&& (nI 1))) (a2 + (nI 1)) w)
def L_Mod_ones_4 : Nat → Int32 → Int32 → Int32 → am_W → Option (Int32 × am_W)
  | 0, _, _, _, _ => none
  | n + 1, a0, a1, a2, w => F_Mod_ones_4 (L_Mod_ones_4 n) a0 a1 a2 w
def F_Mod_ones (a0 : Int32) (w : am_W) : Option (Int32 × am_W) :=
  L_Mod_ones_4 am_NF a0 (nI 0) (nI 0) w
theorem T_Mod_ones_4 {D : Nat} {o : Int32 × am_W} {r4 : Int32 → Int32 → Int32 → am_W → Option (Int32 × am_W)} (Hr4 : ∀ (a0 : Int32) (a1 : Int32) (a2 : Int32) (w : am_W) , r4 a0 a1 a2 w = some o → am_gi D 139 o (4, [(0, .int a0), (1, .int a1), (2, .int a2)], [], ww w, 0, 0)) (a0 : Int32) (a1 : Int32) (a2 : Int32) (w : am_W) (H : F_Mod_ones_4 r4 a0 a1 a2 w = some o) : am_gi D 139 o (4, [(0, .int a0), (1, .int a1), (2, .int a2)], [], ww w, 0, 0) := by
  unfold F_Mod_ones_4 at H
  refine am_go_blk 3 ⟨fun hc => ?_, fun hc => ?_⟩
  · have H := am_it hc H
    show am_gi D 139 o (24, [(1, .int a1)], [], ww w, 0, 0)
    exact am_go_blk 2 ⟨rfl, am_fi H⟩
  · have H := am_ie hc H
    show am_gi D 139 o (10, [(0, .int a0), (1, .int a1), (2, .int a2)], [], ww w, 0, 0)
    exact am_go_blk 10 (Hr4 a0 (a1 + ((a0 >>> (a2 &&& 31)) &&& (nI 1))) (a2 + (nI 1)) w H)
theorem TL_Mod_ones_4 {D : Nat} {o : Int32 × am_W} : ∀ (n : Nat) (a0 : Int32) (a1 : Int32) (a2 : Int32) (w : am_W) , L_Mod_ones_4 n a0 a1 a2 w = some o → am_gi D 139 o (4, [(0, .int a0), (1, .int a1), (2, .int a2)], [], ww w, 0, 0)
  | 0, _, _, _, _, H => by cases H
  | n + 1, a0, a1, a2, w, H => T_Mod_ones_4 (TL_Mod_ones_4 n) a0 a1 a2 w H
theorem T_Mod_ones {D : Nat} {o : Int32 × am_W} (a0 : Int32) (w : am_W) (H : F_Mod_ones a0 w = some o) : am_gi D 139 o (0, [(0, .int a0)], [], ww w, 0, 0) := by
  unfold F_Mod_ones at H
  exact am_go_blk 4 (TL_Mod_ones_4 am_NF a0 (nI 0) (nI 0) w H)
theorem M_Mod_ones {D : Nat} {o : Int32 × am_W} {a0 : Int32} {w : am_W} (H : F_Mod_ones a0 w = some o) : am_run (D + 1) 139 [.int a0] (ww w) (some (.int o.1)) (ww o.2) 0 0 :=
  am_run_of rfl (T_Mod_ones a0 w H)
def F_Mod_two_57 (s0 : Int32) (w : am_W) : Option (Int32 × am_W) :=
  some (s0, w)
def F_Mod_two_52 (w : am_W) : Option (Int32 × am_W) :=
  F_Mod_two_57 (nI 1) w
def F_Mod_two_71 (s0 : Int32) (w : am_W) : Option (Int32 × am_W) :=
  some (s0, w)
def F_Mod_two_70 (w : am_W) : Option (Int32 × am_W) :=
  F_Mod_two_71 (nI 0) w
def F_Mod_two_102 (a1 : Int32) (a2 : Int32) (w : am_W) : Option (Int32 × am_W) :=
  some ((a1 * a2), w)
def F_Mod_two_82 (s0 : Int32) (w : am_W) : Option (Int32 × am_W) :=
  some (s0, w)
def F_Mod_two_93 (s0 : Int32) (w : am_W) : Option (Int32 × am_W) :=
  some (s0, w)
def F_Mod_two (a0 : Int32) (a1 : Int32) (a2 : Int32) (w : am_W) : Option (Int32 × am_W) :=
  if a0.toInt = 11 then (if a1 = 0 then (if a2 = 0 then (F_Mod_two_57 (nI 0) w) else (F_Mod_two_52 w)) else (F_Mod_two_52 w)) else if a0.toInt = 12 then (if a1 = 0 then (F_Mod_two_70 w) else (if a2 = 0 then (F_Mod_two_70 w) else (F_Mod_two_71 (nI 1) w))) else if a0.toInt = 13 then (F_Mod_two_102 a1 a2 w) else if a0.toInt = 14 then (if a2 ≤ a1 then (F_Mod_two_82 (nI 0) w) else (F_Mod_two_82 (nI 1) w)) else if a0.toInt = 15 then (if a1 = a2 then (F_Mod_two_93 (nI 1) w) else (F_Mod_two_93 (nI 0) w)) else if a0.toInt = 16 then (some ((a1 + a2), w)) else if a0.toInt = 17 then (some ((a1 - a2), w)) else (F_Mod_two_102 a1 a2 w)
theorem T_Mod_two_57 {D : Nat} {o : Int32 × am_W} (s0 : Int32) (w : am_W) (H : F_Mod_two_57 s0 w = some o) : am_gi D 162 o (57, [], [.int s0], ww w, 0, 0) := by
  unfold F_Mod_two_57 at H
  exact am_go_blk 1 ⟨rfl, am_fi H⟩
theorem T_Mod_two_52 {D : Nat} {o : Int32 × am_W} (w : am_W) (H : F_Mod_two_52 w = some o) : am_gi D 162 o (52, [], [], ww w, 0, 0) := by
  unfold F_Mod_two_52 at H
  exact am_go_blk 2 (T_Mod_two_57 (nI 1) w H)
theorem T_Mod_two_71 {D : Nat} {o : Int32 × am_W} (s0 : Int32) (w : am_W) (H : F_Mod_two_71 s0 w = some o) : am_gi D 162 o (71, [], [.int s0], ww w, 0, 0) := by
  unfold F_Mod_two_71 at H
  exact am_go_blk 1 ⟨rfl, am_fi H⟩
theorem T_Mod_two_70 {D : Nat} {o : Int32 × am_W} (w : am_W) (H : F_Mod_two_70 w = some o) : am_gi D 162 o (70, [], [], ww w, 0, 0) := by
  unfold F_Mod_two_70 at H
  exact am_go_blk 1 (T_Mod_two_71 (nI 0) w H)
theorem T_Mod_two_102 {D : Nat} {o : Int32 × am_W} (a1 : Int32) (a2 : Int32) (w : am_W) (H : F_Mod_two_102 a1 a2 w = some o) : am_gi D 162 o (102, [(1, .int a1), (2, .int a2)], [], ww w, 0, 0) := by
  unfold F_Mod_two_102 at H
  exact am_go_blk 4 ⟨rfl, am_fi H⟩
theorem T_Mod_two_82 {D : Nat} {o : Int32 × am_W} (s0 : Int32) (w : am_W) (H : F_Mod_two_82 s0 w = some o) : am_gi D 162 o (82, [], [.int s0], ww w, 0, 0) := by
  unfold F_Mod_two_82 at H
  exact am_go_blk 1 ⟨rfl, am_fi H⟩
theorem T_Mod_two_93 {D : Nat} {o : Int32 × am_W} (s0 : Int32) (w : am_W) (H : F_Mod_two_93 s0 w = some o) : am_gi D 162 o (93, [], [.int s0], ww w, 0, 0) := by
  unfold F_Mod_two_93 at H
  exact am_go_blk 1 ⟨rfl, am_fi H⟩
theorem T_Mod_two {D : Nat} {o : Int32 × am_W} (a0 : Int32) (a1 : Int32) (a2 : Int32) (w : am_W) (H : F_Mod_two a0 a1 a2 w = some o) : am_gi D 162 o (0, [(0, .int a0), (1, .int a1), (2, .int a2)], [], ww w, 0, 0) := by
  unfold F_Mod_two at H
  refine am_go_blk 2 ⟨fun hc => ?_, fun hc => ?_⟩
  · have H := am_it hc H
    show am_gi D 162 o (44, [(1, .int a1), (2, .int a2)], [], ww w, 0, 0)
    refine am_go_blk 2 ⟨fun hc => ?_, fun hc => ?_⟩
    · have H := am_ie hc H
      exact T_Mod_two_52 w H
    · have H := am_it hc H
      show am_gi D 162 o (48, [(1, .int a1), (2, .int a2)], [], ww w, 0, 0)
      refine am_go_blk 2 ⟨fun hc => ?_, fun hc => ?_⟩
      · have H := am_it hc H
        show am_gi D 162 o (56, [], [], ww w, 0, 0)
        exact am_go_blk 1 (T_Mod_two_57 (nI 0) w H)
      · have H := am_ie hc H
        exact T_Mod_two_52 w H
  have H := am_ie hc H
  refine ⟨fun hc => ?_, fun hc => ?_⟩
  · have H := am_it hc H
    show am_gi D 162 o (58, [(1, .int a1), (2, .int a2)], [], ww w, 0, 0)
    refine am_go_blk 2 ⟨fun hc => ?_, fun hc => ?_⟩
    · have H := am_it hc H
      exact T_Mod_two_70 w H
    · have H := am_ie hc H
      show am_gi D 162 o (62, [(1, .int a1), (2, .int a2)], [], ww w, 0, 0)
      refine am_go_blk 2 ⟨fun hc => ?_, fun hc => ?_⟩
      · have H := am_it hc H
        exact T_Mod_two_70 w H
      · have H := am_ie hc H
        show am_gi D 162 o (66, [(1, .int a1), (2, .int a2)], [], ww w, 0, 0)
        exact am_go_blk 2 (T_Mod_two_71 (nI 1) w H)
  have H := am_ie hc H
  refine ⟨fun hc => ?_, fun hc => ?_⟩
  · have H := am_it hc H
    exact T_Mod_two_102 a1 a2 w H
  have H := am_ie hc H
  refine ⟨fun hc => ?_, fun hc => ?_⟩
  · have H := am_it hc H
    show am_gi D 162 o (72, [(1, .int a1), (2, .int a2)], [], ww w, 0, 0)
    refine am_go_blk 3 ⟨fun hc => ?_, fun hc => ?_⟩
    · have H := am_it hc H
      show am_gi D 162 o (81, [], [], ww w, 0, 0)
      exact am_go_blk 1 (T_Mod_two_82 (nI 0) w H)
    · have H := am_ie hc H
      show am_gi D 162 o (77, [(1, .int a1), (2, .int a2)], [], ww w, 0, 0)
      exact am_go_blk 2 (T_Mod_two_82 (nI 1) w H)
  have H := am_ie hc H
  refine ⟨fun hc => ?_, fun hc => ?_⟩
  · have H := am_it hc H
    show am_gi D 162 o (83, [(1, .int a1), (2, .int a2)], [], ww w, 0, 0)
    refine am_go_blk 3 ⟨fun hc => ?_, fun hc => ?_⟩
    · have H := am_ie hc H
      show am_gi D 162 o (92, [], [], ww w, 0, 0)
      exact am_go_blk 1 (T_Mod_two_93 (nI 0) w H)
    · have H := am_it hc H
      show am_gi D 162 o (88, [(1, .int a1), (2, .int a2)], [], ww w, 0, 0)
      exact am_go_blk 2 (T_Mod_two_93 (nI 1) w H)
  have H := am_ie hc H
  refine ⟨fun hc => ?_, fun hc => ?_⟩
  · have H := am_it hc H
    show am_gi D 162 o (94, [(1, .int a1), (2, .int a2)], [], ww w, 0, 0)
    exact am_go_blk 4 ⟨rfl, am_fi H⟩
  have H := am_ie hc H
  refine ⟨fun hc => ?_, fun hc => ?_⟩
  · have H := am_it hc H
    show am_gi D 162 o (98, [(1, .int a1), (2, .int a2)], [], ww w, 0, 0)
    exact am_go_blk 4 ⟨rfl, am_fi H⟩
  have H := am_ie hc H
  exact T_Mod_two_102 a1 a2 w H
theorem M_Mod_two {D : Nat} {o : Int32 × am_W} {a0 : Int32} {a1 : Int32} {a2 : Int32} {w : am_W} (H : F_Mod_two a0 a1 a2 w = some o) : am_run (D + 1) 162 [.int a0, .int a1, .int a2] (ww w) (some (.int o.1)) (ww o.2) 0 0 :=
  am_run_of rfl (T_Mod_two a0 a1 a2 w H)
def F_Mod_says_191 (r16 : Int32 → Int32 → Int32 → am_W → Option (Int32 × am_W)) (a1 : Int32) (a2 : Int32) (a3 : Int32) (w : am_W) : Option (Int32 × am_W) :=
  r16 a1 a2 (a3 + (nI 1)) w
def F_Mod_says_93 (r16 : Int32 → Int32 → Int32 → am_W → Option (Int32 × am_W)) (a1 : Int32) (a2 : Int32) (a3 : Int32) (s0 : Int32) (s1 : Int32) (w : am_W) : Option (Int32 × am_W) :=
  am_ck (am_in s1 200) (am_lt (wst w 68 s1 s0) fun w1 => F_Mod_says_191 r16 a1 (a2 + (nI 1)) a3 w1)
def F_Mod_says_66 (r16 : Int32 → Int32 → Int32 → am_W → Option (Int32 × am_W)) (a1 : Int32) (a2 : Int32) (a3 : Int32) (a4 : Int32) (w : am_W) : Option (Int32 × am_W) :=
  if (nI 11) ≤ a4 then (F_Mod_says_93 r16 a1 a2 a3 (a4 - (nI 100000)) a2 w) else (am_ck (am_in a4 6) (F_Mod_says_93 r16 a1 a2 a3 (w.1 69 a4.toNatClampNeg) a2 w))
def F_Mod_says_130 (r16 : Int32 → Int32 → Int32 → am_W → Option (Int32 × am_W)) (a1 : Int32) (a2 : Int32) (a3 : Int32) (s0 : Int32) (s1 : Int32) (w : am_W) : Option (Int32 × am_W) :=
  am_ck (am_in s1 200) (am_lt (wst w 68 s1 s0) fun w5 => F_Mod_says_191 r16 a1 a2 a3 w5)
def F_Mod_says_16 (r16 : Int32 → Int32 → Int32 → am_W → Option (Int32 × am_W)) (a1 : Int32) (a2 : Int32) (a3 : Int32) (w : am_W) : Option (Int32 × am_W) :=
  am_ck (am_in ((((nI 4) * (w.1 53 13)) + a1) + (nI 1)) 24) (if (w.1 60 ((((nI 4) * (w.1 53 13)) + a1) + (nI 1)).toNatClampNeg) ≤ a3 then (am_ck (am_in (nI 0) 200) (some ((w.1 68 (nI 0).toNatClampNeg), w))) else (am_ck (am_in (((nI 200) * (w.1 53 13)) + a3) 1200) (if (nI 100000) ≤ (w.1 59 (((nI 200) * (w.1 53 13)) + a3).toNatClampNeg) then (F_Mod_says_66 r16 a1 a2 a3 (w.1 59 (((nI 200) * (w.1 53 13)) + a3).toNatClampNeg) w) else (if (nI 11) ≤ (w.1 59 (((nI 200) * (w.1 53 13)) + a3).toNatClampNeg) then (if (w.1 59 (((nI 200) * (w.1 53 13)) + a3).toNatClampNeg) = (nI 13) then (am_ck (am_in (a2 - (nI 1)) 200) (if (w.1 68 (a2 - (nI 1)).toNatClampNeg) = 0 then (F_Mod_says_130 r16 a1 a2 a3 (nI 1) (a2 - (nI 1)) w) else (F_Mod_says_130 r16 a1 a2 a3 (nI 0) (a2 - (nI 1)) w))) else (if (w.1 59 (((nI 200) * (w.1 53 13)) + a3).toNatClampNeg) = (nI 19) then (am_ck (am_in (a2 - (nI 1)) 200) (am_ck (am_in (a2 - (nI 1)) 200) (am_lt (wst w 68 (a2 - (nI 1)) (-(w.1 68 (a2 - (nI 1)).toNatClampNeg))) fun w4 => F_Mod_says_191 r16 a1 a2 a3 w4))) else (am_ck (am_in ((a2 + (-nI 1)) - (nI 1)) 200) (am_ck (am_in (a2 + (-nI 1)) 200) ((F_Mod_two (w.1 59 (((nI 200) * (w.1 53 13)) + a3).toNatClampNeg) (w.1 68 ((a2 + (-nI 1)) - (nI 1)).toNatClampNeg) (w.1 68 (a2 + (-nI 1)).toNatClampNeg) w).bind fun q2 => am_ck (am_in ((a2 + (-nI 1)) - (nI 1)) 200) (am_lt (wst q2.2 68 ((a2 + (-nI 1)) - (nI 1)) q2.1) fun w3 => F_Mod_says_191 r16 a1 (a2 + (-nI 1)) a3 w3)))))) else (F_Mod_says_66 r16 a1 a2 a3 (w.1 59 (((nI 200) * (w.1 53 13)) + a3).toNatClampNeg) w)))))
def L_Mod_says_16 : Nat → Int32 → Int32 → Int32 → am_W → Option (Int32 × am_W)
  | 0, _, _, _, _ => none
  | n + 1, a1, a2, a3, w => F_Mod_says_16 (L_Mod_says_16 n) a1 a2 a3 w
def F_Mod_says (a1 : Int32) (w : am_W) : Option (Int32 × am_W) :=
  am_ck (am_in (((nI 4) * (w.1 53 13)) + a1) 24) (L_Mod_says_16 am_NF a1 (nI 0) (w.1 60 (((nI 4) * (w.1 53 13)) + a1).toNatClampNeg) w)
theorem T_Mod_says_191 {D : Nat} {o : Int32 × am_W} {r16 : Int32 → Int32 → Int32 → am_W → Option (Int32 × am_W)} (Hr16 : ∀ (a1 : Int32) (a2 : Int32) (a3 : Int32) (w : am_W) , r16 a1 a2 a3 w = some o → am_gi (D + 1) 163 o (16, [(0, .ref 53), (1, .int a1), (2, .int a2), (3, .int a3)], [], ww w, 0, 0)) (a1 : Int32) (a2 : Int32) (a3 : Int32) (w : am_W) (H : F_Mod_says_191 r16 a1 a2 a3 w = some o) : am_gi (D + 1) 163 o (191, [(0, .ref 53), (1, .int a1), (2, .int a2), (3, .int a3)], [], ww w, 0, 0) := by
  unfold F_Mod_says_191 at H
  exact am_go_blk 2 (Hr16 a1 a2 (a3 + (nI 1)) w H)
theorem T_Mod_says_93 {D : Nat} {o : Int32 × am_W} {r16 : Int32 → Int32 → Int32 → am_W → Option (Int32 × am_W)} (Hr16 : ∀ (a1 : Int32) (a2 : Int32) (a3 : Int32) (w : am_W) , r16 a1 a2 a3 w = some o → am_gi (D + 1) 163 o (16, [(0, .ref 53), (1, .int a1), (2, .int a2), (3, .int a3)], [], ww w, 0, 0)) (a1 : Int32) (a2 : Int32) (a3 : Int32) (s0 : Int32) (s1 : Int32) (w : am_W) (H : F_Mod_says_93 r16 a1 a2 a3 s0 s1 w = some o) : am_gi (D + 1) 163 o (93, [(0, .ref 53), (1, .int a1), (2, .int a2), (3, .int a3)], [.int s0, .int s1, .ref 68], ww w, 0, 0) := by
  unfold F_Mod_says_93 at H
  obtain ⟨hc, H⟩ := am_ckE H
  obtain ⟨w1, ew1, H⟩ := am_ltE H
  refine am_go_blk 1 ⟨am_inv hc, am_hp (ww_s68 ew1) (?_ : am_gi (D + 1) 163 o (94, [(0, .ref 53), (1, .int a1), (2, .int a2), (3, .int a3)], [], ww w1, 0, 0))⟩
  exact am_go_blk 2 (T_Mod_says_191 Hr16 a1 (a2 + (nI 1)) a3 w1 H)
theorem T_Mod_says_66 {D : Nat} {o : Int32 × am_W} {r16 : Int32 → Int32 → Int32 → am_W → Option (Int32 × am_W)} (Hr16 : ∀ (a1 : Int32) (a2 : Int32) (a3 : Int32) (w : am_W) , r16 a1 a2 a3 w = some o → am_gi (D + 1) 163 o (16, [(0, .ref 53), (1, .int a1), (2, .int a2), (3, .int a3)], [], ww w, 0, 0)) (a1 : Int32) (a2 : Int32) (a3 : Int32) (a4 : Int32) (w : am_W) (H : F_Mod_says_66 r16 a1 a2 a3 a4 w = some o) : am_gi (D + 1) 163 o (66, [(0, .ref 53), (1, .int a1), (2, .int a2), (3, .int a3), (4, .int a4)], [], ww w, 0, 0) := by
  unfold F_Mod_says_66 at H
  refine am_go_blk 6 ⟨fun hc => ?_, fun hc => ?_⟩
  · have H := am_it hc H
    show am_gi (D + 1) 163 o (88, [(0, .ref 53), (1, .int a1), (2, .int a2), (3, .int a3), (4, .int a4)], [.int a2, .ref 68], ww w, 0, 0)
    exact am_go_blk 3 (T_Mod_says_93 Hr16 a1 a2 a3 (a4 - (nI 100000)) a2 w H)
  · have H := am_ie hc H
    show am_gi (D + 1) 163 o (78, [(0, .ref 53), (1, .int a1), (2, .int a2), (3, .int a3), (4, .int a4)], [.int a2, .ref 68], ww w, 0, 0)
    obtain ⟨hc, H⟩ := am_ckE H
    refine am_go_blk 4 ⟨am_inv hc, (?_ : am_gi (D + 1) 163 o (85, [(0, .ref 53), (1, .int a1), (2, .int a2), (3, .int a3), (4, .int a4)], [.int (w.1 69 a4.toNatClampNeg), .int a2, .ref 68], ww w, 0, 0))⟩
    exact am_go_blk 1 (T_Mod_says_93 Hr16 a1 a2 a3 (w.1 69 a4.toNatClampNeg) a2 w H)
theorem T_Mod_says_130 {D : Nat} {o : Int32 × am_W} {r16 : Int32 → Int32 → Int32 → am_W → Option (Int32 × am_W)} (Hr16 : ∀ (a1 : Int32) (a2 : Int32) (a3 : Int32) (w : am_W) , r16 a1 a2 a3 w = some o → am_gi (D + 1) 163 o (16, [(0, .ref 53), (1, .int a1), (2, .int a2), (3, .int a3)], [], ww w, 0, 0)) (a1 : Int32) (a2 : Int32) (a3 : Int32) (s0 : Int32) (s1 : Int32) (w : am_W) (H : F_Mod_says_130 r16 a1 a2 a3 s0 s1 w = some o) : am_gi (D + 1) 163 o (130, [(0, .ref 53), (1, .int a1), (2, .int a2), (3, .int a3)], [.int s0, .int s1, .ref 68], ww w, 0, 0) := by
  unfold F_Mod_says_130 at H
  obtain ⟨hc, H⟩ := am_ckE H
  obtain ⟨w5, ew5, H⟩ := am_ltE H
  refine am_go_blk 1 ⟨am_inv hc, am_hp (ww_s68 ew5) (?_ : am_gi (D + 1) 163 o (131, [(0, .ref 53), (1, .int a1), (2, .int a2), (3, .int a3)], [], ww w5, 0, 0))⟩
  exact am_go_blk 1 (T_Mod_says_191 Hr16 a1 a2 a3 w5 H)
theorem T_Mod_says_16 {D : Nat} {o : Int32 × am_W} {r16 : Int32 → Int32 → Int32 → am_W → Option (Int32 × am_W)} (Hr16 : ∀ (a1 : Int32) (a2 : Int32) (a3 : Int32) (w : am_W) , r16 a1 a2 a3 w = some o → am_gi (D + 1) 163 o (16, [(0, .ref 53), (1, .int a1), (2, .int a2), (3, .int a3)], [], ww w, 0, 0)) (a1 : Int32) (a2 : Int32) (a3 : Int32) (w : am_W) (H : F_Mod_says_16 r16 a1 a2 a3 w = some o) : am_gi (D + 1) 163 o (16, [(0, .ref 53), (1, .int a1), (2, .int a2), (3, .int a3)], [], ww w, 0, 0) := by
  unfold F_Mod_says_16 at H
  obtain ⟨hc, H⟩ := am_ckE H
  refine am_go_blk 12 ⟨am_inv hc, (?_ : am_gi (D + 1) 163 o (32, [(0, .ref 53), (1, .int a1), (2, .int a2), (3, .int a3)], [.int (w.1 60 ((((nI 4) * (w.1 53 13)) + a1) + (nI 1)).toNatClampNeg), .int a3], ww w, 0, 0))⟩
  refine am_go_blk 1 ⟨fun hc => ?_, fun hc => ?_⟩
  · have H := am_it hc H
    show am_gi (D + 1) 163 o (197, [(0, .ref 53)], [], ww w, 0, 0)
    obtain ⟨hc, H⟩ := am_ckE H
    refine am_go_blk 4 ⟨am_inv hc, (?_ : am_gi (D + 1) 163 o (203, [(0, .ref 53)], [.int (w.1 68 (nI 0).toNatClampNeg)], ww w, 0, 0))⟩
    exact am_go_blk 1 ⟨rfl, am_fi H⟩
  · have H := am_ie hc H
    show am_gi (D + 1) 163 o (35, [(0, .ref 53), (1, .int a1), (2, .int a2), (3, .int a3)], [], ww w, 0, 0)
    obtain ⟨hc, H⟩ := am_ckE H
    refine am_go_blk 9 ⟨am_inv hc, (?_ : am_gi (D + 1) 163 o (50, [(0, .ref 53), (1, .int a1), (2, .int a2), (3, .int a3)], [.int (w.1 59 (((nI 200) * (w.1 53 13)) + a3).toNatClampNeg)], ww w, 0, 0))⟩
    refine am_go_blk 4 ⟨fun hc => ?_, fun hc => ?_⟩
    · have H := am_it hc H
      exact T_Mod_says_66 Hr16 a1 a2 a3 (w.1 59 (((nI 200) * (w.1 53 13)) + a3).toNatClampNeg) w H
    · have H := am_ie hc H
      show am_gi (D + 1) 163 o (59, [(4, .int (w.1 59 (((nI 200) * (w.1 53 13)) + a3).toNatClampNeg)), (0, .ref 53), (1, .int a1), (2, .int a2), (3, .int a3)], [], ww w, 0, 0)
      refine am_go_blk 3 ⟨fun hc => ?_, fun hc => ?_⟩
      · have H := am_it hc H
        show am_gi (D + 1) 163 o (100, [(0, .ref 53), (1, .int a1), (2, .int a2), (3, .int a3), (4, .int (w.1 59 (((nI 200) * (w.1 53 13)) + a3).toNatClampNeg))], [], ww w, 0, 0)
        refine am_go_blk 3 ⟨fun hc => ?_, fun hc => ?_⟩
        · have H := am_ie hc H
          show am_gi (D + 1) 163 o (134, [(0, .ref 53), (1, .int a1), (2, .int a2), (3, .int a3), (4, .int (w.1 59 (((nI 200) * (w.1 53 13)) + a3).toNatClampNeg))], [], ww w, 0, 0)
          refine am_go_blk 3 ⟨fun hc => ?_, fun hc => ?_⟩
          · have H := am_ie hc H
            show am_gi (D + 1) 163 o (161, [(0, .ref 53), (1, .int a1), (2, .int a2), (3, .int a3), (4, .int (w.1 59 (((nI 200) * (w.1 53 13)) + a3).toNatClampNeg))], [], ww w, 0, 0)
            obtain ⟨hc, H⟩ := am_ckE H
            refine am_go_blk 13 ⟨am_inv hc, (?_ : am_gi (D + 1) 163 o (181, [(2, .int (a2 + (-nI 1))), (0, .ref 53), (1, .int a1), (3, .int a3), (4, .int (w.1 59 (((nI 200) * (w.1 53 13)) + a3).toNatClampNeg))], [.int (w.1 68 ((a2 + (-nI 1)) - (nI 1)).toNatClampNeg), .int (w.1 59 (((nI 200) * (w.1 53 13)) + a3).toNatClampNeg), .int ((a2 + (-nI 1)) - (nI 1)), .ref 68], ww w, 0, 0))⟩
            obtain ⟨hc, H⟩ := am_ckE H
            refine am_go_blk 4 ⟨am_inv hc, (?_ : am_gi (D + 1) 163 o (187, [(2, .int (a2 + (-nI 1))), (0, .ref 53), (1, .int a1), (3, .int a3), (4, .int (w.1 59 (((nI 200) * (w.1 53 13)) + a3).toNatClampNeg))], [.int (w.1 68 (a2 + (-nI 1)).toNatClampNeg), .int (w.1 68 ((a2 + (-nI 1)) - (nI 1)).toNatClampNeg), .int (w.1 59 (((nI 200) * (w.1 53 13)) + a3).toNatClampNeg), .int ((a2 + (-nI 1)) - (nI 1)), .ref 68], ww w, 0, 0))⟩
            obtain ⟨q2, hqq2, H⟩ := am_bnE H
            refine am_cls rfl rfl rfl (am_calli rfl (M_Mod_two (D := D) hqq2) (?_ : am_gi (D + 1) 163 o (190, [(2, .int (a2 + (-nI 1))), (0, .ref 53), (1, .int a1), (3, .int a3), (4, .int (w.1 59 (((nI 200) * (w.1 53 13)) + a3).toNatClampNeg))], [.int q2.1, .int ((a2 + (-nI 1)) - (nI 1)), .ref 68], ww q2.2, 0, 0)))
            obtain ⟨hc, H⟩ := am_ckE H
            obtain ⟨w3, ew3, H⟩ := am_ltE H
            refine am_go_blk 1 ⟨am_inv hc, am_hp (ww_s68 ew3) (?_ : am_gi (D + 1) 163 o (191, [(0, .ref 53), (1, .int a1), (2, .int (a2 + (-nI 1))), (3, .int a3)], [], ww w3, 0, 0))⟩
            exact T_Mod_says_191 Hr16 a1 (a2 + (-nI 1)) a3 w3 H
          · have H := am_it hc H
            show am_gi (D + 1) 163 o (141, [(0, .ref 53), (1, .int a1), (2, .int a2), (3, .int a3), (4, .int (w.1 59 (((nI 200) * (w.1 53 13)) + a3).toNatClampNeg))], [], ww w, 0, 0)
            obtain ⟨hc, H⟩ := am_ckE H
            refine am_go_blk 11 ⟨am_inv hc, (?_ : am_gi (D + 1) 163 o (156, [(0, .ref 53), (1, .int a1), (2, .int a2), (3, .int a3), (4, .int (w.1 59 (((nI 200) * (w.1 53 13)) + a3).toNatClampNeg))], [.int (w.1 68 (a2 - (nI 1)).toNatClampNeg), .int (a2 - (nI 1)), .ref 68], ww w, 0, 0))⟩
            obtain ⟨hc, H⟩ := am_ckE H
            obtain ⟨w4, ew4, H⟩ := am_ltE H
            refine am_go_blk 2 ⟨am_inv hc, am_hp (ww_s68 ew4) (?_ : am_gi (D + 1) 163 o (158, [(0, .ref 53), (1, .int a1), (2, .int a2), (3, .int a3), (4, .int (w.1 59 (((nI 200) * (w.1 53 13)) + a3).toNatClampNeg))], [], ww w4, 0, 0))⟩
            exact am_go_blk 1 (T_Mod_says_191 Hr16 a1 a2 a3 w4 H)
        · have H := am_it hc H
          show am_gi (D + 1) 163 o (107, [(0, .ref 53), (1, .int a1), (2, .int a2), (3, .int a3), (4, .int (w.1 59 (((nI 200) * (w.1 53 13)) + a3).toNatClampNeg))], [], ww w, 0, 0)
          obtain ⟨hc, H⟩ := am_ckE H
          refine am_go_blk 11 ⟨am_inv hc, (?_ : am_gi (D + 1) 163 o (122, [(0, .ref 53), (1, .int a1), (2, .int a2), (3, .int a3), (4, .int (w.1 59 (((nI 200) * (w.1 53 13)) + a3).toNatClampNeg))], [.int (w.1 68 (a2 - (nI 1)).toNatClampNeg), .int (a2 - (nI 1)), .ref 68], ww w, 0, 0))⟩
          refine am_go_blk 1 ⟨fun hc => ?_, fun hc => ?_⟩
          · have H := am_ie hc H
            show am_gi (D + 1) 163 o (129, [(0, .ref 53), (1, .int a1), (2, .int a2), (3, .int a3)], [.int (a2 - (nI 1)), .ref 68], ww w, 0, 0)
            exact am_go_blk 1 (T_Mod_says_130 Hr16 a1 a2 a3 (nI 0) (a2 - (nI 1)) w H)
          · have H := am_it hc H
            show am_gi (D + 1) 163 o (125, [(0, .ref 53), (1, .int a1), (2, .int a2), (3, .int a3), (4, .int (w.1 59 (((nI 200) * (w.1 53 13)) + a3).toNatClampNeg))], [.int (a2 - (nI 1)), .ref 68], ww w, 0, 0)
            exact am_go_blk 2 (T_Mod_says_130 Hr16 a1 a2 a3 (nI 1) (a2 - (nI 1)) w H)
      · have H := am_ie hc H
        exact T_Mod_says_66 Hr16 a1 a2 a3 (w.1 59 (((nI 200) * (w.1 53 13)) + a3).toNatClampNeg) w H
theorem TL_Mod_says_16 {D : Nat} {o : Int32 × am_W} : ∀ (n : Nat) (a1 : Int32) (a2 : Int32) (a3 : Int32) (w : am_W) , L_Mod_says_16 n a1 a2 a3 w = some o → am_gi (D + 1) 163 o (16, [(0, .ref 53), (1, .int a1), (2, .int a2), (3, .int a3)], [], ww w, 0, 0)
  | 0, _, _, _, _, H => by cases H
  | n + 1, a1, a2, a3, w, H => T_Mod_says_16 (TL_Mod_says_16 n) a1 a2 a3 w H
theorem T_Mod_says {D : Nat} {o : Int32 × am_W} (a1 : Int32) (w : am_W) (H : F_Mod_says a1 w = some o) : am_gi (D + 1) 163 o (0, [(0, .ref 53), (1, .int a1)], [], ww w, 0, 0) := by
  unfold F_Mod_says at H
  obtain ⟨hc, H⟩ := am_ckE H
  refine am_go_blk 11 ⟨am_inv hc, (?_ : am_gi (D + 1) 163 o (15, [(2, .int (nI 0)), (0, .ref 53), (1, .int a1)], [.int (w.1 60 (((nI 4) * (w.1 53 13)) + a1).toNatClampNeg)], ww w, 0, 0))⟩
  exact am_go_blk 1 (TL_Mod_says_16 am_NF a1 (nI 0) (w.1 60 (((nI 4) * (w.1 53 13)) + a1).toNatClampNeg) w H)
theorem M_Mod_says {D : Nat} {o : Int32 × am_W} {a1 : Int32} {w : am_W} (H : F_Mod_says a1 w = some o) : am_run (D + 2) 163 [.ref 53, .int a1] (ww w) (some (.int o.1)) (ww o.2) 0 0 :=
  am_run_of rfl (T_Mod_says a1 w H)
def F_Mod_within_19 (s0 : Int32) (w : am_W) : Option (Int32 × am_W) :=
  some (s0, w)
def F_Mod_within (a0 : Int32) (a1 : Int32) (a2 : Int32) (w : am_W) : Option (Int32 × am_W) :=
  if a1 ≤ a0 then (if a0 ≤ a2 then (F_Mod_within_19 a0 w) else (F_Mod_within_19 a2 w)) else (F_Mod_within_19 a1 w)
theorem T_Mod_within_19 {D : Nat} {o : Int32 × am_W} (s0 : Int32) (w : am_W) (H : F_Mod_within_19 s0 w = some o) : am_gi D 138 o (19, [], [.int s0], ww w, 0, 0) := by
  unfold F_Mod_within_19 at H
  exact am_go_blk 1 ⟨rfl, am_fi H⟩
theorem T_Mod_within {D : Nat} {o : Int32 × am_W} (a0 : Int32) (a1 : Int32) (a2 : Int32) (w : am_W) (H : F_Mod_within a0 a1 a2 w = some o) : am_gi D 138 o (0, [(0, .int a0), (1, .int a1), (2, .int a2)], [], ww w, 0, 0) := by
  unfold F_Mod_within at H
  refine am_go_blk 3 ⟨fun hc => ?_, fun hc => ?_⟩
  · have H := am_it hc H
    show am_gi D 138 o (9, [(0, .int a0), (2, .int a2)], [], ww w, 0, 0)
    refine am_go_blk 3 ⟨fun hc => ?_, fun hc => ?_⟩
    · have H := am_it hc H
      show am_gi D 138 o (18, [(0, .int a0)], [], ww w, 0, 0)
      exact am_go_blk 1 (T_Mod_within_19 a0 w H)
    · have H := am_ie hc H
      show am_gi D 138 o (14, [(0, .int a0), (2, .int a2)], [], ww w, 0, 0)
      exact am_go_blk 2 (T_Mod_within_19 a2 w H)
  · have H := am_ie hc H
    show am_gi D 138 o (5, [(0, .int a0), (1, .int a1), (2, .int a2)], [], ww w, 0, 0)
    exact am_go_blk 2 (T_Mod_within_19 a1 w H)
theorem M_Mod_within {D : Nat} {o : Int32 × am_W} {a0 : Int32} {a1 : Int32} {a2 : Int32} {w : am_W} (H : F_Mod_within a0 a1 a2 w = some o) : am_run (D + 1) 138 [.int a0, .int a1, .int a2] (ww w) (some (.int o.1)) (ww o.2) 0 0 :=
  am_run_of rfl (T_Mod_within a0 a1 a2 w H)
def F_Mod_asksOf_69 (a1 : Int32) (a2 : Int32) (s0 : Int32) (s1 : Int32) (w : am_W) : Option (Int32 × am_W) :=
  am_ck (am_in s1 6) (am_lt (wst w 69 s1 s0) fun w8 => am_ck (am_in a2 8) (am_ck (am_in (nI 5) 6) (am_lt (wst w8 69 (nI 5) (w8.1 54 a2.toNatClampNeg)) fun w9 => (F_Mod_says a1 w9).bind fun q10 => (F_Mod_within q10.1 (nI 0) (nI 99) q10.2).bind fun q11 => some (q11.1, q11.2))))
def F_Mod_asksOf_31 (a1 : Int32) (a2 : Int32) (a3 : Int32) (a4 : Int32) (s0 : Int32) (s1 : Int32) (w : am_W) : Option (Int32 × am_W) :=
  am_ck (am_in s1 6) (am_lt (wst w 69 s1 s0) fun w3 => am_ck (am_in (nI 2) 6) (am_lt (wst w3 69 (nI 2) a4) fun w4 => am_ck (am_in (nI 3) 6) (am_lt (wst w4 69 (nI 3) a2) fun w5 => if a3 = (-nI 1) then (F_Mod_asksOf_69 a1 a2 (nI 0) (nI 4) w5) else ((F_Mod_through a3 w5).bind fun q6 => (F_Mod_ones q6.1 q6.2).bind fun q7 => F_Mod_asksOf_69 a1 a2 q7.1 (nI 4) q7.2))))
def F_Mod_asksOf (a1 : Int32) (a2 : Int32) (a3 : Int32) (a4 : Int32) (w : am_W) : Option (Int32 × am_W) :=
  am_ck (am_in a2 8) (am_ck (am_in (nI 0) 6) (am_lt (wst w 69 (nI 0) (w.1 55 a2.toNatClampNeg)) fun w1 => if a3 = (-nI 1) then (F_Mod_asksOf_31 a1 a2 a3 a4 (nI 0) (nI 1) w1) else ((F_Mod_sortOf a3 w1).bind fun q2 => F_Mod_asksOf_31 a1 a2 a3 a4 q2.1 (nI 1) q2.2)))
theorem T_Mod_asksOf_69 {D : Nat} {o : Int32 × am_W} (a1 : Int32) (a2 : Int32) (s0 : Int32) (s1 : Int32) (w : am_W) (H : F_Mod_asksOf_69 a1 a2 s0 s1 w = some o) : am_gi (D + 2) 165 o (69, [(0, .ref 53), (1, .int a1), (2, .int a2)], [.int s0, .int s1, .ref 69], ww w, 0, 0) := by
  unfold F_Mod_asksOf_69 at H
  obtain ⟨hc, H⟩ := am_ckE H
  obtain ⟨w8, ew8, H⟩ := am_ltE H
  refine am_go_blk 1 ⟨am_inv hc, am_hp (ww_s69 ew8) (?_ : am_gi (D + 2) 165 o (70, [(0, .ref 53), (1, .int a1), (2, .int a2)], [], ww w8, 0, 0))⟩
  obtain ⟨hc, H⟩ := am_ckE H
  refine am_go_blk 7 ⟨am_inv hc, (?_ : am_gi (D + 2) 165 o (81, [(0, .ref 53), (1, .int a1), (2, .int a2)], [.int (w8.1 54 a2.toNatClampNeg), .int (nI 5), .ref 69], ww w8, 0, 0))⟩
  obtain ⟨hc, H⟩ := am_ckE H
  obtain ⟨w9, ew9, H⟩ := am_ltE H
  refine am_go_blk 1 ⟨am_inv hc, am_hp (ww_s69 ew9) (?_ : am_gi (D + 2) 165 o (82, [(0, .ref 53), (1, .int a1), (2, .int a2)], [], ww w9, 0, 0))⟩
  obtain ⟨q10, hqq10, H⟩ := am_bnE H
  refine am_go_blk 2 (?_ : am_gi (D + 2) 165 o (84, [(0, .ref 53), (1, .int a1), (2, .int a2)], [.int a1, .ref 53], ww w9, 0, 0))
  refine am_invd rfl rfl rfl rfl (am_calli rfl (M_Mod_says (D := D) hqq10) (?_ : am_gi (D + 2) 165 o (87, [(0, .ref 53), (1, .int a1), (2, .int a2)], [.int q10.1], ww q10.2, 0, 0)))
  obtain ⟨q11, hqq11, H⟩ := am_bnE H
  refine am_go_blk 2 (?_ : am_gi (D + 2) 165 o (90, [(0, .ref 53), (1, .int a1), (2, .int a2)], [.int (nI 99), .int (nI 0), .int q10.1], ww q10.2, 0, 0))
  refine am_cls rfl rfl rfl (am_calli rfl (M_Mod_within (D := D + 1) hqq11) (?_ : am_gi (D + 2) 165 o (93, [(0, .ref 53), (1, .int a1), (2, .int a2)], [.int q11.1], ww q11.2, 0, 0)))
  exact am_go_blk 1 ⟨rfl, am_fi H⟩
theorem T_Mod_asksOf_31 {D : Nat} {o : Int32 × am_W} (a1 : Int32) (a2 : Int32) (a3 : Int32) (a4 : Int32) (s0 : Int32) (s1 : Int32) (w : am_W) (H : F_Mod_asksOf_31 a1 a2 a3 a4 s0 s1 w = some o) : am_gi (D + 2) 165 o (31, [(0, .ref 53), (1, .int a1), (2, .int a2), (3, .int a3), (4, .int a4)], [.int s0, .int s1, .ref 69], ww w, 0, 0) := by
  unfold F_Mod_asksOf_31 at H
  obtain ⟨hc, H⟩ := am_ckE H
  obtain ⟨w3, ew3, H⟩ := am_ltE H
  refine am_go_blk 1 ⟨am_inv hc, am_hp (ww_s69 ew3) (?_ : am_gi (D + 2) 165 o (32, [(0, .ref 53), (1, .int a1), (2, .int a2), (3, .int a3), (4, .int a4)], [], ww w3, 0, 0))⟩
  obtain ⟨hc, H⟩ := am_ckE H
  obtain ⟨w4, ew4, H⟩ := am_ltE H
  refine am_go_blk 5 ⟨am_inv hc, am_hp (ww_s69 ew4) (?_ : am_gi (D + 2) 165 o (40, [(0, .ref 53), (1, .int a1), (2, .int a2), (3, .int a3), (4, .int a4)], [], ww w4, 0, 0))⟩
  obtain ⟨hc, H⟩ := am_ckE H
  obtain ⟨w5, ew5, H⟩ := am_ltE H
  refine am_go_blk 5 ⟨am_inv hc, am_hp (ww_s69 ew5) (?_ : am_gi (D + 2) 165 o (47, [(0, .ref 53), (1, .int a1), (2, .int a2), (3, .int a3), (4, .int a4)], [], ww w5, 0, 0))⟩
  refine am_go_blk 6 ⟨fun hc => ?_, fun hc => ?_⟩
  · have H := am_ie hc H
    show am_gi (D + 2) 165 o (61, [(0, .ref 53), (1, .int a1), (2, .int a2), (3, .int a3)], [.int (nI 4), .ref 69], ww w5, 0, 0)
    obtain ⟨q6, hqq6, H⟩ := am_bnE H
    refine am_go_blk 2 (?_ : am_gi (D + 2) 165 o (63, [(0, .ref 53), (1, .int a1), (2, .int a2), (3, .int a3)], [.int a3, .ref 53, .int (nI 4), .ref 69], ww w5, 0, 0))
    refine am_invd rfl rfl rfl rfl (am_calli rfl (M_Mod_through (D := D + 1) hqq6) (?_ : am_gi (D + 2) 165 o (66, [(0, .ref 53), (1, .int a1), (2, .int a2), (3, .int a3)], [.int q6.1, .int (nI 4), .ref 69], ww q6.2, 0, 0)))
    obtain ⟨q7, hqq7, H⟩ := am_bnE H
    refine am_cls rfl rfl rfl (am_calli rfl (M_Mod_ones (D := D + 1) hqq7) (?_ : am_gi (D + 2) 165 o (69, [(0, .ref 53), (1, .int a1), (2, .int a2)], [.int q7.1, .int (nI 4), .ref 69], ww q7.2, 0, 0)))
    exact T_Mod_asksOf_69 a1 a2 q7.1 (nI 4) q7.2 H
  · have H := am_it hc H
    show am_gi (D + 2) 165 o (57, [(0, .ref 53), (1, .int a1), (2, .int a2), (3, .int a3), (4, .int a4)], [.int (nI 4), .ref 69], ww w5, 0, 0)
    exact am_go_blk 2 (T_Mod_asksOf_69 a1 a2 (nI 0) (nI 4) w5 H)
theorem T_Mod_asksOf {D : Nat} {o : Int32 × am_W} (a1 : Int32) (a2 : Int32) (a3 : Int32) (a4 : Int32) (w : am_W) (H : F_Mod_asksOf a1 a2 a3 a4 w = some o) : am_gi (D + 2) 165 o (0, [(0, .ref 53), (1, .int a1), (2, .int a2), (3, .int a3), (4, .int a4)], [], ww w, 0, 0) := by
  unfold F_Mod_asksOf at H
  obtain ⟨hc, H⟩ := am_ckE H
  refine am_go_blk 7 ⟨am_inv hc, (?_ : am_gi (D + 2) 165 o (11, [(0, .ref 53), (1, .int a1), (2, .int a2), (3, .int a3), (4, .int a4)], [.int (w.1 55 a2.toNatClampNeg), .int (nI 0), .ref 69], ww w, 0, 0))⟩
  obtain ⟨hc, H⟩ := am_ckE H
  obtain ⟨w1, ew1, H⟩ := am_ltE H
  refine am_go_blk 1 ⟨am_inv hc, am_hp (ww_s69 ew1) (?_ : am_gi (D + 2) 165 o (12, [(0, .ref 53), (1, .int a1), (2, .int a2), (3, .int a3), (4, .int a4)], [], ww w1, 0, 0))⟩
  refine am_go_blk 6 ⟨fun hc => ?_, fun hc => ?_⟩
  · have H := am_ie hc H
    show am_gi (D + 2) 165 o (26, [(0, .ref 53), (1, .int a1), (2, .int a2), (3, .int a3), (4, .int a4)], [.int (nI 1), .ref 69], ww w1, 0, 0)
    obtain ⟨q2, hqq2, H⟩ := am_bnE H
    refine am_go_blk 2 (?_ : am_gi (D + 2) 165 o (28, [(0, .ref 53), (1, .int a1), (2, .int a2), (3, .int a3), (4, .int a4)], [.int a3, .ref 53, .int (nI 1), .ref 69], ww w1, 0, 0))
    refine am_invd rfl rfl rfl rfl (am_calli rfl (M_Mod_sortOf (D := D + 1) hqq2) (?_ : am_gi (D + 2) 165 o (31, [(0, .ref 53), (1, .int a1), (2, .int a2), (3, .int a3), (4, .int a4)], [.int q2.1, .int (nI 1), .ref 69], ww q2.2, 0, 0)))
    exact T_Mod_asksOf_31 a1 a2 a3 a4 q2.1 (nI 1) q2.2 H
  · have H := am_it hc H
    show am_gi (D + 2) 165 o (22, [(0, .ref 53), (1, .int a1), (2, .int a2), (3, .int a3), (4, .int a4)], [.int (nI 1), .ref 69], ww w1, 0, 0)
    exact am_go_blk 2 (T_Mod_asksOf_31 a1 a2 a3 a4 (nI 0) (nI 1) w1 H)
theorem M_Mod_asksOf {D : Nat} {o : Int32 × am_W} {a1 : Int32} {a2 : Int32} {a3 : Int32} {a4 : Int32} {w : am_W} (H : F_Mod_asksOf a1 a2 a3 a4 w = some o) : am_run (D + 3) 165 [.ref 53, .int a1, .int a2, .int a3, .int a4] (ww w) (some (.int o.1)) (ww o.2) 0 0 :=
  am_run_of rfl (T_Mod_asksOf a1 a2 a3 a4 w H)
def F_Mod_isLock (a1 : Int32) (w : am_W) : Option (Int32 × am_W) :=
  (F_Mod_in a1 (nI 0) ((w.1 53 5) - (nI 1)) w).bind fun q1 => am_ck (am_bo q1.1) (some (q1.1, q1.2))
theorem T_Mod_isLock {D : Nat} {o : Int32 × am_W} (a1 : Int32) (w : am_W) (H : F_Mod_isLock a1 w = some o) : am_gi (D + 1) 141 o (0, [(0, .ref 53), (1, .int a1)], [], ww w, 0, 0) := by
  unfold F_Mod_isLock at H
  obtain ⟨q1, hqq1, H⟩ := am_bnE H
  refine am_go_blk 6 (?_ : am_gi (D + 1) 141 o (8, [(0, .ref 53), (1, .int a1)], [.int ((w.1 53 5) - (nI 1)), .int (nI 0), .int a1], ww w, 0, 0))
  refine am_cls rfl rfl rfl (am_calli rfl (M_Mod_in (D := D) hqq1) (?_ : am_gi (D + 1) 141 o (11, [(0, .ref 53), (1, .int a1)], [.int q1.1], ww q1.2, 0, 0)))
  obtain ⟨hc, H⟩ := am_ckE H
  exact am_go_blk 1 ⟨am_boE hc, am_fi H⟩
theorem M_Mod_isLock {D : Nat} {o : Int32 × am_W} {a1 : Int32} {w : am_W} (H : F_Mod_isLock a1 w = some o) : am_run (D + 2) 141 [.ref 53, .int a1] (ww w) (some (.int o.1)) (ww o.2) 0 0 :=
  am_run_of rfl (T_Mod_isLock a1 w H)
def F_Mod_asks_52 (s0 : Int32) (w : am_W) : Option (Int32 × am_W) :=
  some (s0, w)
def F_Mod_asks_50 (w : am_W) : Option (Int32 × am_W) :=
  F_Mod_asks_52 (-nI 2) w
def F_Mod_asks_30 (a1 : Int32) (a2 : Int32) (a3 : Int32) (a4 : Int32) (w : am_W) : Option (Int32 × am_W) :=
  (F_Mod_isHour a4 w).bind fun q3 => if q3.1 = 0 then (F_Mod_asks_50 q3.2) else ((F_Mod_asksOf a1 a2 a3 a4 q3.2).bind fun q4 => F_Mod_asks_52 q4.1 q4.2)
def F_Mod_asks (a1 : Int32) (a2 : Int32) (a3 : Int32) (a4 : Int32) (w : am_W) : Option (Int32 × am_W) :=
  (F_Mod_in a1 (nI 0) (nI 2) w).bind fun q1 => if q1.1 = 0 then (F_Mod_asks_50 q1.2) else ((F_Mod_isThing a2 q1.2).bind fun q2 => if q2.1 = 0 then (F_Mod_asks_50 q2.2) else (if a3 = (-nI 1) then (F_Mod_asks_30 a1 a2 a3 a4 q2.2) else ((F_Mod_isLock a3 q2.2).bind fun q5 => if q5.1 = 0 then (F_Mod_asks_50 q5.2) else (F_Mod_asks_30 a1 a2 a3 a4 q5.2))))
theorem T_Mod_asks_52 {D : Nat} {o : Int32 × am_W} (s0 : Int32) (w : am_W) (H : F_Mod_asks_52 s0 w = some o) : am_gi (D + 3) 166 o (52, [], [.int s0], ww w, 0, 0) := by
  unfold F_Mod_asks_52 at H
  exact am_go_blk 1 ⟨rfl, am_fi H⟩
theorem T_Mod_asks_50 {D : Nat} {o : Int32 × am_W} (w : am_W) (H : F_Mod_asks_50 w = some o) : am_gi (D + 3) 166 o (50, [], [], ww w, 0, 0) := by
  unfold F_Mod_asks_50 at H
  exact am_go_blk 1 (T_Mod_asks_52 (-nI 2) w H)
theorem T_Mod_asks_30 {D : Nat} {o : Int32 × am_W} (a1 : Int32) (a2 : Int32) (a3 : Int32) (a4 : Int32) (w : am_W) (H : F_Mod_asks_30 a1 a2 a3 a4 w = some o) : am_gi (D + 3) 166 o (30, [(0, .ref 53), (1, .int a1), (2, .int a2), (3, .int a3), (4, .int a4)], [], ww w, 0, 0) := by
  unfold F_Mod_asks_30 at H
  obtain ⟨q3, hqq3, H⟩ := am_bnE H
  refine am_go_blk 1 (?_ : am_gi (D + 3) 166 o (32, [(0, .ref 53), (1, .int a1), (2, .int a2), (3, .int a3), (4, .int a4)], [.int a4], ww w, 0, 0))
  refine am_cls rfl rfl rfl (am_calli rfl (M_Mod_isHour (D := D + 1) hqq3) (?_ : am_gi (D + 3) 166 o (35, [(0, .ref 53), (1, .int a1), (2, .int a2), (3, .int a3), (4, .int a4)], [.int q3.1], ww q3.2, 0, 0)))
  refine am_go_blk 1 ⟨fun hc => ?_, fun hc => ?_⟩
  · have H := am_it hc H
    exact T_Mod_asks_50 q3.2 H
  · have H := am_ie hc H
    show am_gi (D + 3) 166 o (38, [(0, .ref 53), (1, .int a1), (2, .int a2), (3, .int a3), (4, .int a4)], [], ww q3.2, 0, 0)
    obtain ⟨q4, hqq4, H⟩ := am_bnE H
    refine am_go_blk 5 (?_ : am_gi (D + 3) 166 o (44, [(0, .ref 53), (1, .int a1), (2, .int a2), (3, .int a3), (4, .int a4)], [.int a4, .int a3, .int a2, .int a1, .ref 53], ww q3.2, 0, 0))
    refine am_invd rfl rfl rfl rfl (am_calli rfl (M_Mod_asksOf (D := D) hqq4) (?_ : am_gi (D + 3) 166 o (47, [(0, .ref 53), (1, .int a1), (2, .int a2), (3, .int a3), (4, .int a4)], [.int q4.1], ww q4.2, 0, 0)))
    exact am_go_blk 1 (T_Mod_asks_52 q4.1 q4.2 H)
theorem T_Mod_asks {D : Nat} {o : Int32 × am_W} (a1 : Int32) (a2 : Int32) (a3 : Int32) (a4 : Int32) (w : am_W) (H : F_Mod_asks a1 a2 a3 a4 w = some o) : am_gi (D + 3) 166 o (0, [(0, .ref 53), (1, .int a1), (2, .int a2), (3, .int a3), (4, .int a4)], [], ww w, 0, 0) := by
  unfold F_Mod_asks at H
  obtain ⟨q1, hqq1, H⟩ := am_bnE H
  refine am_go_blk 3 (?_ : am_gi (D + 3) 166 o (3, [(0, .ref 53), (1, .int a1), (2, .int a2), (3, .int a3), (4, .int a4)], [.int (nI 2), .int (nI 0), .int a1], ww w, 0, 0))
  refine am_cls rfl rfl rfl (am_calli rfl (M_Mod_in (D := D + 2) hqq1) (?_ : am_gi (D + 3) 166 o (6, [(0, .ref 53), (1, .int a1), (2, .int a2), (3, .int a3), (4, .int a4)], [.int q1.1], ww q1.2, 0, 0)))
  refine am_go_blk 1 ⟨fun hc => ?_, fun hc => ?_⟩
  · have H := am_it hc H
    exact T_Mod_asks_50 q1.2 H
  · have H := am_ie hc H
    show am_gi (D + 3) 166 o (9, [(0, .ref 53), (1, .int a1), (2, .int a2), (3, .int a3), (4, .int a4)], [], ww q1.2, 0, 0)
    obtain ⟨q2, hqq2, H⟩ := am_bnE H
    refine am_go_blk 2 (?_ : am_gi (D + 3) 166 o (11, [(0, .ref 53), (1, .int a1), (2, .int a2), (3, .int a3), (4, .int a4)], [.int a2, .ref 53], ww q1.2, 0, 0))
    refine am_invd rfl rfl rfl rfl (am_calli rfl (M_Mod_isThing (D := D + 1) hqq2) (?_ : am_gi (D + 3) 166 o (14, [(0, .ref 53), (1, .int a1), (2, .int a2), (3, .int a3), (4, .int a4)], [.int q2.1], ww q2.2, 0, 0)))
    refine am_go_blk 1 ⟨fun hc => ?_, fun hc => ?_⟩
    · have H := am_it hc H
      exact T_Mod_asks_50 q2.2 H
    · have H := am_ie hc H
      show am_gi (D + 3) 166 o (17, [(0, .ref 53), (1, .int a1), (2, .int a2), (3, .int a3), (4, .int a4)], [], ww q2.2, 0, 0)
      refine am_go_blk 3 ⟨fun hc => ?_, fun hc => ?_⟩
      · have H := am_it hc H
        exact T_Mod_asks_30 a1 a2 a3 a4 q2.2 H
      · have H := am_ie hc H
        show am_gi (D + 3) 166 o (22, [(0, .ref 53), (1, .int a1), (2, .int a2), (3, .int a3), (4, .int a4)], [], ww q2.2, 0, 0)
        obtain ⟨q5, hqq5, H⟩ := am_bnE H
        refine am_go_blk 2 (?_ : am_gi (D + 3) 166 o (24, [(0, .ref 53), (1, .int a1), (2, .int a2), (3, .int a3), (4, .int a4)], [.int a3, .ref 53], ww q2.2, 0, 0))
        refine am_invd rfl rfl rfl rfl (am_calli rfl (M_Mod_isLock (D := D + 1) hqq5) (?_ : am_gi (D + 3) 166 o (27, [(0, .ref 53), (1, .int a1), (2, .int a2), (3, .int a3), (4, .int a4)], [.int q5.1], ww q5.2, 0, 0)))
        refine am_go_blk 1 ⟨fun hc => ?_, fun hc => ?_⟩
        · have H := am_it hc H
          exact T_Mod_asks_50 q5.2 H
        · have H := am_ie hc H
          exact T_Mod_asks_30 a1 a2 a3 a4 q5.2 H
theorem M_Mod_asks {D : Nat} {o : Int32 × am_W} {a1 : Int32} {a2 : Int32} {a3 : Int32} {a4 : Int32} {w : am_W} (H : F_Mod_asks a1 a2 a3 a4 w = some o) : am_run (D + 4) 166 [.ref 53, .int a1, .int a2, .int a3, .int a4] (ww w) (some (.int o.1)) (ww o.2) 0 0 :=
  am_run_of rfl (T_Mod_asks a1 a2 a3 a4 w H)
def F_Mod_thing_26 (w : am_W) : Option (Int32 × am_W) :=
  some ((-nI 2), w)
def F_Mod_thing (a1 : Int32) (a2 : Int32) (a3 : Int32) (w : am_W) : Option (Int32 × am_W) :=
  (F_Mod_in a1 (nI 0) (nI 5) w).bind fun q1 => if q1.1 = 0 then (F_Mod_thing_26 q1.2) else ((F_Mod_in a2 (nI 0) (nI 9) q1.2).bind fun q2 => if q2.1 = 0 then (F_Mod_thing_26 q2.2) else ((F_Mod_isHour a3 q2.2).bind fun q3 => if q3.1 = 0 then (F_Mod_thing_26 q3.2) else (if (q3.2.1 53 0) = (nI 8) then (some ((-nI 4), q3.2)) else (am_ck (am_in (q3.2.1 53 0) 8) (am_lt (wst q3.2 54 (q3.2.1 53 0) a1) fun w4 => am_ck (am_in (w4.1 53 0) 8) (am_lt (wst w4 55 (w4.1 53 0) a2) fun w5 => am_ck (am_in (w5.1 53 0) 8) (am_lt (wst w5 56 (w5.1 53 0) a3) fun w6 => am_lt (wsf w6 53 4 ((w6.1 53 4) &&& (((nI 1) <<< ((w6.1 53 0) &&& 31)) ^^^ (-nI 1)))) fun w7 => am_lt (wsf w7 53 0 ((w7.1 53 0) + (nI 1))) fun w8 => some (((w8.1 53 0) - (nI 1)), w8))))))))
theorem T_Mod_thing_26 {D : Nat} {o : Int32 × am_W} (w : am_W) (H : F_Mod_thing_26 w = some o) : am_gi (D + 2) 167 o (26, [], [], ww w, 0, 0) := by
  unfold F_Mod_thing_26 at H
  exact am_go_blk 2 ⟨rfl, am_fi H⟩
theorem T_Mod_thing {D : Nat} {o : Int32 × am_W} (a1 : Int32) (a2 : Int32) (a3 : Int32) (w : am_W) (H : F_Mod_thing a1 a2 a3 w = some o) : am_gi (D + 2) 167 o (0, [(0, .ref 53), (1, .int a1), (2, .int a2), (3, .int a3)], [], ww w, 0, 0) := by
  unfold F_Mod_thing at H
  obtain ⟨q1, hqq1, H⟩ := am_bnE H
  refine am_go_blk 3 (?_ : am_gi (D + 2) 167 o (3, [(0, .ref 53), (1, .int a1), (2, .int a2), (3, .int a3)], [.int (nI 5), .int (nI 0), .int a1], ww w, 0, 0))
  refine am_cls rfl rfl rfl (am_calli rfl (M_Mod_in (D := D + 1) hqq1) (?_ : am_gi (D + 2) 167 o (6, [(0, .ref 53), (1, .int a1), (2, .int a2), (3, .int a3)], [.int q1.1], ww q1.2, 0, 0)))
  refine am_go_blk 1 ⟨fun hc => ?_, fun hc => ?_⟩
  · have H := am_it hc H
    exact T_Mod_thing_26 q1.2 H
  · have H := am_ie hc H
    show am_gi (D + 2) 167 o (9, [(0, .ref 53), (1, .int a1), (2, .int a2), (3, .int a3)], [], ww q1.2, 0, 0)
    obtain ⟨q2, hqq2, H⟩ := am_bnE H
    refine am_go_blk 3 (?_ : am_gi (D + 2) 167 o (13, [(0, .ref 53), (1, .int a1), (2, .int a2), (3, .int a3)], [.int (nI 9), .int (nI 0), .int a2], ww q1.2, 0, 0))
    refine am_cls rfl rfl rfl (am_calli rfl (M_Mod_in (D := D + 1) hqq2) (?_ : am_gi (D + 2) 167 o (16, [(0, .ref 53), (1, .int a1), (2, .int a2), (3, .int a3)], [.int q2.1], ww q2.2, 0, 0)))
    refine am_go_blk 1 ⟨fun hc => ?_, fun hc => ?_⟩
    · have H := am_it hc H
      exact T_Mod_thing_26 q2.2 H
    · have H := am_ie hc H
      show am_gi (D + 2) 167 o (19, [(0, .ref 53), (1, .int a1), (2, .int a2), (3, .int a3)], [], ww q2.2, 0, 0)
      obtain ⟨q3, hqq3, H⟩ := am_bnE H
      refine am_go_blk 1 (?_ : am_gi (D + 2) 167 o (20, [(0, .ref 53), (1, .int a1), (2, .int a2), (3, .int a3)], [.int a3], ww q2.2, 0, 0))
      refine am_cls rfl rfl rfl (am_calli rfl (M_Mod_isHour (D := D) hqq3) (?_ : am_gi (D + 2) 167 o (23, [(0, .ref 53), (1, .int a1), (2, .int a2), (3, .int a3)], [.int q3.1], ww q3.2, 0, 0)))
      refine am_go_blk 1 ⟨fun hc => ?_, fun hc => ?_⟩
      · have H := am_ie hc H
        show am_gi (D + 2) 167 o (29, [(0, .ref 53), (1, .int a1), (2, .int a2), (3, .int a3)], [], ww q3.2, 0, 0)
        refine am_go_blk 4 ⟨fun hc => ?_, fun hc => ?_⟩
        · have H := am_ie hc H
          show am_gi (D + 2) 167 o (41, [(0, .ref 53), (1, .int a1), (2, .int a2), (3, .int a3)], [], ww q3.2, 0, 0)
          obtain ⟨hc, H⟩ := am_ckE H
          obtain ⟨w4, ew4, H⟩ := am_ltE H
          refine am_go_blk 6 ⟨am_inv hc, am_hp (ww_s54 ew4) (?_ : am_gi (D + 2) 167 o (51, [(0, .ref 53), (1, .int a1), (2, .int a2), (3, .int a3)], [], ww w4, 0, 0))⟩
          obtain ⟨hc, H⟩ := am_ckE H
          obtain ⟨w5, ew5, H⟩ := am_ltE H
          refine am_go_blk 6 ⟨am_inv hc, am_hp (ww_s55 ew5) (?_ : am_gi (D + 2) 167 o (61, [(0, .ref 53), (1, .int a1), (2, .int a2), (3, .int a3)], [], ww w5, 0, 0))⟩
          obtain ⟨hc, H⟩ := am_ckE H
          obtain ⟨w6, ew6, H⟩ := am_ltE H
          refine am_go_blk 6 ⟨am_inv hc, am_hp (ww_s56 ew6) (?_ : am_gi (D + 2) 167 o (71, [(0, .ref 53), (1, .int a1), (2, .int a2), (3, .int a3)], [], ww w6, 0, 0))⟩
          obtain ⟨w7, ew7, H⟩ := am_ltE H
          refine am_go_blk 11 ⟨rfl, rfl, am_hp (ww_f53_4 ew7) (?_ : am_gi (D + 2) 167 o (88, [(0, .ref 53), (1, .int a1), (2, .int a2), (3, .int a3)], [], ww w7, 0, 0))⟩
          obtain ⟨w8, ew8, H⟩ := am_ltE H
          refine am_go_blk 6 ⟨rfl, rfl, am_hp (ww_f53_0 ew8) (?_ : am_gi (D + 2) 167 o (98, [(0, .ref 53), (1, .int a1), (2, .int a2), (3, .int a3)], [], ww w8, 0, 0))⟩
          exact am_go_blk 5 ⟨rfl, am_fi H⟩
        · have H := am_it hc H
          show am_gi (D + 2) 167 o (38, [(0, .ref 53), (1, .int a1), (2, .int a2), (3, .int a3)], [], ww q3.2, 0, 0)
          exact am_go_blk 2 ⟨rfl, am_fi H⟩
      · have H := am_it hc H
        exact T_Mod_thing_26 q3.2 H
theorem M_Mod_thing {D : Nat} {o : Int32 × am_W} {a1 : Int32} {a2 : Int32} {a3 : Int32} {w : am_W} (H : F_Mod_thing a1 a2 a3 w = some o) : am_run (D + 3) 167 [.ref 53, .int a1, .int a2, .int a3] (ww w) (some (.int o.1)) (ww o.2) 0 0 :=
  am_run_of rfl (T_Mod_thing a1 a2 a3 w H)
def F_Mod_come (a1 : Int32) (a2 : Int32) (w : am_W) : Option (Int32 × am_W) :=
  (F_Mod_isThing a1 w).bind fun q1 => if q1.1 = 0 then (some ((-nI 5), q1.2)) else ((F_Mod_isHour a2 q1.2).bind fun q2 => if q2.1 = 0 then (some ((-nI 7), q2.2)) else (am_ck (am_in a1 8) (am_ck (am_in a1 8) (am_lt (wst q2.2 56 a1 a2) fun w3 => some ((q2.2.1 56 a1.toNatClampNeg), w3)))))
theorem T_Mod_come {D : Nat} {o : Int32 × am_W} (a1 : Int32) (a2 : Int32) (w : am_W) (H : F_Mod_come a1 a2 w = some o) : am_gi (D + 2) 168 o (0, [(0, .ref 53), (1, .int a1), (2, .int a2)], [], ww w, 0, 0) := by
  unfold F_Mod_come at H
  obtain ⟨q1, hqq1, H⟩ := am_bnE H
  refine am_go_blk 2 (?_ : am_gi (D + 2) 168 o (2, [(0, .ref 53), (1, .int a1), (2, .int a2)], [.int a1, .ref 53], ww w, 0, 0))
  refine am_invd rfl rfl rfl rfl (am_calli rfl (M_Mod_isThing (D := D) hqq1) (?_ : am_gi (D + 2) 168 o (5, [(0, .ref 53), (1, .int a1), (2, .int a2)], [.int q1.1], ww q1.2, 0, 0)))
  refine am_go_blk 1 ⟨fun hc => ?_, fun hc => ?_⟩
  · have H := am_ie hc H
    show am_gi (D + 2) 168 o (11, [(0, .ref 53), (1, .int a1), (2, .int a2)], [], ww q1.2, 0, 0)
    obtain ⟨q2, hqq2, H⟩ := am_bnE H
    refine am_go_blk 1 (?_ : am_gi (D + 2) 168 o (12, [(0, .ref 53), (1, .int a1), (2, .int a2)], [.int a2], ww q1.2, 0, 0))
    refine am_cls rfl rfl rfl (am_calli rfl (M_Mod_isHour (D := D) hqq2) (?_ : am_gi (D + 2) 168 o (15, [(0, .ref 53), (1, .int a1), (2, .int a2)], [.int q2.1], ww q2.2, 0, 0)))
    refine am_go_blk 1 ⟨fun hc => ?_, fun hc => ?_⟩
    · have H := am_ie hc H
      show am_gi (D + 2) 168 o (21, [(0, .ref 53), (1, .int a1), (2, .int a2)], [], ww q2.2, 0, 0)
      obtain ⟨hc, H⟩ := am_ckE H
      refine am_go_blk 4 ⟨am_inv hc, (?_ : am_gi (D + 2) 168 o (27, [(0, .ref 53), (1, .int a1), (2, .int a2)], [.int (q2.2.1 56 a1.toNatClampNeg)], ww q2.2, 0, 0))⟩
      obtain ⟨hc, H⟩ := am_ckE H
      obtain ⟨w3, ew3, H⟩ := am_ltE H
      refine am_go_blk 6 ⟨am_inv hc, am_hp (ww_s56 ew3) (?_ : am_gi (D + 2) 168 o (35, [(3, .int (q2.2.1 56 a1.toNatClampNeg)), (0, .ref 53), (1, .int a1), (2, .int a2)], [], ww w3, 0, 0))⟩
      exact am_go_blk 2 ⟨rfl, am_fi H⟩
    · have H := am_it hc H
      show am_gi (D + 2) 168 o (18, [(0, .ref 53), (1, .int a1), (2, .int a2)], [], ww q2.2, 0, 0)
      exact am_go_blk 2 ⟨rfl, am_fi H⟩
  · have H := am_it hc H
    show am_gi (D + 2) 168 o (8, [(0, .ref 53), (1, .int a1), (2, .int a2)], [], ww q1.2, 0, 0)
    exact am_go_blk 2 ⟨rfl, am_fi H⟩
theorem M_Mod_come {D : Nat} {o : Int32 × am_W} {a1 : Int32} {a2 : Int32} {w : am_W} (H : F_Mod_come a1 a2 w = some o) : am_run (D + 3) 168 [.ref 53, .int a1, .int a2] (ww w) (some (.int o.1)) (ww o.2) 0 0 :=
  am_run_of rfl (T_Mod_come a1 a2 w H)
def F_Mod_isGone_17 (s0 : Int32) (w : am_W) : Option (Int32 × am_W) :=
  am_ck (am_bo s0) (some (s0, w))
def F_Mod_isGone (a1 : Int32) (w : am_W) : Option (Int32 × am_W) :=
  if (((w.1 53 4) >>> (a1 &&& 31)) &&& (nI 1)) = (nI 1) then (F_Mod_isGone_17 (nI 1) w) else (F_Mod_isGone_17 (nI 0) w)
theorem T_Mod_isGone_17 {D : Nat} {o : Int32 × am_W} (s0 : Int32) (w : am_W) (H : F_Mod_isGone_17 s0 w = some o) : am_gi D 142 o (17, [], [.int s0], ww w, 0, 0) := by
  unfold F_Mod_isGone_17 at H
  obtain ⟨hc, H⟩ := am_ckE H
  exact am_go_blk 1 ⟨am_boE hc, am_fi H⟩
theorem T_Mod_isGone {D : Nat} {o : Int32 × am_W} (a1 : Int32) (w : am_W) (H : F_Mod_isGone a1 w = some o) : am_gi D 142 o (0, [(0, .ref 53), (1, .int a1)], [], ww w, 0, 0) := by
  unfold F_Mod_isGone at H
  refine am_go_blk 8 ⟨fun hc => ?_, fun hc => ?_⟩
  · have H := am_ie hc H
    show am_gi D 142 o (16, [], [], ww w, 0, 0)
    exact am_go_blk 1 (T_Mod_isGone_17 (nI 0) w H)
  · have H := am_it hc H
    show am_gi D 142 o (12, [(0, .ref 53), (1, .int a1)], [], ww w, 0, 0)
    exact am_go_blk 2 (T_Mod_isGone_17 (nI 1) w H)
theorem M_Mod_isGone {D : Nat} {o : Int32 × am_W} {a1 : Int32} {w : am_W} (H : F_Mod_isGone a1 w = some o) : am_run (D + 1) 142 [.ref 53, .int a1] (ww w) (some (.int o.1)) (ww o.2) 0 0 :=
  am_run_of rfl (T_Mod_isGone a1 w H)
def F_Mod_told_78 (s0 : Int32) (w : am_W) : Option (Int32 × am_W) :=
  some (s0, w)
def F_Mod_told (a1 : Int32) (a2 : Int32) (w : am_W) : Option (Int32 × am_W) :=
  (F_Mod_isThing a1 w).bind fun q1 => if q1.1 = 0 then (some ((-nI 5), q1.2)) else (if a2.toInt = 0 then (am_ck (am_in a1 8) (some ((q1.2.1 54 a1.toNatClampNeg), q1.2))) else if a2.toInt = 1 then (am_ck (am_in a1 8) (some ((q1.2.1 55 a1.toNatClampNeg), q1.2))) else if a2.toInt = 2 then (am_ck (am_in a1 8) (some ((q1.2.1 56 a1.toNatClampNeg), q1.2))) else if a2.toInt = 3 then ((F_Mod_isGone a1 q1.2).bind fun q2 => if q2.1 = 0 then (F_Mod_told_78 (nI 0) q2.2) else (F_Mod_told_78 (nI 1) q2.2)) else (some ((-nI 7), q1.2)))
theorem T_Mod_told_78 {D : Nat} {o : Int32 × am_W} (s0 : Int32) (w : am_W) (H : F_Mod_told_78 s0 w = some o) : am_gi (D + 2) 169 o (78, [], [.int s0], ww w, 0, 0) := by
  unfold F_Mod_told_78 at H
  exact am_go_blk 1 ⟨rfl, am_fi H⟩
theorem T_Mod_told {D : Nat} {o : Int32 × am_W} (a1 : Int32) (a2 : Int32) (w : am_W) (H : F_Mod_told a1 a2 w = some o) : am_gi (D + 2) 169 o (0, [(0, .ref 53), (1, .int a1), (2, .int a2)], [], ww w, 0, 0) := by
  unfold F_Mod_told at H
  obtain ⟨q1, hqq1, H⟩ := am_bnE H
  refine am_go_blk 2 (?_ : am_gi (D + 2) 169 o (2, [(0, .ref 53), (1, .int a1), (2, .int a2)], [.int a1, .ref 53], ww w, 0, 0))
  refine am_invd rfl rfl rfl rfl (am_calli rfl (M_Mod_isThing (D := D) hqq1) (?_ : am_gi (D + 2) 169 o (5, [(0, .ref 53), (1, .int a1), (2, .int a2)], [.int q1.1], ww q1.2, 0, 0)))
  refine am_go_blk 1 ⟨fun hc => ?_, fun hc => ?_⟩
  · have H := am_ie hc H
    show am_gi (D + 2) 169 o (11, [(0, .ref 53), (1, .int a1), (2, .int a2)], [], ww q1.2, 0, 0)
    refine am_go_blk 2 ⟨fun hc => ?_, fun hc => ?_⟩
    · have H := am_it hc H
      show am_gi (D + 2) 169 o (44, [(0, .ref 53), (1, .int a1)], [], ww q1.2, 0, 0)
      obtain ⟨hc, H⟩ := am_ckE H
      refine am_go_blk 4 ⟨am_inv hc, (?_ : am_gi (D + 2) 169 o (50, [(0, .ref 53), (1, .int a1)], [.int (q1.2.1 54 a1.toNatClampNeg)], ww q1.2, 0, 0))⟩
      exact am_go_blk 1 ⟨rfl, am_fi H⟩
    have H := am_ie hc H
    refine ⟨fun hc => ?_, fun hc => ?_⟩
    · have H := am_it hc H
      show am_gi (D + 2) 169 o (51, [(0, .ref 53), (1, .int a1)], [], ww q1.2, 0, 0)
      obtain ⟨hc, H⟩ := am_ckE H
      refine am_go_blk 4 ⟨am_inv hc, (?_ : am_gi (D + 2) 169 o (57, [(0, .ref 53), (1, .int a1)], [.int (q1.2.1 55 a1.toNatClampNeg)], ww q1.2, 0, 0))⟩
      exact am_go_blk 1 ⟨rfl, am_fi H⟩
    have H := am_ie hc H
    refine ⟨fun hc => ?_, fun hc => ?_⟩
    · have H := am_it hc H
      show am_gi (D + 2) 169 o (58, [(0, .ref 53), (1, .int a1)], [], ww q1.2, 0, 0)
      obtain ⟨hc, H⟩ := am_ckE H
      refine am_go_blk 4 ⟨am_inv hc, (?_ : am_gi (D + 2) 169 o (64, [(0, .ref 53), (1, .int a1)], [.int (q1.2.1 56 a1.toNatClampNeg)], ww q1.2, 0, 0))⟩
      exact am_go_blk 1 ⟨rfl, am_fi H⟩
    have H := am_ie hc H
    refine ⟨fun hc => ?_, fun hc => ?_⟩
    · have H := am_it hc H
      show am_gi (D + 2) 169 o (65, [(0, .ref 53), (1, .int a1)], [], ww q1.2, 0, 0)
      obtain ⟨q2, hqq2, H⟩ := am_bnE H
      refine am_go_blk 2 (?_ : am_gi (D + 2) 169 o (67, [(0, .ref 53), (1, .int a1)], [.int a1, .ref 53], ww q1.2, 0, 0))
      refine am_invd rfl rfl rfl rfl (am_calli rfl (M_Mod_isGone (D := D + 1) hqq2) (?_ : am_gi (D + 2) 169 o (70, [(0, .ref 53), (1, .int a1)], [.int q2.1], ww q2.2, 0, 0)))
      refine am_go_blk 1 ⟨fun hc => ?_, fun hc => ?_⟩
      · have H := am_it hc H
        show am_gi (D + 2) 169 o (77, [], [], ww q2.2, 0, 0)
        exact am_go_blk 1 (T_Mod_told_78 (nI 0) q2.2 H)
      · have H := am_ie hc H
        show am_gi (D + 2) 169 o (73, [(0, .ref 53), (1, .int a1)], [], ww q2.2, 0, 0)
        exact am_go_blk 2 (T_Mod_told_78 (nI 1) q2.2 H)
    have H := am_ie hc H
    show am_gi (D + 2) 169 o (79, [], [], ww q1.2, 0, 0)
    exact am_go_blk 2 ⟨rfl, am_fi H⟩
  · have H := am_it hc H
    show am_gi (D + 2) 169 o (8, [(0, .ref 53), (1, .int a1), (2, .int a2)], [], ww q1.2, 0, 0)
    exact am_go_blk 2 ⟨rfl, am_fi H⟩
theorem M_Mod_told {D : Nat} {o : Int32 × am_W} {a1 : Int32} {a2 : Int32} {w : am_W} (H : F_Mod_told a1 a2 w = some o) : am_run (D + 3) 169 [.ref 53, .int a1, .int a2] (ww w) (some (.int o.1)) (ww o.2) 0 0 :=
  am_run_of rfl (T_Mod_told a1 a2 w H)
def F_Mod_everything (w : am_W) : Option (Int32 × am_W) :=
  some ((((nI 1) <<< ((w.1 53 0) &&& 31)) - (nI 1)), w)
theorem T_Mod_everything {D : Nat} {o : Int32 × am_W} (w : am_W) (H : F_Mod_everything w = some o) : am_gi D 143 o (0, [(0, .ref 53)], [], ww w, 0, 0) := by
  unfold F_Mod_everything at H
  exact am_go_blk 7 ⟨rfl, am_fi H⟩
theorem M_Mod_everything {D : Nat} {o : Int32 × am_W} {w : am_W} (H : F_Mod_everything w = some o) : am_run (D + 1) 143 [.ref 53] (ww w) (some (.int o.1)) (ww o.2) 0 0 :=
  am_run_of rfl (T_Mod_everything w H)
def F_Mod_areSome_31 (s0 : Int32) (w : am_W) : Option (Int32 × am_W) :=
  am_ck (am_bo s0) (some (s0, w))
def F_Mod_areSome_30 (w : am_W) : Option (Int32 × am_W) :=
  F_Mod_areSome_31 (nI 0) w
def F_Mod_areSome (a1 : Int32) (w : am_W) : Option (Int32 × am_W) :=
  (F_Mod_in a1 (nI 1) (nI 511) w).bind fun q1 => if q1.1 = 0 then (F_Mod_areSome_30 q1.2) else ((F_Mod_everything q1.2).bind fun q2 => if (a1 &&& ((q2.1 ||| (nI 256)) ^^^ (-nI 1))) = 0 then (F_Mod_areSome_31 (nI 1) q2.2) else (F_Mod_areSome_30 q2.2))
theorem T_Mod_areSome_31 {D : Nat} {o : Int32 × am_W} (s0 : Int32) (w : am_W) (H : F_Mod_areSome_31 s0 w = some o) : am_gi (D + 1) 170 o (31, [], [.int s0], ww w, 0, 0) := by
  unfold F_Mod_areSome_31 at H
  obtain ⟨hc, H⟩ := am_ckE H
  exact am_go_blk 1 ⟨am_boE hc, am_fi H⟩
theorem T_Mod_areSome_30 {D : Nat} {o : Int32 × am_W} (w : am_W) (H : F_Mod_areSome_30 w = some o) : am_gi (D + 1) 170 o (30, [], [], ww w, 0, 0) := by
  unfold F_Mod_areSome_30 at H
  exact am_go_blk 1 (T_Mod_areSome_31 (nI 0) w H)
theorem T_Mod_areSome {D : Nat} {o : Int32 × am_W} (a1 : Int32) (w : am_W) (H : F_Mod_areSome a1 w = some o) : am_gi (D + 1) 170 o (0, [(0, .ref 53), (1, .int a1)], [], ww w, 0, 0) := by
  unfold F_Mod_areSome at H
  obtain ⟨q1, hqq1, H⟩ := am_bnE H
  refine am_go_blk 3 (?_ : am_gi (D + 1) 170 o (5, [(0, .ref 53), (1, .int a1)], [.int (nI 511), .int (nI 1), .int a1], ww w, 0, 0))
  refine am_cls rfl rfl rfl (am_calli rfl (M_Mod_in (D := D) hqq1) (?_ : am_gi (D + 1) 170 o (8, [(0, .ref 53), (1, .int a1)], [.int q1.1], ww q1.2, 0, 0)))
  refine am_go_blk 1 ⟨fun hc => ?_, fun hc => ?_⟩
  · have H := am_it hc H
    exact T_Mod_areSome_30 q1.2 H
  · have H := am_ie hc H
    show am_gi (D + 1) 170 o (11, [(0, .ref 53), (1, .int a1)], [], ww q1.2, 0, 0)
    obtain ⟨q2, hqq2, H⟩ := am_bnE H
    refine am_go_blk 2 (?_ : am_gi (D + 1) 170 o (13, [(0, .ref 53), (1, .int a1)], [.ref 53, .int a1], ww q1.2, 0, 0))
    refine am_invd rfl rfl rfl rfl (am_calli rfl (M_Mod_everything (D := D) hqq2) (?_ : am_gi (D + 1) 170 o (16, [(0, .ref 53), (1, .int a1)], [.int q2.1, .int a1], ww q2.2, 0, 0)))
    refine am_go_blk 6 ⟨fun hc => ?_, fun hc => ?_⟩
    · have H := am_ie hc H
      exact T_Mod_areSome_30 q2.2 H
    · have H := am_it hc H
      show am_gi (D + 1) 170 o (26, [(0, .ref 53), (1, .int a1)], [], ww q2.2, 0, 0)
      exact am_go_blk 2 (T_Mod_areSome_31 (nI 1) q2.2 H)
theorem M_Mod_areSome {D : Nat} {o : Int32 × am_W} {a1 : Int32} {w : am_W} (H : F_Mod_areSome a1 w = some o) : am_run (D + 2) 170 [.ref 53, .int a1] (ww w) (some (.int o.1)) (ww o.2) 0 0 :=
  am_run_of rfl (T_Mod_areSome a1 w H)
def F_Mod_lock_25 (w : am_W) : Option (Int32 × am_W) :=
  some ((-nI 2), w)
def F_Mod_lock_45 (w : am_W) : Option (Int32 × am_W) :=
  some ((-nI 3), w)
def F_Mod_lock (a1 : Int32) (a2 : Int32) (a3 : Int32) (w : am_W) : Option (Int32 × am_W) :=
  (F_Mod_isThing a1 w).bind fun q1 => if q1.1 = 0 then (F_Mod_lock_25 q1.2) else ((F_Mod_in a2 (nI 0) (nI 2) q1.2).bind fun q2 => if q2.1 = 0 then (F_Mod_lock_25 q2.2) else ((F_Mod_areSome a3 q2.2).bind fun q3 => if q3.1 = 0 then (F_Mod_lock_25 q3.2) else ((F_Mod_isGone a1 q3.2).bind fun q4 => if q4.1 = 0 then (if (a3 &&& (q4.2.1 53 4)) = 0 then (if (q4.2.1 53 5) = (nI 10) then (some ((-nI 4), q4.2)) else (am_ck (am_in ((nI 3) * (q4.2.1 53 5)) 30) (am_lt (wst q4.2 57 ((nI 3) * (q4.2.1 53 5)) a1) fun w5 => am_ck (am_in (((nI 3) * (w5.1 53 5)) + (nI 1)) 30) (am_lt (wst w5 57 (((nI 3) * (w5.1 53 5)) + (nI 1)) a2) fun w6 => am_ck (am_in (((nI 3) * (w6.1 53 5)) + (nI 2)) 30) (am_lt (wst w6 57 (((nI 3) * (w6.1 53 5)) + (nI 2)) a3) fun w7 => am_lt (wsf w7 53 7 ((w7.1 53 7) &&& (((nI 1) <<< ((w7.1 53 5) &&& 31)) ^^^ (-nI 1)))) fun w8 => am_lt (wsf w8 53 5 ((w8.1 53 5) + (nI 1))) fun w9 => some (((w9.1 53 5) - (nI 1)), w9)))))) else (F_Mod_lock_45 q4.2)) else (F_Mod_lock_45 q4.2))))
theorem T_Mod_lock_25 {D : Nat} {o : Int32 × am_W} (w : am_W) (H : F_Mod_lock_25 w = some o) : am_gi (D + 2) 171 o (25, [], [], ww w, 0, 0) := by
  unfold F_Mod_lock_25 at H
  exact am_go_blk 2 ⟨rfl, am_fi H⟩
theorem T_Mod_lock_45 {D : Nat} {o : Int32 × am_W} (w : am_W) (H : F_Mod_lock_45 w = some o) : am_gi (D + 2) 171 o (45, [], [], ww w, 0, 0) := by
  unfold F_Mod_lock_45 at H
  exact am_go_blk 2 ⟨rfl, am_fi H⟩
theorem T_Mod_lock {D : Nat} {o : Int32 × am_W} (a1 : Int32) (a2 : Int32) (a3 : Int32) (w : am_W) (H : F_Mod_lock a1 a2 a3 w = some o) : am_gi (D + 2) 171 o (0, [(0, .ref 53), (1, .int a1), (2, .int a2), (3, .int a3)], [], ww w, 0, 0) := by
  unfold F_Mod_lock at H
  obtain ⟨q1, hqq1, H⟩ := am_bnE H
  refine am_go_blk 2 (?_ : am_gi (D + 2) 171 o (2, [(0, .ref 53), (1, .int a1), (2, .int a2), (3, .int a3)], [.int a1, .ref 53], ww w, 0, 0))
  refine am_invd rfl rfl rfl rfl (am_calli rfl (M_Mod_isThing (D := D) hqq1) (?_ : am_gi (D + 2) 171 o (5, [(0, .ref 53), (1, .int a1), (2, .int a2), (3, .int a3)], [.int q1.1], ww q1.2, 0, 0)))
  refine am_go_blk 1 ⟨fun hc => ?_, fun hc => ?_⟩
  · have H := am_it hc H
    exact T_Mod_lock_25 q1.2 H
  · have H := am_ie hc H
    show am_gi (D + 2) 171 o (8, [(0, .ref 53), (1, .int a1), (2, .int a2), (3, .int a3)], [], ww q1.2, 0, 0)
    obtain ⟨q2, hqq2, H⟩ := am_bnE H
    refine am_go_blk 3 (?_ : am_gi (D + 2) 171 o (11, [(0, .ref 53), (1, .int a1), (2, .int a2), (3, .int a3)], [.int (nI 2), .int (nI 0), .int a2], ww q1.2, 0, 0))
    refine am_cls rfl rfl rfl (am_calli rfl (M_Mod_in (D := D + 1) hqq2) (?_ : am_gi (D + 2) 171 o (14, [(0, .ref 53), (1, .int a1), (2, .int a2), (3, .int a3)], [.int q2.1], ww q2.2, 0, 0)))
    refine am_go_blk 1 ⟨fun hc => ?_, fun hc => ?_⟩
    · have H := am_it hc H
      exact T_Mod_lock_25 q2.2 H
    · have H := am_ie hc H
      show am_gi (D + 2) 171 o (17, [(0, .ref 53), (1, .int a1), (2, .int a2), (3, .int a3)], [], ww q2.2, 0, 0)
      obtain ⟨q3, hqq3, H⟩ := am_bnE H
      refine am_go_blk 2 (?_ : am_gi (D + 2) 171 o (19, [(0, .ref 53), (1, .int a1), (2, .int a2), (3, .int a3)], [.int a3, .ref 53], ww q2.2, 0, 0))
      refine am_invd rfl rfl rfl rfl (am_calli rfl (M_Mod_areSome (D := D) hqq3) (?_ : am_gi (D + 2) 171 o (22, [(0, .ref 53), (1, .int a1), (2, .int a2), (3, .int a3)], [.int q3.1], ww q3.2, 0, 0)))
      refine am_go_blk 1 ⟨fun hc => ?_, fun hc => ?_⟩
      · have H := am_ie hc H
        show am_gi (D + 2) 171 o (28, [(0, .ref 53), (1, .int a1), (2, .int a2), (3, .int a3)], [], ww q3.2, 0, 0)
        obtain ⟨q4, hqq4, H⟩ := am_bnE H
        refine am_go_blk 2 (?_ : am_gi (D + 2) 171 o (30, [(0, .ref 53), (1, .int a1), (2, .int a2), (3, .int a3)], [.int a1, .ref 53], ww q3.2, 0, 0))
        refine am_invd rfl rfl rfl rfl (am_calli rfl (M_Mod_isGone (D := D + 1) hqq4) (?_ : am_gi (D + 2) 171 o (33, [(0, .ref 53), (1, .int a1), (2, .int a2), (3, .int a3)], [.int q4.1], ww q4.2, 0, 0)))
        refine am_go_blk 1 ⟨fun hc => ?_, fun hc => ?_⟩
        · have H := am_ie hc H
          exact T_Mod_lock_45 q4.2 H
        · have H := am_it hc H
          show am_gi (D + 2) 171 o (36, [(0, .ref 53), (1, .int a1), (2, .int a2), (3, .int a3)], [], ww q4.2, 0, 0)
          refine am_go_blk 5 ⟨fun hc => ?_, fun hc => ?_⟩
          · have H := am_it hc H
            show am_gi (D + 2) 171 o (48, [(0, .ref 53), (1, .int a1), (2, .int a2), (3, .int a3)], [], ww q4.2, 0, 0)
            refine am_go_blk 4 ⟨fun hc => ?_, fun hc => ?_⟩
            · have H := am_ie hc H
              show am_gi (D + 2) 171 o (60, [(0, .ref 53), (1, .int a1), (2, .int a2), (3, .int a3)], [], ww q4.2, 0, 0)
              obtain ⟨hc, H⟩ := am_ckE H
              obtain ⟨w5, ew5, H⟩ := am_ltE H
              refine am_go_blk 8 ⟨am_inv hc, am_hp (ww_s57 ew5) (?_ : am_gi (D + 2) 171 o (72, [(0, .ref 53), (1, .int a1), (2, .int a2), (3, .int a3)], [], ww w5, 0, 0))⟩
              obtain ⟨hc, H⟩ := am_ckE H
              obtain ⟨w6, ew6, H⟩ := am_ltE H
              refine am_go_blk 10 ⟨am_inv hc, am_hp (ww_s57 ew6) (?_ : am_gi (D + 2) 171 o (86, [(0, .ref 53), (1, .int a1), (2, .int a2), (3, .int a3)], [], ww w6, 0, 0))⟩
              obtain ⟨hc, H⟩ := am_ckE H
              obtain ⟨w7, ew7, H⟩ := am_ltE H
              refine am_go_blk 10 ⟨am_inv hc, am_hp (ww_s57 ew7) (?_ : am_gi (D + 2) 171 o (100, [(0, .ref 53), (1, .int a1), (2, .int a2), (3, .int a3)], [], ww w7, 0, 0))⟩
              obtain ⟨w8, ew8, H⟩ := am_ltE H
              refine am_go_blk 11 ⟨rfl, rfl, am_hp (ww_f53_7 ew8) (?_ : am_gi (D + 2) 171 o (117, [(0, .ref 53), (1, .int a1), (2, .int a2), (3, .int a3)], [], ww w8, 0, 0))⟩
              obtain ⟨w9, ew9, H⟩ := am_ltE H
              refine am_go_blk 6 ⟨rfl, rfl, am_hp (ww_f53_5 ew9) (?_ : am_gi (D + 2) 171 o (127, [(0, .ref 53), (1, .int a1), (2, .int a2), (3, .int a3)], [], ww w9, 0, 0))⟩
              exact am_go_blk 5 ⟨rfl, am_fi H⟩
            · have H := am_it hc H
              show am_gi (D + 2) 171 o (57, [(0, .ref 53), (1, .int a1), (2, .int a2), (3, .int a3)], [], ww q4.2, 0, 0)
              exact am_go_blk 2 ⟨rfl, am_fi H⟩
          · have H := am_ie hc H
            exact T_Mod_lock_45 q4.2 H
      · have H := am_it hc H
        exact T_Mod_lock_25 q3.2 H
theorem M_Mod_lock {D : Nat} {o : Int32 × am_W} {a1 : Int32} {a2 : Int32} {a3 : Int32} {w : am_W} (H : F_Mod_lock a1 a2 a3 w = some o) : am_run (D + 3) 171 [.ref 53, .int a1, .int a2, .int a3] (ww w) (some (.int o.1)) (ww o.2) 0 0 :=
  am_run_of rfl (T_Mod_lock a1 a2 a3 w H)
def F_Mod_relock_55 (a1 : Int32) (a2 : Int32) (a3 : Int32) (s0 : Int32) (w : am_W) : Option (Int32 × am_W) :=
  if s0 = 0 then (some ((-nI 7), w)) else (am_ck (am_in (((nI 3) * a1) + a2) 30) (am_ck (am_in (((nI 3) * a1) + a2) 30) (am_lt (wst w 57 (((nI 3) * a1) + a2) a3) fun w2 => some ((w.1 57 (((nI 3) * a1) + a2).toNatClampNeg), w2))))
def F_Mod_relock_54 (a1 : Int32) (a2 : Int32) (a3 : Int32) (w : am_W) : Option (Int32 × am_W) :=
  F_Mod_relock_55 a1 a2 a3 (nI 0) w
def F_Mod_relock (a1 : Int32) (a2 : Int32) (a3 : Int32) (w : am_W) : Option (Int32 × am_W) :=
  (F_Mod_isLock a1 w).bind fun q1 => if q1.1 = 0 then (some ((-nI 5), q1.2)) else (if a2 = 0 then ((F_Mod_isThing a3 q1.2).bind fun q5 => F_Mod_relock_55 a1 a2 a3 q5.1 q5.2) else (if a2 = (nI 1) then ((F_Mod_in a3 (nI 0) (nI 2) q1.2).bind fun q4 => F_Mod_relock_55 a1 a2 a3 q4.1 q4.2) else (if a2 = (nI 2) then ((F_Mod_areSome a3 q1.2).bind fun q3 => if q3.1 = 0 then (F_Mod_relock_54 a1 a2 a3 q3.2) else (F_Mod_relock_55 a1 a2 a3 (nI 1) q3.2)) else (F_Mod_relock_54 a1 a2 a3 q1.2))))
theorem T_Mod_relock_55 {D : Nat} {o : Int32 × am_W} (a1 : Int32) (a2 : Int32) (a3 : Int32) (s0 : Int32) (w : am_W) (H : F_Mod_relock_55 a1 a2 a3 s0 w = some o) : am_gi (D + 2) 172 o (55, [(0, .ref 53), (1, .int a1), (2, .int a2), (3, .int a3)], [.int s0], ww w, 0, 0) := by
  unfold F_Mod_relock_55 at H
  refine am_go_blk 3 ⟨fun hc => ?_, fun hc => ?_⟩
  · have H := am_ie hc H
    show am_gi (D + 2) 172 o (65, [(0, .ref 53), (1, .int a1), (2, .int a2), (3, .int a3)], [], ww w, 0, 0)
    obtain ⟨hc, H⟩ := am_ckE H
    refine am_go_blk 8 ⟨am_inv hc, (?_ : am_gi (D + 2) 172 o (75, [(0, .ref 53), (1, .int a1), (2, .int a2), (3, .int a3)], [.int (w.1 57 (((nI 3) * a1) + a2).toNatClampNeg)], ww w, 0, 0))⟩
    obtain ⟨hc, H⟩ := am_ckE H
    obtain ⟨w2, ew2, H⟩ := am_ltE H
    refine am_go_blk 10 ⟨am_inv hc, am_hp (ww_s57 ew2) (?_ : am_gi (D + 2) 172 o (88, [(5, .int (w.1 57 (((nI 3) * a1) + a2).toNatClampNeg)), (0, .ref 53), (1, .int a1), (2, .int a2), (3, .int a3)], [], ww w2, 0, 0))⟩
    exact am_go_blk 2 ⟨rfl, am_fi H⟩
  · have H := am_it hc H
    show am_gi (D + 2) 172 o (62, [(4, .int s0), (0, .ref 53), (1, .int a1), (2, .int a2), (3, .int a3)], [], ww w, 0, 0)
    exact am_go_blk 2 ⟨rfl, am_fi H⟩
theorem T_Mod_relock_54 {D : Nat} {o : Int32 × am_W} (a1 : Int32) (a2 : Int32) (a3 : Int32) (w : am_W) (H : F_Mod_relock_54 a1 a2 a3 w = some o) : am_gi (D + 2) 172 o (54, [(0, .ref 53), (1, .int a1), (2, .int a2), (3, .int a3)], [], ww w, 0, 0) := by
  unfold F_Mod_relock_54 at H
  exact am_go_blk 1 (T_Mod_relock_55 a1 a2 a3 (nI 0) w H)
theorem T_Mod_relock {D : Nat} {o : Int32 × am_W} (a1 : Int32) (a2 : Int32) (a3 : Int32) (w : am_W) (H : F_Mod_relock a1 a2 a3 w = some o) : am_gi (D + 2) 172 o (0, [(0, .ref 53), (1, .int a1), (2, .int a2), (3, .int a3)], [], ww w, 0, 0) := by
  unfold F_Mod_relock at H
  obtain ⟨q1, hqq1, H⟩ := am_bnE H
  refine am_go_blk 2 (?_ : am_gi (D + 2) 172 o (2, [(0, .ref 53), (1, .int a1), (2, .int a2), (3, .int a3)], [.int a1, .ref 53], ww w, 0, 0))
  refine am_invd rfl rfl rfl rfl (am_calli rfl (M_Mod_isLock (D := D) hqq1) (?_ : am_gi (D + 2) 172 o (5, [(0, .ref 53), (1, .int a1), (2, .int a2), (3, .int a3)], [.int q1.1], ww q1.2, 0, 0)))
  refine am_go_blk 1 ⟨fun hc => ?_, fun hc => ?_⟩
  · have H := am_ie hc H
    show am_gi (D + 2) 172 o (11, [(0, .ref 53), (1, .int a1), (2, .int a2), (3, .int a3)], [], ww q1.2, 0, 0)
    refine am_go_blk 2 ⟨fun hc => ?_, fun hc => ?_⟩
    · have H := am_ie hc H
      show am_gi (D + 2) 172 o (23, [(0, .ref 53), (1, .int a1), (2, .int a2), (3, .int a3)], [], ww q1.2, 0, 0)
      refine am_go_blk 3 ⟨fun hc => ?_, fun hc => ?_⟩
      · have H := am_ie hc H
        show am_gi (D + 2) 172 o (37, [(0, .ref 53), (1, .int a1), (2, .int a2), (3, .int a3)], [], ww q1.2, 0, 0)
        refine am_go_blk 3 ⟨fun hc => ?_, fun hc => ?_⟩
        · have H := am_ie hc H
          exact T_Mod_relock_54 a1 a2 a3 q1.2 H
        · have H := am_it hc H
          show am_gi (D + 2) 172 o (42, [(0, .ref 53), (1, .int a1), (2, .int a2), (3, .int a3)], [], ww q1.2, 0, 0)
          obtain ⟨q3, hqq3, H⟩ := am_bnE H
          refine am_go_blk 2 (?_ : am_gi (D + 2) 172 o (44, [(0, .ref 53), (1, .int a1), (2, .int a2), (3, .int a3)], [.int a3, .ref 53], ww q1.2, 0, 0))
          refine am_invd rfl rfl rfl rfl (am_calli rfl (M_Mod_areSome (D := D) hqq3) (?_ : am_gi (D + 2) 172 o (47, [(0, .ref 53), (1, .int a1), (2, .int a2), (3, .int a3)], [.int q3.1], ww q3.2, 0, 0)))
          refine am_go_blk 1 ⟨fun hc => ?_, fun hc => ?_⟩
          · have H := am_it hc H
            exact T_Mod_relock_54 a1 a2 a3 q3.2 H
          · have H := am_ie hc H
            show am_gi (D + 2) 172 o (50, [(0, .ref 53), (1, .int a1), (2, .int a2), (3, .int a3)], [], ww q3.2, 0, 0)
            exact am_go_blk 2 (T_Mod_relock_55 a1 a2 a3 (nI 1) q3.2 H)
      · have H := am_it hc H
        show am_gi (D + 2) 172 o (28, [(0, .ref 53), (1, .int a1), (2, .int a2), (3, .int a3)], [], ww q1.2, 0, 0)
        obtain ⟨q4, hqq4, H⟩ := am_bnE H
        refine am_go_blk 3 (?_ : am_gi (D + 2) 172 o (31, [(0, .ref 53), (1, .int a1), (2, .int a2), (3, .int a3)], [.int (nI 2), .int (nI 0), .int a3], ww q1.2, 0, 0))
        refine am_cls rfl rfl rfl (am_calli rfl (M_Mod_in (D := D + 1) hqq4) (?_ : am_gi (D + 2) 172 o (34, [(0, .ref 53), (1, .int a1), (2, .int a2), (3, .int a3)], [.int q4.1], ww q4.2, 0, 0)))
        exact am_go_blk 1 (T_Mod_relock_55 a1 a2 a3 q4.1 q4.2 H)
    · have H := am_it hc H
      show am_gi (D + 2) 172 o (15, [(0, .ref 53), (1, .int a1), (2, .int a2), (3, .int a3)], [], ww q1.2, 0, 0)
      obtain ⟨q5, hqq5, H⟩ := am_bnE H
      refine am_go_blk 2 (?_ : am_gi (D + 2) 172 o (17, [(0, .ref 53), (1, .int a1), (2, .int a2), (3, .int a3)], [.int a3, .ref 53], ww q1.2, 0, 0))
      refine am_invd rfl rfl rfl rfl (am_calli rfl (M_Mod_isThing (D := D) hqq5) (?_ : am_gi (D + 2) 172 o (20, [(0, .ref 53), (1, .int a1), (2, .int a2), (3, .int a3)], [.int q5.1], ww q5.2, 0, 0)))
      exact am_go_blk 1 (T_Mod_relock_55 a1 a2 a3 q5.1 q5.2 H)
  · have H := am_it hc H
    show am_gi (D + 2) 172 o (8, [(0, .ref 53), (1, .int a1), (2, .int a2), (3, .int a3)], [], ww q1.2, 0, 0)
    exact am_go_blk 2 ⟨rfl, am_fi H⟩
theorem M_Mod_relock {D : Nat} {o : Int32 × am_W} {a1 : Int32} {a2 : Int32} {a3 : Int32} {w : am_W} (H : F_Mod_relock a1 a2 a3 w = some o) : am_run (D + 3) 172 [.ref 53, .int a1, .int a2, .int a3] (ww w) (some (.int o.1)) (ww o.2) 0 0 :=
  am_run_of rfl (T_Mod_relock a1 a2 a3 w H)
def F_Mod_isSawn_17 (s0 : Int32) (w : am_W) : Option (Int32 × am_W) :=
  am_ck (am_bo s0) (some (s0, w))
def F_Mod_isSawn (a1 : Int32) (w : am_W) : Option (Int32 × am_W) :=
  if (((w.1 53 7) >>> (a1 &&& 31)) &&& (nI 1)) = (nI 1) then (F_Mod_isSawn_17 (nI 1) w) else (F_Mod_isSawn_17 (nI 0) w)
theorem T_Mod_isSawn_17 {D : Nat} {o : Int32 × am_W} (s0 : Int32) (w : am_W) (H : F_Mod_isSawn_17 s0 w = some o) : am_gi D 173 o (17, [], [.int s0], ww w, 0, 0) := by
  unfold F_Mod_isSawn_17 at H
  obtain ⟨hc, H⟩ := am_ckE H
  exact am_go_blk 1 ⟨am_boE hc, am_fi H⟩
theorem T_Mod_isSawn {D : Nat} {o : Int32 × am_W} (a1 : Int32) (w : am_W) (H : F_Mod_isSawn a1 w = some o) : am_gi D 173 o (0, [(0, .ref 53), (1, .int a1)], [], ww w, 0, 0) := by
  unfold F_Mod_isSawn at H
  refine am_go_blk 8 ⟨fun hc => ?_, fun hc => ?_⟩
  · have H := am_ie hc H
    show am_gi D 173 o (16, [], [], ww w, 0, 0)
    exact am_go_blk 1 (T_Mod_isSawn_17 (nI 0) w H)
  · have H := am_it hc H
    show am_gi D 173 o (12, [(0, .ref 53), (1, .int a1)], [], ww w, 0, 0)
    exact am_go_blk 2 (T_Mod_isSawn_17 (nI 1) w H)
theorem M_Mod_isSawn {D : Nat} {o : Int32 × am_W} {a1 : Int32} {w : am_W} (H : F_Mod_isSawn a1 w = some o) : am_run (D + 1) 173 [.ref 53, .int a1] (ww w) (some (.int o.1)) (ww o.2) 0 0 :=
  am_run_of rfl (T_Mod_isSawn a1 w H)
def F_Mod_owner (a1 : Int32) (w : am_W) : Option (Int32 × am_W) :=
  am_ck (am_in ((nI 3) * a1) 30) (some ((w.1 57 ((nI 3) * a1).toNatClampNeg), w))
theorem T_Mod_owner {D : Nat} {o : Int32 × am_W} (a1 : Int32) (w : am_W) (H : F_Mod_owner a1 w = some o) : am_gi D 144 o (0, [(0, .ref 53), (1, .int a1)], [], ww w, 0, 0) := by
  unfold F_Mod_owner at H
  obtain ⟨hc, H⟩ := am_ckE H
  refine am_go_blk 6 ⟨am_inv hc, (?_ : am_gi D 144 o (8, [(0, .ref 53), (1, .int a1)], [.int (w.1 57 ((nI 3) * a1).toNatClampNeg)], ww w, 0, 0))⟩
  exact am_go_blk 1 ⟨rfl, am_fi H⟩
theorem M_Mod_owner {D : Nat} {o : Int32 × am_W} {a1 : Int32} {w : am_W} (H : F_Mod_owner a1 w = some o) : am_run (D + 1) 144 [.ref 53, .int a1] (ww w) (some (.int o.1)) (ww o.2) 0 0 :=
  am_run_of rfl (T_Mod_owner a1 w H)
def F_Mod_isShut_25 (s0 : Int32) (w : am_W) : Option (Int32 × am_W) :=
  am_ck (am_bo s0) (some (s0, w))
def F_Mod_isShut_24 (w : am_W) : Option (Int32 × am_W) :=
  F_Mod_isShut_25 (nI 0) w
def F_Mod_isShut (a1 : Int32) (w : am_W) : Option (Int32 × am_W) :=
  (F_Mod_isSawn a1 w).bind fun q1 => if q1.1 = 0 then ((F_Mod_owner a1 q1.2).bind fun q2 => (F_Mod_isGone q2.1 q2.2).bind fun q3 => if q3.1 = 0 then (F_Mod_isShut_25 (nI 1) q3.2) else (F_Mod_isShut_24 q3.2)) else (F_Mod_isShut_24 q1.2)
theorem T_Mod_isShut_25 {D : Nat} {o : Int32 × am_W} (s0 : Int32) (w : am_W) (H : F_Mod_isShut_25 s0 w = some o) : am_gi (D + 1) 174 o (25, [], [.int s0], ww w, 0, 0) := by
  unfold F_Mod_isShut_25 at H
  obtain ⟨hc, H⟩ := am_ckE H
  exact am_go_blk 1 ⟨am_boE hc, am_fi H⟩
theorem T_Mod_isShut_24 {D : Nat} {o : Int32 × am_W} (w : am_W) (H : F_Mod_isShut_24 w = some o) : am_gi (D + 1) 174 o (24, [], [], ww w, 0, 0) := by
  unfold F_Mod_isShut_24 at H
  exact am_go_blk 1 (T_Mod_isShut_25 (nI 0) w H)
theorem T_Mod_isShut {D : Nat} {o : Int32 × am_W} (a1 : Int32) (w : am_W) (H : F_Mod_isShut a1 w = some o) : am_gi (D + 1) 174 o (0, [(0, .ref 53), (1, .int a1)], [], ww w, 0, 0) := by
  unfold F_Mod_isShut at H
  obtain ⟨q1, hqq1, H⟩ := am_bnE H
  refine am_go_blk 2 (?_ : am_gi (D + 1) 174 o (2, [(0, .ref 53), (1, .int a1)], [.int a1, .ref 53], ww w, 0, 0))
  refine am_invd rfl rfl rfl rfl (am_calli rfl (M_Mod_isSawn (D := D) hqq1) (?_ : am_gi (D + 1) 174 o (5, [(0, .ref 53), (1, .int a1)], [.int q1.1], ww q1.2, 0, 0)))
  refine am_go_blk 1 ⟨fun hc => ?_, fun hc => ?_⟩
  · have H := am_ie hc H
    exact T_Mod_isShut_24 q1.2 H
  · have H := am_it hc H
    show am_gi (D + 1) 174 o (8, [(0, .ref 53), (1, .int a1)], [], ww q1.2, 0, 0)
    obtain ⟨q2, hqq2, H⟩ := am_bnE H
    refine am_go_blk 3 (?_ : am_gi (D + 1) 174 o (11, [(0, .ref 53), (1, .int a1)], [.int a1, .ref 53, .ref 53], ww q1.2, 0, 0))
    refine am_invd rfl rfl rfl rfl (am_calli rfl (M_Mod_owner (D := D) hqq2) (?_ : am_gi (D + 1) 174 o (14, [(0, .ref 53), (1, .int a1)], [.int q2.1, .ref 53], ww q2.2, 0, 0)))
    obtain ⟨q3, hqq3, H⟩ := am_bnE H
    refine am_invd rfl rfl rfl rfl (am_calli rfl (M_Mod_isGone (D := D) hqq3) (?_ : am_gi (D + 1) 174 o (17, [(0, .ref 53), (1, .int a1)], [.int q3.1], ww q3.2, 0, 0)))
    refine am_go_blk 1 ⟨fun hc => ?_, fun hc => ?_⟩
    · have H := am_ie hc H
      exact T_Mod_isShut_24 q3.2 H
    · have H := am_it hc H
      show am_gi (D + 1) 174 o (20, [(0, .ref 53), (1, .int a1)], [], ww q3.2, 0, 0)
      exact am_go_blk 2 (T_Mod_isShut_25 (nI 1) q3.2 H)
theorem M_Mod_isShut {D : Nat} {o : Int32 × am_W} {a1 : Int32} {w : am_W} (H : F_Mod_isShut a1 w = some o) : am_run (D + 2) 174 [.ref 53, .int a1] (ww w) (some (.int o.1)) (ww o.2) 0 0 :=
  am_run_of rfl (T_Mod_isShut a1 w H)
def F_Mod_lockTold_48 (a1 : Int32) (a2 : Int32) (w : am_W) : Option (Int32 × am_W) :=
  am_ck (am_in (((nI 3) * a1) + a2) 30) (some ((w.1 57 (((nI 3) * a1) + a2).toNatClampNeg), w))
def F_Mod_lockTold_72 (s0 : Int32) (w : am_W) : Option (Int32 × am_W) :=
  some (s0, w)
def F_Mod_lockTold_86 (s0 : Int32) (w : am_W) : Option (Int32 × am_W) :=
  some (s0, w)
def F_Mod_lockTold (a1 : Int32) (a2 : Int32) (w : am_W) : Option (Int32 × am_W) :=
  (F_Mod_isLock a1 w).bind fun q1 => if q1.1 = 0 then (some ((-nI 5), q1.2)) else (if a2.toInt = 0 then (F_Mod_lockTold_48 a1 a2 q1.2) else if a2.toInt = 1 then (F_Mod_lockTold_48 a1 a2 q1.2) else if a2.toInt = 2 then (F_Mod_lockTold_48 a1 a2 q1.2) else if a2.toInt = 3 then ((F_Mod_isSawn a1 q1.2).bind fun q2 => if q2.1 = 0 then (F_Mod_lockTold_72 (nI 0) q2.2) else (F_Mod_lockTold_72 (nI 1) q2.2)) else if a2.toInt = 4 then ((F_Mod_isShut a1 q1.2).bind fun q3 => if q3.1 = 0 then (F_Mod_lockTold_86 (nI 0) q3.2) else (F_Mod_lockTold_86 (nI 1) q3.2)) else (some ((-nI 7), q1.2)))
theorem T_Mod_lockTold_48 {D : Nat} {o : Int32 × am_W} (a1 : Int32) (a2 : Int32) (w : am_W) (H : F_Mod_lockTold_48 a1 a2 w = some o) : am_gi (D + 2) 175 o (48, [(0, .ref 53), (1, .int a1), (2, .int a2)], [], ww w, 0, 0) := by
  unfold F_Mod_lockTold_48 at H
  obtain ⟨hc, H⟩ := am_ckE H
  refine am_go_blk 8 ⟨am_inv hc, (?_ : am_gi (D + 2) 175 o (58, [(0, .ref 53), (1, .int a1), (2, .int a2)], [.int (w.1 57 (((nI 3) * a1) + a2).toNatClampNeg)], ww w, 0, 0))⟩
  exact am_go_blk 1 ⟨rfl, am_fi H⟩
theorem T_Mod_lockTold_72 {D : Nat} {o : Int32 × am_W} (s0 : Int32) (w : am_W) (H : F_Mod_lockTold_72 s0 w = some o) : am_gi (D + 2) 175 o (72, [], [.int s0], ww w, 0, 0) := by
  unfold F_Mod_lockTold_72 at H
  exact am_go_blk 1 ⟨rfl, am_fi H⟩
theorem T_Mod_lockTold_86 {D : Nat} {o : Int32 × am_W} (s0 : Int32) (w : am_W) (H : F_Mod_lockTold_86 s0 w = some o) : am_gi (D + 2) 175 o (86, [], [.int s0], ww w, 0, 0) := by
  unfold F_Mod_lockTold_86 at H
  exact am_go_blk 1 ⟨rfl, am_fi H⟩
theorem T_Mod_lockTold {D : Nat} {o : Int32 × am_W} (a1 : Int32) (a2 : Int32) (w : am_W) (H : F_Mod_lockTold a1 a2 w = some o) : am_gi (D + 2) 175 o (0, [(0, .ref 53), (1, .int a1), (2, .int a2)], [], ww w, 0, 0) := by
  unfold F_Mod_lockTold at H
  obtain ⟨q1, hqq1, H⟩ := am_bnE H
  refine am_go_blk 2 (?_ : am_gi (D + 2) 175 o (2, [(0, .ref 53), (1, .int a1), (2, .int a2)], [.int a1, .ref 53], ww w, 0, 0))
  refine am_invd rfl rfl rfl rfl (am_calli rfl (M_Mod_isLock (D := D) hqq1) (?_ : am_gi (D + 2) 175 o (5, [(0, .ref 53), (1, .int a1), (2, .int a2)], [.int q1.1], ww q1.2, 0, 0)))
  refine am_go_blk 1 ⟨fun hc => ?_, fun hc => ?_⟩
  · have H := am_ie hc H
    show am_gi (D + 2) 175 o (11, [(0, .ref 53), (1, .int a1), (2, .int a2)], [], ww q1.2, 0, 0)
    refine am_go_blk 2 ⟨fun hc => ?_, fun hc => ?_⟩
    · have H := am_it hc H
      exact T_Mod_lockTold_48 a1 a2 q1.2 H
    have H := am_ie hc H
    refine ⟨fun hc => ?_, fun hc => ?_⟩
    · have H := am_it hc H
      exact T_Mod_lockTold_48 a1 a2 q1.2 H
    have H := am_ie hc H
    refine ⟨fun hc => ?_, fun hc => ?_⟩
    · have H := am_it hc H
      exact T_Mod_lockTold_48 a1 a2 q1.2 H
    have H := am_ie hc H
    refine ⟨fun hc => ?_, fun hc => ?_⟩
    · have H := am_it hc H
      show am_gi (D + 2) 175 o (59, [(0, .ref 53), (1, .int a1)], [], ww q1.2, 0, 0)
      obtain ⟨q2, hqq2, H⟩ := am_bnE H
      refine am_go_blk 2 (?_ : am_gi (D + 2) 175 o (61, [(0, .ref 53), (1, .int a1)], [.int a1, .ref 53], ww q1.2, 0, 0))
      refine am_invd rfl rfl rfl rfl (am_calli rfl (M_Mod_isSawn (D := D + 1) hqq2) (?_ : am_gi (D + 2) 175 o (64, [(0, .ref 53), (1, .int a1)], [.int q2.1], ww q2.2, 0, 0)))
      refine am_go_blk 1 ⟨fun hc => ?_, fun hc => ?_⟩
      · have H := am_it hc H
        show am_gi (D + 2) 175 o (71, [], [], ww q2.2, 0, 0)
        exact am_go_blk 1 (T_Mod_lockTold_72 (nI 0) q2.2 H)
      · have H := am_ie hc H
        show am_gi (D + 2) 175 o (67, [(0, .ref 53), (1, .int a1)], [], ww q2.2, 0, 0)
        exact am_go_blk 2 (T_Mod_lockTold_72 (nI 1) q2.2 H)
    have H := am_ie hc H
    refine ⟨fun hc => ?_, fun hc => ?_⟩
    · have H := am_it hc H
      show am_gi (D + 2) 175 o (73, [(0, .ref 53), (1, .int a1)], [], ww q1.2, 0, 0)
      obtain ⟨q3, hqq3, H⟩ := am_bnE H
      refine am_go_blk 2 (?_ : am_gi (D + 2) 175 o (75, [(0, .ref 53), (1, .int a1)], [.int a1, .ref 53], ww q1.2, 0, 0))
      refine am_invd rfl rfl rfl rfl (am_calli rfl (M_Mod_isShut (D := D) hqq3) (?_ : am_gi (D + 2) 175 o (78, [(0, .ref 53), (1, .int a1)], [.int q3.1], ww q3.2, 0, 0)))
      refine am_go_blk 1 ⟨fun hc => ?_, fun hc => ?_⟩
      · have H := am_it hc H
        show am_gi (D + 2) 175 o (85, [], [], ww q3.2, 0, 0)
        exact am_go_blk 1 (T_Mod_lockTold_86 (nI 0) q3.2 H)
      · have H := am_ie hc H
        show am_gi (D + 2) 175 o (81, [(0, .ref 53), (1, .int a1)], [], ww q3.2, 0, 0)
        exact am_go_blk 2 (T_Mod_lockTold_86 (nI 1) q3.2 H)
    have H := am_ie hc H
    show am_gi (D + 2) 175 o (87, [], [], ww q1.2, 0, 0)
    exact am_go_blk 2 ⟨rfl, am_fi H⟩
  · have H := am_it hc H
    show am_gi (D + 2) 175 o (8, [(0, .ref 53), (1, .int a1), (2, .int a2)], [], ww q1.2, 0, 0)
    exact am_go_blk 2 ⟨rfl, am_fi H⟩
theorem M_Mod_lockTold {D : Nat} {o : Int32 × am_W} {a1 : Int32} {a2 : Int32} {w : am_W} (H : F_Mod_lockTold a1 a2 w = some o) : am_run (D + 3) 175 [.ref 53, .int a1, .int a2] (ww w) (some (.int o.1)) (ww o.2) 0 0 :=
  am_run_of rfl (T_Mod_lockTold a1 a2 w H)
def F_Mod_isHeldBySort_43 (s0 : Int32) (w : am_W) : Option (Int32 × am_W) :=
  am_ck (am_bo s0) (some (s0, w))
def F_Mod_isHeldBySort_42 (w : am_W) : Option (Int32 × am_W) :=
  F_Mod_isHeldBySort_43 (nI 0) w
def F_Mod_isHeldBySort_38 (w : am_W) : Option (Int32 × am_W) :=
  F_Mod_isHeldBySort_43 (nI 1) w
def F_Mod_isHeldBySort_21 (a1 : Int32) (a2 : Int32) (a3 : Int32) (w : am_W) : Option (Int32 × am_W) :=
  if a3 = (nI 4) then (am_ck (am_in a1 8) (if ((nI 3) * a2) ≤ (w.1 55 a1.toNatClampNeg) then (F_Mod_isHeldBySort_42 w) else (F_Mod_isHeldBySort_38 w))) else (F_Mod_isHeldBySort_38 w)
def F_Mod_isHeldBySort_17 (a1 : Int32) (a2 : Int32) (a3 : Int32) (w : am_W) : Option (Int32 × am_W) :=
  if a2 = 0 then (F_Mod_isHeldBySort_42 w) else (F_Mod_isHeldBySort_21 a1 a2 a3 w)
def F_Mod_isHeldBySort (a1 : Int32) (a2 : Int32) (w : am_W) : Option (Int32 × am_W) :=
  am_ck (am_in a1 8) (if (w.1 54 a1.toNatClampNeg) = (nI 2) then (F_Mod_isHeldBySort_17 a1 a2 (w.1 54 a1.toNatClampNeg) w) else (if (w.1 54 a1.toNatClampNeg) = (nI 4) then (F_Mod_isHeldBySort_17 a1 a2 (w.1 54 a1.toNatClampNeg) w) else (F_Mod_isHeldBySort_21 a1 a2 (w.1 54 a1.toNatClampNeg) w)))
theorem T_Mod_isHeldBySort_43 {D : Nat} {o : Int32 × am_W} (s0 : Int32) (w : am_W) (H : F_Mod_isHeldBySort_43 s0 w = some o) : am_gi D 176 o (43, [], [.int s0], ww w, 0, 0) := by
  unfold F_Mod_isHeldBySort_43 at H
  obtain ⟨hc, H⟩ := am_ckE H
  exact am_go_blk 1 ⟨am_boE hc, am_fi H⟩
theorem T_Mod_isHeldBySort_42 {D : Nat} {o : Int32 × am_W} (w : am_W) (H : F_Mod_isHeldBySort_42 w = some o) : am_gi D 176 o (42, [], [], ww w, 0, 0) := by
  unfold F_Mod_isHeldBySort_42 at H
  exact am_go_blk 1 (T_Mod_isHeldBySort_43 (nI 0) w H)
theorem T_Mod_isHeldBySort_38 {D : Nat} {o : Int32 × am_W} (w : am_W) (H : F_Mod_isHeldBySort_38 w = some o) : am_gi D 176 o (38, [], [], ww w, 0, 0) := by
  unfold F_Mod_isHeldBySort_38 at H
  exact am_go_blk 2 (T_Mod_isHeldBySort_43 (nI 1) w H)
theorem T_Mod_isHeldBySort_21 {D : Nat} {o : Int32 × am_W} (a1 : Int32) (a2 : Int32) (a3 : Int32) (w : am_W) (H : F_Mod_isHeldBySort_21 a1 a2 a3 w = some o) : am_gi D 176 o (21, [(0, .ref 53), (1, .int a1), (2, .int a2), (3, .int a3)], [], ww w, 0, 0) := by
  unfold F_Mod_isHeldBySort_21 at H
  refine am_go_blk 3 ⟨fun hc => ?_, fun hc => ?_⟩
  · have H := am_ie hc H
    exact T_Mod_isHeldBySort_38 w H
  · have H := am_it hc H
    show am_gi D 176 o (26, [(0, .ref 53), (1, .int a1), (2, .int a2), (3, .int a3)], [], ww w, 0, 0)
    obtain ⟨hc, H⟩ := am_ckE H
    refine am_go_blk 7 ⟨am_inv hc, (?_ : am_gi D 176 o (35, [(0, .ref 53), (1, .int a1), (2, .int a2), (3, .int a3)], [.int (w.1 55 a1.toNatClampNeg), .int ((nI 3) * a2)], ww w, 0, 0))⟩
    refine am_go_blk 1 ⟨fun hc => ?_, fun hc => ?_⟩
    · have H := am_it hc H
      exact T_Mod_isHeldBySort_42 w H
    · have H := am_ie hc H
      exact T_Mod_isHeldBySort_38 w H
theorem T_Mod_isHeldBySort_17 {D : Nat} {o : Int32 × am_W} (a1 : Int32) (a2 : Int32) (a3 : Int32) (w : am_W) (H : F_Mod_isHeldBySort_17 a1 a2 a3 w = some o) : am_gi D 176 o (17, [(0, .ref 53), (1, .int a1), (2, .int a2), (3, .int a3)], [], ww w, 0, 0) := by
  unfold F_Mod_isHeldBySort_17 at H
  refine am_go_blk 2 ⟨fun hc => ?_, fun hc => ?_⟩
  · have H := am_it hc H
    exact T_Mod_isHeldBySort_42 w H
  · have H := am_ie hc H
    exact T_Mod_isHeldBySort_21 a1 a2 a3 w H
theorem T_Mod_isHeldBySort {D : Nat} {o : Int32 × am_W} (a1 : Int32) (a2 : Int32) (w : am_W) (H : F_Mod_isHeldBySort a1 a2 w = some o) : am_gi D 176 o (0, [(0, .ref 53), (1, .int a1), (2, .int a2)], [], ww w, 0, 0) := by
  unfold F_Mod_isHeldBySort at H
  obtain ⟨hc, H⟩ := am_ckE H
  refine am_go_blk 4 ⟨am_inv hc, (?_ : am_gi D 176 o (6, [(0, .ref 53), (1, .int a1), (2, .int a2)], [.int (w.1 54 a1.toNatClampNeg)], ww w, 0, 0))⟩
  refine am_go_blk 4 ⟨fun hc => ?_, fun hc => ?_⟩
  · have H := am_it hc H
    exact T_Mod_isHeldBySort_17 a1 a2 (w.1 54 a1.toNatClampNeg) w H
  · have H := am_ie hc H
    show am_gi D 176 o (12, [(3, .int (w.1 54 a1.toNatClampNeg)), (0, .ref 53), (1, .int a1), (2, .int a2)], [], ww w, 0, 0)
    refine am_go_blk 3 ⟨fun hc => ?_, fun hc => ?_⟩
    · have H := am_ie hc H
      exact T_Mod_isHeldBySort_21 a1 a2 (w.1 54 a1.toNatClampNeg) w H
    · have H := am_it hc H
      exact T_Mod_isHeldBySort_17 a1 a2 (w.1 54 a1.toNatClampNeg) w H
theorem M_Mod_isHeldBySort {D : Nat} {o : Int32 × am_W} {a1 : Int32} {a2 : Int32} {w : am_W} (H : F_Mod_isHeldBySort a1 a2 w = some o) : am_run (D + 1) 176 [.ref 53, .int a1, .int a2] (ww w) (some (.int o.1)) (ww o.2) 0 0 :=
  am_run_of rfl (T_Mod_isHeldBySort a1 a2 w H)
def F_Mod_fixes_62 (s0 : Int32) (w : am_W) : Option (Int32 × am_W) :=
  am_ck (am_bo s0) (some (s0, w))
def F_Mod_fixes_61 (w : am_W) : Option (Int32 × am_W) :=
  F_Mod_fixes_62 (nI 0) w
def F_Mod_fixes (a1 : Int32) (a2 : Int32) (w : am_W) : Option (Int32 × am_W) :=
  (F_Mod_through a1 w).bind fun q1 => (F_Mod_isShut a1 q1.2).bind fun q2 => if q2.1 = 0 then (F_Mod_fixes_61 q2.2) else ((F_Mod_through a1 q2.2).bind fun q3 => if ((q3.1 >>> (a2 &&& 31)) &&& (nI 1)) = (nI 1) then ((F_Mod_sortOf a1 q3.2).bind fun q4 => (F_Mod_isHeldBySort a2 q4.1 q4.2).bind fun q5 => if q5.1 = 0 then (F_Mod_fixes_61 q5.2) else (if ((q1.1 &&& ((q1.2.1 53 4) ^^^ (-nI 1))) &&& (((nI 1) <<< (a2 &&& 31)) ^^^ (-nI 1))) = 0 then (F_Mod_fixes_61 q5.2) else (F_Mod_fixes_62 (nI 1) q5.2))) else (F_Mod_fixes_61 q3.2))
theorem T_Mod_fixes_62 {D : Nat} {o : Int32 × am_W} (s0 : Int32) (w : am_W) (H : F_Mod_fixes_62 s0 w = some o) : am_gi (D + 2) 179 o (62, [], [.int s0], ww w, 0, 0) := by
  unfold F_Mod_fixes_62 at H
  obtain ⟨hc, H⟩ := am_ckE H
  exact am_go_blk 1 ⟨am_boE hc, am_fi H⟩
theorem T_Mod_fixes_61 {D : Nat} {o : Int32 × am_W} (w : am_W) (H : F_Mod_fixes_61 w = some o) : am_gi (D + 2) 179 o (61, [], [], ww w, 0, 0) := by
  unfold F_Mod_fixes_61 at H
  exact am_go_blk 1 (T_Mod_fixes_62 (nI 0) w H)
theorem T_Mod_fixes {D : Nat} {o : Int32 × am_W} (a1 : Int32) (a2 : Int32) (w : am_W) (H : F_Mod_fixes a1 a2 w = some o) : am_gi (D + 2) 179 o (0, [(0, .ref 53), (1, .int a1), (2, .int a2)], [], ww w, 0, 0) := by
  unfold F_Mod_fixes at H
  obtain ⟨q1, hqq1, H⟩ := am_bnE H
  refine am_go_blk 2 (?_ : am_gi (D + 2) 179 o (2, [(0, .ref 53), (1, .int a1), (2, .int a2)], [.int a1, .ref 53], ww w, 0, 0))
  refine am_invd rfl rfl rfl rfl (am_calli rfl (M_Mod_through (D := D + 1) hqq1) (?_ : am_gi (D + 2) 179 o (5, [(0, .ref 53), (1, .int a1), (2, .int a2)], [.int q1.1], ww q1.2, 0, 0)))
  obtain ⟨q2, hqq2, H⟩ := am_bnE H
  refine am_go_blk 14 (?_ : am_gi (D + 2) 179 o (21, [(3, .int ((q1.1 &&& ((q1.2.1 53 4) ^^^ (-nI 1))) &&& (((nI 1) <<< (a2 &&& 31)) ^^^ (-nI 1)))), (0, .ref 53), (1, .int a1), (2, .int a2)], [.int a1, .ref 53], ww q1.2, 0, 0))
  refine am_invd rfl rfl rfl rfl (am_calli rfl (M_Mod_isShut (D := D) hqq2) (?_ : am_gi (D + 2) 179 o (24, [(3, .int ((q1.1 &&& ((q1.2.1 53 4) ^^^ (-nI 1))) &&& (((nI 1) <<< (a2 &&& 31)) ^^^ (-nI 1)))), (0, .ref 53), (1, .int a1), (2, .int a2)], [.int q2.1], ww q2.2, 0, 0)))
  refine am_go_blk 1 ⟨fun hc => ?_, fun hc => ?_⟩
  · have H := am_it hc H
    exact T_Mod_fixes_61 q2.2 H
  · have H := am_ie hc H
    show am_gi (D + 2) 179 o (27, [(3, .int ((q1.1 &&& ((q1.2.1 53 4) ^^^ (-nI 1))) &&& (((nI 1) <<< (a2 &&& 31)) ^^^ (-nI 1)))), (0, .ref 53), (1, .int a1), (2, .int a2)], [], ww q2.2, 0, 0)
    obtain ⟨q3, hqq3, H⟩ := am_bnE H
    refine am_go_blk 2 (?_ : am_gi (D + 2) 179 o (29, [(3, .int ((q1.1 &&& ((q1.2.1 53 4) ^^^ (-nI 1))) &&& (((nI 1) <<< (a2 &&& 31)) ^^^ (-nI 1)))), (0, .ref 53), (1, .int a1), (2, .int a2)], [.int a1, .ref 53], ww q2.2, 0, 0))
    refine am_invd rfl rfl rfl rfl (am_calli rfl (M_Mod_through (D := D + 1) hqq3) (?_ : am_gi (D + 2) 179 o (32, [(3, .int ((q1.1 &&& ((q1.2.1 53 4) ^^^ (-nI 1))) &&& (((nI 1) <<< (a2 &&& 31)) ^^^ (-nI 1)))), (0, .ref 53), (1, .int a1), (2, .int a2)], [.int q3.1], ww q3.2, 0, 0)))
    refine am_go_blk 6 ⟨fun hc => ?_, fun hc => ?_⟩
    · have H := am_ie hc H
      exact T_Mod_fixes_61 q3.2 H
    · have H := am_it hc H
      show am_gi (D + 2) 179 o (40, [(3, .int ((q1.1 &&& ((q1.2.1 53 4) ^^^ (-nI 1))) &&& (((nI 1) <<< (a2 &&& 31)) ^^^ (-nI 1)))), (0, .ref 53), (1, .int a1), (2, .int a2)], [], ww q3.2, 0, 0)
      obtain ⟨q4, hqq4, H⟩ := am_bnE H
      refine am_go_blk 4 (?_ : am_gi (D + 2) 179 o (44, [(3, .int ((q1.1 &&& ((q1.2.1 53 4) ^^^ (-nI 1))) &&& (((nI 1) <<< (a2 &&& 31)) ^^^ (-nI 1)))), (0, .ref 53), (1, .int a1), (2, .int a2)], [.int a1, .ref 53, .int a2, .ref 53], ww q3.2, 0, 0))
      refine am_invd rfl rfl rfl rfl (am_calli rfl (M_Mod_sortOf (D := D + 1) hqq4) (?_ : am_gi (D + 2) 179 o (47, [(3, .int ((q1.1 &&& ((q1.2.1 53 4) ^^^ (-nI 1))) &&& (((nI 1) <<< (a2 &&& 31)) ^^^ (-nI 1)))), (0, .ref 53), (1, .int a1), (2, .int a2)], [.int q4.1, .int a2, .ref 53], ww q4.2, 0, 0)))
      obtain ⟨q5, hqq5, H⟩ := am_bnE H
      refine am_invd rfl rfl rfl rfl (am_calli rfl (M_Mod_isHeldBySort (D := D + 1) hqq5) (?_ : am_gi (D + 2) 179 o (50, [(3, .int ((q1.1 &&& ((q1.2.1 53 4) ^^^ (-nI 1))) &&& (((nI 1) <<< (a2 &&& 31)) ^^^ (-nI 1)))), (0, .ref 53), (1, .int a1), (2, .int a2)], [.int q5.1], ww q5.2, 0, 0)))
      refine am_go_blk 1 ⟨fun hc => ?_, fun hc => ?_⟩
      · have H := am_it hc H
        exact T_Mod_fixes_61 q5.2 H
      · have H := am_ie hc H
        show am_gi (D + 2) 179 o (53, [(3, .int ((q1.1 &&& ((q1.2.1 53 4) ^^^ (-nI 1))) &&& (((nI 1) <<< (a2 &&& 31)) ^^^ (-nI 1)))), (0, .ref 53), (1, .int a1), (2, .int a2)], [], ww q5.2, 0, 0)
        refine am_go_blk 2 ⟨fun hc => ?_, fun hc => ?_⟩
        · have H := am_it hc H
          exact T_Mod_fixes_61 q5.2 H
        · have H := am_ie hc H
          show am_gi (D + 2) 179 o (57, [(3, .int ((q1.1 &&& ((q1.2.1 53 4) ^^^ (-nI 1))) &&& (((nI 1) <<< (a2 &&& 31)) ^^^ (-nI 1)))), (0, .ref 53), (1, .int a1), (2, .int a2)], [], ww q5.2, 0, 0)
          exact am_go_blk 2 (T_Mod_fixes_62 (nI 1) q5.2 H)
theorem M_Mod_fixes {D : Nat} {o : Int32 × am_W} {a1 : Int32} {a2 : Int32} {w : am_W} (H : F_Mod_fixes a1 a2 w = some o) : am_run (D + 3) 179 [.ref 53, .int a1, .int a2] (ww w) (some (.int o.1)) (ww o.2) 0 0 :=
  am_run_of rfl (T_Mod_fixes a1 a2 w H)
def F_Mod_holdsNow_38 (r4 : Int32 → Int32 → Int32 → am_W → Option (Int32 × am_W)) (a1 : Int32) (a3 : Int32) (s0 : Int32) (s1 : Int32) (w : am_W) : Option (Int32 × am_W) :=
  r4 a1 (s1 ||| s0) (a3 + (nI 1)) w
def F_Mod_holdsNow_37 (r4 : Int32 → Int32 → Int32 → am_W → Option (Int32 × am_W)) (a1 : Int32) (a3 : Int32) (s0 : Int32) (w : am_W) : Option (Int32 × am_W) :=
  F_Mod_holdsNow_38 r4 a1 a3 (nI 0) s0 w
def F_Mod_holdsNow_4 (r4 : Int32 → Int32 → Int32 → am_W → Option (Int32 × am_W)) (a1 : Int32) (a2 : Int32) (a3 : Int32) (w : am_W) : Option (Int32 × am_W) :=
  if (w.1 53 5) ≤ a3 then (some (a2, w)) else ((F_Mod_owner a3 w).bind fun q1 => if q1.1 = a1 then (F_Mod_holdsNow_37 r4 a1 a3 a2 q1.2) else ((F_Mod_fixes a3 a1 q1.2).bind fun q2 => if q2.1 = 0 then (F_Mod_holdsNow_37 r4 a1 a3 a2 q2.2) else (F_Mod_holdsNow_38 r4 a1 a3 ((nI 1) <<< (a3 &&& 31)) a2 q2.2)))
def L_Mod_holdsNow_4 : Nat → Int32 → Int32 → Int32 → am_W → Option (Int32 × am_W)
  | 0, _, _, _, _ => none
  | n + 1, a1, a2, a3, w => F_Mod_holdsNow_4 (L_Mod_holdsNow_4 n) a1 a2 a3 w
def F_Mod_holdsNow (a1 : Int32) (w : am_W) : Option (Int32 × am_W) :=
  L_Mod_holdsNow_4 am_NF a1 (nI 0) (nI 0) w
theorem T_Mod_holdsNow_38 {D : Nat} {o : Int32 × am_W} {r4 : Int32 → Int32 → Int32 → am_W → Option (Int32 × am_W)} (Hr4 : ∀ (a1 : Int32) (a2 : Int32) (a3 : Int32) (w : am_W) , r4 a1 a2 a3 w = some o → am_gi (D + 3) 180 o (4, [(0, .ref 53), (1, .int a1), (2, .int a2), (3, .int a3)], [], ww w, 0, 0)) (a1 : Int32) (a3 : Int32) (s0 : Int32) (s1 : Int32) (w : am_W) (H : F_Mod_holdsNow_38 r4 a1 a3 s0 s1 w = some o) : am_gi (D + 3) 180 o (38, [(0, .ref 53), (1, .int a1), (3, .int a3)], [.int s0, .int s1], ww w, 0, 0) := by
  unfold F_Mod_holdsNow_38 at H
  exact am_go_blk 4 (Hr4 a1 (s1 ||| s0) (a3 + (nI 1)) w H)
theorem T_Mod_holdsNow_37 {D : Nat} {o : Int32 × am_W} {r4 : Int32 → Int32 → Int32 → am_W → Option (Int32 × am_W)} (Hr4 : ∀ (a1 : Int32) (a2 : Int32) (a3 : Int32) (w : am_W) , r4 a1 a2 a3 w = some o → am_gi (D + 3) 180 o (4, [(0, .ref 53), (1, .int a1), (2, .int a2), (3, .int a3)], [], ww w, 0, 0)) (a1 : Int32) (a3 : Int32) (s0 : Int32) (w : am_W) (H : F_Mod_holdsNow_37 r4 a1 a3 s0 w = some o) : am_gi (D + 3) 180 o (37, [(0, .ref 53), (1, .int a1), (3, .int a3)], [.int s0], ww w, 0, 0) := by
  unfold F_Mod_holdsNow_37 at H
  exact am_go_blk 1 (T_Mod_holdsNow_38 Hr4 a1 a3 (nI 0) s0 w H)
theorem T_Mod_holdsNow_4 {D : Nat} {o : Int32 × am_W} {r4 : Int32 → Int32 → Int32 → am_W → Option (Int32 × am_W)} (Hr4 : ∀ (a1 : Int32) (a2 : Int32) (a3 : Int32) (w : am_W) , r4 a1 a2 a3 w = some o → am_gi (D + 3) 180 o (4, [(0, .ref 53), (1, .int a1), (2, .int a2), (3, .int a3)], [], ww w, 0, 0)) (a1 : Int32) (a2 : Int32) (a3 : Int32) (w : am_W) (H : F_Mod_holdsNow_4 r4 a1 a2 a3 w = some o) : am_gi (D + 3) 180 o (4, [(0, .ref 53), (1, .int a1), (2, .int a2), (3, .int a3)], [], ww w, 0, 0) := by
  unfold F_Mod_holdsNow_4 at H
  refine am_go_blk 4 ⟨fun hc => ?_, fun hc => ?_⟩
  · have H := am_it hc H
    show am_gi (D + 3) 180 o (46, [(2, .int a2)], [], ww w, 0, 0)
    exact am_go_blk 2 ⟨rfl, am_fi H⟩
  · have H := am_ie hc H
    show am_gi (D + 3) 180 o (12, [(0, .ref 53), (1, .int a1), (2, .int a2), (3, .int a3)], [], ww w, 0, 0)
    obtain ⟨q1, hqq1, H⟩ := am_bnE H
    refine am_go_blk 3 (?_ : am_gi (D + 3) 180 o (15, [(0, .ref 53), (1, .int a1), (2, .int a2), (3, .int a3)], [.int a3, .ref 53, .int a2], ww w, 0, 0))
    refine am_invd rfl rfl rfl rfl (am_calli rfl (M_Mod_owner (D := D + 2) hqq1) (?_ : am_gi (D + 3) 180 o (18, [(0, .ref 53), (1, .int a1), (2, .int a2), (3, .int a3)], [.int q1.1, .int a2], ww q1.2, 0, 0)))
    refine am_go_blk 2 ⟨fun hc => ?_, fun hc => ?_⟩
    · have H := am_it hc H
      exact T_Mod_holdsNow_37 Hr4 a1 a3 a2 q1.2 H
    · have H := am_ie hc H
      show am_gi (D + 3) 180 o (22, [(0, .ref 53), (1, .int a1), (2, .int a2), (3, .int a3)], [.int a2], ww q1.2, 0, 0)
      obtain ⟨q2, hqq2, H⟩ := am_bnE H
      refine am_go_blk 3 (?_ : am_gi (D + 3) 180 o (25, [(0, .ref 53), (1, .int a1), (2, .int a2), (3, .int a3)], [.int a1, .int a3, .ref 53, .int a2], ww q1.2, 0, 0))
      refine am_invd rfl rfl rfl rfl (am_calli rfl (M_Mod_fixes (D := D) hqq2) (?_ : am_gi (D + 3) 180 o (28, [(0, .ref 53), (1, .int a1), (2, .int a2), (3, .int a3)], [.int q2.1, .int a2], ww q2.2, 0, 0)))
      refine am_go_blk 1 ⟨fun hc => ?_, fun hc => ?_⟩
      · have H := am_it hc H
        exact T_Mod_holdsNow_37 Hr4 a1 a3 a2 q2.2 H
      · have H := am_ie hc H
        show am_gi (D + 3) 180 o (31, [(0, .ref 53), (1, .int a1), (2, .int a2), (3, .int a3)], [.int a2], ww q2.2, 0, 0)
        exact am_go_blk 4 (T_Mod_holdsNow_38 Hr4 a1 a3 ((nI 1) <<< (a3 &&& 31)) a2 q2.2 H)
theorem TL_Mod_holdsNow_4 {D : Nat} {o : Int32 × am_W} : ∀ (n : Nat) (a1 : Int32) (a2 : Int32) (a3 : Int32) (w : am_W) , L_Mod_holdsNow_4 n a1 a2 a3 w = some o → am_gi (D + 3) 180 o (4, [(0, .ref 53), (1, .int a1), (2, .int a2), (3, .int a3)], [], ww w, 0, 0)
  | 0, _, _, _, _, H => by cases H
  | n + 1, a1, a2, a3, w, H => T_Mod_holdsNow_4 (TL_Mod_holdsNow_4 n) a1 a2 a3 w H
theorem T_Mod_holdsNow {D : Nat} {o : Int32 × am_W} (a1 : Int32) (w : am_W) (H : F_Mod_holdsNow a1 w = some o) : am_gi (D + 3) 180 o (0, [(0, .ref 53), (1, .int a1)], [], ww w, 0, 0) := by
  unfold F_Mod_holdsNow at H
  exact am_go_blk 4 (TL_Mod_holdsNow_4 am_NF a1 (nI 0) (nI 0) w H)
theorem M_Mod_holdsNow {D : Nat} {o : Int32 × am_W} {a1 : Int32} {w : am_W} (H : F_Mod_holdsNow a1 w = some o) : am_run (D + 4) 180 [.ref 53, .int a1] (ww w) (some (.int o.1)) (ww o.2) 0 0 :=
  am_run_of rfl (T_Mod_holdsNow a1 w H)
def F_Mod_holds_18 (s0 : Int32) (w : am_W) : Option (Int32 × am_W) :=
  some (s0, w)
def F_Mod_holds (a1 : Int32) (w : am_W) : Option (Int32 × am_W) :=
  (F_Mod_isThing a1 w).bind fun q1 => if q1.1 = 0 then (F_Mod_holds_18 (-nI 5) q1.2) else ((F_Mod_holdsNow a1 q1.2).bind fun q2 => F_Mod_holds_18 q2.1 q2.2)
theorem T_Mod_holds_18 {D : Nat} {o : Int32 × am_W} (s0 : Int32) (w : am_W) (H : F_Mod_holds_18 s0 w = some o) : am_gi (D + 4) 181 o (18, [], [.int s0], ww w, 0, 0) := by
  unfold F_Mod_holds_18 at H
  exact am_go_blk 1 ⟨rfl, am_fi H⟩
theorem T_Mod_holds {D : Nat} {o : Int32 × am_W} (a1 : Int32) (w : am_W) (H : F_Mod_holds a1 w = some o) : am_gi (D + 4) 181 o (0, [(0, .ref 53), (1, .int a1)], [], ww w, 0, 0) := by
  unfold F_Mod_holds at H
  obtain ⟨q1, hqq1, H⟩ := am_bnE H
  refine am_go_blk 2 (?_ : am_gi (D + 4) 181 o (2, [(0, .ref 53), (1, .int a1)], [.int a1, .ref 53], ww w, 0, 0))
  refine am_invd rfl rfl rfl rfl (am_calli rfl (M_Mod_isThing (D := D + 2) hqq1) (?_ : am_gi (D + 4) 181 o (5, [(0, .ref 53), (1, .int a1)], [.int q1.1], ww q1.2, 0, 0)))
  refine am_go_blk 1 ⟨fun hc => ?_, fun hc => ?_⟩
  · have H := am_it hc H
    show am_gi (D + 4) 181 o (16, [], [], ww q1.2, 0, 0)
    exact am_go_blk 1 (T_Mod_holds_18 (-nI 5) q1.2 H)
  · have H := am_ie hc H
    show am_gi (D + 4) 181 o (8, [(0, .ref 53), (1, .int a1)], [], ww q1.2, 0, 0)
    obtain ⟨q2, hqq2, H⟩ := am_bnE H
    refine am_go_blk 2 (?_ : am_gi (D + 4) 181 o (10, [(0, .ref 53), (1, .int a1)], [.int a1, .ref 53], ww q1.2, 0, 0))
    refine am_invd rfl rfl rfl rfl (am_calli rfl (M_Mod_holdsNow (D := D) hqq2) (?_ : am_gi (D + 4) 181 o (13, [(0, .ref 53), (1, .int a1)], [.int q2.1], ww q2.2, 0, 0)))
    exact am_go_blk 1 (T_Mod_holds_18 q2.1 q2.2 H)
theorem M_Mod_holds {D : Nat} {o : Int32 × am_W} {a1 : Int32} {w : am_W} (H : F_Mod_holds a1 w = some o) : am_run (D + 5) 181 [.ref 53, .int a1] (ww w) (some (.int o.1)) (ww o.2) 0 0 :=
  am_run_of rfl (T_Mod_holds a1 w H)
def F_Mod_canGo_21 (s0 : Int32) (w : am_W) : Option (Int32 × am_W) :=
  am_ck (am_bo s0) (some (s0, w))
def F_Mod_canGo_20 (w : am_W) : Option (Int32 × am_W) :=
  F_Mod_canGo_21 (nI 0) w
def F_Mod_canGo (a1 : Int32) (w : am_W) : Option (Int32 × am_W) :=
  (F_Mod_isGone a1 w).bind fun q1 => if q1.1 = 0 then ((F_Mod_holdsNow a1 q1.2).bind fun q2 => if q2.1 = 0 then (F_Mod_canGo_21 (nI 1) q2.2) else (F_Mod_canGo_20 q2.2)) else (F_Mod_canGo_20 q1.2)
theorem T_Mod_canGo_21 {D : Nat} {o : Int32 × am_W} (s0 : Int32) (w : am_W) (H : F_Mod_canGo_21 s0 w = some o) : am_gi (D + 4) 182 o (21, [], [.int s0], ww w, 0, 0) := by
  unfold F_Mod_canGo_21 at H
  obtain ⟨hc, H⟩ := am_ckE H
  exact am_go_blk 1 ⟨am_boE hc, am_fi H⟩
theorem T_Mod_canGo_20 {D : Nat} {o : Int32 × am_W} (w : am_W) (H : F_Mod_canGo_20 w = some o) : am_gi (D + 4) 182 o (20, [], [], ww w, 0, 0) := by
  unfold F_Mod_canGo_20 at H
  exact am_go_blk 1 (T_Mod_canGo_21 (nI 0) w H)
theorem T_Mod_canGo {D : Nat} {o : Int32 × am_W} (a1 : Int32) (w : am_W) (H : F_Mod_canGo a1 w = some o) : am_gi (D + 4) 182 o (0, [(0, .ref 53), (1, .int a1)], [], ww w, 0, 0) := by
  unfold F_Mod_canGo at H
  obtain ⟨q1, hqq1, H⟩ := am_bnE H
  refine am_go_blk 2 (?_ : am_gi (D + 4) 182 o (2, [(0, .ref 53), (1, .int a1)], [.int a1, .ref 53], ww w, 0, 0))
  refine am_invd rfl rfl rfl rfl (am_calli rfl (M_Mod_isGone (D := D + 3) hqq1) (?_ : am_gi (D + 4) 182 o (5, [(0, .ref 53), (1, .int a1)], [.int q1.1], ww q1.2, 0, 0)))
  refine am_go_blk 1 ⟨fun hc => ?_, fun hc => ?_⟩
  · have H := am_ie hc H
    exact T_Mod_canGo_20 q1.2 H
  · have H := am_it hc H
    show am_gi (D + 4) 182 o (8, [(0, .ref 53), (1, .int a1)], [], ww q1.2, 0, 0)
    obtain ⟨q2, hqq2, H⟩ := am_bnE H
    refine am_go_blk 2 (?_ : am_gi (D + 4) 182 o (10, [(0, .ref 53), (1, .int a1)], [.int a1, .ref 53], ww q1.2, 0, 0))
    refine am_invd rfl rfl rfl rfl (am_calli rfl (M_Mod_holdsNow (D := D) hqq2) (?_ : am_gi (D + 4) 182 o (13, [(0, .ref 53), (1, .int a1)], [.int q2.1], ww q2.2, 0, 0)))
    refine am_go_blk 1 ⟨fun hc => ?_, fun hc => ?_⟩
    · have H := am_ie hc H
      exact T_Mod_canGo_20 q2.2 H
    · have H := am_it hc H
      show am_gi (D + 4) 182 o (16, [(0, .ref 53), (1, .int a1)], [], ww q2.2, 0, 0)
      exact am_go_blk 2 (T_Mod_canGo_21 (nI 1) q2.2 H)
theorem M_Mod_canGo {D : Nat} {o : Int32 × am_W} {a1 : Int32} {w : am_W} (H : F_Mod_canGo a1 w = some o) : am_run (D + 5) 182 [.ref 53, .int a1] (ww w) (some (.int o.1)) (ww o.2) 0 0 :=
  am_run_of rfl (T_Mod_canGo a1 w H)
def F_Mod_free_28 (r4 : Int32 → Int32 → am_W → Option (Int32 × am_W)) (a2 : Int32) (s0 : Int32) (s1 : Int32) (w : am_W) : Option (Int32 × am_W) :=
  r4 (s1 ||| s0) (a2 + (nI 1)) w
def F_Mod_free_4 (r4 : Int32 → Int32 → am_W → Option (Int32 × am_W)) (a1 : Int32) (a2 : Int32) (w : am_W) : Option (Int32 × am_W) :=
  if (w.1 53 0) ≤ a2 then (some (a1, w)) else ((F_Mod_canGo a2 w).bind fun q1 => if q1.1 = 0 then (F_Mod_free_28 r4 a2 (nI 0) a1 q1.2) else (F_Mod_free_28 r4 a2 ((nI 1) <<< (a2 &&& 31)) a1 q1.2))
def L_Mod_free_4 : Nat → Int32 → Int32 → am_W → Option (Int32 × am_W)
  | 0, _, _, _ => none
  | n + 1, a1, a2, w => F_Mod_free_4 (L_Mod_free_4 n) a1 a2 w
def F_Mod_free (w : am_W) : Option (Int32 × am_W) :=
  L_Mod_free_4 am_NF (nI 0) (nI 0) w
theorem T_Mod_free_28 {D : Nat} {o : Int32 × am_W} {r4 : Int32 → Int32 → am_W → Option (Int32 × am_W)} (Hr4 : ∀ (a1 : Int32) (a2 : Int32) (w : am_W) , r4 a1 a2 w = some o → am_gi (D + 5) 183 o (4, [(0, .ref 53), (1, .int a1), (2, .int a2)], [], ww w, 0, 0)) (a2 : Int32) (s0 : Int32) (s1 : Int32) (w : am_W) (H : F_Mod_free_28 r4 a2 s0 s1 w = some o) : am_gi (D + 5) 183 o (28, [(0, .ref 53), (2, .int a2)], [.int s0, .int s1], ww w, 0, 0) := by
  unfold F_Mod_free_28 at H
  exact am_go_blk 4 (Hr4 (s1 ||| s0) (a2 + (nI 1)) w H)
theorem T_Mod_free_4 {D : Nat} {o : Int32 × am_W} {r4 : Int32 → Int32 → am_W → Option (Int32 × am_W)} (Hr4 : ∀ (a1 : Int32) (a2 : Int32) (w : am_W) , r4 a1 a2 w = some o → am_gi (D + 5) 183 o (4, [(0, .ref 53), (1, .int a1), (2, .int a2)], [], ww w, 0, 0)) (a1 : Int32) (a2 : Int32) (w : am_W) (H : F_Mod_free_4 r4 a1 a2 w = some o) : am_gi (D + 5) 183 o (4, [(0, .ref 53), (1, .int a1), (2, .int a2)], [], ww w, 0, 0) := by
  unfold F_Mod_free_4 at H
  refine am_go_blk 4 ⟨fun hc => ?_, fun hc => ?_⟩
  · have H := am_it hc H
    show am_gi (D + 5) 183 o (36, [(1, .int a1)], [], ww w, 0, 0)
    exact am_go_blk 2 ⟨rfl, am_fi H⟩
  · have H := am_ie hc H
    show am_gi (D + 5) 183 o (12, [(0, .ref 53), (1, .int a1), (2, .int a2)], [], ww w, 0, 0)
    obtain ⟨q1, hqq1, H⟩ := am_bnE H
    refine am_go_blk 3 (?_ : am_gi (D + 5) 183 o (15, [(0, .ref 53), (1, .int a1), (2, .int a2)], [.int a2, .ref 53, .int a1], ww w, 0, 0))
    refine am_invd rfl rfl rfl rfl (am_calli rfl (M_Mod_canGo (D := D) hqq1) (?_ : am_gi (D + 5) 183 o (18, [(0, .ref 53), (1, .int a1), (2, .int a2)], [.int q1.1, .int a1], ww q1.2, 0, 0)))
    refine am_go_blk 1 ⟨fun hc => ?_, fun hc => ?_⟩
    · have H := am_it hc H
      show am_gi (D + 5) 183 o (27, [(0, .ref 53), (2, .int a2)], [.int a1], ww q1.2, 0, 0)
      exact am_go_blk 1 (T_Mod_free_28 Hr4 a2 (nI 0) a1 q1.2 H)
    · have H := am_ie hc H
      show am_gi (D + 5) 183 o (21, [(0, .ref 53), (1, .int a1), (2, .int a2)], [.int a1], ww q1.2, 0, 0)
      exact am_go_blk 4 (T_Mod_free_28 Hr4 a2 ((nI 1) <<< (a2 &&& 31)) a1 q1.2 H)
theorem TL_Mod_free_4 {D : Nat} {o : Int32 × am_W} : ∀ (n : Nat) (a1 : Int32) (a2 : Int32) (w : am_W) , L_Mod_free_4 n a1 a2 w = some o → am_gi (D + 5) 183 o (4, [(0, .ref 53), (1, .int a1), (2, .int a2)], [], ww w, 0, 0)
  | 0, _, _, _, H => by cases H
  | n + 1, a1, a2, w, H => T_Mod_free_4 (TL_Mod_free_4 n) a1 a2 w H
theorem T_Mod_free {D : Nat} {o : Int32 × am_W} (w : am_W) (H : F_Mod_free w = some o) : am_gi (D + 5) 183 o (0, [(0, .ref 53)], [], ww w, 0, 0) := by
  unfold F_Mod_free at H
  exact am_go_blk 4 (TL_Mod_free_4 am_NF (nI 0) (nI 0) w H)
theorem M_Mod_free {D : Nat} {o : Int32 × am_W} {w : am_W} (H : F_Mod_free w = some o) : am_run (D + 6) 183 [.ref 53] (ww w) (some (.int o.1)) (ww o.2) 0 0 :=
  am_run_of rfl (T_Mod_free w H)
def F_Mod_go (a1 : Int32) (w : am_W) : Option (Int32 × am_W) :=
  (F_Mod_isThing a1 w).bind fun q1 => if q1.1 = 0 then (some ((-nI 5), q1.2)) else ((F_Mod_canGo a1 q1.2).bind fun q2 => if q2.1 = 0 then (some ((-nI 3), q2.2)) else (am_lt (wsf q2.2 53 4 ((q2.2.1 53 4) ||| ((nI 1) <<< (a1 &&& 31)))) fun w3 => (F_Mod_ones (w3.1 53 4) w3).bind fun q4 => some (((w3.1 53 0) - q4.1), q4.2)))
theorem T_Mod_go {D : Nat} {o : Int32 × am_W} (a1 : Int32) (w : am_W) (H : F_Mod_go a1 w = some o) : am_gi (D + 5) 184 o (0, [(0, .ref 53), (1, .int a1)], [], ww w, 0, 0) := by
  unfold F_Mod_go at H
  obtain ⟨q1, hqq1, H⟩ := am_bnE H
  refine am_go_blk 2 (?_ : am_gi (D + 5) 184 o (2, [(0, .ref 53), (1, .int a1)], [.int a1, .ref 53], ww w, 0, 0))
  refine am_invd rfl rfl rfl rfl (am_calli rfl (M_Mod_isThing (D := D + 3) hqq1) (?_ : am_gi (D + 5) 184 o (5, [(0, .ref 53), (1, .int a1)], [.int q1.1], ww q1.2, 0, 0)))
  refine am_go_blk 1 ⟨fun hc => ?_, fun hc => ?_⟩
  · have H := am_ie hc H
    show am_gi (D + 5) 184 o (11, [(0, .ref 53), (1, .int a1)], [], ww q1.2, 0, 0)
    obtain ⟨q2, hqq2, H⟩ := am_bnE H
    refine am_go_blk 2 (?_ : am_gi (D + 5) 184 o (13, [(0, .ref 53), (1, .int a1)], [.int a1, .ref 53], ww q1.2, 0, 0))
    refine am_invd rfl rfl rfl rfl (am_calli rfl (M_Mod_canGo (D := D) hqq2) (?_ : am_gi (D + 5) 184 o (16, [(0, .ref 53), (1, .int a1)], [.int q2.1], ww q2.2, 0, 0)))
    refine am_go_blk 1 ⟨fun hc => ?_, fun hc => ?_⟩
    · have H := am_ie hc H
      show am_gi (D + 5) 184 o (22, [(0, .ref 53), (1, .int a1)], [], ww q2.2, 0, 0)
      obtain ⟨w3, ew3, H⟩ := am_ltE H
      refine am_go_blk 8 ⟨rfl, rfl, am_hp (ww_f53_4 ew3) (?_ : am_gi (D + 5) 184 o (34, [(0, .ref 53), (1, .int a1)], [], ww w3, 0, 0))⟩
      obtain ⟨q4, hqq4, H⟩ := am_bnE H
      refine am_go_blk 4 (?_ : am_gi (D + 5) 184 o (42, [(0, .ref 53), (1, .int a1)], [.int (w3.1 53 4), .int (w3.1 53 0)], ww w3, 0, 0))
      refine am_cls rfl rfl rfl (am_calli rfl (M_Mod_ones (D := D + 4) hqq4) (?_ : am_gi (D + 5) 184 o (45, [(0, .ref 53), (1, .int a1)], [.int q4.1, .int (w3.1 53 0)], ww q4.2, 0, 0)))
      exact am_go_blk 2 ⟨rfl, am_fi H⟩
    · have H := am_it hc H
      show am_gi (D + 5) 184 o (19, [(0, .ref 53), (1, .int a1)], [], ww q2.2, 0, 0)
      exact am_go_blk 2 ⟨rfl, am_fi H⟩
  · have H := am_it hc H
    show am_gi (D + 5) 184 o (8, [(0, .ref 53), (1, .int a1)], [], ww q1.2, 0, 0)
    exact am_go_blk 2 ⟨rfl, am_fi H⟩
theorem M_Mod_go {D : Nat} {o : Int32 × am_W} {a1 : Int32} {w : am_W} (H : F_Mod_go a1 w = some o) : am_run (D + 6) 184 [.ref 53, .int a1] (ww w) (some (.int o.1)) (ww o.2) 0 0 :=
  am_run_of rfl (T_Mod_go a1 w H)
def F_Mod_sawsOf (a1 : Int32) (w : am_W) : Option (Int32 × am_W) :=
  (F_Mod_owner a1 w).bind fun q1 => (F_Mod_asksOf (nI 1) q1.1 a1 (nI 0) q1.2).bind fun q2 => some (q2.1, q2.2)
theorem T_Mod_sawsOf {D : Nat} {o : Int32 × am_W} (a1 : Int32) (w : am_W) (H : F_Mod_sawsOf a1 w = some o) : am_gi (D + 3) 185 o (0, [(0, .ref 53), (1, .int a1)], [], ww w, 0, 0) := by
  unfold F_Mod_sawsOf at H
  obtain ⟨q1, hqq1, H⟩ := am_bnE H
  refine am_go_blk 4 (?_ : am_gi (D + 3) 185 o (4, [(0, .ref 53), (1, .int a1)], [.int a1, .ref 53, .int (nI 1), .ref 53], ww w, 0, 0))
  refine am_invd rfl rfl rfl rfl (am_calli rfl (M_Mod_owner (D := D + 2) hqq1) (?_ : am_gi (D + 3) 185 o (7, [(0, .ref 53), (1, .int a1)], [.int q1.1, .int (nI 1), .ref 53], ww q1.2, 0, 0)))
  obtain ⟨q2, hqq2, H⟩ := am_bnE H
  refine am_go_blk 2 (?_ : am_gi (D + 3) 185 o (9, [(0, .ref 53), (1, .int a1)], [.int (nI 0), .int a1, .int q1.1, .int (nI 1), .ref 53], ww q1.2, 0, 0))
  refine am_invd rfl rfl rfl rfl (am_calli rfl (M_Mod_asksOf (D := D) hqq2) (?_ : am_gi (D + 3) 185 o (12, [(0, .ref 53), (1, .int a1)], [.int q2.1], ww q2.2, 0, 0)))
  exact am_go_blk 1 ⟨rfl, am_fi H⟩
theorem M_Mod_sawsOf {D : Nat} {o : Int32 × am_W} {a1 : Int32} {w : am_W} (H : F_Mod_sawsOf a1 w = some o) : am_run (D + 4) 185 [.ref 53, .int a1] (ww w) (some (.int o.1)) (ww o.2) 0 0 :=
  am_run_of rfl (T_Mod_sawsOf a1 w H)
def F_Mod_saw (a1 : Int32) (w : am_W) : Option (Int32 × am_W) :=
  (F_Mod_isLock a1 w).bind fun q1 => if q1.1 = 0 then (some ((-nI 5), q1.2)) else ((F_Mod_isShut a1 q1.2).bind fun q2 => if q2.1 = 0 then (some ((-nI 3), q2.2)) else (am_lt (wsf q2.2 53 7 ((q2.2.1 53 7) ||| ((nI 1) <<< (a1 &&& 31)))) fun w3 => (F_Mod_sawsOf a1 w3).bind fun q4 => some (q4.1, q4.2)))
theorem T_Mod_saw {D : Nat} {o : Int32 × am_W} (a1 : Int32) (w : am_W) (H : F_Mod_saw a1 w = some o) : am_gi (D + 4) 186 o (0, [(0, .ref 53), (1, .int a1)], [], ww w, 0, 0) := by
  unfold F_Mod_saw at H
  obtain ⟨q1, hqq1, H⟩ := am_bnE H
  refine am_go_blk 2 (?_ : am_gi (D + 4) 186 o (2, [(0, .ref 53), (1, .int a1)], [.int a1, .ref 53], ww w, 0, 0))
  refine am_invd rfl rfl rfl rfl (am_calli rfl (M_Mod_isLock (D := D + 2) hqq1) (?_ : am_gi (D + 4) 186 o (5, [(0, .ref 53), (1, .int a1)], [.int q1.1], ww q1.2, 0, 0)))
  refine am_go_blk 1 ⟨fun hc => ?_, fun hc => ?_⟩
  · have H := am_ie hc H
    show am_gi (D + 4) 186 o (11, [(0, .ref 53), (1, .int a1)], [], ww q1.2, 0, 0)
    obtain ⟨q2, hqq2, H⟩ := am_bnE H
    refine am_go_blk 2 (?_ : am_gi (D + 4) 186 o (13, [(0, .ref 53), (1, .int a1)], [.int a1, .ref 53], ww q1.2, 0, 0))
    refine am_invd rfl rfl rfl rfl (am_calli rfl (M_Mod_isShut (D := D + 2) hqq2) (?_ : am_gi (D + 4) 186 o (16, [(0, .ref 53), (1, .int a1)], [.int q2.1], ww q2.2, 0, 0)))
    refine am_go_blk 1 ⟨fun hc => ?_, fun hc => ?_⟩
    · have H := am_ie hc H
      show am_gi (D + 4) 186 o (22, [(0, .ref 53), (1, .int a1)], [], ww q2.2, 0, 0)
      obtain ⟨w3, ew3, H⟩ := am_ltE H
      refine am_go_blk 8 ⟨rfl, rfl, am_hp (ww_f53_7 ew3) (?_ : am_gi (D + 4) 186 o (34, [(0, .ref 53), (1, .int a1)], [], ww w3, 0, 0))⟩
      obtain ⟨q4, hqq4, H⟩ := am_bnE H
      refine am_go_blk 2 (?_ : am_gi (D + 4) 186 o (36, [(0, .ref 53), (1, .int a1)], [.int a1, .ref 53], ww w3, 0, 0))
      refine am_invd rfl rfl rfl rfl (am_calli rfl (M_Mod_sawsOf (D := D) hqq4) (?_ : am_gi (D + 4) 186 o (39, [(0, .ref 53), (1, .int a1)], [.int q4.1], ww q4.2, 0, 0)))
      exact am_go_blk 1 ⟨rfl, am_fi H⟩
    · have H := am_it hc H
      show am_gi (D + 4) 186 o (19, [(0, .ref 53), (1, .int a1)], [], ww q2.2, 0, 0)
      exact am_go_blk 2 ⟨rfl, am_fi H⟩
  · have H := am_it hc H
    show am_gi (D + 4) 186 o (8, [(0, .ref 53), (1, .int a1)], [], ww q1.2, 0, 0)
    exact am_go_blk 2 ⟨rfl, am_fi H⟩
theorem M_Mod_saw {D : Nat} {o : Int32 × am_W} {a1 : Int32} {w : am_W} (H : F_Mod_saw a1 w = some o) : am_run (D + 5) 186 [.ref 53, .int a1] (ww w) (some (.int o.1)) (ww o.2) 0 0 :=
  am_run_of rfl (T_Mod_saw a1 w H)
