/-! ===== the methods as functions, and that each does what its function says: Kinds_isOne .. Mod_text ===== -/
def F_Kinds_isOne_39 (w : am_W) : Option (Int32 × am_W) :=
  some ((nI 0), w)
def F_Kinds_isOne_4 (r4 : Int32 → Int32 → Int32 → am_W → Option (Int32 × am_W)) (a1 : Int32) (a2 : Int32) (a3 : Int32) (w : am_W) : Option (Int32 × am_W) :=
  if (nI 6) ≤ a3 then (F_Kinds_isOne_39 w) else (if a2 < 0 then (F_Kinds_isOne_39 w) else (if (nI 6) ≤ a2 then (F_Kinds_isOne_39 w) else (if a2 = a1 then (some ((nI 1), w)) else (am_ck (am_in a2 6) (r4 a1 (am_above a2.toNatClampNeg) (a3 + (nI 1)) w)))))
def L_Kinds_isOne_4 : Nat → Int32 → Int32 → Int32 → am_W → Option (Int32 × am_W)
  | 0, _, _, _, _ => none
  | n + 1, a1, a2, a3, w => F_Kinds_isOne_4 (L_Kinds_isOne_4 n) a1 a2 a3 w
def F_Kinds_isOne (a0 : Int32) (a1 : Int32) (w : am_W) : Option (Int32 × am_W) :=
  L_Kinds_isOne_4 am_NF a1 a0 (nI 0) w
theorem T_Kinds_isOne_39 {D : Nat} {o : Int32 × am_W} (w : am_W) (H : F_Kinds_isOne_39 w = some o) : am_gi D 9 o (39, [], [], ww w, 0, 0) := by
  unfold F_Kinds_isOne_39 at H
  exact am_go_blk 2 ⟨rfl, am_fi H⟩
theorem T_Kinds_isOne_4 {D : Nat} {o : Int32 × am_W} {r4 : Int32 → Int32 → Int32 → am_W → Option (Int32 × am_W)} (Hr4 : ∀ (a1 : Int32) (a2 : Int32) (a3 : Int32) (w : am_W) , r4 a1 a2 a3 w = some o → am_gi D 9 o (4, [(1, .int a1), (2, .int a2), (3, .int a3)], [], ww w, 0, 0)) (a1 : Int32) (a2 : Int32) (a3 : Int32) (w : am_W) (H : F_Kinds_isOne_4 r4 a1 a2 a3 w = some o) : am_gi D 9 o (4, [(1, .int a1), (2, .int a2), (3, .int a3)], [], ww w, 0, 0) := by
  unfold F_Kinds_isOne_4 at H
  refine am_go_blk 3 ⟨fun hc => ?_, fun hc => ?_⟩
  · have H := am_it hc H
    exact T_Kinds_isOne_39 w H
  · have H := am_ie hc H
    show am_gi D 9 o (10, [(1, .int a1), (2, .int a2), (3, .int a3)], [], ww w, 0, 0)
    refine am_go_blk 2 ⟨fun hc => ?_, fun hc => ?_⟩
    · have H := am_it hc H
      exact T_Kinds_isOne_39 w H
    · have H := am_ie hc H
      show am_gi D 9 o (14, [(1, .int a1), (2, .int a2), (3, .int a3)], [], ww w, 0, 0)
      refine am_go_blk 3 ⟨fun hc => ?_, fun hc => ?_⟩
      · have H := am_it hc H
        exact T_Kinds_isOne_39 w H
      · have H := am_ie hc H
        show am_gi D 9 o (20, [(1, .int a1), (2, .int a2), (3, .int a3)], [], ww w, 0, 0)
        refine am_go_blk 3 ⟨fun hc => ?_, fun hc => ?_⟩
        · have H := am_ie hc H
          show am_gi D 9 o (27, [(1, .int a1), (2, .int a2), (3, .int a3)], [], ww w, 0, 0)
          obtain ⟨hc, H⟩ := am_ckE H
          refine am_go_blk 3 ⟨am_inv hc, (?_ : am_gi D 9 o (32, [(1, .int a1), (2, .int a2), (3, .int a3)], [.int (am_above a2.toNatClampNeg)], ww w, 0, 0))⟩
          exact am_go_blk 3 (Hr4 a1 (am_above a2.toNatClampNeg) (a3 + (nI 1)) w H)
        · have H := am_it hc H
          show am_gi D 9 o (25, [(1, .int a1), (2, .int a2), (3, .int a3)], [], ww w, 0, 0)
          exact am_go_blk 2 ⟨rfl, am_fi H⟩
theorem TL_Kinds_isOne_4 {D : Nat} {o : Int32 × am_W} : ∀ (n : Nat) (a1 : Int32) (a2 : Int32) (a3 : Int32) (w : am_W) , L_Kinds_isOne_4 n a1 a2 a3 w = some o → am_gi D 9 o (4, [(1, .int a1), (2, .int a2), (3, .int a3)], [], ww w, 0, 0)
  | 0, _, _, _, _, H => by cases H
  | n + 1, a1, a2, a3, w, H => T_Kinds_isOne_4 (TL_Kinds_isOne_4 n) a1 a2 a3 w H
theorem T_Kinds_isOne {D : Nat} {o : Int32 × am_W} (a0 : Int32) (a1 : Int32) (w : am_W) (H : F_Kinds_isOne a0 a1 w = some o) : am_gi D 9 o (0, [(0, .int a0), (1, .int a1)], [], ww w, 0, 0) := by
  unfold F_Kinds_isOne at H
  exact am_go_blk 4 (TL_Kinds_isOne_4 am_NF a1 a0 (nI 0) w H)
theorem M_Kinds_isOne {D : Nat} {o : Int32 × am_W} {a0 : Int32} {a1 : Int32} {w : am_W} (H : F_Kinds_isOne a0 a1 w = some o) : am_run (D + 1) 9 [.int a0, .int a1] (ww w) (some (.int o.1)) (ww o.2) 0 0 :=
  am_run_of rfl (T_Kinds_isOne a0 a1 w H)
def F_Loc_taken_26 (w : am_W) : Option (Int32 × am_W) :=
  some ((-nI 12), w)
def F_Loc_taken_122 (s0 : Int32) (w : am_W) : Option (Int32 × am_W) :=
  some (s0, w)
def F_Loc_taken_57 (w : am_W) : Option (Int32 × am_W) :=
  some ((-nI 11), w)
def F_Loc_taken_80 (s0 : Int32) (w : am_W) : Option (Int32 × am_W) :=
  some (s0, w)
def F_Loc_taken_16 (a1 : Int32) (a2 : Int32) (w : am_W) : Option (Int32 × am_W) :=
  if a1 < 0 then (F_Loc_taken_26 w) else (if a1 < (nI 18) then (if (nI 10) ≤ a1 then ((F_Rail_isThere (a1 - (nI 10)) w).bind fun q2 => if q2.1 = 0 then (some ((-nI 11), q2.2)) else (am_ck (am_in (a1 - (nI 10)) 8) ((F_Kinds_isOne (q2.2.1 2 (a1 - (nI 10)).toNatClampNeg) a2 q2.2).bind fun q3 => if q3.1 = 0 then (F_Loc_taken_122 (-nI 13) q3.2) else (F_Loc_taken_122 (a1 - (nI 10)) q3.2)))) else ((F_Rail_isLock a1 w).bind fun q4 => if q4.1 = 0 then (F_Loc_taken_57 q4.2) else ((F_Rail_isShut a1 q4.2).bind fun q5 => if q5.1 = 0 then (F_Loc_taken_57 q5.2) else (if a2 = (nI 6) then (am_ck (am_in a1 10) (F_Loc_taken_80 (q5.2.1 7 a1.toNatClampNeg) q5.2)) else (F_Loc_taken_80 (-nI 13) q5.2))))) else (F_Loc_taken_26 w))
def F_Loc_taken (a1 : Int32) (a2 : Int32) (w : am_W) : Option (Int32 × am_W) :=
  (F_Loc_isKind a2 w).bind fun q1 => if q1.1 = 0 then (if a2 = (nI 6) then (F_Loc_taken_16 a1 a2 q1.2) else (some ((-nI 2), q1.2))) else (F_Loc_taken_16 a1 a2 q1.2)
theorem T_Loc_taken_26 {D : Nat} {o : Int32 × am_W} (w : am_W) (H : F_Loc_taken_26 w = some o) : am_gi (D + 3) 117 o (26, [], [], ww w, 0, 0) := by
  unfold F_Loc_taken_26 at H
  exact am_go_blk 2 ⟨rfl, am_fi H⟩
theorem T_Loc_taken_122 {D : Nat} {o : Int32 × am_W} (s0 : Int32) (w : am_W) (H : F_Loc_taken_122 s0 w = some o) : am_gi (D + 3) 117 o (122, [], [.int s0], ww w, 0, 0) := by
  unfold F_Loc_taken_122 at H
  exact am_go_blk 1 ⟨rfl, am_fi H⟩
theorem T_Loc_taken_57 {D : Nat} {o : Int32 × am_W} (w : am_W) (H : F_Loc_taken_57 w = some o) : am_gi (D + 3) 117 o (57, [], [], ww w, 0, 0) := by
  unfold F_Loc_taken_57 at H
  exact am_go_blk 2 ⟨rfl, am_fi H⟩
theorem T_Loc_taken_80 {D : Nat} {o : Int32 × am_W} (s0 : Int32) (w : am_W) (H : F_Loc_taken_80 s0 w = some o) : am_gi (D + 3) 117 o (80, [], [.int s0], ww w, 0, 0) := by
  unfold F_Loc_taken_80 at H
  exact am_go_blk 1 ⟨rfl, am_fi H⟩
theorem T_Loc_taken_16 {D : Nat} {o : Int32 × am_W} (a1 : Int32) (a2 : Int32) (w : am_W) (H : F_Loc_taken_16 a1 a2 w = some o) : am_gi (D + 3) 117 o (16, [(0, .ref 0), (1, .int a1), (2, .int a2)], [], ww w, 0, 0) := by
  unfold F_Loc_taken_16 at H
  refine am_go_blk 2 ⟨fun hc => ?_, fun hc => ?_⟩
  · have H := am_it hc H
    exact T_Loc_taken_26 w H
  · have H := am_ie hc H
    show am_gi (D + 3) 117 o (20, [(0, .ref 0), (1, .int a1), (2, .int a2)], [], ww w, 0, 0)
    refine am_go_blk 3 ⟨fun hc => ?_, fun hc => ?_⟩
    · have H := am_it hc H
      show am_gi (D + 3) 117 o (29, [(0, .ref 0), (1, .int a1), (2, .int a2)], [], ww w, 0, 0)
      refine am_go_blk 3 ⟨fun hc => ?_, fun hc => ?_⟩
      · have H := am_it hc H
        show am_gi (D + 3) 117 o (81, [(0, .ref 0), (1, .int a1), (2, .int a2)], [], ww w, 0, 0)
        obtain ⟨q2, hqq2, H⟩ := am_bnE H
        refine am_go_blk 7 (?_ : am_gi (D + 3) 117 o (91, [(3, .int (a1 - (nI 10))), (0, .ref 0), (1, .int a1), (2, .int a2)], [.int (a1 - (nI 10)), .ref 1], ww w, 0, 0))
        refine am_invd rfl rfl rfl rfl (am_calli rfl (M_Rail_isThere (D := D) hqq2) (?_ : am_gi (D + 3) 117 o (94, [(3, .int (a1 - (nI 10))), (0, .ref 0), (1, .int a1), (2, .int a2)], [.int q2.1], ww q2.2, 0, 0)))
        refine am_go_blk 1 ⟨fun hc => ?_, fun hc => ?_⟩
        · have H := am_ie hc H
          show am_gi (D + 3) 117 o (100, [(0, .ref 0), (2, .int a2), (3, .int (a1 - (nI 10)))], [], ww q2.2, 0, 0)
          obtain ⟨hc, H⟩ := am_ckE H
          refine am_go_blk 5 ⟨am_inv hc, (?_ : am_gi (D + 3) 117 o (109, [(0, .ref 0), (2, .int a2), (3, .int (a1 - (nI 10)))], [.int (q2.2.1 2 (a1 - (nI 10)).toNatClampNeg)], ww q2.2, 0, 0))⟩
          obtain ⟨q3, hqq3, H⟩ := am_bnE H
          refine am_go_blk 1 (?_ : am_gi (D + 3) 117 o (110, [(0, .ref 0), (2, .int a2), (3, .int (a1 - (nI 10)))], [.int a2, .int (q2.2.1 2 (a1 - (nI 10)).toNatClampNeg)], ww q2.2, 0, 0))
          refine am_cls rfl rfl rfl (am_calli rfl (M_Kinds_isOne (D := D + 2) hqq3) (?_ : am_gi (D + 3) 117 o (113, [(0, .ref 0), (2, .int a2), (3, .int (a1 - (nI 10)))], [.int q3.1], ww q3.2, 0, 0)))
          refine am_go_blk 1 ⟨fun hc => ?_, fun hc => ?_⟩
          · have H := am_it hc H
            show am_gi (D + 3) 117 o (120, [], [], ww q3.2, 0, 0)
            exact am_go_blk 1 (T_Loc_taken_122 (-nI 13) q3.2 H)
          · have H := am_ie hc H
            show am_gi (D + 3) 117 o (116, [(0, .ref 0), (2, .int a2), (3, .int (a1 - (nI 10)))], [], ww q3.2, 0, 0)
            exact am_go_blk 2 (T_Loc_taken_122 (a1 - (nI 10)) q3.2 H)
        · have H := am_it hc H
          show am_gi (D + 3) 117 o (97, [(3, .int (a1 - (nI 10))), (0, .ref 0), (1, .int a1), (2, .int a2)], [], ww q2.2, 0, 0)
          exact am_go_blk 2 ⟨rfl, am_fi H⟩
      · have H := am_ie hc H
        show am_gi (D + 3) 117 o (35, [(0, .ref 0), (1, .int a1), (2, .int a2)], [], ww w, 0, 0)
        obtain ⟨q4, hqq4, H⟩ := am_bnE H
        refine am_go_blk 3 (?_ : am_gi (D + 3) 117 o (40, [(0, .ref 0), (1, .int a1), (2, .int a2)], [.int a1, .ref 1], ww w, 0, 0))
        refine am_invd rfl rfl rfl rfl (am_calli rfl (M_Rail_isLock (D := D + 2) hqq4) (?_ : am_gi (D + 3) 117 o (43, [(0, .ref 0), (1, .int a1), (2, .int a2)], [.int q4.1], ww q4.2, 0, 0)))
        refine am_go_blk 1 ⟨fun hc => ?_, fun hc => ?_⟩
        · have H := am_it hc H
          exact T_Loc_taken_57 q4.2 H
        · have H := am_ie hc H
          show am_gi (D + 3) 117 o (46, [(0, .ref 0), (1, .int a1), (2, .int a2)], [], ww q4.2, 0, 0)
          obtain ⟨q5, hqq5, H⟩ := am_bnE H
          refine am_go_blk 3 (?_ : am_gi (D + 3) 117 o (51, [(0, .ref 0), (1, .int a1), (2, .int a2)], [.int a1, .ref 1], ww q4.2, 0, 0))
          refine am_invd rfl rfl rfl rfl (am_calli rfl (M_Rail_isShut (D := D + 1) hqq5) (?_ : am_gi (D + 3) 117 o (54, [(0, .ref 0), (1, .int a1), (2, .int a2)], [.int q5.1], ww q5.2, 0, 0)))
          refine am_go_blk 1 ⟨fun hc => ?_, fun hc => ?_⟩
          · have H := am_ie hc H
            show am_gi (D + 3) 117 o (60, [(0, .ref 0), (1, .int a1), (2, .int a2)], [], ww q5.2, 0, 0)
            refine am_go_blk 3 ⟨fun hc => ?_, fun hc => ?_⟩
            · have H := am_ie hc H
              show am_gi (D + 3) 117 o (78, [], [], ww q5.2, 0, 0)
              exact am_go_blk 1 (T_Loc_taken_80 (-nI 13) q5.2 H)
            · have H := am_it hc H
              show am_gi (D + 3) 117 o (66, [(0, .ref 0), (1, .int a1), (2, .int a2)], [], ww q5.2, 0, 0)
              obtain ⟨hc, H⟩ := am_ckE H
              refine am_go_blk 5 ⟨am_inv hc, (?_ : am_gi (D + 3) 117 o (75, [(0, .ref 0), (1, .int a1), (2, .int a2)], [.int (q5.2.1 7 a1.toNatClampNeg)], ww q5.2, 0, 0))⟩
              exact am_go_blk 1 (T_Loc_taken_80 (q5.2.1 7 a1.toNatClampNeg) q5.2 H)
          · have H := am_it hc H
            exact T_Loc_taken_57 q5.2 H
    · have H := am_ie hc H
      exact T_Loc_taken_26 w H
theorem T_Loc_taken {D : Nat} {o : Int32 × am_W} (a1 : Int32) (a2 : Int32) (w : am_W) (H : F_Loc_taken a1 a2 w = some o) : am_gi (D + 3) 117 o (0, [(0, .ref 0), (1, .int a1), (2, .int a2)], [], ww w, 0, 0) := by
  unfold F_Loc_taken at H
  obtain ⟨q1, hqq1, H⟩ := am_bnE H
  refine am_go_blk 1 (?_ : am_gi (D + 3) 117 o (1, [(0, .ref 0), (1, .int a1), (2, .int a2)], [.int a2], ww w, 0, 0))
  refine am_cls rfl rfl rfl (am_calli rfl (M_Loc_isKind (D := D + 2) hqq1) (?_ : am_gi (D + 3) 117 o (4, [(0, .ref 0), (1, .int a1), (2, .int a2)], [.int q1.1], ww q1.2, 0, 0)))
  refine am_go_blk 1 ⟨fun hc => ?_, fun hc => ?_⟩
  · have H := am_ie hc H
    exact T_Loc_taken_16 a1 a2 q1.2 H
  · have H := am_it hc H
    show am_gi (D + 3) 117 o (7, [(0, .ref 0), (1, .int a1), (2, .int a2)], [], ww q1.2, 0, 0)
    refine am_go_blk 3 ⟨fun hc => ?_, fun hc => ?_⟩
    · have H := am_it hc H
      exact T_Loc_taken_16 a1 a2 q1.2 H
    · have H := am_ie hc H
      show am_gi (D + 3) 117 o (13, [(0, .ref 0), (1, .int a1), (2, .int a2)], [], ww q1.2, 0, 0)
      exact am_go_blk 2 ⟨rfl, am_fi H⟩
theorem M_Loc_taken {D : Nat} {o : Int32 × am_W} {a1 : Int32} {a2 : Int32} {w : am_W} (H : F_Loc_taken a1 a2 w = some o) : am_run (D + 4) 117 [.ref 0, .int a1, .int a2] (ww w) (some (.int o.1)) (ww o.2) 0 0 :=
  am_run_of rfl (T_Loc_taken a1 a2 w H)
def F_Mod_count (a1 : Int32) (w : am_W) : Option (Int32 × am_W) :=
  if a1.toInt = 0 then (some ((w.1 53 0), w)) else if a1.toInt = 1 then (some ((w.1 53 5), w)) else if a1.toInt = 2 then (some ((w.1 53 4), w)) else if a1.toInt = 3 then (some ((w.1 53 7), w)) else if a1.toInt = 4 then (some ((w.1 53 12), w)) else if a1.toInt = 5 then (some ((w.1 53 13), w)) else if a1.toInt = 6 then (some ((w.1 53 9), w)) else (some ((-nI 2), w))
theorem T_Mod_count {D : Nat} {o : Int32 × am_W} (a1 : Int32) (w : am_W) (H : F_Mod_count a1 w = some o) : am_gi D 148 o (0, [(0, .ref 53), (1, .int a1)], [], ww w, 0, 0) := by
  unfold F_Mod_count at H
  refine am_go_blk 2 ⟨fun hc => ?_, fun hc => ?_⟩
  · have H := am_it hc H
    show am_gi D 148 o (44, [(0, .ref 53)], [], ww w, 0, 0)
    exact am_go_blk 3 ⟨rfl, am_fi H⟩
  have H := am_ie hc H
  refine ⟨fun hc => ?_, fun hc => ?_⟩
  · have H := am_it hc H
    show am_gi D 148 o (49, [(0, .ref 53)], [], ww w, 0, 0)
    exact am_go_blk 3 ⟨rfl, am_fi H⟩
  have H := am_ie hc H
  refine ⟨fun hc => ?_, fun hc => ?_⟩
  · have H := am_it hc H
    show am_gi D 148 o (54, [(0, .ref 53)], [], ww w, 0, 0)
    exact am_go_blk 3 ⟨rfl, am_fi H⟩
  have H := am_ie hc H
  refine ⟨fun hc => ?_, fun hc => ?_⟩
  · have H := am_it hc H
    show am_gi D 148 o (59, [(0, .ref 53)], [], ww w, 0, 0)
    exact am_go_blk 3 ⟨rfl, am_fi H⟩
  have H := am_ie hc H
  refine ⟨fun hc => ?_, fun hc => ?_⟩
  · have H := am_it hc H
    show am_gi D 148 o (64, [(0, .ref 53)], [], ww w, 0, 0)
    exact am_go_blk 3 ⟨rfl, am_fi H⟩
  have H := am_ie hc H
  refine ⟨fun hc => ?_, fun hc => ?_⟩
  · have H := am_it hc H
    show am_gi D 148 o (69, [(0, .ref 53)], [], ww w, 0, 0)
    exact am_go_blk 3 ⟨rfl, am_fi H⟩
  have H := am_ie hc H
  refine ⟨fun hc => ?_, fun hc => ?_⟩
  · have H := am_it hc H
    show am_gi D 148 o (74, [(0, .ref 53)], [], ww w, 0, 0)
    exact am_go_blk 3 ⟨rfl, am_fi H⟩
  have H := am_ie hc H
  show am_gi D 148 o (79, [], [], ww w, 0, 0)
  exact am_go_blk 2 ⟨rfl, am_fi H⟩
theorem M_Mod_count {D : Nat} {o : Int32 × am_W} {a1 : Int32} {w : am_W} (H : F_Mod_count a1 w = some o) : am_run (D + 1) 148 [.ref 53, .int a1] (ww w) (some (.int o.1)) (ww o.2) 0 0 :=
  am_run_of rfl (T_Mod_count a1 w H)
def F_Mod_in_15 (s0 : Int32) (w : am_W) : Option (Int32 × am_W) :=
  am_ck (am_bo s0) (some (s0, w))
def F_Mod_in_14 (w : am_W) : Option (Int32 × am_W) :=
  F_Mod_in_15 (nI 0) w
def F_Mod_in (a0 : Int32) (a1 : Int32) (a2 : Int32) (w : am_W) : Option (Int32 × am_W) :=
  if a0 < a1 then (F_Mod_in_14 w) else (if a2 < a0 then (F_Mod_in_14 w) else (F_Mod_in_15 (nI 1) w))
theorem T_Mod_in_15 {D : Nat} {o : Int32 × am_W} (s0 : Int32) (w : am_W) (H : F_Mod_in_15 s0 w = some o) : am_gi D 137 o (15, [], [.int s0], ww w, 0, 0) := by
  unfold F_Mod_in_15 at H
  obtain ⟨hc, H⟩ := am_ckE H
  exact am_go_blk 1 ⟨am_boE hc, am_fi H⟩
theorem T_Mod_in_14 {D : Nat} {o : Int32 × am_W} (w : am_W) (H : F_Mod_in_14 w = some o) : am_gi D 137 o (14, [], [], ww w, 0, 0) := by
  unfold F_Mod_in_14 at H
  exact am_go_blk 1 (T_Mod_in_15 (nI 0) w H)
theorem T_Mod_in {D : Nat} {o : Int32 × am_W} (a0 : Int32) (a1 : Int32) (a2 : Int32) (w : am_W) (H : F_Mod_in a0 a1 a2 w = some o) : am_gi D 137 o (0, [(0, .int a0), (1, .int a1), (2, .int a2)], [], ww w, 0, 0) := by
  unfold F_Mod_in at H
  refine am_go_blk 3 ⟨fun hc => ?_, fun hc => ?_⟩
  · have H := am_it hc H
    exact T_Mod_in_14 w H
  · have H := am_ie hc H
    show am_gi D 137 o (5, [(0, .int a0), (1, .int a1), (2, .int a2)], [], ww w, 0, 0)
    refine am_go_blk 3 ⟨fun hc => ?_, fun hc => ?_⟩
    · have H := am_it hc H
      exact T_Mod_in_14 w H
    · have H := am_ie hc H
      show am_gi D 137 o (10, [(0, .int a0), (1, .int a1), (2, .int a2)], [], ww w, 0, 0)
      exact am_go_blk 2 (T_Mod_in_15 (nI 1) w H)
theorem M_Mod_in {D : Nat} {o : Int32 × am_W} {a0 : Int32} {a1 : Int32} {a2 : Int32} {w : am_W} (H : F_Mod_in a0 a1 a2 w = some o) : am_run (D + 1) 137 [.int a0, .int a1, .int a2] (ww w) (some (.int o.1)) (ww o.2) 0 0 :=
  am_run_of rfl (T_Mod_in a0 a1 a2 w H)
def F_Mod_isByte (a0 : Int32) (w : am_W) : Option (Int32 × am_W) :=
  (F_Mod_in a0 (nI 0) (nI 255) w).bind fun q1 => am_ck (am_bo q1.1) (some (q1.1, q1.2))
theorem T_Mod_isByte {D : Nat} {o : Int32 × am_W} (a0 : Int32) (w : am_W) (H : F_Mod_isByte a0 w = some o) : am_gi (D + 1) 149 o (0, [(0, .int a0)], [], ww w, 0, 0) := by
  unfold F_Mod_isByte at H
  obtain ⟨q1, hqq1, H⟩ := am_bnE H
  refine am_go_blk 3 (?_ : am_gi (D + 1) 149 o (5, [(0, .int a0)], [.int (nI 255), .int (nI 0), .int a0], ww w, 0, 0))
  refine am_cls rfl rfl rfl (am_calli rfl (M_Mod_in (D := D) hqq1) (?_ : am_gi (D + 1) 149 o (8, [(0, .int a0)], [.int q1.1], ww q1.2, 0, 0)))
  obtain ⟨hc, H⟩ := am_ckE H
  exact am_go_blk 1 ⟨am_boE hc, am_fi H⟩
theorem M_Mod_isByte {D : Nat} {o : Int32 × am_W} {a0 : Int32} {w : am_W} (H : F_Mod_isByte a0 w = some o) : am_run (D + 2) 149 [.int a0] (ww w) (some (.int o.1)) (ww o.2) 0 0 :=
  am_run_of rfl (T_Mod_isByte a0 w H)
def F_Mod_feed_47 (w : am_W) : Option (Int32 × am_W) :=
  some ((-nI 2), w)
def F_Mod_feed_125 (r68 : Int32 → Int32 → Int32 → Int32 → Int32 → Int32 → Int32 → am_W → Option (Int32 × am_W)) (a1 : Int32) (a2 : Int32) (a3 : Int32) (a4 : Int32) (a5 : Int32) (a6 : Int32) (a7 : Int32) (s0 : Int32) (s1 : Int32) (w : am_W) : Option (Int32 × am_W) :=
  am_ck (am_in s1 160) (am_lt (wst w 58 s1 s0) fun w7 => am_lt (wsf w7 53 9 ((w7.1 53 9) + (nI 1))) fun w8 => r68 a1 a2 a3 a4 a5 a6 (a7 + (nI 1)) w8)
def F_Mod_feed_68 (r68 : Int32 → Int32 → Int32 → Int32 → Int32 → Int32 → Int32 → am_W → Option (Int32 × am_W)) (a1 : Int32) (a2 : Int32) (a3 : Int32) (a4 : Int32) (a5 : Int32) (a6 : Int32) (a7 : Int32) (w : am_W) : Option (Int32 × am_W) :=
  if a1 ≤ a7 then (some ((w.1 53 9), w)) else (if a7 = 0 then (F_Mod_feed_125 r68 a1 a2 a3 a4 a5 a6 a7 a2 (w.1 53 9) w) else (if a7 = (nI 1) then (F_Mod_feed_125 r68 a1 a2 a3 a4 a5 a6 a7 a3 (w.1 53 9) w) else (if a7 = (nI 2) then (F_Mod_feed_125 r68 a1 a2 a3 a4 a5 a6 a7 a4 (w.1 53 9) w) else (if a7 = (nI 3) then (F_Mod_feed_125 r68 a1 a2 a3 a4 a5 a6 a7 a5 (w.1 53 9) w) else (F_Mod_feed_125 r68 a1 a2 a3 a4 a5 a6 a7 a6 (w.1 53 9) w)))))
def L_Mod_feed_68 : Nat → Int32 → Int32 → Int32 → Int32 → Int32 → Int32 → Int32 → am_W → Option (Int32 × am_W)
  | 0, _, _, _, _, _, _, _, _ => none
  | n + 1, a1, a2, a3, a4, a5, a6, a7, w => F_Mod_feed_68 (L_Mod_feed_68 n) a1 a2 a3 a4 a5 a6 a7 w
def F_Mod_feed (a1 : Int32) (a2 : Int32) (a3 : Int32) (a4 : Int32) (a5 : Int32) (a6 : Int32) (w : am_W) : Option (Int32 × am_W) :=
  (F_Mod_in a1 (nI 1) (nI 5) w).bind fun q1 => if q1.1 = 0 then (F_Mod_feed_47 q1.2) else ((F_Mod_isByte a2 q1.2).bind fun q2 => if q2.1 = 0 then (F_Mod_feed_47 q2.2) else ((F_Mod_isByte a3 q2.2).bind fun q3 => if q3.1 = 0 then (F_Mod_feed_47 q3.2) else ((F_Mod_isByte a4 q3.2).bind fun q4 => if q4.1 = 0 then (F_Mod_feed_47 q4.2) else ((F_Mod_isByte a5 q4.2).bind fun q5 => if q5.1 = 0 then (F_Mod_feed_47 q5.2) else ((F_Mod_isByte a6 q5.2).bind fun q6 => if q6.1 = 0 then (F_Mod_feed_47 q6.2) else (if ((q6.2.1 53 9) + a1) ≤ (nI 160) then (L_Mod_feed_68 am_NF a1 a2 a3 a4 a5 a6 (nI 0) q6.2) else (some ((-nI 4), q6.2))))))))
theorem T_Mod_feed_47 {D : Nat} {o : Int32 × am_W} (w : am_W) (H : F_Mod_feed_47 w = some o) : am_gi (D + 2) 150 o (47, [], [], ww w, 0, 0) := by
  unfold F_Mod_feed_47 at H
  exact am_go_blk 2 ⟨rfl, am_fi H⟩
theorem T_Mod_feed_125 {D : Nat} {o : Int32 × am_W} {r68 : Int32 → Int32 → Int32 → Int32 → Int32 → Int32 → Int32 → am_W → Option (Int32 × am_W)} (Hr68 : ∀ (a1 : Int32) (a2 : Int32) (a3 : Int32) (a4 : Int32) (a5 : Int32) (a6 : Int32) (a7 : Int32) (w : am_W) , r68 a1 a2 a3 a4 a5 a6 a7 w = some o → am_gi (D + 2) 150 o (68, [(0, .ref 53), (1, .int a1), (2, .int a2), (3, .int a3), (4, .int a4), (5, .int a5), (6, .int a6), (7, .int a7)], [], ww w, 0, 0)) (a1 : Int32) (a2 : Int32) (a3 : Int32) (a4 : Int32) (a5 : Int32) (a6 : Int32) (a7 : Int32) (s0 : Int32) (s1 : Int32) (w : am_W) (H : F_Mod_feed_125 r68 a1 a2 a3 a4 a5 a6 a7 s0 s1 w = some o) : am_gi (D + 2) 150 o (125, [(0, .ref 53), (1, .int a1), (2, .int a2), (3, .int a3), (4, .int a4), (5, .int a5), (6, .int a6), (7, .int a7)], [.int s0, .int s1, .ref 58], ww w, 0, 0) := by
  unfold F_Mod_feed_125 at H
  obtain ⟨hc, H⟩ := am_ckE H
  obtain ⟨w7, ew7, H⟩ := am_ltE H
  refine am_go_blk 1 ⟨am_inv hc, am_hp (ww_s58 ew7) (?_ : am_gi (D + 2) 150 o (126, [(0, .ref 53), (1, .int a1), (2, .int a2), (3, .int a3), (4, .int a4), (5, .int a5), (6, .int a6), (7, .int a7)], [], ww w7, 0, 0))⟩
  obtain ⟨w8, ew8, H⟩ := am_ltE H
  refine am_go_blk 6 ⟨rfl, rfl, am_hp (ww_f53_9 ew8) (?_ : am_gi (D + 2) 150 o (136, [(0, .ref 53), (1, .int a1), (2, .int a2), (3, .int a3), (4, .int a4), (5, .int a5), (6, .int a6), (7, .int a7)], [], ww w8, 0, 0))⟩
  exact am_go_blk 2 (Hr68 a1 a2 a3 a4 a5 a6 (a7 + (nI 1)) w8 H)
theorem T_Mod_feed_68 {D : Nat} {o : Int32 × am_W} {r68 : Int32 → Int32 → Int32 → Int32 → Int32 → Int32 → Int32 → am_W → Option (Int32 × am_W)} (Hr68 : ∀ (a1 : Int32) (a2 : Int32) (a3 : Int32) (a4 : Int32) (a5 : Int32) (a6 : Int32) (a7 : Int32) (w : am_W) , r68 a1 a2 a3 a4 a5 a6 a7 w = some o → am_gi (D + 2) 150 o (68, [(0, .ref 53), (1, .int a1), (2, .int a2), (3, .int a3), (4, .int a4), (5, .int a5), (6, .int a6), (7, .int a7)], [], ww w, 0, 0)) (a1 : Int32) (a2 : Int32) (a3 : Int32) (a4 : Int32) (a5 : Int32) (a6 : Int32) (a7 : Int32) (w : am_W) (H : F_Mod_feed_68 r68 a1 a2 a3 a4 a5 a6 a7 w = some o) : am_gi (D + 2) 150 o (68, [(0, .ref 53), (1, .int a1), (2, .int a2), (3, .int a3), (4, .int a4), (5, .int a5), (6, .int a6), (7, .int a7)], [], ww w, 0, 0) := by
  unfold F_Mod_feed_68 at H
  refine am_go_blk 3 ⟨fun hc => ?_, fun hc => ?_⟩
  · have H := am_it hc H
    show am_gi (D + 2) 150 o (142, [(0, .ref 53)], [], ww w, 0, 0)
    exact am_go_blk 3 ⟨rfl, am_fi H⟩
  · have H := am_ie hc H
    show am_gi (D + 2) 150 o (74, [(0, .ref 53), (1, .int a1), (2, .int a2), (3, .int a3), (4, .int a4), (5, .int a5), (6, .int a6), (7, .int a7)], [], ww w, 0, 0)
    refine am_go_blk 6 ⟨fun hc => ?_, fun hc => ?_⟩
    · have H := am_ie hc H
      show am_gi (D + 2) 150 o (91, [(0, .ref 53), (1, .int a1), (2, .int a2), (3, .int a3), (4, .int a4), (5, .int a5), (6, .int a6), (7, .int a7)], [.int (w.1 53 9), .ref 58], ww w, 0, 0)
      refine am_go_blk 3 ⟨fun hc => ?_, fun hc => ?_⟩
      · have H := am_ie hc H
        show am_gi (D + 2) 150 o (101, [(0, .ref 53), (1, .int a1), (2, .int a2), (3, .int a3), (4, .int a4), (5, .int a5), (6, .int a6), (7, .int a7)], [.int (w.1 53 9), .ref 58], ww w, 0, 0)
        refine am_go_blk 3 ⟨fun hc => ?_, fun hc => ?_⟩
        · have H := am_ie hc H
          show am_gi (D + 2) 150 o (112, [(0, .ref 53), (1, .int a1), (2, .int a2), (3, .int a3), (4, .int a4), (5, .int a5), (6, .int a6), (7, .int a7)], [.int (w.1 53 9), .ref 58], ww w, 0, 0)
          refine am_go_blk 3 ⟨fun hc => ?_, fun hc => ?_⟩
          · have H := am_ie hc H
            show am_gi (D + 2) 150 o (123, [(0, .ref 53), (1, .int a1), (2, .int a2), (3, .int a3), (4, .int a4), (5, .int a5), (6, .int a6), (7, .int a7)], [.int (w.1 53 9), .ref 58], ww w, 0, 0)
            exact am_go_blk 1 (T_Mod_feed_125 Hr68 a1 a2 a3 a4 a5 a6 a7 a6 (w.1 53 9) w H)
          · have H := am_it hc H
            show am_gi (D + 2) 150 o (118, [(0, .ref 53), (1, .int a1), (2, .int a2), (3, .int a3), (4, .int a4), (5, .int a5), (6, .int a6), (7, .int a7)], [.int (w.1 53 9), .ref 58], ww w, 0, 0)
            exact am_go_blk 2 (T_Mod_feed_125 Hr68 a1 a2 a3 a4 a5 a6 a7 a5 (w.1 53 9) w H)
        · have H := am_it hc H
          show am_gi (D + 2) 150 o (107, [(0, .ref 53), (1, .int a1), (2, .int a2), (3, .int a3), (4, .int a4), (5, .int a5), (6, .int a6), (7, .int a7)], [.int (w.1 53 9), .ref 58], ww w, 0, 0)
          exact am_go_blk 2 (T_Mod_feed_125 Hr68 a1 a2 a3 a4 a5 a6 a7 a4 (w.1 53 9) w H)
      · have H := am_it hc H
        show am_gi (D + 2) 150 o (97, [(0, .ref 53), (1, .int a1), (2, .int a2), (3, .int a3), (4, .int a4), (5, .int a5), (6, .int a6), (7, .int a7)], [.int (w.1 53 9), .ref 58], ww w, 0, 0)
        exact am_go_blk 2 (T_Mod_feed_125 Hr68 a1 a2 a3 a4 a5 a6 a7 a3 (w.1 53 9) w H)
    · have H := am_it hc H
      show am_gi (D + 2) 150 o (87, [(0, .ref 53), (1, .int a1), (2, .int a2), (3, .int a3), (4, .int a4), (5, .int a5), (6, .int a6), (7, .int a7)], [.int (w.1 53 9), .ref 58], ww w, 0, 0)
      exact am_go_blk 2 (T_Mod_feed_125 Hr68 a1 a2 a3 a4 a5 a6 a7 a2 (w.1 53 9) w H)
theorem TL_Mod_feed_68 {D : Nat} {o : Int32 × am_W} : ∀ (n : Nat) (a1 : Int32) (a2 : Int32) (a3 : Int32) (a4 : Int32) (a5 : Int32) (a6 : Int32) (a7 : Int32) (w : am_W) , L_Mod_feed_68 n a1 a2 a3 a4 a5 a6 a7 w = some o → am_gi (D + 2) 150 o (68, [(0, .ref 53), (1, .int a1), (2, .int a2), (3, .int a3), (4, .int a4), (5, .int a5), (6, .int a6), (7, .int a7)], [], ww w, 0, 0)
  | 0, _, _, _, _, _, _, _, _, H => by cases H
  | n + 1, a1, a2, a3, a4, a5, a6, a7, w, H => T_Mod_feed_68 (TL_Mod_feed_68 n) a1 a2 a3 a4 a5 a6 a7 w H
theorem T_Mod_feed {D : Nat} {o : Int32 × am_W} (a1 : Int32) (a2 : Int32) (a3 : Int32) (a4 : Int32) (a5 : Int32) (a6 : Int32) (w : am_W) (H : F_Mod_feed a1 a2 a3 a4 a5 a6 w = some o) : am_gi (D + 2) 150 o (0, [(0, .ref 53), (1, .int a1), (2, .int a2), (3, .int a3), (4, .int a4), (5, .int a5), (6, .int a6)], [], ww w, 0, 0) := by
  unfold F_Mod_feed at H
  obtain ⟨q1, hqq1, H⟩ := am_bnE H
  refine am_go_blk 3 (?_ : am_gi (D + 2) 150 o (3, [(0, .ref 53), (1, .int a1), (2, .int a2), (3, .int a3), (4, .int a4), (5, .int a5), (6, .int a6)], [.int (nI 5), .int (nI 1), .int a1], ww w, 0, 0))
  refine am_cls rfl rfl rfl (am_calli rfl (M_Mod_in (D := D + 1) hqq1) (?_ : am_gi (D + 2) 150 o (6, [(0, .ref 53), (1, .int a1), (2, .int a2), (3, .int a3), (4, .int a4), (5, .int a5), (6, .int a6)], [.int q1.1], ww q1.2, 0, 0)))
  refine am_go_blk 1 ⟨fun hc => ?_, fun hc => ?_⟩
  · have H := am_it hc H
    exact T_Mod_feed_47 q1.2 H
  · have H := am_ie hc H
    show am_gi (D + 2) 150 o (9, [(0, .ref 53), (1, .int a1), (2, .int a2), (3, .int a3), (4, .int a4), (5, .int a5), (6, .int a6)], [], ww q1.2, 0, 0)
    obtain ⟨q2, hqq2, H⟩ := am_bnE H
    refine am_go_blk 1 (?_ : am_gi (D + 2) 150 o (10, [(0, .ref 53), (1, .int a1), (2, .int a2), (3, .int a3), (4, .int a4), (5, .int a5), (6, .int a6)], [.int a2], ww q1.2, 0, 0))
    refine am_cls rfl rfl rfl (am_calli rfl (M_Mod_isByte (D := D) hqq2) (?_ : am_gi (D + 2) 150 o (13, [(0, .ref 53), (1, .int a1), (2, .int a2), (3, .int a3), (4, .int a4), (5, .int a5), (6, .int a6)], [.int q2.1], ww q2.2, 0, 0)))
    refine am_go_blk 1 ⟨fun hc => ?_, fun hc => ?_⟩
    · have H := am_it hc H
      exact T_Mod_feed_47 q2.2 H
    · have H := am_ie hc H
      show am_gi (D + 2) 150 o (16, [(0, .ref 53), (1, .int a1), (2, .int a2), (3, .int a3), (4, .int a4), (5, .int a5), (6, .int a6)], [], ww q2.2, 0, 0)
      obtain ⟨q3, hqq3, H⟩ := am_bnE H
      refine am_go_blk 1 (?_ : am_gi (D + 2) 150 o (17, [(0, .ref 53), (1, .int a1), (2, .int a2), (3, .int a3), (4, .int a4), (5, .int a5), (6, .int a6)], [.int a3], ww q2.2, 0, 0))
      refine am_cls rfl rfl rfl (am_calli rfl (M_Mod_isByte (D := D) hqq3) (?_ : am_gi (D + 2) 150 o (20, [(0, .ref 53), (1, .int a1), (2, .int a2), (3, .int a3), (4, .int a4), (5, .int a5), (6, .int a6)], [.int q3.1], ww q3.2, 0, 0)))
      refine am_go_blk 1 ⟨fun hc => ?_, fun hc => ?_⟩
      · have H := am_it hc H
        exact T_Mod_feed_47 q3.2 H
      · have H := am_ie hc H
        show am_gi (D + 2) 150 o (23, [(0, .ref 53), (1, .int a1), (2, .int a2), (3, .int a3), (4, .int a4), (5, .int a5), (6, .int a6)], [], ww q3.2, 0, 0)
        obtain ⟨q4, hqq4, H⟩ := am_bnE H
        refine am_go_blk 1 (?_ : am_gi (D + 2) 150 o (25, [(0, .ref 53), (1, .int a1), (2, .int a2), (3, .int a3), (4, .int a4), (5, .int a5), (6, .int a6)], [.int a4], ww q3.2, 0, 0))
        refine am_cls rfl rfl rfl (am_calli rfl (M_Mod_isByte (D := D) hqq4) (?_ : am_gi (D + 2) 150 o (28, [(0, .ref 53), (1, .int a1), (2, .int a2), (3, .int a3), (4, .int a4), (5, .int a5), (6, .int a6)], [.int q4.1], ww q4.2, 0, 0)))
        refine am_go_blk 1 ⟨fun hc => ?_, fun hc => ?_⟩
        · have H := am_it hc H
          exact T_Mod_feed_47 q4.2 H
        · have H := am_ie hc H
          show am_gi (D + 2) 150 o (31, [(0, .ref 53), (1, .int a1), (2, .int a2), (3, .int a3), (4, .int a4), (5, .int a5), (6, .int a6)], [], ww q4.2, 0, 0)
          obtain ⟨q5, hqq5, H⟩ := am_bnE H
          refine am_go_blk 1 (?_ : am_gi (D + 2) 150 o (33, [(0, .ref 53), (1, .int a1), (2, .int a2), (3, .int a3), (4, .int a4), (5, .int a5), (6, .int a6)], [.int a5], ww q4.2, 0, 0))
          refine am_cls rfl rfl rfl (am_calli rfl (M_Mod_isByte (D := D) hqq5) (?_ : am_gi (D + 2) 150 o (36, [(0, .ref 53), (1, .int a1), (2, .int a2), (3, .int a3), (4, .int a4), (5, .int a5), (6, .int a6)], [.int q5.1], ww q5.2, 0, 0)))
          refine am_go_blk 1 ⟨fun hc => ?_, fun hc => ?_⟩
          · have H := am_it hc H
            exact T_Mod_feed_47 q5.2 H
          · have H := am_ie hc H
            show am_gi (D + 2) 150 o (39, [(0, .ref 53), (1, .int a1), (2, .int a2), (3, .int a3), (4, .int a4), (5, .int a5), (6, .int a6)], [], ww q5.2, 0, 0)
            obtain ⟨q6, hqq6, H⟩ := am_bnE H
            refine am_go_blk 1 (?_ : am_gi (D + 2) 150 o (41, [(0, .ref 53), (1, .int a1), (2, .int a2), (3, .int a3), (4, .int a4), (5, .int a5), (6, .int a6)], [.int a6], ww q5.2, 0, 0))
            refine am_cls rfl rfl rfl (am_calli rfl (M_Mod_isByte (D := D) hqq6) (?_ : am_gi (D + 2) 150 o (44, [(0, .ref 53), (1, .int a1), (2, .int a2), (3, .int a3), (4, .int a4), (5, .int a5), (6, .int a6)], [.int q6.1], ww q6.2, 0, 0)))
            refine am_go_blk 1 ⟨fun hc => ?_, fun hc => ?_⟩
            · have H := am_ie hc H
              show am_gi (D + 2) 150 o (50, [(0, .ref 53), (1, .int a1), (2, .int a2), (3, .int a3), (4, .int a4), (5, .int a5), (6, .int a6)], [], ww q6.2, 0, 0)
              refine am_go_blk 6 ⟨fun hc => ?_, fun hc => ?_⟩
              · have H := am_it hc H
                show am_gi (D + 2) 150 o (65, [(0, .ref 53), (1, .int a1), (2, .int a2), (3, .int a3), (4, .int a4), (5, .int a5), (6, .int a6)], [], ww q6.2, 0, 0)
                exact am_go_blk 2 (TL_Mod_feed_68 am_NF a1 a2 a3 a4 a5 a6 (nI 0) q6.2 H)
              · have H := am_ie hc H
                show am_gi (D + 2) 150 o (62, [(0, .ref 53), (1, .int a1), (2, .int a2), (3, .int a3), (4, .int a4), (5, .int a5), (6, .int a6)], [], ww q6.2, 0, 0)
                exact am_go_blk 2 ⟨rfl, am_fi H⟩
            · have H := am_it hc H
              exact T_Mod_feed_47 q6.2 H
theorem M_Mod_feed {D : Nat} {o : Int32 × am_W} {a1 : Int32} {a2 : Int32} {a3 : Int32} {a4 : Int32} {a5 : Int32} {a6 : Int32} {w : am_W} (H : F_Mod_feed a1 a2 a3 a4 a5 a6 w = some o) : am_run (D + 3) 150 [.ref 53, .int a1, .int a2, .int a3, .int a4, .int a5, .int a6] (ww w) (some (.int o.1)) (ww o.2) 0 0 :=
  am_run_of rfl (T_Mod_feed a1 a2 a3 a4 a5 a6 w H)
def F_Mod_wordFrom_88 (r2 : Int32 → Int32 → Int32 → am_W → Option (Int32 × am_W)) (a1 : Int32) (a2 : Int32) (a3 : Int32) (a4 : Int32) (w : am_W) : Option (Int32 × am_W) :=
  if a4 = 0 then (r2 a1 a2 (a3 + (nI 1)) w) else (some (a3, w))
def F_Mod_wordFrom_80 (r2 : Int32 → Int32 → Int32 → am_W → Option (Int32 × am_W)) (r26 : Int32 → Int32 → Int32 → Int32 → Int32 → am_W → Option (Int32 × am_W)) (a1 : Int32) (a2 : Int32) (a3 : Int32) (a5 : Int32) (s0 : Int32) (w : am_W) : Option (Int32 × am_W) :=
  r26 a1 a2 a3 s0 (a5 + (nI 1)) w
def F_Mod_wordFrom_72 (r2 : Int32 → Int32 → Int32 → am_W → Option (Int32 × am_W)) (r26 : Int32 → Int32 → Int32 → Int32 → Int32 → am_W → Option (Int32 × am_W)) (a1 : Int32) (a2 : Int32) (a3 : Int32) (a5 : Int32) (s0 : Int32) (s1 : Int32) (w : am_W) : Option (Int32 × am_W) :=
  if s1 = s0 then (F_Mod_wordFrom_80 r2 r26 a1 a2 a3 a5 (nI 1) w) else (F_Mod_wordFrom_80 r2 r26 a1 a2 a3 a5 (nI 0) w)
def F_Mod_wordFrom_26 (r2 : Int32 → Int32 → Int32 → am_W → Option (Int32 × am_W)) (r26 : Int32 → Int32 → Int32 → Int32 → Int32 → am_W → Option (Int32 × am_W)) (a1 : Int32) (a2 : Int32) (a3 : Int32) (a4 : Int32) (a5 : Int32) (w : am_W) : Option (Int32 × am_W) :=
  if (nI 8) ≤ a5 then (F_Mod_wordFrom_88 r2 a1 a2 a3 a4 w) else (if a4 = 0 then (F_Mod_wordFrom_88 r2 a1 a2 a3 a4 w) else (am_ck (am_in (((nI 8) * a3) + a5) 96) (if a2 ≤ (a1 + a5) then (F_Mod_wordFrom_72 r2 r26 a1 a2 a3 a5 (nI 32) (w.1 66 (((nI 8) * a3) + a5).toNatClampNeg) w) else (am_ck (am_in (a1 + a5) 160) (F_Mod_wordFrom_72 r2 r26 a1 a2 a3 a5 (w.1 58 (a1 + a5).toNatClampNeg) (w.1 66 (((nI 8) * a3) + a5).toNatClampNeg) w)))))
def L_Mod_wordFrom_26 (r2 : Int32 → Int32 → Int32 → am_W → Option (Int32 × am_W)) : Nat → Int32 → Int32 → Int32 → Int32 → Int32 → am_W → Option (Int32 × am_W)
  | 0, _, _, _, _, _, _ => none
  | n + 1, a1, a2, a3, a4, a5, w => F_Mod_wordFrom_26 r2 (L_Mod_wordFrom_26 r2 n) a1 a2 a3 a4 a5 w
def F_Mod_wordFrom_21 (r2 : Int32 → Int32 → Int32 → am_W → Option (Int32 × am_W)) (a1 : Int32) (a2 : Int32) (a3 : Int32) (s0 : Int32) (w : am_W) : Option (Int32 × am_W) :=
  L_Mod_wordFrom_26 r2 am_NF a1 a2 a3 s0 (nI 0) w
def F_Mod_wordFrom_2 (r2 : Int32 → Int32 → Int32 → am_W → Option (Int32 × am_W)) (a1 : Int32) (a2 : Int32) (a3 : Int32) (w : am_W) : Option (Int32 × am_W) :=
  if (nI 12) ≤ a3 then (some ((nI 12), w)) else (if (nI 8) < (a2 - a1) then (F_Mod_wordFrom_21 r2 a1 a2 a3 (nI 0) w) else (F_Mod_wordFrom_21 r2 a1 a2 a3 (nI 1) w))
def L_Mod_wordFrom_2 : Nat → Int32 → Int32 → Int32 → am_W → Option (Int32 × am_W)
  | 0, _, _, _, _ => none
  | n + 1, a1, a2, a3, w => F_Mod_wordFrom_2 (L_Mod_wordFrom_2 n) a1 a2 a3 w
def F_Mod_wordFrom (a1 : Int32) (a2 : Int32) (w : am_W) : Option (Int32 × am_W) :=
  L_Mod_wordFrom_2 am_NF a1 a2 (nI 0) w
theorem T_Mod_wordFrom_88 {D : Nat} {o : Int32 × am_W} {r2 : Int32 → Int32 → Int32 → am_W → Option (Int32 × am_W)} (Hr2 : ∀ (a1 : Int32) (a2 : Int32) (a3 : Int32) (w : am_W) , r2 a1 a2 a3 w = some o → am_gi D 151 o (2, [(0, .ref 53), (1, .int a1), (2, .int a2), (3, .int a3)], [], ww w, 0, 0)) (a1 : Int32) (a2 : Int32) (a3 : Int32) (a4 : Int32) (w : am_W) (H : F_Mod_wordFrom_88 r2 a1 a2 a3 a4 w = some o) : am_gi D 151 o (88, [(0, .ref 53), (1, .int a1), (2, .int a2), (3, .int a3), (4, .int a4)], [], ww w, 0, 0) := by
  unfold F_Mod_wordFrom_88 at H
  refine am_go_blk 2 ⟨fun hc => ?_, fun hc => ?_⟩
  · have H := am_it hc H
    show am_gi D 151 o (95, [(0, .ref 53), (1, .int a1), (2, .int a2), (3, .int a3)], [], ww w, 0, 0)
    exact am_go_blk 2 (Hr2 a1 a2 (a3 + (nI 1)) w H)
  · have H := am_ie hc H
    show am_gi D 151 o (93, [(0, .ref 53), (1, .int a1), (2, .int a2), (3, .int a3), (4, .int a4)], [], ww w, 0, 0)
    exact am_go_blk 2 ⟨rfl, am_fi H⟩
theorem T_Mod_wordFrom_80 {D : Nat} {o : Int32 × am_W} {r2 : Int32 → Int32 → Int32 → am_W → Option (Int32 × am_W)} {r26 : Int32 → Int32 → Int32 → Int32 → Int32 → am_W → Option (Int32 × am_W)} (Hr2 : ∀ (a1 : Int32) (a2 : Int32) (a3 : Int32) (w : am_W) , r2 a1 a2 a3 w = some o → am_gi D 151 o (2, [(0, .ref 53), (1, .int a1), (2, .int a2), (3, .int a3)], [], ww w, 0, 0)) (Hr26 : ∀ (a1 : Int32) (a2 : Int32) (a3 : Int32) (a4 : Int32) (a5 : Int32) (w : am_W) , r26 a1 a2 a3 a4 a5 w = some o → am_gi D 151 o (26, [(0, .ref 53), (1, .int a1), (2, .int a2), (3, .int a3), (4, .int a4), (5, .int a5)], [], ww w, 0, 0)) (a1 : Int32) (a2 : Int32) (a3 : Int32) (a5 : Int32) (s0 : Int32) (w : am_W) (H : F_Mod_wordFrom_80 r2 r26 a1 a2 a3 a5 s0 w = some o) : am_gi D 151 o (80, [(0, .ref 53), (1, .int a1), (2, .int a2), (3, .int a3), (5, .int a5)], [.int s0], ww w, 0, 0) := by
  unfold F_Mod_wordFrom_80 at H
  exact am_go_blk 3 (Hr26 a1 a2 a3 s0 (a5 + (nI 1)) w H)
theorem T_Mod_wordFrom_72 {D : Nat} {o : Int32 × am_W} {r2 : Int32 → Int32 → Int32 → am_W → Option (Int32 × am_W)} {r26 : Int32 → Int32 → Int32 → Int32 → Int32 → am_W → Option (Int32 × am_W)} (Hr2 : ∀ (a1 : Int32) (a2 : Int32) (a3 : Int32) (w : am_W) , r2 a1 a2 a3 w = some o → am_gi D 151 o (2, [(0, .ref 53), (1, .int a1), (2, .int a2), (3, .int a3)], [], ww w, 0, 0)) (Hr26 : ∀ (a1 : Int32) (a2 : Int32) (a3 : Int32) (a4 : Int32) (a5 : Int32) (w : am_W) , r26 a1 a2 a3 a4 a5 w = some o → am_gi D 151 o (26, [(0, .ref 53), (1, .int a1), (2, .int a2), (3, .int a3), (4, .int a4), (5, .int a5)], [], ww w, 0, 0)) (a1 : Int32) (a2 : Int32) (a3 : Int32) (a5 : Int32) (s0 : Int32) (s1 : Int32) (w : am_W) (H : F_Mod_wordFrom_72 r2 r26 a1 a2 a3 a5 s0 s1 w = some o) : am_gi D 151 o (72, [(0, .ref 53), (1, .int a1), (2, .int a2), (3, .int a3), (5, .int a5)], [.int s0, .int s1], ww w, 0, 0) := by
  unfold F_Mod_wordFrom_72 at H
  refine am_go_blk 1 ⟨fun hc => ?_, fun hc => ?_⟩
  · have H := am_ie hc H
    show am_gi D 151 o (79, [(0, .ref 53), (1, .int a1), (2, .int a2), (3, .int a3), (5, .int a5)], [], ww w, 0, 0)
    exact am_go_blk 1 (T_Mod_wordFrom_80 Hr2 Hr26 a1 a2 a3 a5 (nI 0) w H)
  · have H := am_it hc H
    show am_gi D 151 o (75, [(0, .ref 53), (1, .int a1), (2, .int a2), (3, .int a3), (5, .int a5)], [], ww w, 0, 0)
    exact am_go_blk 2 (T_Mod_wordFrom_80 Hr2 Hr26 a1 a2 a3 a5 (nI 1) w H)
theorem T_Mod_wordFrom_26 {D : Nat} {o : Int32 × am_W} {r2 : Int32 → Int32 → Int32 → am_W → Option (Int32 × am_W)} {r26 : Int32 → Int32 → Int32 → Int32 → Int32 → am_W → Option (Int32 × am_W)} (Hr2 : ∀ (a1 : Int32) (a2 : Int32) (a3 : Int32) (w : am_W) , r2 a1 a2 a3 w = some o → am_gi D 151 o (2, [(0, .ref 53), (1, .int a1), (2, .int a2), (3, .int a3)], [], ww w, 0, 0)) (Hr26 : ∀ (a1 : Int32) (a2 : Int32) (a3 : Int32) (a4 : Int32) (a5 : Int32) (w : am_W) , r26 a1 a2 a3 a4 a5 w = some o → am_gi D 151 o (26, [(0, .ref 53), (1, .int a1), (2, .int a2), (3, .int a3), (4, .int a4), (5, .int a5)], [], ww w, 0, 0)) (a1 : Int32) (a2 : Int32) (a3 : Int32) (a4 : Int32) (a5 : Int32) (w : am_W) (H : F_Mod_wordFrom_26 r2 r26 a1 a2 a3 a4 a5 w = some o) : am_gi D 151 o (26, [(0, .ref 53), (1, .int a1), (2, .int a2), (3, .int a3), (4, .int a4), (5, .int a5)], [], ww w, 0, 0) := by
  unfold F_Mod_wordFrom_26 at H
  refine am_go_blk 3 ⟨fun hc => ?_, fun hc => ?_⟩
  · have H := am_it hc H
    exact T_Mod_wordFrom_88 Hr2 a1 a2 a3 a4 w H
  · have H := am_ie hc H
    show am_gi D 151 o (33, [(0, .ref 53), (1, .int a1), (2, .int a2), (3, .int a3), (4, .int a4), (5, .int a5)], [], ww w, 0, 0)
    refine am_go_blk 2 ⟨fun hc => ?_, fun hc => ?_⟩
    · have H := am_it hc H
      exact T_Mod_wordFrom_88 Hr2 a1 a2 a3 a4 w H
    · have H := am_ie hc H
      show am_gi D 151 o (38, [(0, .ref 53), (1, .int a1), (2, .int a2), (3, .int a3), (4, .int a4), (5, .int a5)], [], ww w, 0, 0)
      obtain ⟨hc, H⟩ := am_ckE H
      refine am_go_blk 8 ⟨am_inv hc, (?_ : am_gi D 151 o (50, [(0, .ref 53), (1, .int a1), (2, .int a2), (3, .int a3), (4, .int a4), (5, .int a5)], [.int (w.1 66 (((nI 8) * a3) + a5).toNatClampNeg)], ww w, 0, 0))⟩
      refine am_go_blk 5 ⟨fun hc => ?_, fun hc => ?_⟩
      · have H := am_it hc H
        show am_gi D 151 o (70, [(0, .ref 53), (1, .int a1), (2, .int a2), (3, .int a3), (5, .int a5)], [.int (w.1 66 (((nI 8) * a3) + a5).toNatClampNeg)], ww w, 0, 0)
        exact am_go_blk 1 (T_Mod_wordFrom_72 Hr2 Hr26 a1 a2 a3 a5 (nI 32) (w.1 66 (((nI 8) * a3) + a5).toNatClampNeg) w H)
      · have H := am_ie hc H
        show am_gi D 151 o (58, [(0, .ref 53), (1, .int a1), (2, .int a2), (3, .int a3), (4, .int a4), (5, .int a5)], [.int (w.1 66 (((nI 8) * a3) + a5).toNatClampNeg)], ww w, 0, 0)
        obtain ⟨hc, H⟩ := am_ckE H
        refine am_go_blk 6 ⟨am_inv hc, (?_ : am_gi D 151 o (67, [(0, .ref 53), (1, .int a1), (2, .int a2), (3, .int a3), (4, .int a4), (5, .int a5)], [.int (w.1 58 (a1 + a5).toNatClampNeg), .int (w.1 66 (((nI 8) * a3) + a5).toNatClampNeg)], ww w, 0, 0))⟩
        exact am_go_blk 1 (T_Mod_wordFrom_72 Hr2 Hr26 a1 a2 a3 a5 (w.1 58 (a1 + a5).toNatClampNeg) (w.1 66 (((nI 8) * a3) + a5).toNatClampNeg) w H)
theorem TL_Mod_wordFrom_26 {D : Nat} {o : Int32 × am_W} {r2 : Int32 → Int32 → Int32 → am_W → Option (Int32 × am_W)} (Hr2 : ∀ (a1 : Int32) (a2 : Int32) (a3 : Int32) (w : am_W) , r2 a1 a2 a3 w = some o → am_gi D 151 o (2, [(0, .ref 53), (1, .int a1), (2, .int a2), (3, .int a3)], [], ww w, 0, 0)) : ∀ (n : Nat) (a1 : Int32) (a2 : Int32) (a3 : Int32) (a4 : Int32) (a5 : Int32) (w : am_W) , L_Mod_wordFrom_26 r2 n a1 a2 a3 a4 a5 w = some o → am_gi D 151 o (26, [(0, .ref 53), (1, .int a1), (2, .int a2), (3, .int a3), (4, .int a4), (5, .int a5)], [], ww w, 0, 0)
  | 0, _, _, _, _, _, _, H => by cases H
  | n + 1, a1, a2, a3, a4, a5, w, H => T_Mod_wordFrom_26 Hr2 (TL_Mod_wordFrom_26 Hr2 n) a1 a2 a3 a4 a5 w H
theorem T_Mod_wordFrom_21 {D : Nat} {o : Int32 × am_W} {r2 : Int32 → Int32 → Int32 → am_W → Option (Int32 × am_W)} (Hr2 : ∀ (a1 : Int32) (a2 : Int32) (a3 : Int32) (w : am_W) , r2 a1 a2 a3 w = some o → am_gi D 151 o (2, [(0, .ref 53), (1, .int a1), (2, .int a2), (3, .int a3)], [], ww w, 0, 0)) (a1 : Int32) (a2 : Int32) (a3 : Int32) (s0 : Int32) (w : am_W) (H : F_Mod_wordFrom_21 r2 a1 a2 a3 s0 w = some o) : am_gi D 151 o (21, [(0, .ref 53), (1, .int a1), (2, .int a2), (3, .int a3)], [.int s0], ww w, 0, 0) := by
  unfold F_Mod_wordFrom_21 at H
  exact am_go_blk 3 (TL_Mod_wordFrom_26 Hr2 am_NF a1 a2 a3 s0 (nI 0) w H)
theorem T_Mod_wordFrom_2 {D : Nat} {o : Int32 × am_W} {r2 : Int32 → Int32 → Int32 → am_W → Option (Int32 × am_W)} (Hr2 : ∀ (a1 : Int32) (a2 : Int32) (a3 : Int32) (w : am_W) , r2 a1 a2 a3 w = some o → am_gi D 151 o (2, [(0, .ref 53), (1, .int a1), (2, .int a2), (3, .int a3)], [], ww w, 0, 0)) (a1 : Int32) (a2 : Int32) (a3 : Int32) (w : am_W) (H : F_Mod_wordFrom_2 r2 a1 a2 a3 w = some o) : am_gi D 151 o (2, [(0, .ref 53), (1, .int a1), (2, .int a2), (3, .int a3)], [], ww w, 0, 0) := by
  unfold F_Mod_wordFrom_2 at H
  refine am_go_blk 3 ⟨fun hc => ?_, fun hc => ?_⟩
  · have H := am_it hc H
    show am_gi D 151 o (101, [], [], ww w, 0, 0)
    exact am_go_blk 2 ⟨rfl, am_fi H⟩
  · have H := am_ie hc H
    show am_gi D 151 o (8, [(0, .ref 53), (1, .int a1), (2, .int a2), (3, .int a3)], [], ww w, 0, 0)
    refine am_go_blk 5 ⟨fun hc => ?_, fun hc => ?_⟩
    · have H := am_it hc H
      show am_gi D 151 o (20, [(0, .ref 53), (1, .int a1), (2, .int a2), (3, .int a3)], [], ww w, 0, 0)
      exact am_go_blk 1 (T_Mod_wordFrom_21 Hr2 a1 a2 a3 (nI 0) w H)
    · have H := am_ie hc H
      show am_gi D 151 o (16, [(0, .ref 53), (1, .int a1), (2, .int a2), (3, .int a3)], [], ww w, 0, 0)
      exact am_go_blk 2 (T_Mod_wordFrom_21 Hr2 a1 a2 a3 (nI 1) w H)
theorem TL_Mod_wordFrom_2 {D : Nat} {o : Int32 × am_W} : ∀ (n : Nat) (a1 : Int32) (a2 : Int32) (a3 : Int32) (w : am_W) , L_Mod_wordFrom_2 n a1 a2 a3 w = some o → am_gi D 151 o (2, [(0, .ref 53), (1, .int a1), (2, .int a2), (3, .int a3)], [], ww w, 0, 0)
  | 0, _, _, _, _, H => by cases H
  | n + 1, a1, a2, a3, w, H => T_Mod_wordFrom_2 (TL_Mod_wordFrom_2 n) a1 a2 a3 w H
theorem T_Mod_wordFrom {D : Nat} {o : Int32 × am_W} (a1 : Int32) (a2 : Int32) (w : am_W) (H : F_Mod_wordFrom a1 a2 w = some o) : am_gi D 151 o (0, [(0, .ref 53), (1, .int a1), (2, .int a2)], [], ww w, 0, 0) := by
  unfold F_Mod_wordFrom at H
  exact am_go_blk 2 (TL_Mod_wordFrom_2 am_NF a1 a2 (nI 0) w H)
theorem M_Mod_wordFrom {D : Nat} {o : Int32 × am_W} {a1 : Int32} {a2 : Int32} {w : am_W} (H : F_Mod_wordFrom a1 a2 w = some o) : am_run (D + 1) 151 [.ref 53, .int a1, .int a2] (ww w) (some (.int o.1)) (ww o.2) 0 0 :=
  am_run_of rfl (T_Mod_wordFrom a1 a2 w H)
def F_Mod_next_403 (w : am_W) : Option (am_W) :=
  some w
def F_Mod_next_390 (s0 : Int32) (w : am_W) : Option (am_W) :=
  am_lt (wsf w 53 27 s0) fun w6 => am_lt (wsf w6 53 25 ((w6.1 53 25) + (nI 1))) fun w7 => F_Mod_next_403 w7
def F_Mod_next_379 (a1 : Int32) (s0 : Int32) (w : am_W) : Option (am_W) :=
  if s0 = 0 then (F_Mod_next_390 (-nI 1) w) else (F_Mod_next_390 a1 w)
def F_Mod_next_374 (a1 : Int32) (w : am_W) : Option (am_W) :=
  F_Mod_next_379 a1 (nI 1) w
def F_Mod_next_320 (s0 : Int32) (w : am_W) : Option (am_W) :=
  am_lt (wsf w 53 27 s0) fun w8 => F_Mod_next_403 w8
def F_Mod_next_309 (a2 : Int32) (w : am_W) : Option (am_W) :=
  if a2 ≤ (nI 4) then (F_Mod_next_320 (nI 1) w) else (F_Mod_next_320 (-nI 1) w)
def F_Mod_next_290 (r230 : Int32 → am_W → Option (am_W)) (a2 : Int32) (s0 : Int32) (w : am_W) : Option (am_W) :=
  am_lt (wsf w 53 28 s0) fun w10 => am_lt (wsf w10 53 25 ((w10.1 53 25) + (nI 1))) fun w11 => r230 (a2 + (nI 1)) w11
def F_Mod_next_230 (r230 : Int32 → am_W → Option (am_W)) (a2 : Int32) (w : am_W) : Option (am_W) :=
  if (w.1 53 9) ≤ (w.1 53 25) then (F_Mod_next_309 a2 w) else (am_ck (am_in (w.1 53 25) 160) ((F_Mod_in (w.1 58 (w.1 53 25).toNatClampNeg) (nI 48) (nI 57) w).bind fun q9 => if q9.1 = 0 then (F_Mod_next_309 a2 q9.2) else (if (nI 4) ≤ a2 then (F_Mod_next_290 r230 a2 (nI 0) q9.2) else (am_ck (am_in (q9.2.1 53 25) 160) (F_Mod_next_290 r230 a2 ((((nI 10) * (q9.2.1 53 28)) + (q9.2.1 58 (q9.2.1 53 25).toNatClampNeg)) - (nI 48)) q9.2)))))
def L_Mod_next_230 : Nat → Int32 → am_W → Option (am_W)
  | 0, _, _ => none
  | n + 1, a2, w => F_Mod_next_230 (L_Mod_next_230 n) a2 w
def F_Mod_next_211 (s0 : Int32) (w : am_W) : Option (am_W) :=
  am_lt (wsf w 53 28 s0) fun w14 => F_Mod_next_403 w14
def F_Mod_next_195 (a2 : Int32) (s0 : Int32) (w : am_W) : Option (am_W) :=
  am_lt (wsf w 53 27 s0) fun w13 => if (nI 3) ≤ a2 then (F_Mod_next_211 (a2 - (nI 3)) w13) else (F_Mod_next_211 a2 w13)
def F_Mod_next_146 (w : am_W) : Option (am_W) :=
  (F_Mod_wordFrom (w.1 53 26) (w.1 53 25) w).bind fun q12 => if (nI 3) ≤ q12.1 then (if (nI 9) ≤ q12.1 then (if q12.1 = (nI 12) then (F_Mod_next_195 q12.1 (-nI 1) q12.2) else (F_Mod_next_195 q12.1 (((nI 4) + q12.1) - (nI 9)) q12.2)) else (F_Mod_next_195 q12.1 (nI 2) q12.2)) else (F_Mod_next_195 q12.1 (nI 3) q12.2)
def F_Mod_next_103 (r103 : am_W → Option (am_W)) (w : am_W) : Option (am_W) :=
  if (w.1 53 9) ≤ (w.1 53 25) then (F_Mod_next_146 w) else (am_ck (am_in (w.1 53 25) 160) ((F_Mod_in (w.1 58 (w.1 53 25).toNatClampNeg) (nI 97) (nI 122) w).bind fun q15 => if q15.1 = 0 then (F_Mod_next_146 q15.2) else (am_lt (wsf q15.2 53 25 ((q15.2.1 53 25) + (nI 1))) fun w16 => r103 w16)))
def L_Mod_next_103 : Nat → am_W → Option (am_W)
  | 0, _ => none
  | n + 1, w => F_Mod_next_103 (L_Mod_next_103 n) w
def F_Mod_next_52 (w : am_W) : Option (am_W) :=
  am_lt (wsf w 53 26 (w.1 53 25)) fun w1 => am_lt (wsf w1 53 27 (nI 0)) fun w2 => am_lt (wsf w2 53 28 (nI 0)) fun w3 => if (w3.1 53 25) = (w3.1 53 9) then (some w3) else (am_ck (am_in (w3.1 53 25) 160) ((F_Mod_in (w3.1 58 (w3.1 53 25).toNatClampNeg) (nI 97) (nI 122) w3).bind fun q4 => if q4.1 = 0 then ((F_Mod_in (w3.1 58 (w3.1 53 25).toNatClampNeg) (nI 48) (nI 57) q4.2).bind fun q5 => if q5.1 = 0 then (if (w3.1 58 (w3.1 53 25).toNatClampNeg) = (nI 40) then (F_Mod_next_374 (w3.1 58 (w3.1 53 25).toNatClampNeg) q5.2) else (if (w3.1 58 (w3.1 53 25).toNatClampNeg) = (nI 41) then (F_Mod_next_374 (w3.1 58 (w3.1 53 25).toNatClampNeg) q5.2) else (if (w3.1 58 (w3.1 53 25).toNatClampNeg) = (nI 59) then (F_Mod_next_374 (w3.1 58 (w3.1 53 25).toNatClampNeg) q5.2) else (if (w3.1 58 (w3.1 53 25).toNatClampNeg) = (nI 43) then (F_Mod_next_374 (w3.1 58 (w3.1 53 25).toNatClampNeg) q5.2) else (if (w3.1 58 (w3.1 53 25).toNatClampNeg) = (nI 45) then (F_Mod_next_374 (w3.1 58 (w3.1 53 25).toNatClampNeg) q5.2) else (if (w3.1 58 (w3.1 53 25).toNatClampNeg) = (nI 42) then (F_Mod_next_374 (w3.1 58 (w3.1 53 25).toNatClampNeg) q5.2) else (if (w3.1 58 (w3.1 53 25).toNatClampNeg) = (nI 60) then (F_Mod_next_374 (w3.1 58 (w3.1 53 25).toNatClampNeg) q5.2) else (if (w3.1 58 (w3.1 53 25).toNatClampNeg) = (nI 61) then (F_Mod_next_374 (w3.1 58 (w3.1 53 25).toNatClampNeg) q5.2) else (F_Mod_next_379 (w3.1 58 (w3.1 53 25).toNatClampNeg) (nI 0) q5.2))))))))) else (L_Mod_next_230 am_NF (nI 0) q5.2)) else (L_Mod_next_103 am_NF q4.2)))
def F_Mod_next_39 (r0 : am_W → Option (am_W)) (w : am_W) : Option (am_W) :=
  am_lt (wsf w 53 25 ((w.1 53 25) + (nI 1))) fun w17 => r0 w17
def F_Mod_next_0 (r0 : am_W → Option (am_W)) (w : am_W) : Option (am_W) :=
  if (w.1 53 9) ≤ (w.1 53 25) then (F_Mod_next_52 w) else (am_ck (am_in (w.1 53 25) 160) (if (w.1 58 (w.1 53 25).toNatClampNeg) = (nI 32) then (F_Mod_next_39 r0 w) else (am_ck (am_in (w.1 53 25) 160) (if (w.1 58 (w.1 53 25).toNatClampNeg) = (nI 10) then (F_Mod_next_39 r0 w) else (F_Mod_next_52 w)))))
def L_Mod_next_0 : Nat → am_W → Option (am_W)
  | 0, _ => none
  | n + 1, w => F_Mod_next_0 (L_Mod_next_0 n) w
def F_Mod_next (w : am_W) : Option (am_W) :=
  L_Mod_next_0 am_NF w
theorem T_Mod_next_403 {D : Nat} {o : am_W} (w : am_W) (H : F_Mod_next_403 w = some o) : am_gv (D + 1) 152 o (403, [], [], ww w, 0, 0) := by
  unfold F_Mod_next_403 at H
  exact am_go_blk 1 (am_fv H)
theorem T_Mod_next_390 {D : Nat} {o : am_W} (s0 : Int32) (w : am_W) (H : F_Mod_next_390 s0 w = some o) : am_gv (D + 1) 152 o (390, [(0, .ref 53)], [.int s0, .ref 53], ww w, 0, 0) := by
  unfold F_Mod_next_390 at H
  obtain ⟨w6, ew6, H⟩ := am_ltE H
  refine am_go_blk 1 ⟨rfl, rfl, am_hp (ww_f53_27 ew6) (?_ : am_gv (D + 1) 152 o (393, [(0, .ref 53)], [], ww w6, 0, 0))⟩
  obtain ⟨w7, ew7, H⟩ := am_ltE H
  refine am_go_blk 6 ⟨rfl, rfl, am_hp (ww_f53_25 ew7) (?_ : am_gv (D + 1) 152 o (403, [], [], ww w7, 0, 0))⟩
  exact T_Mod_next_403 w7 H
theorem T_Mod_next_379 {D : Nat} {o : am_W} (a1 : Int32) (s0 : Int32) (w : am_W) (H : F_Mod_next_379 a1 s0 w = some o) : am_gv (D + 1) 152 o (379, [(0, .ref 53), (1, .int a1)], [.int s0], ww w, 0, 0) := by
  unfold F_Mod_next_379 at H
  refine am_go_blk 4 ⟨fun hc => ?_, fun hc => ?_⟩
  · have H := am_it hc H
    show am_gv (D + 1) 152 o (389, [(0, .ref 53)], [.ref 53], ww w, 0, 0)
    exact am_go_blk 1 (T_Mod_next_390 (-nI 1) w H)
  · have H := am_ie hc H
    show am_gv (D + 1) 152 o (385, [(2, .int s0), (0, .ref 53), (1, .int a1)], [.ref 53], ww w, 0, 0)
    exact am_go_blk 2 (T_Mod_next_390 a1 w H)
theorem T_Mod_next_374 {D : Nat} {o : am_W} (a1 : Int32) (w : am_W) (H : F_Mod_next_374 a1 w = some o) : am_gv (D + 1) 152 o (374, [(0, .ref 53), (1, .int a1)], [], ww w, 0, 0) := by
  unfold F_Mod_next_374 at H
  exact am_go_blk 2 (T_Mod_next_379 a1 (nI 1) w H)
theorem T_Mod_next_320 {D : Nat} {o : am_W} (s0 : Int32) (w : am_W) (H : F_Mod_next_320 s0 w = some o) : am_gv (D + 1) 152 o (320, [], [.int s0, .ref 53], ww w, 0, 0) := by
  unfold F_Mod_next_320 at H
  obtain ⟨w8, ew8, H⟩ := am_ltE H
  refine am_go_blk 1 ⟨rfl, rfl, am_hp (ww_f53_27 ew8) (?_ : am_gv (D + 1) 152 o (323, [], [], ww w8, 0, 0))⟩
  exact am_go_blk 1 (T_Mod_next_403 w8 H)
theorem T_Mod_next_309 {D : Nat} {o : am_W} (a2 : Int32) (w : am_W) (H : F_Mod_next_309 a2 w = some o) : am_gv (D + 1) 152 o (309, [(0, .ref 53), (2, .int a2)], [], ww w, 0, 0) := by
  unfold F_Mod_next_309 at H
  refine am_go_blk 4 ⟨fun hc => ?_, fun hc => ?_⟩
  · have H := am_it hc H
    show am_gv (D + 1) 152 o (319, [], [.ref 53], ww w, 0, 0)
    exact am_go_blk 1 (T_Mod_next_320 (nI 1) w H)
  · have H := am_ie hc H
    show am_gv (D + 1) 152 o (315, [(0, .ref 53), (2, .int a2)], [.ref 53], ww w, 0, 0)
    exact am_go_blk 2 (T_Mod_next_320 (-nI 1) w H)
theorem T_Mod_next_290 {D : Nat} {o : am_W} {r230 : Int32 → am_W → Option (am_W)} (Hr230 : ∀ (a2 : Int32) (w : am_W) , r230 a2 w = some o → am_gv (D + 1) 152 o (230, [(0, .ref 53), (2, .int a2)], [], ww w, 0, 0)) (a2 : Int32) (s0 : Int32) (w : am_W) (H : F_Mod_next_290 r230 a2 s0 w = some o) : am_gv (D + 1) 152 o (290, [(0, .ref 53), (2, .int a2)], [.int s0, .ref 53], ww w, 0, 0) := by
  unfold F_Mod_next_290 at H
  obtain ⟨w10, ew10, H⟩ := am_ltE H
  refine am_go_blk 1 ⟨rfl, rfl, am_hp (ww_f53_28 ew10) (?_ : am_gv (D + 1) 152 o (293, [(0, .ref 53), (2, .int a2)], [], ww w10, 0, 0))⟩
  obtain ⟨w11, ew11, H⟩ := am_ltE H
  refine am_go_blk 7 ⟨rfl, rfl, am_hp (ww_f53_25 ew11) (?_ : am_gv (D + 1) 152 o (306, [(2, .int (a2 + (nI 1))), (0, .ref 53)], [], ww w11, 0, 0))⟩
  exact am_go_blk 1 (Hr230 (a2 + (nI 1)) w11 H)
theorem T_Mod_next_230 {D : Nat} {o : am_W} {r230 : Int32 → am_W → Option (am_W)} (Hr230 : ∀ (a2 : Int32) (w : am_W) , r230 a2 w = some o → am_gv (D + 1) 152 o (230, [(0, .ref 53), (2, .int a2)], [], ww w, 0, 0)) (a2 : Int32) (w : am_W) (H : F_Mod_next_230 r230 a2 w = some o) : am_gv (D + 1) 152 o (230, [(0, .ref 53), (2, .int a2)], [], ww w, 0, 0) := by
  unfold F_Mod_next_230 at H
  refine am_go_blk 5 ⟨fun hc => ?_, fun hc => ?_⟩
  · have H := am_it hc H
    exact T_Mod_next_309 a2 w H
  · have H := am_ie hc H
    show am_gv (D + 1) 152 o (241, [(0, .ref 53), (2, .int a2)], [], ww w, 0, 0)
    obtain ⟨hc, H⟩ := am_ckE H
    refine am_go_blk 5 ⟨am_inv hc, (?_ : am_gv (D + 1) 152 o (250, [(0, .ref 53), (2, .int a2)], [.int (w.1 58 (w.1 53 25).toNatClampNeg)], ww w, 0, 0))⟩
    obtain ⟨q9, hqq9, H⟩ := am_bnE H
    refine am_go_blk 2 (?_ : am_gv (D + 1) 152 o (254, [(0, .ref 53), (2, .int a2)], [.int (nI 57), .int (nI 48), .int (w.1 58 (w.1 53 25).toNatClampNeg)], ww w, 0, 0))
    refine am_cls rfl rfl rfl (am_calli rfl (M_Mod_in (D := D) hqq9) (?_ : am_gv (D + 1) 152 o (257, [(0, .ref 53), (2, .int a2)], [.int q9.1], ww q9.2, 0, 0)))
    refine am_go_blk 1 ⟨fun hc => ?_, fun hc => ?_⟩
    · have H := am_it hc H
      exact T_Mod_next_309 a2 q9.2 H
    · have H := am_ie hc H
      show am_gv (D + 1) 152 o (260, [(0, .ref 53), (2, .int a2)], [], ww q9.2, 0, 0)
      refine am_go_blk 4 ⟨fun hc => ?_, fun hc => ?_⟩
      · have H := am_it hc H
        show am_gv (D + 1) 152 o (289, [(0, .ref 53), (2, .int a2)], [.ref 53], ww q9.2, 0, 0)
        exact am_go_blk 1 (T_Mod_next_290 Hr230 a2 (nI 0) q9.2 H)
      · have H := am_ie hc H
        show am_gv (D + 1) 152 o (266, [(0, .ref 53), (2, .int a2)], [.ref 53], ww q9.2, 0, 0)
        obtain ⟨hc, H⟩ := am_ckE H
        refine am_go_blk 9 ⟨am_inv hc, (?_ : am_gv (D + 1) 152 o (282, [(0, .ref 53), (2, .int a2)], [.int (q9.2.1 58 (q9.2.1 53 25).toNatClampNeg), .int ((nI 10) * (q9.2.1 53 28)), .ref 53], ww q9.2, 0, 0))⟩
        exact am_go_blk 4 (T_Mod_next_290 Hr230 a2 ((((nI 10) * (q9.2.1 53 28)) + (q9.2.1 58 (q9.2.1 53 25).toNatClampNeg)) - (nI 48)) q9.2 H)
theorem TL_Mod_next_230 {D : Nat} {o : am_W} : ∀ (n : Nat) (a2 : Int32) (w : am_W) , L_Mod_next_230 n a2 w = some o → am_gv (D + 1) 152 o (230, [(0, .ref 53), (2, .int a2)], [], ww w, 0, 0)
  | 0, _, _, H => by cases H
  | n + 1, a2, w, H => T_Mod_next_230 (TL_Mod_next_230 n) a2 w H
theorem T_Mod_next_211 {D : Nat} {o : am_W} (s0 : Int32) (w : am_W) (H : F_Mod_next_211 s0 w = some o) : am_gv (D + 1) 152 o (211, [], [.int s0, .ref 53], ww w, 0, 0) := by
  unfold F_Mod_next_211 at H
  obtain ⟨w14, ew14, H⟩ := am_ltE H
  refine am_go_blk 1 ⟨rfl, rfl, am_hp (ww_f53_28 ew14) (?_ : am_gv (D + 1) 152 o (214, [], [], ww w14, 0, 0))⟩
  exact am_go_blk 1 (T_Mod_next_403 w14 H)
theorem T_Mod_next_195 {D : Nat} {o : am_W} (a2 : Int32) (s0 : Int32) (w : am_W) (H : F_Mod_next_195 a2 s0 w = some o) : am_gv (D + 1) 152 o (195, [(0, .ref 53), (2, .int a2)], [.int s0, .ref 53], ww w, 0, 0) := by
  unfold F_Mod_next_195 at H
  obtain ⟨w13, ew13, H⟩ := am_ltE H
  refine am_go_blk 1 ⟨rfl, rfl, am_hp (ww_f53_27 ew13) (?_ : am_gv (D + 1) 152 o (198, [(0, .ref 53), (2, .int a2)], [], ww w13, 0, 0))⟩
  refine am_go_blk 4 ⟨fun hc => ?_, fun hc => ?_⟩
  · have H := am_it hc H
    show am_gv (D + 1) 152 o (208, [(2, .int a2)], [.ref 53], ww w13, 0, 0)
    exact am_go_blk 3 (T_Mod_next_211 (a2 - (nI 3)) w13 H)
  · have H := am_ie hc H
    show am_gv (D + 1) 152 o (204, [(0, .ref 53), (2, .int a2)], [.ref 53], ww w13, 0, 0)
    exact am_go_blk 2 (T_Mod_next_211 a2 w13 H)
theorem T_Mod_next_146 {D : Nat} {o : am_W} (w : am_W) (H : F_Mod_next_146 w = some o) : am_gv (D + 1) 152 o (146, [(0, .ref 53)], [], ww w, 0, 0) := by
  unfold F_Mod_next_146 at H
  obtain ⟨q12, hqq12, H⟩ := am_bnE H
  refine am_go_blk 5 (?_ : am_gv (D + 1) 152 o (155, [(0, .ref 53)], [.int (w.1 53 25), .int (w.1 53 26), .ref 53], ww w, 0, 0))
  refine am_invd rfl rfl rfl rfl (am_calli rfl (M_Mod_wordFrom (D := D) hqq12) (?_ : am_gv (D + 1) 152 o (158, [(0, .ref 53)], [.int q12.1], ww q12.2, 0, 0)))
  refine am_go_blk 5 ⟨fun hc => ?_, fun hc => ?_⟩
  · have H := am_it hc H
    show am_gv (D + 1) 152 o (169, [(0, .ref 53), (2, .int q12.1)], [.ref 53], ww q12.2, 0, 0)
    refine am_go_blk 3 ⟨fun hc => ?_, fun hc => ?_⟩
    · have H := am_it hc H
      show am_gv (D + 1) 152 o (179, [(0, .ref 53), (2, .int q12.1)], [.ref 53], ww q12.2, 0, 0)
      refine am_go_blk 3 ⟨fun hc => ?_, fun hc => ?_⟩
      · have H := am_ie hc H
        show am_gv (D + 1) 152 o (189, [(0, .ref 53), (2, .int q12.1)], [.ref 53], ww q12.2, 0, 0)
        exact am_go_blk 5 (T_Mod_next_195 q12.1 (((nI 4) + q12.1) - (nI 9)) q12.2 H)
      · have H := am_it hc H
        show am_gv (D + 1) 152 o (185, [(0, .ref 53), (2, .int q12.1)], [.ref 53], ww q12.2, 0, 0)
        exact am_go_blk 2 (T_Mod_next_195 q12.1 (-nI 1) q12.2 H)
    · have H := am_ie hc H
      show am_gv (D + 1) 152 o (175, [(0, .ref 53), (2, .int q12.1)], [.ref 53], ww q12.2, 0, 0)
      exact am_go_blk 2 (T_Mod_next_195 q12.1 (nI 2) q12.2 H)
  · have H := am_ie hc H
    show am_gv (D + 1) 152 o (165, [(2, .int q12.1), (0, .ref 53)], [.ref 53], ww q12.2, 0, 0)
    exact am_go_blk 2 (T_Mod_next_195 q12.1 (nI 3) q12.2 H)
theorem T_Mod_next_103 {D : Nat} {o : am_W} {r103 : am_W → Option (am_W)} (Hr103 : ∀ (w : am_W) , r103 w = some o → am_gv (D + 1) 152 o (103, [(0, .ref 53)], [], ww w, 0, 0)) (w : am_W) (H : F_Mod_next_103 r103 w = some o) : am_gv (D + 1) 152 o (103, [(0, .ref 53)], [], ww w, 0, 0) := by
  unfold F_Mod_next_103 at H
  refine am_go_blk 5 ⟨fun hc => ?_, fun hc => ?_⟩
  · have H := am_it hc H
    exact T_Mod_next_146 w H
  · have H := am_ie hc H
    show am_gv (D + 1) 152 o (114, [(0, .ref 53)], [], ww w, 0, 0)
    obtain ⟨hc, H⟩ := am_ckE H
    refine am_go_blk 5 ⟨am_inv hc, (?_ : am_gv (D + 1) 152 o (123, [(0, .ref 53)], [.int (w.1 58 (w.1 53 25).toNatClampNeg)], ww w, 0, 0))⟩
    obtain ⟨q15, hqq15, H⟩ := am_bnE H
    refine am_go_blk 2 (?_ : am_gv (D + 1) 152 o (127, [(0, .ref 53)], [.int (nI 122), .int (nI 97), .int (w.1 58 (w.1 53 25).toNatClampNeg)], ww w, 0, 0))
    refine am_cls rfl rfl rfl (am_calli rfl (M_Mod_in (D := D) hqq15) (?_ : am_gv (D + 1) 152 o (130, [(0, .ref 53)], [.int q15.1], ww q15.2, 0, 0)))
    refine am_go_blk 1 ⟨fun hc => ?_, fun hc => ?_⟩
    · have H := am_it hc H
      exact T_Mod_next_146 q15.2 H
    · have H := am_ie hc H
      show am_gv (D + 1) 152 o (133, [(0, .ref 53)], [], ww q15.2, 0, 0)
      obtain ⟨w16, ew16, H⟩ := am_ltE H
      refine am_go_blk 6 ⟨rfl, rfl, am_hp (ww_f53_25 ew16) (?_ : am_gv (D + 1) 152 o (143, [(0, .ref 53)], [], ww w16, 0, 0))⟩
      exact am_go_blk 1 (Hr103 w16 H)
theorem TL_Mod_next_103 {D : Nat} {o : am_W} : ∀ (n : Nat) (w : am_W) , L_Mod_next_103 n w = some o → am_gv (D + 1) 152 o (103, [(0, .ref 53)], [], ww w, 0, 0)
  | 0, _, H => by cases H
  | n + 1, w, H => T_Mod_next_103 (TL_Mod_next_103 n) w H
theorem T_Mod_next_52 {D : Nat} {o : am_W} (w : am_W) (H : F_Mod_next_52 w = some o) : am_gv (D + 1) 152 o (52, [(0, .ref 53)], [], ww w, 0, 0) := by
  unfold F_Mod_next_52 at H
  obtain ⟨w1, ew1, H⟩ := am_ltE H
  refine am_go_blk 4 ⟨rfl, rfl, am_hp (ww_f53_26 ew1) (?_ : am_gv (D + 1) 152 o (60, [(0, .ref 53)], [], ww w1, 0, 0))⟩
  obtain ⟨w2, ew2, H⟩ := am_ltE H
  refine am_go_blk 3 ⟨rfl, rfl, am_hp (ww_f53_27 ew2) (?_ : am_gv (D + 1) 152 o (65, [(0, .ref 53)], [], ww w2, 0, 0))⟩
  obtain ⟨w3, ew3, H⟩ := am_ltE H
  refine am_go_blk 3 ⟨rfl, rfl, am_hp (ww_f53_28 ew3) (?_ : am_gv (D + 1) 152 o (70, [(0, .ref 53)], [], ww w3, 0, 0))⟩
  refine am_go_blk 5 ⟨fun hc => ?_, fun hc => ?_⟩
  · have H := am_ie hc H
    show am_gv (D + 1) 152 o (82, [(0, .ref 53)], [], ww w3, 0, 0)
    obtain ⟨hc, H⟩ := am_ckE H
    refine am_go_blk 5 ⟨am_inv hc, (?_ : am_gv (D + 1) 152 o (91, [(0, .ref 53)], [.int (w3.1 58 (w3.1 53 25).toNatClampNeg)], ww w3, 0, 0))⟩
    obtain ⟨q4, hqq4, H⟩ := am_bnE H
    refine am_go_blk 4 (?_ : am_gv (D + 1) 152 o (97, [(1, .int (w3.1 58 (w3.1 53 25).toNatClampNeg)), (0, .ref 53)], [.int (nI 122), .int (nI 97), .int (w3.1 58 (w3.1 53 25).toNatClampNeg)], ww w3, 0, 0))
    refine am_cls rfl rfl rfl (am_calli rfl (M_Mod_in (D := D) hqq4) (?_ : am_gv (D + 1) 152 o (100, [(1, .int (w3.1 58 (w3.1 53 25).toNatClampNeg)), (0, .ref 53)], [.int q4.1], ww q4.2, 0, 0)))
    refine am_go_blk 1 ⟨fun hc => ?_, fun hc => ?_⟩
    · have H := am_it hc H
      show am_gv (D + 1) 152 o (217, [(0, .ref 53), (1, .int (w3.1 58 (w3.1 53 25).toNatClampNeg))], [], ww q4.2, 0, 0)
      obtain ⟨q5, hqq5, H⟩ := am_bnE H
      refine am_go_blk 3 (?_ : am_gv (D + 1) 152 o (222, [(0, .ref 53), (1, .int (w3.1 58 (w3.1 53 25).toNatClampNeg))], [.int (nI 57), .int (nI 48), .int (w3.1 58 (w3.1 53 25).toNatClampNeg)], ww q4.2, 0, 0))
      refine am_cls rfl rfl rfl (am_calli rfl (M_Mod_in (D := D) hqq5) (?_ : am_gv (D + 1) 152 o (225, [(0, .ref 53), (1, .int (w3.1 58 (w3.1 53 25).toNatClampNeg))], [.int q5.1], ww q5.2, 0, 0)))
      refine am_go_blk 1 ⟨fun hc => ?_, fun hc => ?_⟩
      · have H := am_it hc H
        show am_gv (D + 1) 152 o (326, [(0, .ref 53), (1, .int (w3.1 58 (w3.1 53 25).toNatClampNeg))], [], ww q5.2, 0, 0)
        refine am_go_blk 3 ⟨fun hc => ?_, fun hc => ?_⟩
        · have H := am_it hc H
          exact T_Mod_next_374 (w3.1 58 (w3.1 53 25).toNatClampNeg) q5.2 H
        · have H := am_ie hc H
          show am_gv (D + 1) 152 o (332, [(0, .ref 53), (1, .int (w3.1 58 (w3.1 53 25).toNatClampNeg))], [], ww q5.2, 0, 0)
          refine am_go_blk 3 ⟨fun hc => ?_, fun hc => ?_⟩
          · have H := am_it hc H
            exact T_Mod_next_374 (w3.1 58 (w3.1 53 25).toNatClampNeg) q5.2 H
          · have H := am_ie hc H
            show am_gv (D + 1) 152 o (338, [(0, .ref 53), (1, .int (w3.1 58 (w3.1 53 25).toNatClampNeg))], [], ww q5.2, 0, 0)
            refine am_go_blk 3 ⟨fun hc => ?_, fun hc => ?_⟩
            · have H := am_it hc H
              exact T_Mod_next_374 (w3.1 58 (w3.1 53 25).toNatClampNeg) q5.2 H
            · have H := am_ie hc H
              show am_gv (D + 1) 152 o (344, [(0, .ref 53), (1, .int (w3.1 58 (w3.1 53 25).toNatClampNeg))], [], ww q5.2, 0, 0)
              refine am_go_blk 3 ⟨fun hc => ?_, fun hc => ?_⟩
              · have H := am_it hc H
                exact T_Mod_next_374 (w3.1 58 (w3.1 53 25).toNatClampNeg) q5.2 H
              · have H := am_ie hc H
                show am_gv (D + 1) 152 o (350, [(0, .ref 53), (1, .int (w3.1 58 (w3.1 53 25).toNatClampNeg))], [], ww q5.2, 0, 0)
                refine am_go_blk 3 ⟨fun hc => ?_, fun hc => ?_⟩
                · have H := am_it hc H
                  exact T_Mod_next_374 (w3.1 58 (w3.1 53 25).toNatClampNeg) q5.2 H
                · have H := am_ie hc H
                  show am_gv (D + 1) 152 o (356, [(0, .ref 53), (1, .int (w3.1 58 (w3.1 53 25).toNatClampNeg))], [], ww q5.2, 0, 0)
                  refine am_go_blk 3 ⟨fun hc => ?_, fun hc => ?_⟩
                  · have H := am_it hc H
                    exact T_Mod_next_374 (w3.1 58 (w3.1 53 25).toNatClampNeg) q5.2 H
                  · have H := am_ie hc H
                    show am_gv (D + 1) 152 o (362, [(0, .ref 53), (1, .int (w3.1 58 (w3.1 53 25).toNatClampNeg))], [], ww q5.2, 0, 0)
                    refine am_go_blk 3 ⟨fun hc => ?_, fun hc => ?_⟩
                    · have H := am_it hc H
                      exact T_Mod_next_374 (w3.1 58 (w3.1 53 25).toNatClampNeg) q5.2 H
                    · have H := am_ie hc H
                      show am_gv (D + 1) 152 o (368, [(0, .ref 53), (1, .int (w3.1 58 (w3.1 53 25).toNatClampNeg))], [], ww q5.2, 0, 0)
                      refine am_go_blk 3 ⟨fun hc => ?_, fun hc => ?_⟩
                      · have H := am_ie hc H
                        show am_gv (D + 1) 152 o (378, [(0, .ref 53), (1, .int (w3.1 58 (w3.1 53 25).toNatClampNeg))], [], ww q5.2, 0, 0)
                        exact am_go_blk 1 (T_Mod_next_379 (w3.1 58 (w3.1 53 25).toNatClampNeg) (nI 0) q5.2 H)
                      · have H := am_it hc H
                        exact T_Mod_next_374 (w3.1 58 (w3.1 53 25).toNatClampNeg) q5.2 H
      · have H := am_ie hc H
        show am_gv (D + 1) 152 o (228, [(0, .ref 53), (1, .int (w3.1 58 (w3.1 53 25).toNatClampNeg))], [], ww q5.2, 0, 0)
        exact am_go_blk 2 (TL_Mod_next_230 am_NF (nI 0) q5.2 H)
    · have H := am_ie hc H
      exact TL_Mod_next_103 am_NF q4.2 H
  · have H := am_it hc H
    show am_gv (D + 1) 152 o (81, [(0, .ref 53)], [], ww w3, 0, 0)
    exact am_go_blk 1 (am_fv H)
theorem T_Mod_next_39 {D : Nat} {o : am_W} {r0 : am_W → Option (am_W)} (Hr0 : ∀ (w : am_W) , r0 w = some o → am_gv (D + 1) 152 o (0, [(0, .ref 53)], [], ww w, 0, 0)) (w : am_W) (H : F_Mod_next_39 r0 w = some o) : am_gv (D + 1) 152 o (39, [(0, .ref 53)], [], ww w, 0, 0) := by
  unfold F_Mod_next_39 at H
  obtain ⟨w17, ew17, H⟩ := am_ltE H
  refine am_go_blk 6 ⟨rfl, rfl, am_hp (ww_f53_25 ew17) (?_ : am_gv (D + 1) 152 o (49, [(0, .ref 53)], [], ww w17, 0, 0))⟩
  exact am_go_blk 1 (Hr0 w17 H)
theorem T_Mod_next_0 {D : Nat} {o : am_W} {r0 : am_W → Option (am_W)} (Hr0 : ∀ (w : am_W) , r0 w = some o → am_gv (D + 1) 152 o (0, [(0, .ref 53)], [], ww w, 0, 0)) (w : am_W) (H : F_Mod_next_0 r0 w = some o) : am_gv (D + 1) 152 o (0, [(0, .ref 53)], [], ww w, 0, 0) := by
  unfold F_Mod_next_0 at H
  refine am_go_blk 5 ⟨fun hc => ?_, fun hc => ?_⟩
  · have H := am_it hc H
    exact T_Mod_next_52 w H
  · have H := am_ie hc H
    show am_gv (D + 1) 152 o (11, [(0, .ref 53)], [], ww w, 0, 0)
    obtain ⟨hc, H⟩ := am_ckE H
    refine am_go_blk 5 ⟨am_inv hc, (?_ : am_gv (D + 1) 152 o (20, [(0, .ref 53)], [.int (w.1 58 (w.1 53 25).toNatClampNeg)], ww w, 0, 0))⟩
    refine am_go_blk 2 ⟨fun hc => ?_, fun hc => ?_⟩
    · have H := am_it hc H
      exact T_Mod_next_39 Hr0 w H
    · have H := am_ie hc H
      show am_gv (D + 1) 152 o (25, [(0, .ref 53)], [], ww w, 0, 0)
      obtain ⟨hc, H⟩ := am_ckE H
      refine am_go_blk 5 ⟨am_inv hc, (?_ : am_gv (D + 1) 152 o (34, [(0, .ref 53)], [.int (w.1 58 (w.1 53 25).toNatClampNeg)], ww w, 0, 0))⟩
      refine am_go_blk 2 ⟨fun hc => ?_, fun hc => ?_⟩
      · have H := am_ie hc H
        exact T_Mod_next_52 w H
      · have H := am_it hc H
        exact T_Mod_next_39 Hr0 w H
theorem TL_Mod_next_0 {D : Nat} {o : am_W} : ∀ (n : Nat) (w : am_W) , L_Mod_next_0 n w = some o → am_gv (D + 1) 152 o (0, [(0, .ref 53)], [], ww w, 0, 0)
  | 0, _, H => by cases H
  | n + 1, w, H => T_Mod_next_0 (TL_Mod_next_0 n) w H
theorem T_Mod_next {D : Nat} {o : am_W} (w : am_W) (H : F_Mod_next w = some o) : am_gv (D + 1) 152 o (0, [(0, .ref 53)], [], ww w, 0, 0) := by
  unfold F_Mod_next at H
  exact TL_Mod_next_0 am_NF w H
theorem M_Mod_next {D : Nat} {o : am_W} {w : am_W} (H : F_Mod_next w = some o) : am_run (D + 2) 152 [.ref 53] (ww w) none (ww o) 0 0 :=
  am_run_of rfl (T_Mod_next w H)
def F_Mod_signOf_97 (s0 : Int32) (w : am_W) : Option (Int32 × am_W) :=
  some (s0, w)
def F_Mod_signOf (w : am_W) : Option (Int32 × am_W) :=
  if (w.1 53 27) = (nI 4) then (F_Mod_signOf_97 (nI 11) w) else (if (w.1 53 27) = (nI 5) then (F_Mod_signOf_97 (nI 12) w) else (if (w.1 53 27) = (nI 60) then (F_Mod_signOf_97 (nI 14) w) else (if (w.1 53 27) = (nI 61) then (F_Mod_signOf_97 (nI 15) w) else (if (w.1 53 27) = (nI 43) then (F_Mod_signOf_97 (nI 16) w) else (if (w.1 53 27) = (nI 45) then (F_Mod_signOf_97 (nI 17) w) else (if (w.1 53 27) = (nI 42) then (F_Mod_signOf_97 (nI 18) w) else (F_Mod_signOf_97 (-nI 1) w)))))))
theorem T_Mod_signOf_97 {D : Nat} {o : Int32 × am_W} (s0 : Int32) (w : am_W) (H : F_Mod_signOf_97 s0 w = some o) : am_gi D 159 o (97, [], [.int s0], ww w, 0, 0) := by
  unfold F_Mod_signOf_97 at H
  exact am_go_blk 1 ⟨rfl, am_fi H⟩
theorem T_Mod_signOf {D : Nat} {o : Int32 × am_W} (w : am_W) (H : F_Mod_signOf w = some o) : am_gi D 159 o (0, [(0, .ref 53)], [], ww w, 0, 0) := by
  unfold F_Mod_signOf at H
  refine am_go_blk 4 ⟨fun hc => ?_, fun hc => ?_⟩
  · have H := am_ie hc H
    show am_gi D 159 o (13, [(0, .ref 53)], [], ww w, 0, 0)
    refine am_go_blk 4 ⟨fun hc => ?_, fun hc => ?_⟩
    · have H := am_ie hc H
      show am_gi D 159 o (26, [(0, .ref 53)], [], ww w, 0, 0)
      refine am_go_blk 4 ⟨fun hc => ?_, fun hc => ?_⟩
      · have H := am_ie hc H
        show am_gi D 159 o (40, [(0, .ref 53)], [], ww w, 0, 0)
        refine am_go_blk 4 ⟨fun hc => ?_, fun hc => ?_⟩
        · have H := am_ie hc H
          show am_gi D 159 o (54, [(0, .ref 53)], [], ww w, 0, 0)
          refine am_go_blk 4 ⟨fun hc => ?_, fun hc => ?_⟩
          · have H := am_ie hc H
            show am_gi D 159 o (68, [(0, .ref 53)], [], ww w, 0, 0)
            refine am_go_blk 4 ⟨fun hc => ?_, fun hc => ?_⟩
            · have H := am_ie hc H
              show am_gi D 159 o (82, [(0, .ref 53)], [], ww w, 0, 0)
              refine am_go_blk 4 ⟨fun hc => ?_, fun hc => ?_⟩
              · have H := am_ie hc H
                show am_gi D 159 o (96, [], [], ww w, 0, 0)
                exact am_go_blk 1 (T_Mod_signOf_97 (-nI 1) w H)
              · have H := am_it hc H
                show am_gi D 159 o (91, [(0, .ref 53)], [], ww w, 0, 0)
                exact am_go_blk 2 (T_Mod_signOf_97 (nI 18) w H)
            · have H := am_it hc H
              show am_gi D 159 o (77, [(0, .ref 53)], [], ww w, 0, 0)
              exact am_go_blk 2 (T_Mod_signOf_97 (nI 17) w H)
          · have H := am_it hc H
            show am_gi D 159 o (63, [(0, .ref 53)], [], ww w, 0, 0)
            exact am_go_blk 2 (T_Mod_signOf_97 (nI 16) w H)
        · have H := am_it hc H
          show am_gi D 159 o (49, [(0, .ref 53)], [], ww w, 0, 0)
          exact am_go_blk 2 (T_Mod_signOf_97 (nI 15) w H)
      · have H := am_it hc H
        show am_gi D 159 o (35, [(0, .ref 53)], [], ww w, 0, 0)
        exact am_go_blk 2 (T_Mod_signOf_97 (nI 14) w H)
    · have H := am_it hc H
      show am_gi D 159 o (21, [(0, .ref 53)], [], ww w, 0, 0)
      exact am_go_blk 2 (T_Mod_signOf_97 (nI 12) w H)
  · have H := am_it hc H
    show am_gi D 159 o (8, [(0, .ref 53)], [], ww w, 0, 0)
    exact am_go_blk 2 (T_Mod_signOf_97 (nI 11) w H)
theorem M_Mod_signOf {D : Nat} {o : Int32 × am_W} {w : am_W} (H : F_Mod_signOf w = some o) : am_run (D + 1) 159 [.ref 53] (ww w) (some (.int o.1)) (ww o.2) 0 0 :=
  am_run_of rfl (T_Mod_signOf w H)
def F_Mod_rank_71 (s0 : Int32) (w : am_W) : Option (Int32 × am_W) :=
  some (s0, w)
def F_Mod_rank (a0 : Int32) (w : am_W) : Option (Int32 × am_W) :=
  if a0 = 0 then (F_Mod_rank_71 (nI 0) w) else (if a0 = (nI 11) then (F_Mod_rank_71 (nI 1) w) else (if a0 = (nI 12) then (F_Mod_rank_71 (nI 2) w) else (if a0 = (nI 13) then (F_Mod_rank_71 (nI 3) w) else (if (nI 15) < a0 then (if (nI 17) < a0 then (if a0 = (nI 18) then (F_Mod_rank_71 (nI 6) w) else (F_Mod_rank_71 (nI 7) w)) else (F_Mod_rank_71 (nI 5) w)) else (F_Mod_rank_71 (nI 4) w)))))
theorem T_Mod_rank_71 {D : Nat} {o : Int32 × am_W} (s0 : Int32) (w : am_W) (H : F_Mod_rank_71 s0 w = some o) : am_gi D 153 o (71, [], [.int s0], ww w, 0, 0) := by
  unfold F_Mod_rank_71 at H
  exact am_go_blk 1 ⟨rfl, am_fi H⟩
theorem T_Mod_rank {D : Nat} {o : Int32 × am_W} (a0 : Int32) (w : am_W) (H : F_Mod_rank a0 w = some o) : am_gi D 153 o (0, [(0, .int a0)], [], ww w, 0, 0) := by
  unfold F_Mod_rank at H
  refine am_go_blk 2 ⟨fun hc => ?_, fun hc => ?_⟩
  · have H := am_ie hc H
    show am_gi D 153 o (8, [(0, .int a0)], [], ww w, 0, 0)
    refine am_go_blk 3 ⟨fun hc => ?_, fun hc => ?_⟩
    · have H := am_ie hc H
      show am_gi D 153 o (18, [(0, .int a0)], [], ww w, 0, 0)
      refine am_go_blk 3 ⟨fun hc => ?_, fun hc => ?_⟩
      · have H := am_ie hc H
        show am_gi D 153 o (28, [(0, .int a0)], [], ww w, 0, 0)
        refine am_go_blk 3 ⟨fun hc => ?_, fun hc => ?_⟩
        · have H := am_ie hc H
          show am_gi D 153 o (38, [(0, .int a0)], [], ww w, 0, 0)
          refine am_go_blk 3 ⟨fun hc => ?_, fun hc => ?_⟩
          · have H := am_it hc H
            show am_gi D 153 o (48, [(0, .int a0)], [], ww w, 0, 0)
            refine am_go_blk 3 ⟨fun hc => ?_, fun hc => ?_⟩
            · have H := am_it hc H
              show am_gi D 153 o (58, [(0, .int a0)], [], ww w, 0, 0)
              refine am_go_blk 3 ⟨fun hc => ?_, fun hc => ?_⟩
              · have H := am_ie hc H
                show am_gi D 153 o (69, [], [], ww w, 0, 0)
                exact am_go_blk 1 (T_Mod_rank_71 (nI 7) w H)
              · have H := am_it hc H
                show am_gi D 153 o (64, [(0, .int a0)], [], ww w, 0, 0)
                exact am_go_blk 2 (T_Mod_rank_71 (nI 6) w H)
            · have H := am_ie hc H
              show am_gi D 153 o (54, [(0, .int a0)], [], ww w, 0, 0)
              exact am_go_blk 2 (T_Mod_rank_71 (nI 5) w H)
          · have H := am_ie hc H
            show am_gi D 153 o (44, [(0, .int a0)], [], ww w, 0, 0)
            exact am_go_blk 2 (T_Mod_rank_71 (nI 4) w H)
        · have H := am_it hc H
          show am_gi D 153 o (34, [(0, .int a0)], [], ww w, 0, 0)
          exact am_go_blk 2 (T_Mod_rank_71 (nI 3) w H)
      · have H := am_it hc H
        show am_gi D 153 o (24, [(0, .int a0)], [], ww w, 0, 0)
        exact am_go_blk 2 (T_Mod_rank_71 (nI 2) w H)
    · have H := am_it hc H
      show am_gi D 153 o (14, [(0, .int a0)], [], ww w, 0, 0)
      exact am_go_blk 2 (T_Mod_rank_71 (nI 1) w H)
  · have H := am_it hc H
    show am_gi D 153 o (4, [(0, .int a0)], [], ww w, 0, 0)
    exact am_go_blk 2 (T_Mod_rank_71 (nI 0) w H)
theorem M_Mod_rank {D : Nat} {o : Int32 × am_W} {a0 : Int32} {w : am_W} (H : F_Mod_rank a0 w = some o) : am_run (D + 1) 153 [.int a0] (ww w) (some (.int o.1)) (ww o.2) 0 0 :=
  am_run_of rfl (T_Mod_rank a0 w H)
def F_Mod_puts (a1 : Int32) (w : am_W) : Option (am_W) :=
  am_ck (am_in (((nI 200) * (w.1 53 12)) + (w.1 53 33)) 1200) (am_lt (wst w 59 (((nI 200) * (w.1 53 12)) + (w.1 53 33)) a1) fun w1 => am_lt (wsf w1 53 33 ((w1.1 53 33) + (nI 1))) fun w2 => some w2)
theorem T_Mod_puts {D : Nat} {o : am_W} (a1 : Int32) (w : am_W) (H : F_Mod_puts a1 w = some o) : am_gv D 154 o (0, [(0, .ref 53), (1, .int a1)], [], ww w, 0, 0) := by
  unfold F_Mod_puts at H
  obtain ⟨hc, H⟩ := am_ckE H
  obtain ⟨w1, ew1, H⟩ := am_ltE H
  refine am_go_blk 11 ⟨am_inv hc, am_hp (ww_s59 ew1) (?_ : am_gv D 154 o (19, [(0, .ref 53), (1, .int a1)], [], ww w1, 0, 0))⟩
  obtain ⟨w2, ew2, H⟩ := am_ltE H
  refine am_go_blk 6 ⟨rfl, rfl, am_hp (ww_f53_33 ew2) (?_ : am_gv D 154 o (29, [(0, .ref 53), (1, .int a1)], [], ww w2, 0, 0))⟩
  exact am_go_blk 1 (am_fv H)
theorem M_Mod_puts {D : Nat} {o : am_W} {a1 : Int32} {w : am_W} (H : F_Mod_puts a1 w = some o) : am_run (D + 1) 154 [.ref 53, .int a1] (ww w) none (ww o) 0 0 :=
  am_run_of rfl (T_Mod_puts a1 w H)
def F_Mod_unwinds_79 (w : am_W) : Option (am_W) :=
  some w
def F_Mod_unwinds_67 (r0 : Int32 → am_W → Option (am_W)) (a1 : Int32) (a2 : Int32) (s0 : Int32) (s1 : Int32) (w : am_W) : Option (am_W) :=
  am_lt (wsf w 53 32 (s1 - s0)) fun w3 => (F_Mod_puts a2 w3).bind fun w4 => r0 a1 w4
def F_Mod_unwinds_62 (r0 : Int32 → am_W → Option (am_W)) (a1 : Int32) (a2 : Int32) (s0 : Int32) (w : am_W) : Option (am_W) :=
  F_Mod_unwinds_67 r0 a1 a2 (nI 1) s0 w
def F_Mod_unwinds_0 (r0 : Int32 → am_W → Option (am_W)) (a1 : Int32) (w : am_W) : Option (am_W) :=
  if (w.1 53 31) ≤ 0 then (F_Mod_unwinds_79 w) else (am_ck (am_in ((w.1 53 31) - (nI 1)) 200) ((F_Mod_rank (w.1 67 ((w.1 53 31) - (nI 1)).toNatClampNeg) w).bind fun q1 => if q1.1 < a1 then (F_Mod_unwinds_79 q1.2) else (am_lt (wsf q1.2 53 31 ((q1.2.1 53 31) - (nI 1))) fun w2 => am_ck (am_in (w2.1 53 31) 200) (if (w2.1 67 (w2.1 53 31).toNatClampNeg) = (nI 13) then (F_Mod_unwinds_62 r0 a1 (w2.1 67 (w2.1 53 31).toNatClampNeg) (w2.1 53 32) w2) else (if (w2.1 67 (w2.1 53 31).toNatClampNeg) = (nI 19) then (F_Mod_unwinds_62 r0 a1 (w2.1 67 (w2.1 53 31).toNatClampNeg) (w2.1 53 32) w2) else (F_Mod_unwinds_67 r0 a1 (w2.1 67 (w2.1 53 31).toNatClampNeg) (nI 0) (w2.1 53 32) w2))))))
def L_Mod_unwinds_0 : Nat → Int32 → am_W → Option (am_W)
  | 0, _, _ => none
  | n + 1, a1, w => F_Mod_unwinds_0 (L_Mod_unwinds_0 n) a1 w
def F_Mod_unwinds (a1 : Int32) (w : am_W) : Option (am_W) :=
  L_Mod_unwinds_0 am_NF a1 w
theorem T_Mod_unwinds_79 {D : Nat} {o : am_W} (w : am_W) (H : F_Mod_unwinds_79 w = some o) : am_gv (D + 1) 155 o (79, [], [], ww w, 0, 0) := by
  unfold F_Mod_unwinds_79 at H
  exact am_go_blk 1 (am_fv H)
theorem T_Mod_unwinds_67 {D : Nat} {o : am_W} {r0 : Int32 → am_W → Option (am_W)} (Hr0 : ∀ (a1 : Int32) (w : am_W) , r0 a1 w = some o → am_gv (D + 1) 155 o (0, [(0, .ref 53), (1, .int a1)], [], ww w, 0, 0)) (a1 : Int32) (a2 : Int32) (s0 : Int32) (s1 : Int32) (w : am_W) (H : F_Mod_unwinds_67 r0 a1 a2 s0 s1 w = some o) : am_gv (D + 1) 155 o (67, [(0, .ref 53), (1, .int a1), (2, .int a2)], [.int s0, .int s1, .ref 53], ww w, 0, 0) := by
  unfold F_Mod_unwinds_67 at H
  obtain ⟨w3, ew3, H⟩ := am_ltE H
  refine am_go_blk 2 ⟨rfl, rfl, am_hp (ww_f53_32 ew3) (?_ : am_gv (D + 1) 155 o (71, [(0, .ref 53), (1, .int a1), (2, .int a2)], [], ww w3, 0, 0))⟩
  obtain ⟨w4, hqw4, H⟩ := am_bnE H
  refine am_go_blk 2 (?_ : am_gv (D + 1) 155 o (73, [(0, .ref 53), (1, .int a1), (2, .int a2)], [.int a2, .ref 53], ww w3, 0, 0))
  refine am_invd rfl rfl rfl rfl (am_callv rfl (M_Mod_puts (D := D) hqw4) (?_ : am_gv (D + 1) 155 o (76, [(0, .ref 53), (1, .int a1), (2, .int a2)], [], ww w4, 0, 0)))
  exact am_go_blk 1 (Hr0 a1 w4 H)
theorem T_Mod_unwinds_62 {D : Nat} {o : am_W} {r0 : Int32 → am_W → Option (am_W)} (Hr0 : ∀ (a1 : Int32) (w : am_W) , r0 a1 w = some o → am_gv (D + 1) 155 o (0, [(0, .ref 53), (1, .int a1)], [], ww w, 0, 0)) (a1 : Int32) (a2 : Int32) (s0 : Int32) (w : am_W) (H : F_Mod_unwinds_62 r0 a1 a2 s0 w = some o) : am_gv (D + 1) 155 o (62, [(0, .ref 53), (1, .int a1), (2, .int a2)], [.int s0, .ref 53], ww w, 0, 0) := by
  unfold F_Mod_unwinds_62 at H
  exact am_go_blk 2 (T_Mod_unwinds_67 Hr0 a1 a2 (nI 1) s0 w H)
theorem T_Mod_unwinds_0 {D : Nat} {o : am_W} {r0 : Int32 → am_W → Option (am_W)} (Hr0 : ∀ (a1 : Int32) (w : am_W) , r0 a1 w = some o → am_gv (D + 1) 155 o (0, [(0, .ref 53), (1, .int a1)], [], ww w, 0, 0)) (a1 : Int32) (w : am_W) (H : F_Mod_unwinds_0 r0 a1 w = some o) : am_gv (D + 1) 155 o (0, [(0, .ref 53), (1, .int a1)], [], ww w, 0, 0) := by
  unfold F_Mod_unwinds_0 at H
  refine am_go_blk 3 ⟨fun hc => ?_, fun hc => ?_⟩
  · have H := am_it hc H
    exact T_Mod_unwinds_79 w H
  · have H := am_ie hc H
    show am_gv (D + 1) 155 o (7, [(0, .ref 53), (1, .int a1)], [], ww w, 0, 0)
    obtain ⟨hc, H⟩ := am_ckE H
    refine am_go_blk 7 ⟨am_inv hc, (?_ : am_gv (D + 1) 155 o (18, [(0, .ref 53), (1, .int a1)], [.int (w.1 67 ((w.1 53 31) - (nI 1)).toNatClampNeg)], ww w, 0, 0))⟩
    obtain ⟨q1, hqq1, H⟩ := am_bnE H
    refine am_cls rfl rfl rfl (am_calli rfl (M_Mod_rank (D := D) hqq1) (?_ : am_gv (D + 1) 155 o (21, [(0, .ref 53), (1, .int a1)], [.int q1.1], ww q1.2, 0, 0)))
    refine am_go_blk 2 ⟨fun hc => ?_, fun hc => ?_⟩
    · have H := am_it hc H
      exact T_Mod_unwinds_79 q1.2 H
    · have H := am_ie hc H
      show am_gv (D + 1) 155 o (25, [(0, .ref 53), (1, .int a1)], [], ww q1.2, 0, 0)
      obtain ⟨w2, ew2, H⟩ := am_ltE H
      refine am_go_blk 6 ⟨rfl, rfl, am_hp (ww_f53_31 ew2) (?_ : am_gv (D + 1) 155 o (35, [(0, .ref 53), (1, .int a1)], [], ww w2, 0, 0))⟩
      obtain ⟨hc, H⟩ := am_ckE H
      refine am_go_blk 5 ⟨am_inv hc, (?_ : am_gv (D + 1) 155 o (44, [(0, .ref 53), (1, .int a1)], [.int (w2.1 67 (w2.1 53 31).toNatClampNeg)], ww w2, 0, 0))⟩
      refine am_go_blk 7 ⟨fun hc => ?_, fun hc => ?_⟩
      · have H := am_it hc H
        exact T_Mod_unwinds_62 Hr0 a1 (w2.1 67 (w2.1 53 31).toNatClampNeg) (w2.1 53 32) w2 H
      · have H := am_ie hc H
        show am_gv (D + 1) 155 o (56, [(2, .int (w2.1 67 (w2.1 53 31).toNatClampNeg)), (0, .ref 53), (1, .int a1)], [.int (w2.1 53 32), .ref 53], ww w2, 0, 0)
        refine am_go_blk 3 ⟨fun hc => ?_, fun hc => ?_⟩
        · have H := am_ie hc H
          show am_gv (D + 1) 155 o (66, [(0, .ref 53), (1, .int a1), (2, .int (w2.1 67 (w2.1 53 31).toNatClampNeg))], [.int (w2.1 53 32), .ref 53], ww w2, 0, 0)
          exact am_go_blk 1 (T_Mod_unwinds_67 Hr0 a1 (w2.1 67 (w2.1 53 31).toNatClampNeg) (nI 0) (w2.1 53 32) w2 H)
        · have H := am_it hc H
          exact T_Mod_unwinds_62 Hr0 a1 (w2.1 67 (w2.1 53 31).toNatClampNeg) (w2.1 53 32) w2 H
theorem TL_Mod_unwinds_0 {D : Nat} {o : am_W} : ∀ (n : Nat) (a1 : Int32) (w : am_W) , L_Mod_unwinds_0 n a1 w = some o → am_gv (D + 1) 155 o (0, [(0, .ref 53), (1, .int a1)], [], ww w, 0, 0)
  | 0, _, _, H => by cases H
  | n + 1, a1, w, H => T_Mod_unwinds_0 (TL_Mod_unwinds_0 n) a1 w H
theorem T_Mod_unwinds {D : Nat} {o : am_W} (a1 : Int32) (w : am_W) (H : F_Mod_unwinds a1 w = some o) : am_gv (D + 1) 155 o (0, [(0, .ref 53), (1, .int a1)], [], ww w, 0, 0) := by
  unfold F_Mod_unwinds at H
  exact TL_Mod_unwinds_0 am_NF a1 w H
theorem M_Mod_unwinds {D : Nat} {o : am_W} {a1 : Int32} {w : am_W} (H : F_Mod_unwinds a1 w = some o) : am_run (D + 2) 155 [.ref 53, .int a1] (ww w) none (ww o) 0 0 :=
  am_run_of rfl (T_Mod_unwinds a1 w H)
def F_Mod_holdsThat (a1 : Int32) (w : am_W) : Option (am_W) :=
  am_ck (am_in (w.1 53 31) 200) (am_lt (wst w 67 (w.1 53 31) a1) fun w1 => am_lt (wsf w1 53 31 ((w1.1 53 31) + (nI 1))) fun w2 => some w2)
theorem T_Mod_holdsThat {D : Nat} {o : am_W} (a1 : Int32) (w : am_W) (H : F_Mod_holdsThat a1 w = some o) : am_gv D 156 o (0, [(0, .ref 53), (1, .int a1)], [], ww w, 0, 0) := by
  unfold F_Mod_holdsThat at H
  obtain ⟨hc, H⟩ := am_ckE H
  obtain ⟨w1, ew1, H⟩ := am_ltE H
  refine am_go_blk 6 ⟨am_inv hc, am_hp (ww_s67 ew1) (?_ : am_gv D 156 o (10, [(0, .ref 53), (1, .int a1)], [], ww w1, 0, 0))⟩
  obtain ⟨w2, ew2, H⟩ := am_ltE H
  refine am_go_blk 6 ⟨rfl, rfl, am_hp (ww_f53_31 ew2) (?_ : am_gv D 156 o (20, [(0, .ref 53), (1, .int a1)], [], ww w2, 0, 0))⟩
  exact am_go_blk 1 (am_fv H)
theorem M_Mod_holdsThat {D : Nat} {o : am_W} {a1 : Int32} {w : am_W} (H : F_Mod_holdsThat a1 w = some o) : am_run (D + 1) 156 [.ref 53, .int a1] (ww w) none (ww o) 0 0 :=
  am_run_of rfl (T_Mod_holdsThat a1 w H)
def F_Mod_between_55 (a1 : Int32) (w : am_W) : Option (Int32 × am_W) :=
  (F_Mod_holdsThat a1 w).bind fun w5 => some ((nI 1), w5)
def F_Mod_between_17 (a1 : Int32) (s0 : Int32) (w : am_W) : Option (Int32 × am_W) :=
  (F_Mod_unwinds s0 w).bind fun w3 => (F_Mod_rank a1 w3).bind fun q4 => if q4.1 = (nI 4) then (if (q4.2.1 53 31) ≤ 0 then (F_Mod_between_55 a1 q4.2) else (am_ck (am_in ((q4.2.1 53 31) - (nI 1)) 200) ((F_Mod_rank (q4.2.1 67 ((q4.2.1 53 31) - (nI 1)).toNatClampNeg) q4.2).bind fun q6 => if q6.1 = (nI 4) then (some ((nI 0), q6.2)) else (F_Mod_between_55 a1 q6.2)))) else (F_Mod_between_55 a1 q4.2)
def F_Mod_between (a1 : Int32) (w : am_W) : Option (Int32 × am_W) :=
  (F_Mod_rank a1 w).bind fun q1 => if q1.1 = (nI 4) then (F_Mod_between_17 a1 (nI 5) q1.2) else ((F_Mod_rank a1 q1.2).bind fun q2 => F_Mod_between_17 a1 q2.1 q2.2)
theorem T_Mod_between_55 {D : Nat} {o : Int32 × am_W} (a1 : Int32) (w : am_W) (H : F_Mod_between_55 a1 w = some o) : am_gi (D + 2) 158 o (55, [(0, .ref 53), (1, .int a1)], [], ww w, 0, 0) := by
  unfold F_Mod_between_55 at H
  obtain ⟨w5, hqw5, H⟩ := am_bnE H
  refine am_go_blk 2 (?_ : am_gi (D + 2) 158 o (57, [(0, .ref 53), (1, .int a1)], [.int a1, .ref 53], ww w, 0, 0))
  refine am_invd rfl rfl rfl rfl (am_callv rfl (M_Mod_holdsThat (D := D + 1) hqw5) (?_ : am_gi (D + 2) 158 o (60, [(0, .ref 53), (1, .int a1)], [], ww w5, 0, 0)))
  exact am_go_blk 2 ⟨rfl, am_fi H⟩
theorem T_Mod_between_17 {D : Nat} {o : Int32 × am_W} (a1 : Int32) (s0 : Int32) (w : am_W) (H : F_Mod_between_17 a1 s0 w = some o) : am_gi (D + 2) 158 o (17, [(0, .ref 53), (1, .int a1)], [.int s0, .ref 53], ww w, 0, 0) := by
  unfold F_Mod_between_17 at H
  obtain ⟨w3, hqw3, H⟩ := am_bnE H
  refine am_invd rfl rfl rfl rfl (am_callv rfl (M_Mod_unwinds (D := D) hqw3) (?_ : am_gi (D + 2) 158 o (20, [(0, .ref 53), (1, .int a1)], [], ww w3, 0, 0)))
  obtain ⟨q4, hqq4, H⟩ := am_bnE H
  refine am_go_blk 1 (?_ : am_gi (D + 2) 158 o (21, [(0, .ref 53), (1, .int a1)], [.int a1], ww w3, 0, 0))
  refine am_cls rfl rfl rfl (am_calli rfl (M_Mod_rank (D := D + 1) hqq4) (?_ : am_gi (D + 2) 158 o (24, [(0, .ref 53), (1, .int a1)], [.int q4.1], ww q4.2, 0, 0)))
  refine am_go_blk 2 ⟨fun hc => ?_, fun hc => ?_⟩
  · have H := am_ie hc H
    exact T_Mod_between_55 a1 q4.2 H
  · have H := am_it hc H
    show am_gi (D + 2) 158 o (28, [(0, .ref 53), (1, .int a1)], [], ww q4.2, 0, 0)
    refine am_go_blk 3 ⟨fun hc => ?_, fun hc => ?_⟩
    · have H := am_it hc H
      exact T_Mod_between_55 a1 q4.2 H
    · have H := am_ie hc H
      show am_gi (D + 2) 158 o (35, [(0, .ref 53), (1, .int a1)], [], ww q4.2, 0, 0)
      obtain ⟨hc, H⟩ := am_ckE H
      refine am_go_blk 7 ⟨am_inv hc, (?_ : am_gi (D + 2) 158 o (46, [(0, .ref 53), (1, .int a1)], [.int (q4.2.1 67 ((q4.2.1 53 31) - (nI 1)).toNatClampNeg)], ww q4.2, 0, 0))⟩
      obtain ⟨q6, hqq6, H⟩ := am_bnE H
      refine am_cls rfl rfl rfl (am_calli rfl (M_Mod_rank (D := D + 1) hqq6) (?_ : am_gi (D + 2) 158 o (49, [(0, .ref 53), (1, .int a1)], [.int q6.1], ww q6.2, 0, 0)))
      refine am_go_blk 2 ⟨fun hc => ?_, fun hc => ?_⟩
      · have H := am_ie hc H
        exact T_Mod_between_55 a1 q6.2 H
      · have H := am_it hc H
        show am_gi (D + 2) 158 o (53, [(0, .ref 53), (1, .int a1)], [], ww q6.2, 0, 0)
        exact am_go_blk 2 ⟨rfl, am_fi H⟩
theorem T_Mod_between {D : Nat} {o : Int32 × am_W} (a1 : Int32) (w : am_W) (H : F_Mod_between a1 w = some o) : am_gi (D + 2) 158 o (0, [(0, .ref 53), (1, .int a1)], [], ww w, 0, 0) := by
  unfold F_Mod_between at H
  obtain ⟨q1, hqq1, H⟩ := am_bnE H
  refine am_go_blk 2 (?_ : am_gi (D + 2) 158 o (2, [(0, .ref 53), (1, .int a1)], [.int a1, .ref 53], ww w, 0, 0))
  refine am_cls rfl rfl rfl (am_calli rfl (M_Mod_rank (D := D + 1) hqq1) (?_ : am_gi (D + 2) 158 o (5, [(0, .ref 53), (1, .int a1)], [.int q1.1, .ref 53], ww q1.2, 0, 0)))
  refine am_go_blk 2 ⟨fun hc => ?_, fun hc => ?_⟩
  · have H := am_ie hc H
    show am_gi (D + 2) 158 o (13, [(0, .ref 53), (1, .int a1)], [.ref 53], ww q1.2, 0, 0)
    obtain ⟨q2, hqq2, H⟩ := am_bnE H
    refine am_go_blk 1 (?_ : am_gi (D + 2) 158 o (14, [(0, .ref 53), (1, .int a1)], [.int a1, .ref 53], ww q1.2, 0, 0))
    refine am_cls rfl rfl rfl (am_calli rfl (M_Mod_rank (D := D + 1) hqq2) (?_ : am_gi (D + 2) 158 o (17, [(0, .ref 53), (1, .int a1)], [.int q2.1, .ref 53], ww q2.2, 0, 0)))
    exact T_Mod_between_17 a1 q2.1 q2.2 H
  · have H := am_it hc H
    show am_gi (D + 2) 158 o (9, [(0, .ref 53), (1, .int a1)], [.ref 53], ww q1.2, 0, 0)
    exact am_go_blk 2 (T_Mod_between_17 a1 (nI 5) q1.2 H)
theorem M_Mod_between {D : Nat} {o : Int32 × am_W} {a1 : Int32} {w : am_W} (H : F_Mod_between a1 w = some o) : am_run (D + 3) 158 [.ref 53, .int a1] (ww w) (some (.int o.1)) (ww o.2) 0 0 :=
  am_run_of rfl (T_Mod_between a1 w H)
def F_Mod_opensOne (a1 : Int32) (w : am_W) : Option (Int32 × am_W) :=
  if (w.1 53 32) = (nI 5) then (some ((nI 0), w)) else (am_lt (wsf w 53 32 ((w.1 53 32) + (nI 1))) fun w1 => (F_Mod_holdsThat a1 w1).bind fun w2 => some ((nI 1), w2))
theorem T_Mod_opensOne {D : Nat} {o : Int32 × am_W} (a1 : Int32) (w : am_W) (H : F_Mod_opensOne a1 w = some o) : am_gi (D + 1) 157 o (0, [(0, .ref 53), (1, .int a1)], [], ww w, 0, 0) := by
  unfold F_Mod_opensOne at H
  refine am_go_blk 4 ⟨fun hc => ?_, fun hc => ?_⟩
  · have H := am_ie hc H
    show am_gi (D + 1) 157 o (10, [(0, .ref 53), (1, .int a1)], [], ww w, 0, 0)
    obtain ⟨w1, ew1, H⟩ := am_ltE H
    refine am_go_blk 6 ⟨rfl, rfl, am_hp (ww_f53_32 ew1) (?_ : am_gi (D + 1) 157 o (20, [(0, .ref 53), (1, .int a1)], [], ww w1, 0, 0))⟩
    obtain ⟨w2, hqw2, H⟩ := am_bnE H
    refine am_go_blk 2 (?_ : am_gi (D + 1) 157 o (22, [(0, .ref 53), (1, .int a1)], [.int a1, .ref 53], ww w1, 0, 0))
    refine am_invd rfl rfl rfl rfl (am_callv rfl (M_Mod_holdsThat (D := D) hqw2) (?_ : am_gi (D + 1) 157 o (25, [(0, .ref 53), (1, .int a1)], [], ww w2, 0, 0)))
    exact am_go_blk 2 ⟨rfl, am_fi H⟩
  · have H := am_it hc H
    show am_gi (D + 1) 157 o (8, [(0, .ref 53), (1, .int a1)], [], ww w, 0, 0)
    exact am_go_blk 2 ⟨rfl, am_fi H⟩
theorem M_Mod_opensOne {D : Nat} {o : Int32 × am_W} {a1 : Int32} {w : am_W} (H : F_Mod_opensOne a1 w = some o) : am_run (D + 2) 157 [.ref 53, .int a1] (ww w) (some (.int o.1)) (ww o.2) 0 0 :=
  am_run_of rfl (T_Mod_opensOne a1 w H)
def F_Mod_eRead_247 (w : am_W) : Option (Int32 × am_W) :=
  some ((nI 0), w)
def F_Mod_eRead_262 (r14 : Int32 → Int32 → am_W → Option (Int32 × am_W)) (a1 : Int32) (s0 : Int32) (w : am_W) : Option (Int32 × am_W) :=
  r14 a1 s0 w
def F_Mod_eRead_176 (s0 : Int32) (w : am_W) : Option (Int32 × am_W) :=
  am_ck (am_bo s0) (some (s0, w))
def F_Mod_eRead_61 (r14 : Int32 → Int32 → am_W → Option (Int32 × am_W)) (a2 : Int32) (s0 : Int32) (w : am_W) : Option (Int32 × am_W) :=
  (F_Mod_puts s0 w).bind fun w11 => (F_Mod_unwinds (nI 7) w11).bind fun w12 => r14 (nI 0) a2 w12
def F_Mod_eRead_38 (r14 : Int32 → Int32 → am_W → Option (Int32 × am_W)) (a2 : Int32) (w : am_W) : Option (Int32 × am_W) :=
  if (w.1 53 27) = (nI 1) then (F_Mod_eRead_61 r14 a2 ((nI 100000) + (w.1 53 28)) w) else (F_Mod_eRead_61 r14 a2 (w.1 53 28) w)
def F_Mod_eRead_99 (r14 : Int32 → Int32 → am_W → Option (Int32 × am_W)) (a1 : Int32) (w : am_W) : Option (Int32 × am_W) :=
  if (w.1 53 27) = (nI 45) then ((F_Mod_opensOne (nI 19) w).bind fun q14 => if q14.1 = 0 then (some ((nI 0), q14.2)) else (r14 a1 (nI 0) q14.2)) else (if (w.1 53 27) = (nI 40) then ((F_Mod_opensOne (nI 0) w).bind fun q13 => if q13.1 = 0 then (some ((nI 0), q13.2)) else (r14 a1 (nI 1) q13.2)) else (some ((nI 0), w)))
def F_Mod_eRead_14 (r14 : Int32 → Int32 → am_W → Option (Int32 × am_W)) (a1 : Int32) (a2 : Int32) (w : am_W) : Option (Int32 × am_W) :=
  (F_Mod_next w).bind fun w3 => if a1 = 0 then (if (w3.1 53 27) = (nI 59) then ((F_Mod_unwinds (nI 1) w3).bind fun w10 => if (w10.1 53 31) = 0 then (F_Mod_eRead_176 (nI 1) w10) else (F_Mod_eRead_176 (nI 0) w10)) else (if (w3.1 53 27) = (nI 41) then ((F_Mod_unwinds (nI 1) w3).bind fun w6 => if (w6.1 53 31) = 0 then (some ((nI 0), w6)) else (am_lt (wsf w6 53 31 ((w6.1 53 31) - (nI 1))) fun w7 => am_lt (wsf w7 53 32 ((w7.1 53 32) - (nI 1))) fun w8 => (F_Mod_unwinds (nI 7) w8).bind fun w9 => r14 a1 a2 w9)) else ((F_Mod_signOf w3).bind fun q4 => if q4.1 = (-nI 1) then (F_Mod_eRead_247 q4.2) else ((F_Mod_between q4.1 q4.2).bind fun q5 => if q5.1 = 0 then (F_Mod_eRead_247 q5.2) else (if (nI 12) < q4.1 then (F_Mod_eRead_262 r14 (nI 1) (nI 0) q5.2) else (F_Mod_eRead_262 r14 (nI 1) (nI 1) q5.2)))))) else (if (w3.1 53 27) = (nI 1) then (F_Mod_eRead_38 r14 a2 w3) else (if (w3.1 53 27) = (nI 2) then (F_Mod_eRead_38 r14 a2 w3) else (if (w3.1 53 27) = (nI 6) then (if a2 = 0 then (F_Mod_eRead_99 r14 a1 w3) else ((F_Mod_opensOne (nI 13) w3).bind fun q15 => if q15.1 = 0 then (some ((nI 0), q15.2)) else (r14 a1 a2 q15.2))) else (F_Mod_eRead_99 r14 a1 w3))))
def L_Mod_eRead_14 : Nat → Int32 → Int32 → am_W → Option (Int32 × am_W)
  | 0, _, _, _ => none
  | n + 1, a1, a2, w => F_Mod_eRead_14 (L_Mod_eRead_14 n) a1 a2 w
def F_Mod_eRead (w : am_W) : Option (Int32 × am_W) :=
  am_lt (wsf w 53 31 (nI 0)) fun w1 => am_lt (wsf w1 53 32 (nI 0)) fun w2 => L_Mod_eRead_14 am_NF (nI 1) (nI 1) w2
theorem T_Mod_eRead_247 {D : Nat} {o : Int32 × am_W} (w : am_W) (H : F_Mod_eRead_247 w = some o) : am_gi (D + 3) 160 o (247, [], [], ww w, 0, 0) := by
  unfold F_Mod_eRead_247 at H
  exact am_go_blk 2 ⟨rfl, am_fi H⟩
theorem T_Mod_eRead_262 {D : Nat} {o : Int32 × am_W} {r14 : Int32 → Int32 → am_W → Option (Int32 × am_W)} (Hr14 : ∀ (a1 : Int32) (a2 : Int32) (w : am_W) , r14 a1 a2 w = some o → am_gi (D + 3) 160 o (14, [(0, .ref 53), (1, .int a1), (2, .int a2)], [], ww w, 0, 0)) (a1 : Int32) (s0 : Int32) (w : am_W) (H : F_Mod_eRead_262 r14 a1 s0 w = some o) : am_gi (D + 3) 160 o (262, [(0, .ref 53), (1, .int a1)], [.int s0], ww w, 0, 0) := by
  unfold F_Mod_eRead_262 at H
  exact am_go_blk 2 (Hr14 a1 s0 w H)
theorem T_Mod_eRead_176 {D : Nat} {o : Int32 × am_W} (s0 : Int32) (w : am_W) (H : F_Mod_eRead_176 s0 w = some o) : am_gi (D + 3) 160 o (176, [], [.int s0], ww w, 0, 0) := by
  unfold F_Mod_eRead_176 at H
  obtain ⟨hc, H⟩ := am_ckE H
  exact am_go_blk 1 ⟨am_boE hc, am_fi H⟩
theorem T_Mod_eRead_61 {D : Nat} {o : Int32 × am_W} {r14 : Int32 → Int32 → am_W → Option (Int32 × am_W)} (Hr14 : ∀ (a1 : Int32) (a2 : Int32) (w : am_W) , r14 a1 a2 w = some o → am_gi (D + 3) 160 o (14, [(0, .ref 53), (1, .int a1), (2, .int a2)], [], ww w, 0, 0)) (a2 : Int32) (s0 : Int32) (w : am_W) (H : F_Mod_eRead_61 r14 a2 s0 w = some o) : am_gi (D + 3) 160 o (61, [(0, .ref 53), (2, .int a2)], [.int s0, .ref 53], ww w, 0, 0) := by
  unfold F_Mod_eRead_61 at H
  obtain ⟨w11, hqw11, H⟩ := am_bnE H
  refine am_invd rfl rfl rfl rfl (am_callv rfl (M_Mod_puts (D := D + 2) hqw11) (?_ : am_gi (D + 3) 160 o (64, [(0, .ref 53), (2, .int a2)], [], ww w11, 0, 0)))
  obtain ⟨w12, hqw12, H⟩ := am_bnE H
  refine am_go_blk 2 (?_ : am_gi (D + 3) 160 o (67, [(0, .ref 53), (2, .int a2)], [.int (nI 7), .ref 53], ww w11, 0, 0))
  refine am_invd rfl rfl rfl rfl (am_callv rfl (M_Mod_unwinds (D := D + 1) hqw12) (?_ : am_gi (D + 3) 160 o (70, [(0, .ref 53), (2, .int a2)], [], ww w12, 0, 0)))
  exact am_go_blk 3 (Hr14 (nI 0) a2 w12 H)
theorem T_Mod_eRead_38 {D : Nat} {o : Int32 × am_W} {r14 : Int32 → Int32 → am_W → Option (Int32 × am_W)} (Hr14 : ∀ (a1 : Int32) (a2 : Int32) (w : am_W) , r14 a1 a2 w = some o → am_gi (D + 3) 160 o (14, [(0, .ref 53), (1, .int a1), (2, .int a2)], [], ww w, 0, 0)) (a2 : Int32) (w : am_W) (H : F_Mod_eRead_38 r14 a2 w = some o) : am_gi (D + 3) 160 o (38, [(0, .ref 53), (2, .int a2)], [], ww w, 0, 0) := by
  unfold F_Mod_eRead_38 at H
  refine am_go_blk 5 ⟨fun hc => ?_, fun hc => ?_⟩
  · have H := am_ie hc H
    show am_gi (D + 3) 160 o (57, [(0, .ref 53), (2, .int a2)], [.ref 53], ww w, 0, 0)
    exact am_go_blk 2 (T_Mod_eRead_61 Hr14 a2 (w.1 53 28) w H)
  · have H := am_it hc H
    show am_gi (D + 3) 160 o (47, [(0, .ref 53), (2, .int a2)], [.ref 53], ww w, 0, 0)
    exact am_go_blk 5 (T_Mod_eRead_61 Hr14 a2 ((nI 100000) + (w.1 53 28)) w H)
theorem T_Mod_eRead_99 {D : Nat} {o : Int32 × am_W} {r14 : Int32 → Int32 → am_W → Option (Int32 × am_W)} (Hr14 : ∀ (a1 : Int32) (a2 : Int32) (w : am_W) , r14 a1 a2 w = some o → am_gi (D + 3) 160 o (14, [(0, .ref 53), (1, .int a1), (2, .int a2)], [], ww w, 0, 0)) (a1 : Int32) (w : am_W) (H : F_Mod_eRead_99 r14 a1 w = some o) : am_gi (D + 3) 160 o (99, [(0, .ref 53), (1, .int a1)], [], ww w, 0, 0) := by
  unfold F_Mod_eRead_99 at H
  refine am_go_blk 4 ⟨fun hc => ?_, fun hc => ?_⟩
  · have H := am_ie hc H
    show am_gi (D + 3) 160 o (124, [(0, .ref 53), (1, .int a1)], [], ww w, 0, 0)
    refine am_go_blk 4 ⟨fun hc => ?_, fun hc => ?_⟩
    · have H := am_ie hc H
      show am_gi (D + 3) 160 o (148, [], [], ww w, 0, 0)
      exact am_go_blk 2 ⟨rfl, am_fi H⟩
    · have H := am_it hc H
      show am_gi (D + 3) 160 o (133, [(0, .ref 53), (1, .int a1)], [], ww w, 0, 0)
      obtain ⟨q13, hqq13, H⟩ := am_bnE H
      refine am_go_blk 2 (?_ : am_gi (D + 3) 160 o (135, [(0, .ref 53), (1, .int a1)], [.int (nI 0), .ref 53], ww w, 0, 0))
      refine am_invd rfl rfl rfl rfl (am_calli rfl (M_Mod_opensOne (D := D + 1) hqq13) (?_ : am_gi (D + 3) 160 o (138, [(0, .ref 53), (1, .int a1)], [.int q13.1], ww q13.2, 0, 0)))
      refine am_go_blk 1 ⟨fun hc => ?_, fun hc => ?_⟩
      · have H := am_ie hc H
        show am_gi (D + 3) 160 o (143, [(0, .ref 53), (1, .int a1)], [], ww q13.2, 0, 0)
        exact am_go_blk 3 (Hr14 a1 (nI 1) q13.2 H)
      · have H := am_it hc H
        show am_gi (D + 3) 160 o (141, [(0, .ref 53), (1, .int a1)], [], ww q13.2, 0, 0)
        exact am_go_blk 2 ⟨rfl, am_fi H⟩
  · have H := am_it hc H
    show am_gi (D + 3) 160 o (108, [(0, .ref 53), (1, .int a1)], [], ww w, 0, 0)
    obtain ⟨q14, hqq14, H⟩ := am_bnE H
    refine am_go_blk 2 (?_ : am_gi (D + 3) 160 o (111, [(0, .ref 53), (1, .int a1)], [.int (nI 19), .ref 53], ww w, 0, 0))
    refine am_invd rfl rfl rfl rfl (am_calli rfl (M_Mod_opensOne (D := D + 1) hqq14) (?_ : am_gi (D + 3) 160 o (114, [(0, .ref 53), (1, .int a1)], [.int q14.1], ww q14.2, 0, 0)))
    refine am_go_blk 1 ⟨fun hc => ?_, fun hc => ?_⟩
    · have H := am_ie hc H
      show am_gi (D + 3) 160 o (119, [(0, .ref 53), (1, .int a1)], [], ww q14.2, 0, 0)
      exact am_go_blk 3 (Hr14 a1 (nI 0) q14.2 H)
    · have H := am_it hc H
      show am_gi (D + 3) 160 o (117, [(0, .ref 53), (1, .int a1)], [], ww q14.2, 0, 0)
      exact am_go_blk 2 ⟨rfl, am_fi H⟩
theorem T_Mod_eRead_14 {D : Nat} {o : Int32 × am_W} {r14 : Int32 → Int32 → am_W → Option (Int32 × am_W)} (Hr14 : ∀ (a1 : Int32) (a2 : Int32) (w : am_W) , r14 a1 a2 w = some o → am_gi (D + 3) 160 o (14, [(0, .ref 53), (1, .int a1), (2, .int a2)], [], ww w, 0, 0)) (a1 : Int32) (a2 : Int32) (w : am_W) (H : F_Mod_eRead_14 r14 a1 a2 w = some o) : am_gi (D + 3) 160 o (14, [(0, .ref 53), (1, .int a1), (2, .int a2)], [], ww w, 0, 0) := by
  unfold F_Mod_eRead_14 at H
  obtain ⟨w3, hqw3, H⟩ := am_bnE H
  refine am_go_blk 1 (?_ : am_gi (D + 3) 160 o (15, [(0, .ref 53), (1, .int a1), (2, .int a2)], [.ref 53], ww w, 0, 0))
  refine am_invd rfl rfl rfl rfl (am_callv rfl (M_Mod_next (D := D + 1) hqw3) (?_ : am_gi (D + 3) 160 o (18, [(0, .ref 53), (1, .int a1), (2, .int a2)], [], ww w3, 0, 0)))
  refine am_go_blk 2 ⟨fun hc => ?_, fun hc => ?_⟩
  · have H := am_it hc H
    show am_gi (D + 3) 160 o (150, [(0, .ref 53), (1, .int a1), (2, .int a2)], [], ww w3, 0, 0)
    refine am_go_blk 4 ⟨fun hc => ?_, fun hc => ?_⟩
    · have H := am_ie hc H
      show am_gi (D + 3) 160 o (177, [(0, .ref 53), (1, .int a1), (2, .int a2)], [], ww w3, 0, 0)
      refine am_go_blk 4 ⟨fun hc => ?_, fun hc => ?_⟩
      · have H := am_ie hc H
        show am_gi (D + 3) 160 o (229, [(0, .ref 53)], [], ww w3, 0, 0)
        obtain ⟨q4, hqq4, H⟩ := am_bnE H
        refine am_go_blk 1 (?_ : am_gi (D + 3) 160 o (230, [(0, .ref 53)], [.ref 53], ww w3, 0, 0))
        refine am_invd rfl rfl rfl rfl (am_calli rfl (M_Mod_signOf (D := D + 2) hqq4) (?_ : am_gi (D + 3) 160 o (233, [(0, .ref 53)], [.int q4.1], ww q4.2, 0, 0)))
        refine am_go_blk 4 ⟨fun hc => ?_, fun hc => ?_⟩
        · have H := am_it hc H
          exact T_Mod_eRead_247 q4.2 H
        · have H := am_ie hc H
          show am_gi (D + 3) 160 o (239, [(3, .int q4.1), (0, .ref 53)], [], ww q4.2, 0, 0)
          obtain ⟨q5, hqq5, H⟩ := am_bnE H
          refine am_go_blk 2 (?_ : am_gi (D + 3) 160 o (241, [(3, .int q4.1), (0, .ref 53)], [.int q4.1, .ref 53], ww q4.2, 0, 0))
          refine am_invd rfl rfl rfl rfl (am_calli rfl (M_Mod_between (D := D) hqq5) (?_ : am_gi (D + 3) 160 o (244, [(3, .int q4.1), (0, .ref 53)], [.int q5.1], ww q5.2, 0, 0)))
          refine am_go_blk 1 ⟨fun hc => ?_, fun hc => ?_⟩
          · have H := am_ie hc H
            show am_gi (D + 3) 160 o (249, [(0, .ref 53), (3, .int q4.1)], [], ww q5.2, 0, 0)
            refine am_go_blk 5 ⟨fun hc => ?_, fun hc => ?_⟩
            · have H := am_it hc H
              show am_gi (D + 3) 160 o (261, [(0, .ref 53), (1, .int (nI 1))], [], ww q5.2, 0, 0)
              exact am_go_blk 1 (T_Mod_eRead_262 Hr14 (nI 1) (nI 0) q5.2 H)
            · have H := am_ie hc H
              show am_gi (D + 3) 160 o (257, [(1, .int (nI 1)), (0, .ref 53), (3, .int q4.1)], [], ww q5.2, 0, 0)
              exact am_go_blk 2 (T_Mod_eRead_262 Hr14 (nI 1) (nI 1) q5.2 H)
          · have H := am_it hc H
            exact T_Mod_eRead_247 q5.2 H
      · have H := am_it hc H
        show am_gi (D + 3) 160 o (186, [(0, .ref 53), (1, .int a1), (2, .int a2)], [], ww w3, 0, 0)
        obtain ⟨w6, hqw6, H⟩ := am_bnE H
        refine am_go_blk 2 (?_ : am_gi (D + 3) 160 o (188, [(0, .ref 53), (1, .int a1), (2, .int a2)], [.int (nI 1), .ref 53], ww w3, 0, 0))
        refine am_invd rfl rfl rfl rfl (am_callv rfl (M_Mod_unwinds (D := D + 1) hqw6) (?_ : am_gi (D + 3) 160 o (191, [(0, .ref 53), (1, .int a1), (2, .int a2)], [], ww w6, 0, 0)))
        refine am_go_blk 3 ⟨fun hc => ?_, fun hc => ?_⟩
        · have H := am_ie hc H
          show am_gi (D + 3) 160 o (200, [(0, .ref 53), (1, .int a1), (2, .int a2)], [], ww w6, 0, 0)
          obtain ⟨w7, ew7, H⟩ := am_ltE H
          refine am_go_blk 6 ⟨rfl, rfl, am_hp (ww_f53_31 ew7) (?_ : am_gi (D + 3) 160 o (210, [(0, .ref 53), (1, .int a1), (2, .int a2)], [], ww w7, 0, 0))⟩
          obtain ⟨w8, ew8, H⟩ := am_ltE H
          refine am_go_blk 6 ⟨rfl, rfl, am_hp (ww_f53_32 ew8) (?_ : am_gi (D + 3) 160 o (220, [(0, .ref 53), (1, .int a1), (2, .int a2)], [], ww w8, 0, 0))⟩
          obtain ⟨w9, hqw9, H⟩ := am_bnE H
          refine am_go_blk 2 (?_ : am_gi (D + 3) 160 o (223, [(0, .ref 53), (1, .int a1), (2, .int a2)], [.int (nI 7), .ref 53], ww w8, 0, 0))
          refine am_invd rfl rfl rfl rfl (am_callv rfl (M_Mod_unwinds (D := D + 1) hqw9) (?_ : am_gi (D + 3) 160 o (226, [(0, .ref 53), (1, .int a1), (2, .int a2)], [], ww w9, 0, 0)))
          exact am_go_blk 1 (Hr14 a1 a2 w9 H)
        · have H := am_it hc H
          show am_gi (D + 3) 160 o (198, [(0, .ref 53), (1, .int a1), (2, .int a2)], [], ww w6, 0, 0)
          exact am_go_blk 2 ⟨rfl, am_fi H⟩
    · have H := am_it hc H
      show am_gi (D + 3) 160 o (159, [(0, .ref 53), (1, .int a1), (2, .int a2)], [], ww w3, 0, 0)
      obtain ⟨w10, hqw10, H⟩ := am_bnE H
      refine am_go_blk 2 (?_ : am_gi (D + 3) 160 o (161, [(0, .ref 53), (1, .int a1), (2, .int a2)], [.int (nI 1), .ref 53], ww w3, 0, 0))
      refine am_invd rfl rfl rfl rfl (am_callv rfl (M_Mod_unwinds (D := D + 1) hqw10) (?_ : am_gi (D + 3) 160 o (164, [(0, .ref 53), (1, .int a1), (2, .int a2)], [], ww w10, 0, 0)))
      refine am_go_blk 3 ⟨fun hc => ?_, fun hc => ?_⟩
      · have H := am_ie hc H
        show am_gi (D + 3) 160 o (175, [], [], ww w10, 0, 0)
        exact am_go_blk 1 (T_Mod_eRead_176 (nI 0) w10 H)
      · have H := am_it hc H
        show am_gi (D + 3) 160 o (171, [(0, .ref 53), (1, .int a1), (2, .int a2)], [], ww w10, 0, 0)
        exact am_go_blk 2 (T_Mod_eRead_176 (nI 1) w10 H)
  · have H := am_ie hc H
    show am_gi (D + 3) 160 o (22, [(0, .ref 53), (1, .int a1), (2, .int a2)], [], ww w3, 0, 0)
    refine am_go_blk 4 ⟨fun hc => ?_, fun hc => ?_⟩
    · have H := am_it hc H
      exact T_Mod_eRead_38 Hr14 a2 w3 H
    · have H := am_ie hc H
      show am_gi (D + 3) 160 o (30, [(0, .ref 53), (1, .int a1), (2, .int a2)], [], ww w3, 0, 0)
      refine am_go_blk 4 ⟨fun hc => ?_, fun hc => ?_⟩
      · have H := am_ie hc H
        show am_gi (D + 3) 160 o (75, [(0, .ref 53), (1, .int a1), (2, .int a2)], [], ww w3, 0, 0)
        refine am_go_blk 4 ⟨fun hc => ?_, fun hc => ?_⟩
        · have H := am_ie hc H
          exact T_Mod_eRead_99 Hr14 a1 w3 H
        · have H := am_it hc H
          show am_gi (D + 3) 160 o (84, [(0, .ref 53), (1, .int a1), (2, .int a2)], [], ww w3, 0, 0)
          refine am_go_blk 2 ⟨fun hc => ?_, fun hc => ?_⟩
          · have H := am_it hc H
            exact T_Mod_eRead_99 Hr14 a1 w3 H
          · have H := am_ie hc H
            show am_gi (D + 3) 160 o (88, [(0, .ref 53), (1, .int a1), (2, .int a2)], [], ww w3, 0, 0)
            obtain ⟨q15, hqq15, H⟩ := am_bnE H
            refine am_go_blk 2 (?_ : am_gi (D + 3) 160 o (91, [(0, .ref 53), (1, .int a1), (2, .int a2)], [.int (nI 13), .ref 53], ww w3, 0, 0))
            refine am_invd rfl rfl rfl rfl (am_calli rfl (M_Mod_opensOne (D := D + 1) hqq15) (?_ : am_gi (D + 3) 160 o (94, [(0, .ref 53), (1, .int a1), (2, .int a2)], [.int q15.1], ww q15.2, 0, 0)))
            refine am_go_blk 1 ⟨fun hc => ?_, fun hc => ?_⟩
            · have H := am_ie hc H
              exact Hr14 a1 a2 q15.2 H
            · have H := am_it hc H
              show am_gi (D + 3) 160 o (97, [(0, .ref 53), (1, .int a1), (2, .int a2)], [], ww q15.2, 0, 0)
              exact am_go_blk 2 ⟨rfl, am_fi H⟩
      · have H := am_it hc H
        exact T_Mod_eRead_38 Hr14 a2 w3 H
theorem TL_Mod_eRead_14 {D : Nat} {o : Int32 × am_W} : ∀ (n : Nat) (a1 : Int32) (a2 : Int32) (w : am_W) , L_Mod_eRead_14 n a1 a2 w = some o → am_gi (D + 3) 160 o (14, [(0, .ref 53), (1, .int a1), (2, .int a2)], [], ww w, 0, 0)
  | 0, _, _, _, H => by cases H
  | n + 1, a1, a2, w, H => T_Mod_eRead_14 (TL_Mod_eRead_14 n) a1 a2 w H
theorem T_Mod_eRead {D : Nat} {o : Int32 × am_W} (w : am_W) (H : F_Mod_eRead w = some o) : am_gi (D + 3) 160 o (0, [(0, .ref 53)], [], ww w, 0, 0) := by
  unfold F_Mod_eRead at H
  obtain ⟨w1, ew1, H⟩ := am_ltE H
  refine am_go_blk 3 ⟨rfl, rfl, am_hp (ww_f53_31 ew1) (?_ : am_gi (D + 3) 160 o (5, [(0, .ref 53)], [], ww w1, 0, 0))⟩
  obtain ⟨w2, ew2, H⟩ := am_ltE H
  refine am_go_blk 3 ⟨rfl, rfl, am_hp (ww_f53_32 ew2) (?_ : am_gi (D + 3) 160 o (10, [(0, .ref 53)], [], ww w2, 0, 0))⟩
  exact am_go_blk 4 (TL_Mod_eRead_14 am_NF (nI 1) (nI 1) w2 H)
theorem M_Mod_eRead {D : Nat} {o : Int32 × am_W} {w : am_W} (H : F_Mod_eRead w = some o) : am_run (D + 4) 160 [.ref 53] (ww w) (some (.int o.1)) (ww o.2) 0 0 :=
  am_run_of rfl (T_Mod_eRead w H)
def F_Mod_text_122 (a1 : Int32) (w : am_W) : Option (Int32 × am_W) :=
  am_ck (am_in (((nI 4) * (w.1 53 12)) + (nI 3)) 24) (am_lt (wst w 60 (((nI 4) * (w.1 53 12)) + (nI 3)) (w.1 53 33)) fun w3 => am_lt (wsf w3 53 9 (nI 0)) fun w4 => if a1 = 0 then (some (((-nI 100) - (w4.1 53 26)), w4)) else (am_lt (wsf w4 53 12 ((w4.1 53 12) + (nI 1))) fun w5 => some (((w5.1 53 12) - (nI 1)), w5)))
def F_Mod_text_121 (s0 : Int32) (w : am_W) : Option (Int32 × am_W) :=
  F_Mod_text_122 s0 w
def F_Mod_text_101 (a1 : Int32) (w : am_W) : Option (Int32 × am_W) :=
  if a1 = 0 then (F_Mod_text_122 a1 w) else ((F_Mod_next w).bind fun w6 => if (w6.1 53 27) = 0 then (F_Mod_text_121 (nI 1) w6) else (F_Mod_text_121 (nI 0) w6))
def F_Mod_text_94 (r26 : Int32 → Int32 → am_W → Option (Int32 × am_W)) (a2 : Int32) (s0 : Int32) (w : am_W) : Option (Int32 × am_W) :=
  r26 s0 (a2 + (nI 1)) w
def F_Mod_text_93 (r26 : Int32 → Int32 → am_W → Option (Int32 × am_W)) (a2 : Int32) (w : am_W) : Option (Int32 × am_W) :=
  F_Mod_text_94 r26 a2 (nI 0) w
def F_Mod_text_60 (r26 : Int32 → Int32 → am_W → Option (Int32 × am_W)) (a2 : Int32) (s0 : Int32) (w : am_W) : Option (Int32 × am_W) :=
  am_ck (am_in (((nI 4) * (w.1 53 12)) + a2) 24) (am_lt (wst w 60 (((nI 4) * (w.1 53 12)) + a2) (w.1 53 33)) fun w8 => if s0 = 0 then (F_Mod_text_93 r26 a2 w8) else ((F_Mod_eRead w8).bind fun q9 => if q9.1 = 0 then (F_Mod_text_93 r26 a2 q9.2) else (F_Mod_text_94 r26 a2 (nI 1) q9.2)))
def F_Mod_text_59 (r26 : Int32 → Int32 → am_W → Option (Int32 × am_W)) (a2 : Int32) (w : am_W) : Option (Int32 × am_W) :=
  F_Mod_text_60 r26 a2 (nI 0) w
def F_Mod_text_26 (r26 : Int32 → Int32 → am_W → Option (Int32 × am_W)) (a1 : Int32) (a2 : Int32) (w : am_W) : Option (Int32 × am_W) :=
  if (nI 3) ≤ a2 then (F_Mod_text_101 a1 w) else (if a1 = 0 then (F_Mod_text_101 a1 w) else ((F_Mod_next w).bind fun w7 => if (w7.1 53 27) = (nI 3) then (if (w7.1 53 28) = a2 then (F_Mod_text_60 r26 a2 (nI 1) w7) else (F_Mod_text_59 r26 a2 w7)) else (F_Mod_text_59 r26 a2 w7)))
def L_Mod_text_26 : Nat → Int32 → Int32 → am_W → Option (Int32 × am_W)
  | 0, _, _, _ => none
  | n + 1, a1, a2, w => F_Mod_text_26 (L_Mod_text_26 n) a1 a2 w
def F_Mod_text (w : am_W) : Option (Int32 × am_W) :=
  if (w.1 53 12) = (nI 6) then (some ((-nI 4), w)) else (am_lt (wsf w 53 25 (nI 0)) fun w1 => am_lt (wsf w1 53 33 (nI 0)) fun w2 => L_Mod_text_26 am_NF (nI 1) (nI 0) w2)
theorem T_Mod_text_122 {D : Nat} {o : Int32 × am_W} (a1 : Int32) (w : am_W) (H : F_Mod_text_122 a1 w = some o) : am_gi (D + 4) 161 o (122, [(0, .ref 53), (1, .int a1)], [], ww w, 0, 0) := by
  unfold F_Mod_text_122 at H
  obtain ⟨hc, H⟩ := am_ckE H
  obtain ⟨w3, ew3, H⟩ := am_ltE H
  refine am_go_blk 11 ⟨am_inv hc, am_hp (ww_s60 ew3) (?_ : am_gi (D + 4) 161 o (139, [(0, .ref 53), (1, .int a1)], [], ww w3, 0, 0))⟩
  obtain ⟨w4, ew4, H⟩ := am_ltE H
  refine am_go_blk 3 ⟨rfl, rfl, am_hp (ww_f53_9 ew4) (?_ : am_gi (D + 4) 161 o (144, [(0, .ref 53), (1, .int a1)], [], ww w4, 0, 0))⟩
  refine am_go_blk 2 ⟨fun hc => ?_, fun hc => ?_⟩
  · have H := am_ie hc H
    show am_gi (D + 4) 161 o (156, [(0, .ref 53)], [], ww w4, 0, 0)
    obtain ⟨w5, ew5, H⟩ := am_ltE H
    refine am_go_blk 6 ⟨rfl, rfl, am_hp (ww_f53_12 ew5) (?_ : am_gi (D + 4) 161 o (166, [(0, .ref 53)], [], ww w5, 0, 0))⟩
    exact am_go_blk 5 ⟨rfl, am_fi H⟩
  · have H := am_it hc H
    show am_gi (D + 4) 161 o (148, [(0, .ref 53), (1, .int a1)], [], ww w4, 0, 0)
    exact am_go_blk 5 ⟨rfl, am_fi H⟩
theorem T_Mod_text_121 {D : Nat} {o : Int32 × am_W} (s0 : Int32) (w : am_W) (H : F_Mod_text_121 s0 w = some o) : am_gi (D + 4) 161 o (121, [(0, .ref 53)], [.int s0], ww w, 0, 0) := by
  unfold F_Mod_text_121 at H
  exact am_go_blk 1 (T_Mod_text_122 s0 w H)
theorem T_Mod_text_101 {D : Nat} {o : Int32 × am_W} (a1 : Int32) (w : am_W) (H : F_Mod_text_101 a1 w = some o) : am_gi (D + 4) 161 o (101, [(0, .ref 53), (1, .int a1)], [], ww w, 0, 0) := by
  unfold F_Mod_text_101 at H
  refine am_go_blk 2 ⟨fun hc => ?_, fun hc => ?_⟩
  · have H := am_it hc H
    exact T_Mod_text_122 a1 w H
  · have H := am_ie hc H
    show am_gi (D + 4) 161 o (105, [(0, .ref 53), (1, .int a1)], [], ww w, 0, 0)
    obtain ⟨w6, hqw6, H⟩ := am_bnE H
    refine am_go_blk 1 (?_ : am_gi (D + 4) 161 o (106, [(0, .ref 53), (1, .int a1)], [.ref 53], ww w, 0, 0))
    refine am_invd rfl rfl rfl rfl (am_callv rfl (M_Mod_next (D := D + 2) hqw6) (?_ : am_gi (D + 4) 161 o (109, [(0, .ref 53), (1, .int a1)], [], ww w6, 0, 0)))
    refine am_go_blk 3 ⟨fun hc => ?_, fun hc => ?_⟩
    · have H := am_ie hc H
      show am_gi (D + 4) 161 o (120, [(0, .ref 53)], [], ww w6, 0, 0)
      exact am_go_blk 1 (T_Mod_text_121 (nI 0) w6 H)
    · have H := am_it hc H
      show am_gi (D + 4) 161 o (116, [(0, .ref 53), (1, .int a1)], [], ww w6, 0, 0)
      exact am_go_blk 2 (T_Mod_text_121 (nI 1) w6 H)
theorem T_Mod_text_94 {D : Nat} {o : Int32 × am_W} {r26 : Int32 → Int32 → am_W → Option (Int32 × am_W)} (Hr26 : ∀ (a1 : Int32) (a2 : Int32) (w : am_W) , r26 a1 a2 w = some o → am_gi (D + 4) 161 o (26, [(0, .ref 53), (1, .int a1), (2, .int a2)], [], ww w, 0, 0)) (a2 : Int32) (s0 : Int32) (w : am_W) (H : F_Mod_text_94 r26 a2 s0 w = some o) : am_gi (D + 4) 161 o (94, [(0, .ref 53), (2, .int a2)], [.int s0], ww w, 0, 0) := by
  unfold F_Mod_text_94 at H
  exact am_go_blk 3 (Hr26 s0 (a2 + (nI 1)) w H)
theorem T_Mod_text_93 {D : Nat} {o : Int32 × am_W} {r26 : Int32 → Int32 → am_W → Option (Int32 × am_W)} (Hr26 : ∀ (a1 : Int32) (a2 : Int32) (w : am_W) , r26 a1 a2 w = some o → am_gi (D + 4) 161 o (26, [(0, .ref 53), (1, .int a1), (2, .int a2)], [], ww w, 0, 0)) (a2 : Int32) (w : am_W) (H : F_Mod_text_93 r26 a2 w = some o) : am_gi (D + 4) 161 o (93, [(0, .ref 53), (2, .int a2)], [], ww w, 0, 0) := by
  unfold F_Mod_text_93 at H
  exact am_go_blk 1 (T_Mod_text_94 Hr26 a2 (nI 0) w H)
theorem T_Mod_text_60 {D : Nat} {o : Int32 × am_W} {r26 : Int32 → Int32 → am_W → Option (Int32 × am_W)} (Hr26 : ∀ (a1 : Int32) (a2 : Int32) (w : am_W) , r26 a1 a2 w = some o → am_gi (D + 4) 161 o (26, [(0, .ref 53), (1, .int a1), (2, .int a2)], [], ww w, 0, 0)) (a2 : Int32) (s0 : Int32) (w : am_W) (H : F_Mod_text_60 r26 a2 s0 w = some o) : am_gi (D + 4) 161 o (60, [(0, .ref 53), (2, .int a2)], [.int s0], ww w, 0, 0) := by
  unfold F_Mod_text_60 at H
  obtain ⟨hc, H⟩ := am_ckE H
  obtain ⟨w8, ew8, H⟩ := am_ltE H
  refine am_go_blk 12 ⟨am_inv hc, am_hp (ww_s60 ew8) (?_ : am_gi (D + 4) 161 o (78, [(1, .int s0), (0, .ref 53), (2, .int a2)], [], ww w8, 0, 0))⟩
  refine am_go_blk 2 ⟨fun hc => ?_, fun hc => ?_⟩
  · have H := am_it hc H
    exact T_Mod_text_93 Hr26 a2 w8 H
  · have H := am_ie hc H
    show am_gi (D + 4) 161 o (82, [(1, .int s0), (0, .ref 53), (2, .int a2)], [], ww w8, 0, 0)
    obtain ⟨q9, hqq9, H⟩ := am_bnE H
    refine am_go_blk 1 (?_ : am_gi (D + 4) 161 o (83, [(1, .int s0), (0, .ref 53), (2, .int a2)], [.ref 53], ww w8, 0, 0))
    refine am_invd rfl rfl rfl rfl (am_calli rfl (M_Mod_eRead (D := D) hqq9) (?_ : am_gi (D + 4) 161 o (86, [(1, .int s0), (0, .ref 53), (2, .int a2)], [.int q9.1], ww q9.2, 0, 0)))
    refine am_go_blk 1 ⟨fun hc => ?_, fun hc => ?_⟩
    · have H := am_it hc H
      exact T_Mod_text_93 Hr26 a2 q9.2 H
    · have H := am_ie hc H
      show am_gi (D + 4) 161 o (89, [(1, .int s0), (0, .ref 53), (2, .int a2)], [], ww q9.2, 0, 0)
      exact am_go_blk 2 (T_Mod_text_94 Hr26 a2 (nI 1) q9.2 H)
theorem T_Mod_text_59 {D : Nat} {o : Int32 × am_W} {r26 : Int32 → Int32 → am_W → Option (Int32 × am_W)} (Hr26 : ∀ (a1 : Int32) (a2 : Int32) (w : am_W) , r26 a1 a2 w = some o → am_gi (D + 4) 161 o (26, [(0, .ref 53), (1, .int a1), (2, .int a2)], [], ww w, 0, 0)) (a2 : Int32) (w : am_W) (H : F_Mod_text_59 r26 a2 w = some o) : am_gi (D + 4) 161 o (59, [(0, .ref 53), (2, .int a2)], [], ww w, 0, 0) := by
  unfold F_Mod_text_59 at H
  exact am_go_blk 1 (T_Mod_text_60 Hr26 a2 (nI 0) w H)
theorem T_Mod_text_26 {D : Nat} {o : Int32 × am_W} {r26 : Int32 → Int32 → am_W → Option (Int32 × am_W)} (Hr26 : ∀ (a1 : Int32) (a2 : Int32) (w : am_W) , r26 a1 a2 w = some o → am_gi (D + 4) 161 o (26, [(0, .ref 53), (1, .int a1), (2, .int a2)], [], ww w, 0, 0)) (a1 : Int32) (a2 : Int32) (w : am_W) (H : F_Mod_text_26 r26 a1 a2 w = some o) : am_gi (D + 4) 161 o (26, [(0, .ref 53), (1, .int a1), (2, .int a2)], [], ww w, 0, 0) := by
  unfold F_Mod_text_26 at H
  refine am_go_blk 3 ⟨fun hc => ?_, fun hc => ?_⟩
  · have H := am_it hc H
    exact T_Mod_text_101 a1 w H
  · have H := am_ie hc H
    show am_gi (D + 4) 161 o (31, [(0, .ref 53), (1, .int a1), (2, .int a2)], [], ww w, 0, 0)
    refine am_go_blk 2 ⟨fun hc => ?_, fun hc => ?_⟩
    · have H := am_it hc H
      exact T_Mod_text_101 a1 w H
    · have H := am_ie hc H
      show am_gi (D + 4) 161 o (35, [(0, .ref 53), (1, .int a1), (2, .int a2)], [], ww w, 0, 0)
      obtain ⟨w7, hqw7, H⟩ := am_bnE H
      refine am_go_blk 1 (?_ : am_gi (D + 4) 161 o (36, [(0, .ref 53), (1, .int a1), (2, .int a2)], [.ref 53], ww w, 0, 0))
      refine am_invd rfl rfl rfl rfl (am_callv rfl (M_Mod_next (D := D + 2) hqw7) (?_ : am_gi (D + 4) 161 o (39, [(0, .ref 53), (1, .int a1), (2, .int a2)], [], ww w7, 0, 0)))
      refine am_go_blk 4 ⟨fun hc => ?_, fun hc => ?_⟩
      · have H := am_ie hc H
        exact T_Mod_text_59 Hr26 a2 w7 H
      · have H := am_it hc H
        show am_gi (D + 4) 161 o (47, [(0, .ref 53), (1, .int a1), (2, .int a2)], [], ww w7, 0, 0)
        refine am_go_blk 4 ⟨fun hc => ?_, fun hc => ?_⟩
        · have H := am_ie hc H
          exact T_Mod_text_59 Hr26 a2 w7 H
        · have H := am_it hc H
          show am_gi (D + 4) 161 o (55, [(0, .ref 53), (1, .int a1), (2, .int a2)], [], ww w7, 0, 0)
          exact am_go_blk 2 (T_Mod_text_60 Hr26 a2 (nI 1) w7 H)
theorem TL_Mod_text_26 {D : Nat} {o : Int32 × am_W} : ∀ (n : Nat) (a1 : Int32) (a2 : Int32) (w : am_W) , L_Mod_text_26 n a1 a2 w = some o → am_gi (D + 4) 161 o (26, [(0, .ref 53), (1, .int a1), (2, .int a2)], [], ww w, 0, 0)
  | 0, _, _, _, H => by cases H
  | n + 1, a1, a2, w, H => T_Mod_text_26 (TL_Mod_text_26 n) a1 a2 w H
theorem T_Mod_text {D : Nat} {o : Int32 × am_W} (w : am_W) (H : F_Mod_text w = some o) : am_gi (D + 4) 161 o (0, [(0, .ref 53)], [], ww w, 0, 0) := by
  unfold F_Mod_text at H
  refine am_go_blk 4 ⟨fun hc => ?_, fun hc => ?_⟩
  · have H := am_ie hc H
    show am_gi (D + 4) 161 o (12, [(0, .ref 53)], [], ww w, 0, 0)
    obtain ⟨w1, ew1, H⟩ := am_ltE H
    refine am_go_blk 3 ⟨rfl, rfl, am_hp (ww_f53_25 ew1) (?_ : am_gi (D + 4) 161 o (17, [(0, .ref 53)], [], ww w1, 0, 0))⟩
    obtain ⟨w2, ew2, H⟩ := am_ltE H
    refine am_go_blk 3 ⟨rfl, rfl, am_hp (ww_f53_33 ew2) (?_ : am_gi (D + 4) 161 o (22, [(0, .ref 53)], [], ww w2, 0, 0))⟩
    exact am_go_blk 4 (TL_Mod_text_26 am_NF (nI 1) (nI 0) w2 H)
  · have H := am_it hc H
    show am_gi (D + 4) 161 o (9, [(0, .ref 53)], [], ww w, 0, 0)
    exact am_go_blk 2 ⟨rfl, am_fi H⟩
theorem M_Mod_text {D : Nat} {o : Int32 × am_W} {w : am_W} (H : F_Mod_text w = some o) : am_run (D + 5) 161 [.ref 53] (ww w) (some (.int o.1)) (ww o.2) 0 0 :=
  am_run_of rfl (T_Mod_text w H)
