/-! ===== the methods as functions, and that each does what its function says: Law_minding .. Loc_sortsBy ===== -/
def F_Law_minding (a1 : Int32) (a2 : Int32) (w : am_W) : Option (Int32 × am_W) :=
  (F_Law_says (w.1 17 2) (nI 2) a1 (-nI 1) a2 w).bind fun q1 => some (q1.1, q1.2)
theorem T_Law_minding {D : Nat} {o : Int32 × am_W} (a1 : Int32) (a2 : Int32) (w : am_W) (H : F_Law_minding a1 a2 w = some o) : am_gi (D + 4) 15 o (0, [(0, .ref 17), (1, .int a1), (2, .int a2)], [], ww w, 0, 0) := by
  unfold F_Law_minding at H
  obtain ⟨q1, hqq1, H⟩ := am_bnE H
  refine am_go_blk 7 (?_ : am_gi (D + 4) 15 o (9, [(0, .ref 17), (1, .int a1), (2, .int a2)], [.int a2, .int (-nI 1), .int a1, .int (nI 2), .int (w.1 17 2), .ref 17], ww w, 0, 0))
  refine am_invd rfl rfl rfl rfl (am_calli rfl (M_Law_says (D := D) hqq1) (?_ : am_gi (D + 4) 15 o (12, [(0, .ref 17), (1, .int a1), (2, .int a2)], [.int q1.1], ww q1.2, 0, 0)))
  exact am_go_blk 1 ⟨rfl, am_fi H⟩
theorem M_Law_minding {D : Nat} {o : Int32 × am_W} {a1 : Int32} {a2 : Int32} {w : am_W} (H : F_Law_minding a1 a2 w = some o) : am_run (D + 5) 15 [.ref 17, .int a1, .int a2] (ww w) (some (.int o.1)) (ww o.2) 0 0 :=
  am_run_of rfl (T_Law_minding a1 a2 w H)
def F_Loc_badness_106 (r18 : Int32 → Int32 → am_W → Option (Int32 × am_W)) (a1 : Int32) (a2 : Int32) (w : am_W) : Option (Int32 × am_W) :=
  r18 a1 (a2 + (nI 1)) w
def F_Loc_badness_81 (r18 : Int32 → Int32 → am_W → Option (Int32 × am_W)) (r81 : Int32 → Int32 → Int32 → Int32 → am_W → Option (Int32 × am_W)) (a1 : Int32) (a2 : Int32) (a3 : Int32) (a4 : Int32) (w : am_W) : Option (Int32 × am_W) :=
  if a3 ≤ a4 then (F_Loc_badness_106 r18 a1 a2 w) else ((F_Law_minding a2 a4 w).bind fun q3 => r81 (a1 + q3.1) a2 a3 (a4 + (nI 1)) q3.2)
def L_Loc_badness_81 (r18 : Int32 → Int32 → am_W → Option (Int32 × am_W)) : Nat → Int32 → Int32 → Int32 → Int32 → am_W → Option (Int32 × am_W)
  | 0, _, _, _, _, _ => none
  | n + 1, a1, a2, a3, a4, w => F_Loc_badness_81 r18 (L_Loc_badness_81 r18 n) a1 a2 a3 a4 w
def F_Loc_badness_69 (r18 : Int32 → Int32 → am_W → Option (Int32 × am_W)) (a1 : Int32) (a2 : Int32) (s0 : Int32) (w : am_W) : Option (Int32 × am_W) :=
  am_ck (am_in a2 8) (L_Loc_badness_81 r18 am_NF a1 a2 s0 (w.1 4 a2.toNatClampNeg) w)
def F_Loc_badness_18 (r18 : Int32 → Int32 → am_W → Option (Int32 × am_W)) (a1 : Int32) (a2 : Int32) (w : am_W) : Option (Int32 × am_W) :=
  if (w.1 1 0) ≤ a2 then (some (a1, w)) else ((F_Rail_isGone a2 w).bind fun q2 => if q2.1 = 0 then (am_ck (am_in a2 8) (if 0 ≤ (q2.2.1 41 a2.toNatClampNeg) then (am_ck (am_in a2 8) (F_Loc_badness_69 r18 a1 a2 (q2.2.1 41 a2.toNatClampNeg) q2.2)) else (F_Loc_badness_69 r18 a1 a2 (nI 24) q2.2))) else (F_Loc_badness_106 r18 a1 a2 q2.2))
def L_Loc_badness_18 : Nat → Int32 → Int32 → am_W → Option (Int32 × am_W)
  | 0, _, _, _ => none
  | n + 1, a1, a2, w => F_Loc_badness_18 (L_Loc_badness_18 n) a1 a2 w
def F_Loc_badness (w : am_W) : Option (Int32 × am_W) :=
  (F_Day_run 4 w).bind fun w1 => L_Loc_badness_18 am_NF (nI 0) (nI 0) w1
theorem T_Loc_badness_106 {D : Nat} {o : Int32 × am_W} {r18 : Int32 → Int32 → am_W → Option (Int32 × am_W)} (Hr18 : ∀ (a1 : Int32) (a2 : Int32) (w : am_W) , r18 a1 a2 w = some o → am_gi (D + 5) 127 o (18, [(0, .ref 0), (1, .int a1), (2, .int a2)], [], ww w, 0, 0)) (a1 : Int32) (a2 : Int32) (w : am_W) (H : F_Loc_badness_106 r18 a1 a2 w = some o) : am_gi (D + 5) 127 o (106, [(0, .ref 0), (1, .int a1), (2, .int a2)], [], ww w, 0, 0) := by
  unfold F_Loc_badness_106 at H
  exact am_go_blk 2 (Hr18 a1 (a2 + (nI 1)) w H)
theorem T_Loc_badness_81 {D : Nat} {o : Int32 × am_W} {r18 : Int32 → Int32 → am_W → Option (Int32 × am_W)} {r81 : Int32 → Int32 → Int32 → Int32 → am_W → Option (Int32 × am_W)} (Hr18 : ∀ (a1 : Int32) (a2 : Int32) (w : am_W) , r18 a1 a2 w = some o → am_gi (D + 5) 127 o (18, [(0, .ref 0), (1, .int a1), (2, .int a2)], [], ww w, 0, 0)) (Hr81 : ∀ (a1 : Int32) (a2 : Int32) (a3 : Int32) (a4 : Int32) (w : am_W) , r81 a1 a2 a3 a4 w = some o → am_gi (D + 5) 127 o (81, [(0, .ref 0), (1, .int a1), (2, .int a2), (3, .int a3), (4, .int a4)], [], ww w, 0, 0)) (a1 : Int32) (a2 : Int32) (a3 : Int32) (a4 : Int32) (w : am_W) (H : F_Loc_badness_81 r18 r81 a1 a2 a3 a4 w = some o) : am_gi (D + 5) 127 o (81, [(0, .ref 0), (1, .int a1), (2, .int a2), (3, .int a3), (4, .int a4)], [], ww w, 0, 0) := by
  unfold F_Loc_badness_81 at H
  refine am_go_blk 3 ⟨fun hc => ?_, fun hc => ?_⟩
  · have H := am_it hc H
    exact T_Loc_badness_106 Hr18 a1 a2 w H
  · have H := am_ie hc H
    show am_gi (D + 5) 127 o (87, [(0, .ref 0), (1, .int a1), (2, .int a2), (3, .int a3), (4, .int a4)], [], ww w, 0, 0)
    obtain ⟨q3, hqq3, H⟩ := am_bnE H
    refine am_go_blk 5 (?_ : am_gi (D + 5) 127 o (95, [(0, .ref 0), (1, .int a1), (2, .int a2), (3, .int a3), (4, .int a4)], [.int a4, .int a2, .ref 17, .int a1], ww w, 0, 0))
    refine am_invd rfl rfl rfl rfl (am_calli rfl (M_Law_minding (D := D) hqq3) (?_ : am_gi (D + 5) 127 o (98, [(0, .ref 0), (1, .int a1), (2, .int a2), (3, .int a3), (4, .int a4)], [.int q3.1, .int a1], ww q3.2, 0, 0)))
    exact am_go_blk 4 (Hr81 (a1 + q3.1) a2 a3 (a4 + (nI 1)) q3.2 H)
theorem TL_Loc_badness_81 {D : Nat} {o : Int32 × am_W} {r18 : Int32 → Int32 → am_W → Option (Int32 × am_W)} (Hr18 : ∀ (a1 : Int32) (a2 : Int32) (w : am_W) , r18 a1 a2 w = some o → am_gi (D + 5) 127 o (18, [(0, .ref 0), (1, .int a1), (2, .int a2)], [], ww w, 0, 0)) : ∀ (n : Nat) (a1 : Int32) (a2 : Int32) (a3 : Int32) (a4 : Int32) (w : am_W) , L_Loc_badness_81 r18 n a1 a2 a3 a4 w = some o → am_gi (D + 5) 127 o (81, [(0, .ref 0), (1, .int a1), (2, .int a2), (3, .int a3), (4, .int a4)], [], ww w, 0, 0)
  | 0, _, _, _, _, _, H => by cases H
  | n + 1, a1, a2, a3, a4, w, H => T_Loc_badness_81 Hr18 (TL_Loc_badness_81 Hr18 n) a1 a2 a3 a4 w H
theorem T_Loc_badness_69 {D : Nat} {o : Int32 × am_W} {r18 : Int32 → Int32 → am_W → Option (Int32 × am_W)} (Hr18 : ∀ (a1 : Int32) (a2 : Int32) (w : am_W) , r18 a1 a2 w = some o → am_gi (D + 5) 127 o (18, [(0, .ref 0), (1, .int a1), (2, .int a2)], [], ww w, 0, 0)) (a1 : Int32) (a2 : Int32) (s0 : Int32) (w : am_W) (H : F_Loc_badness_69 r18 a1 a2 s0 w = some o) : am_gi (D + 5) 127 o (69, [(0, .ref 0), (1, .int a1), (2, .int a2)], [.int s0], ww w, 0, 0) := by
  unfold F_Loc_badness_69 at H
  obtain ⟨hc, H⟩ := am_ckE H
  refine am_go_blk 6 ⟨am_inv hc, (?_ : am_gi (D + 5) 127 o (79, [(3, .int s0), (0, .ref 0), (1, .int a1), (2, .int a2)], [.int (w.1 4 a2.toNatClampNeg)], ww w, 0, 0))⟩
  exact am_go_blk 1 (TL_Loc_badness_81 Hr18 am_NF a1 a2 s0 (w.1 4 a2.toNatClampNeg) w H)
theorem T_Loc_badness_18 {D : Nat} {o : Int32 × am_W} {r18 : Int32 → Int32 → am_W → Option (Int32 × am_W)} (Hr18 : ∀ (a1 : Int32) (a2 : Int32) (w : am_W) , r18 a1 a2 w = some o → am_gi (D + 5) 127 o (18, [(0, .ref 0), (1, .int a1), (2, .int a2)], [], ww w, 0, 0)) (a1 : Int32) (a2 : Int32) (w : am_W) (H : F_Loc_badness_18 r18 a1 a2 w = some o) : am_gi (D + 5) 127 o (18, [(0, .ref 0), (1, .int a1), (2, .int a2)], [], ww w, 0, 0) := by
  unfold F_Loc_badness_18 at H
  refine am_go_blk 5 ⟨fun hc => ?_, fun hc => ?_⟩
  · have H := am_it hc H
    show am_gi (D + 5) 127 o (112, [(1, .int a1)], [], ww w, 0, 0)
    exact am_go_blk 2 ⟨rfl, am_fi H⟩
  · have H := am_ie hc H
    show am_gi (D + 5) 127 o (29, [(0, .ref 0), (1, .int a1), (2, .int a2)], [], ww w, 0, 0)
    obtain ⟨q2, hqq2, H⟩ := am_bnE H
    refine am_go_blk 3 (?_ : am_gi (D + 5) 127 o (34, [(0, .ref 0), (1, .int a1), (2, .int a2)], [.int a2, .ref 1], ww w, 0, 0))
    refine am_invd rfl rfl rfl rfl (am_calli rfl (M_Rail_isGone (D := D + 3) hqq2) (?_ : am_gi (D + 5) 127 o (37, [(0, .ref 0), (1, .int a1), (2, .int a2)], [.int q2.1], ww q2.2, 0, 0)))
    refine am_go_blk 1 ⟨fun hc => ?_, fun hc => ?_⟩
    · have H := am_it hc H
      show am_gi (D + 5) 127 o (43, [(0, .ref 0), (1, .int a1), (2, .int a2)], [], ww q2.2, 0, 0)
      obtain ⟨hc, H⟩ := am_ckE H
      refine am_go_blk 5 ⟨am_inv hc, (?_ : am_gi (D + 5) 127 o (52, [(0, .ref 0), (1, .int a1), (2, .int a2)], [.int (q2.2.1 41 a2.toNatClampNeg)], ww q2.2, 0, 0))⟩
      refine am_go_blk 1 ⟨fun hc => ?_, fun hc => ?_⟩
      · have H := am_it hc H
        show am_gi (D + 5) 127 o (60, [(0, .ref 0), (1, .int a1), (2, .int a2)], [], ww q2.2, 0, 0)
        obtain ⟨hc, H⟩ := am_ckE H
        refine am_go_blk 5 ⟨am_inv hc, (?_ : am_gi (D + 5) 127 o (69, [(0, .ref 0), (1, .int a1), (2, .int a2)], [.int (q2.2.1 41 a2.toNatClampNeg)], ww q2.2, 0, 0))⟩
        exact T_Loc_badness_69 Hr18 a1 a2 (q2.2.1 41 a2.toNatClampNeg) q2.2 H
      · have H := am_ie hc H
        show am_gi (D + 5) 127 o (55, [(0, .ref 0), (1, .int a1), (2, .int a2)], [], ww q2.2, 0, 0)
        exact am_go_blk 2 (T_Loc_badness_69 Hr18 a1 a2 (nI 24) q2.2 H)
    · have H := am_ie hc H
      show am_gi (D + 5) 127 o (40, [(0, .ref 0), (1, .int a1), (2, .int a2)], [], ww q2.2, 0, 0)
      exact am_go_blk 1 (T_Loc_badness_106 Hr18 a1 a2 q2.2 H)
theorem TL_Loc_badness_18 {D : Nat} {o : Int32 × am_W} : ∀ (n : Nat) (a1 : Int32) (a2 : Int32) (w : am_W) , L_Loc_badness_18 n a1 a2 w = some o → am_gi (D + 5) 127 o (18, [(0, .ref 0), (1, .int a1), (2, .int a2)], [], ww w, 0, 0)
  | 0, _, _, _, H => by cases H
  | n + 1, a1, a2, w, H => T_Loc_badness_18 (TL_Loc_badness_18 n) a1 a2 w H
theorem T_Loc_badness {D : Nat} {o : Int32 × am_W} (w : am_W) (H : F_Loc_badness w = some o) : am_gi (D + 5) 127 o (0, [(0, .ref 0)], [], ww w, 0, 0) := by
  unfold F_Loc_badness at H
  obtain ⟨w1, hqw1, H⟩ := am_bnE H
  refine am_go_blk 5 (?_ : am_gi (D + 5) 127 o (11, [(0, .ref 0)], [.ref 4, .ref 40], ww w, 0, 0))
  refine am_invd rfl rfl rfl rfl (am_callv rfl (M_Day_run (D := D + 2) (Or.inl rfl) hqw1) (?_ : am_gi (D + 5) 127 o (14, [(0, .ref 0)], [], ww w1, 0, 0)))
  exact am_go_blk 4 (TL_Loc_badness_18 am_NF (nI 0) (nI 0) w1 H)
theorem M_Loc_badness {D : Nat} {o : Int32 × am_W} {w : am_W} (H : F_Loc_badness w = some o) : am_run (D + 6) 127 [.ref 0] (ww w) (some (.int o.1)) (ww o.2) 0 0 :=
  am_run_of rfl (T_Loc_badness w H)
def F_Loc_day_9 (w : am_W) : Option (Int32 × am_W) :=
  some ((-nI 2), w)
def F_Loc_day_105 (r39 : Int32 → Int32 → Int32 → am_W → Option (Int32 × am_W)) (a1 : Int32) (a2 : Int32) (a3 : Int32) (w : am_W) : Option (Int32 × am_W) :=
  r39 a1 a2 (a3 + (nI 1)) w
def F_Loc_day_99 (r39 : Int32 → Int32 → Int32 → am_W → Option (Int32 × am_W)) (a1 : Int32) (a2 : Int32) (a3 : Int32) (w : am_W) : Option (Int32 × am_W) :=
  F_Loc_day_105 r39 a1 (a2 ||| ((nI 1) <<< (a3 &&& 31))) a3 w
def F_Loc_day_39 (r39 : Int32 → Int32 → Int32 → am_W → Option (Int32 × am_W)) (a1 : Int32) (a2 : Int32) (a3 : Int32) (w : am_W) : Option (Int32 × am_W) :=
  if (w.1 1 0) ≤ a3 then (some (a2, w)) else (am_ck (am_in a3 8) ((F_Rail_isGone a3 w).bind fun q2 => if q2.1 = 0 then (if a1 = (nI 1) then (am_ck (am_in a3 8) (if (w.1 41 a3.toNatClampNeg) = (q2.2.1 4 a3.toNatClampNeg) then (F_Loc_day_105 r39 a1 a2 a3 q2.2) else (F_Loc_day_99 r39 a1 a2 a3 q2.2))) else (if 0 ≤ (w.1 41 a3.toNatClampNeg) then (F_Loc_day_105 r39 a1 a2 a3 q2.2) else (F_Loc_day_99 r39 a1 a2 a3 q2.2))) else (F_Loc_day_105 r39 a1 a2 a3 q2.2)))
def L_Loc_day_39 : Nat → Int32 → Int32 → Int32 → am_W → Option (Int32 × am_W)
  | 0, _, _, _, _ => none
  | n + 1, a1, a2, a3, w => F_Loc_day_39 (L_Loc_day_39 n) a1 a2 a3 w
def F_Loc_day (a1 : Int32) (w : am_W) : Option (Int32 × am_W) :=
  if a1 < 0 then (F_Loc_day_9 w) else (if a1 ≤ (nI 2) then (if a1 = 0 then ((F_Loc_badness w).bind fun q3 => some (q3.1, q3.2)) else ((F_Day_run 4 w).bind fun w1 => L_Loc_day_39 am_NF a1 (nI 0) (nI 0) w1)) else (F_Loc_day_9 w))
theorem T_Loc_day_9 {D : Nat} {o : Int32 × am_W} (w : am_W) (H : F_Loc_day_9 w = some o) : am_gi (D + 6) 92 o (9, [], [], ww w, 0, 0) := by
  unfold F_Loc_day_9 at H
  exact am_go_blk 2 ⟨rfl, am_fi H⟩
theorem T_Loc_day_105 {D : Nat} {o : Int32 × am_W} {r39 : Int32 → Int32 → Int32 → am_W → Option (Int32 × am_W)} (Hr39 : ∀ (a1 : Int32) (a2 : Int32) (a3 : Int32) (w : am_W) , r39 a1 a2 a3 w = some o → am_gi (D + 6) 92 o (39, [(0, .ref 0), (1, .int a1), (2, .int a2), (3, .int a3)], [], ww w, 0, 0)) (a1 : Int32) (a2 : Int32) (a3 : Int32) (w : am_W) (H : F_Loc_day_105 r39 a1 a2 a3 w = some o) : am_gi (D + 6) 92 o (105, [(0, .ref 0), (1, .int a1), (2, .int a2), (3, .int a3)], [], ww w, 0, 0) := by
  unfold F_Loc_day_105 at H
  exact am_go_blk 2 (Hr39 a1 a2 (a3 + (nI 1)) w H)
theorem T_Loc_day_99 {D : Nat} {o : Int32 × am_W} {r39 : Int32 → Int32 → Int32 → am_W → Option (Int32 × am_W)} (Hr39 : ∀ (a1 : Int32) (a2 : Int32) (a3 : Int32) (w : am_W) , r39 a1 a2 a3 w = some o → am_gi (D + 6) 92 o (39, [(0, .ref 0), (1, .int a1), (2, .int a2), (3, .int a3)], [], ww w, 0, 0)) (a1 : Int32) (a2 : Int32) (a3 : Int32) (w : am_W) (H : F_Loc_day_99 r39 a1 a2 a3 w = some o) : am_gi (D + 6) 92 o (99, [(0, .ref 0), (1, .int a1), (2, .int a2), (3, .int a3)], [], ww w, 0, 0) := by
  unfold F_Loc_day_99 at H
  exact am_go_blk 6 (T_Loc_day_105 Hr39 a1 (a2 ||| ((nI 1) <<< (a3 &&& 31))) a3 w H)
theorem T_Loc_day_39 {D : Nat} {o : Int32 × am_W} {r39 : Int32 → Int32 → Int32 → am_W → Option (Int32 × am_W)} (Hr39 : ∀ (a1 : Int32) (a2 : Int32) (a3 : Int32) (w : am_W) , r39 a1 a2 a3 w = some o → am_gi (D + 6) 92 o (39, [(0, .ref 0), (1, .int a1), (2, .int a2), (3, .int a3)], [], ww w, 0, 0)) (a1 : Int32) (a2 : Int32) (a3 : Int32) (w : am_W) (H : F_Loc_day_39 r39 a1 a2 a3 w = some o) : am_gi (D + 6) 92 o (39, [(0, .ref 0), (1, .int a1), (2, .int a2), (3, .int a3)], [], ww w, 0, 0) := by
  unfold F_Loc_day_39 at H
  refine am_go_blk 5 ⟨fun hc => ?_, fun hc => ?_⟩
  · have H := am_it hc H
    show am_gi (D + 6) 92 o (111, [(2, .int a2)], [], ww w, 0, 0)
    exact am_go_blk 2 ⟨rfl, am_fi H⟩
  · have H := am_ie hc H
    show am_gi (D + 6) 92 o (50, [(0, .ref 0), (1, .int a1), (2, .int a2), (3, .int a3)], [], ww w, 0, 0)
    obtain ⟨hc, H⟩ := am_ckE H
    refine am_go_blk 5 ⟨am_inv hc, (?_ : am_gi (D + 6) 92 o (59, [(0, .ref 0), (1, .int a1), (2, .int a2), (3, .int a3)], [.int (w.1 41 a3.toNatClampNeg)], ww w, 0, 0))⟩
    obtain ⟨q2, hqq2, H⟩ := am_bnE H
    refine am_go_blk 4 (?_ : am_gi (D + 6) 92 o (66, [(4, .int (w.1 41 a3.toNatClampNeg)), (0, .ref 0), (1, .int a1), (2, .int a2), (3, .int a3)], [.int a3, .ref 1], ww w, 0, 0))
    refine am_invd rfl rfl rfl rfl (am_calli rfl (M_Rail_isGone (D := D + 4) hqq2) (?_ : am_gi (D + 6) 92 o (69, [(4, .int (w.1 41 a3.toNatClampNeg)), (0, .ref 0), (1, .int a1), (2, .int a2), (3, .int a3)], [.int q2.1], ww q2.2, 0, 0)))
    refine am_go_blk 1 ⟨fun hc => ?_, fun hc => ?_⟩
    · have H := am_ie hc H
      exact T_Loc_day_105 Hr39 a1 a2 a3 q2.2 H
    · have H := am_it hc H
      show am_gi (D + 6) 92 o (72, [(4, .int (w.1 41 a3.toNatClampNeg)), (0, .ref 0), (1, .int a1), (2, .int a2), (3, .int a3)], [], ww q2.2, 0, 0)
      refine am_go_blk 3 ⟨fun hc => ?_, fun hc => ?_⟩
      · have H := am_ie hc H
        show am_gi (D + 6) 92 o (94, [(0, .ref 0), (1, .int a1), (2, .int a2), (3, .int a3), (4, .int (w.1 41 a3.toNatClampNeg))], [], ww q2.2, 0, 0)
        refine am_go_blk 2 ⟨fun hc => ?_, fun hc => ?_⟩
        · have H := am_it hc H
          exact T_Loc_day_105 Hr39 a1 a2 a3 q2.2 H
        · have H := am_ie hc H
          exact T_Loc_day_99 Hr39 a1 a2 a3 q2.2 H
      · have H := am_it hc H
        show am_gi (D + 6) 92 o (77, [(4, .int (w.1 41 a3.toNatClampNeg)), (0, .ref 0), (1, .int a1), (2, .int a2), (3, .int a3)], [], ww q2.2, 0, 0)
        obtain ⟨hc, H⟩ := am_ckE H
        refine am_go_blk 6 ⟨am_inv hc, (?_ : am_gi (D + 6) 92 o (88, [(4, .int (w.1 41 a3.toNatClampNeg)), (0, .ref 0), (1, .int a1), (2, .int a2), (3, .int a3)], [.int (q2.2.1 4 a3.toNatClampNeg), .int (w.1 41 a3.toNatClampNeg)], ww q2.2, 0, 0))⟩
        refine am_go_blk 1 ⟨fun hc => ?_, fun hc => ?_⟩
        · have H := am_it hc H
          exact T_Loc_day_105 Hr39 a1 a2 a3 q2.2 H
        · have H := am_ie hc H
          show am_gi (D + 6) 92 o (91, [(4, .int (w.1 41 a3.toNatClampNeg)), (0, .ref 0), (1, .int a1), (2, .int a2), (3, .int a3)], [], ww q2.2, 0, 0)
          exact am_go_blk 1 (T_Loc_day_99 Hr39 a1 a2 a3 q2.2 H)
theorem TL_Loc_day_39 {D : Nat} {o : Int32 × am_W} : ∀ (n : Nat) (a1 : Int32) (a2 : Int32) (a3 : Int32) (w : am_W) , L_Loc_day_39 n a1 a2 a3 w = some o → am_gi (D + 6) 92 o (39, [(0, .ref 0), (1, .int a1), (2, .int a2), (3, .int a3)], [], ww w, 0, 0)
  | 0, _, _, _, _, H => by cases H
  | n + 1, a1, a2, a3, w, H => T_Loc_day_39 (TL_Loc_day_39 n) a1 a2 a3 w H
theorem T_Loc_day {D : Nat} {o : Int32 × am_W} (a1 : Int32) (w : am_W) (H : F_Loc_day a1 w = some o) : am_gi (D + 6) 92 o (0, [(0, .ref 0), (1, .int a1)], [], ww w, 0, 0) := by
  unfold F_Loc_day at H
  refine am_go_blk 2 ⟨fun hc => ?_, fun hc => ?_⟩
  · have H := am_it hc H
    exact T_Loc_day_9 w H
  · have H := am_ie hc H
    show am_gi (D + 6) 92 o (4, [(0, .ref 0), (1, .int a1)], [], ww w, 0, 0)
    refine am_go_blk 3 ⟨fun hc => ?_, fun hc => ?_⟩
    · have H := am_it hc H
      show am_gi (D + 6) 92 o (12, [(0, .ref 0), (1, .int a1)], [], ww w, 0, 0)
      refine am_go_blk 2 ⟨fun hc => ?_, fun hc => ?_⟩
      · have H := am_ie hc H
        show am_gi (D + 6) 92 o (21, [(0, .ref 0), (1, .int a1)], [], ww w, 0, 0)
        obtain ⟨w1, hqw1, H⟩ := am_bnE H
        refine am_go_blk 5 (?_ : am_gi (D + 6) 92 o (32, [(0, .ref 0), (1, .int a1)], [.ref 4, .ref 40], ww w, 0, 0))
        refine am_invd rfl rfl rfl rfl (am_callv rfl (M_Day_run (D := D + 3) (Or.inl rfl) hqw1) (?_ : am_gi (D + 6) 92 o (35, [(0, .ref 0), (1, .int a1)], [], ww w1, 0, 0)))
        exact am_go_blk 4 (TL_Loc_day_39 am_NF a1 (nI 0) (nI 0) w1 H)
      · have H := am_it hc H
        show am_gi (D + 6) 92 o (16, [(0, .ref 0), (1, .int a1)], [], ww w, 0, 0)
        obtain ⟨q3, hqq3, H⟩ := am_bnE H
        refine am_go_blk 1 (?_ : am_gi (D + 6) 92 o (17, [(0, .ref 0), (1, .int a1)], [.ref 0], ww w, 0, 0))
        refine am_invd rfl rfl rfl rfl (am_calli rfl (M_Loc_badness (D := D) hqq3) (?_ : am_gi (D + 6) 92 o (20, [(0, .ref 0), (1, .int a1)], [.int q3.1], ww q3.2, 0, 0)))
        exact am_go_blk 1 ⟨rfl, am_fi H⟩
    · have H := am_ie hc H
      exact T_Loc_day_9 w H
theorem M_Loc_day {D : Nat} {o : Int32 × am_W} {a1 : Int32} {w : am_W} (H : F_Loc_day a1 w = some o) : am_run (D + 7) 92 [.ref 0, .int a1] (ww w) (some (.int o.1)) (ww o.2) 0 0 :=
  am_run_of rfl (T_Loc_day a1 w H)
def F_Loc_pass_10 (w : am_W) : Option (Int32 × am_W) :=
  some ((-nI 2), w)
def F_Loc_pass_85 (r31 : Int32 → Int32 → Int32 → am_W → Option (Int32 × am_W)) (a1 : Int32) (a2 : Int32) (a3 : Int32) (w : am_W) : Option (Int32 × am_W) :=
  r31 a1 a2 (a3 + (nI 1)) w
def F_Loc_pass_31 (r31 : Int32 → Int32 → Int32 → am_W → Option (Int32 × am_W)) (a1 : Int32) (a2 : Int32) (a3 : Int32) (w : am_W) : Option (Int32 × am_W) :=
  if (w.1 1 0) ≤ a3 then (some (a2, w)) else (am_ck (am_in a3 8) (if (w.1 41 a3.toNatClampNeg) < 0 then (F_Loc_pass_85 r31 a1 a2 a3 w) else (am_ck (am_in a3 8) (if a1 ≤ (w.1 41 a3.toNatClampNeg) then (F_Loc_pass_85 r31 a1 a2 a3 w) else (am_lt (wsf w 1 1 ((w.1 1 1) ||| ((nI 1) <<< (a3 &&& 31)))) fun w2 => F_Loc_pass_85 r31 a1 (a2 + (nI 1)) a3 w2)))))
def L_Loc_pass_31 : Nat → Int32 → Int32 → Int32 → am_W → Option (Int32 × am_W)
  | 0, _, _, _, _ => none
  | n + 1, a1, a2, a3, w => F_Loc_pass_31 (L_Loc_pass_31 n) a1 a2 a3 w
def F_Loc_pass (a1 : Int32) (w : am_W) : Option (Int32 × am_W) :=
  if a1 < 0 then (F_Loc_pass_10 w) else (if a1 ≤ (nI 24) then ((F_Day_run 4 w).bind fun w1 => L_Loc_pass_31 am_NF a1 (nI 0) (nI 0) w1) else (F_Loc_pass_10 w))
theorem T_Loc_pass_10 {D : Nat} {o : Int32 × am_W} (w : am_W) (H : F_Loc_pass_10 w = some o) : am_gi (D + 3) 93 o (10, [], [], ww w, 0, 0) := by
  unfold F_Loc_pass_10 at H
  exact am_go_blk 2 ⟨rfl, am_fi H⟩
theorem T_Loc_pass_85 {D : Nat} {o : Int32 × am_W} {r31 : Int32 → Int32 → Int32 → am_W → Option (Int32 × am_W)} (Hr31 : ∀ (a1 : Int32) (a2 : Int32) (a3 : Int32) (w : am_W) , r31 a1 a2 a3 w = some o → am_gi (D + 3) 93 o (31, [(0, .ref 0), (1, .int a1), (2, .int a2), (3, .int a3)], [], ww w, 0, 0)) (a1 : Int32) (a2 : Int32) (a3 : Int32) (w : am_W) (H : F_Loc_pass_85 r31 a1 a2 a3 w = some o) : am_gi (D + 3) 93 o (85, [(0, .ref 0), (1, .int a1), (2, .int a2), (3, .int a3)], [], ww w, 0, 0) := by
  unfold F_Loc_pass_85 at H
  exact am_go_blk 2 (Hr31 a1 a2 (a3 + (nI 1)) w H)
theorem T_Loc_pass_31 {D : Nat} {o : Int32 × am_W} {r31 : Int32 → Int32 → Int32 → am_W → Option (Int32 × am_W)} (Hr31 : ∀ (a1 : Int32) (a2 : Int32) (a3 : Int32) (w : am_W) , r31 a1 a2 a3 w = some o → am_gi (D + 3) 93 o (31, [(0, .ref 0), (1, .int a1), (2, .int a2), (3, .int a3)], [], ww w, 0, 0)) (a1 : Int32) (a2 : Int32) (a3 : Int32) (w : am_W) (H : F_Loc_pass_31 r31 a1 a2 a3 w = some o) : am_gi (D + 3) 93 o (31, [(0, .ref 0), (1, .int a1), (2, .int a2), (3, .int a3)], [], ww w, 0, 0) := by
  unfold F_Loc_pass_31 at H
  refine am_go_blk 5 ⟨fun hc => ?_, fun hc => ?_⟩
  · have H := am_it hc H
    show am_gi (D + 3) 93 o (91, [(2, .int a2)], [], ww w, 0, 0)
    exact am_go_blk 2 ⟨rfl, am_fi H⟩
  · have H := am_ie hc H
    show am_gi (D + 3) 93 o (42, [(0, .ref 0), (1, .int a1), (2, .int a2), (3, .int a3)], [], ww w, 0, 0)
    obtain ⟨hc, H⟩ := am_ckE H
    refine am_go_blk 5 ⟨am_inv hc, (?_ : am_gi (D + 3) 93 o (51, [(0, .ref 0), (1, .int a1), (2, .int a2), (3, .int a3)], [.int (w.1 41 a3.toNatClampNeg)], ww w, 0, 0))⟩
    refine am_go_blk 1 ⟨fun hc => ?_, fun hc => ?_⟩
    · have H := am_it hc H
      exact T_Loc_pass_85 Hr31 a1 a2 a3 w H
    · have H := am_ie hc H
      show am_gi (D + 3) 93 o (54, [(0, .ref 0), (1, .int a1), (2, .int a2), (3, .int a3)], [], ww w, 0, 0)
      obtain ⟨hc, H⟩ := am_ckE H
      refine am_go_blk 5 ⟨am_inv hc, (?_ : am_gi (D + 3) 93 o (63, [(0, .ref 0), (1, .int a1), (2, .int a2), (3, .int a3)], [.int (w.1 41 a3.toNatClampNeg)], ww w, 0, 0))⟩
      refine am_go_blk 2 ⟨fun hc => ?_, fun hc => ?_⟩
      · have H := am_it hc H
        exact T_Loc_pass_85 Hr31 a1 a2 a3 w H
      · have H := am_ie hc H
        show am_gi (D + 3) 93 o (67, [(0, .ref 0), (1, .int a1), (2, .int a2), (3, .int a3)], [], ww w, 0, 0)
        obtain ⟨w2, ew2, H⟩ := am_ltE H
        refine am_go_blk 9 ⟨rfl, rfl, am_hp (ww_f1_1 ew2) (?_ : am_gi (D + 3) 93 o (82, [(0, .ref 0), (1, .int a1), (2, .int a2), (3, .int a3)], [], ww w2, 0, 0))⟩
        exact am_go_blk 1 (T_Loc_pass_85 Hr31 a1 (a2 + (nI 1)) a3 w2 H)
theorem TL_Loc_pass_31 {D : Nat} {o : Int32 × am_W} : ∀ (n : Nat) (a1 : Int32) (a2 : Int32) (a3 : Int32) (w : am_W) , L_Loc_pass_31 n a1 a2 a3 w = some o → am_gi (D + 3) 93 o (31, [(0, .ref 0), (1, .int a1), (2, .int a2), (3, .int a3)], [], ww w, 0, 0)
  | 0, _, _, _, _, H => by cases H
  | n + 1, a1, a2, a3, w, H => T_Loc_pass_31 (TL_Loc_pass_31 n) a1 a2 a3 w H
theorem T_Loc_pass {D : Nat} {o : Int32 × am_W} (a1 : Int32) (w : am_W) (H : F_Loc_pass a1 w = some o) : am_gi (D + 3) 93 o (0, [(0, .ref 0), (1, .int a1)], [], ww w, 0, 0) := by
  unfold F_Loc_pass at H
  refine am_go_blk 2 ⟨fun hc => ?_, fun hc => ?_⟩
  · have H := am_it hc H
    exact T_Loc_pass_10 w H
  · have H := am_ie hc H
    show am_gi (D + 3) 93 o (4, [(0, .ref 0), (1, .int a1)], [], ww w, 0, 0)
    refine am_go_blk 3 ⟨fun hc => ?_, fun hc => ?_⟩
    · have H := am_it hc H
      show am_gi (D + 3) 93 o (13, [(0, .ref 0), (1, .int a1)], [], ww w, 0, 0)
      obtain ⟨w1, hqw1, H⟩ := am_bnE H
      refine am_go_blk 5 (?_ : am_gi (D + 3) 93 o (24, [(0, .ref 0), (1, .int a1)], [.ref 4, .ref 40], ww w, 0, 0))
      refine am_invd rfl rfl rfl rfl (am_callv rfl (M_Day_run (D := D) (Or.inl rfl) hqw1) (?_ : am_gi (D + 3) 93 o (27, [(0, .ref 0), (1, .int a1)], [], ww w1, 0, 0)))
      exact am_go_blk 4 (TL_Loc_pass_31 am_NF a1 (nI 0) (nI 0) w1 H)
    · have H := am_ie hc H
      exact T_Loc_pass_10 w H
theorem M_Loc_pass {D : Nat} {o : Int32 × am_W} {a1 : Int32} {w : am_W} (H : F_Loc_pass a1 w = some o) : am_run (D + 4) 93 [.ref 0, .int a1] (ww w) (some (.int o.1)) (ww o.2) 0 0 :=
  am_run_of rfl (T_Loc_pass a1 w H)
def F_Loc_priceOf_34 (r4 : Int32 → Int32 → Int32 → am_W → Option (Int32 × am_W)) (a1 : Int32) (a3 : Int32) (s0 : Int32) (s1 : Int32) (w : am_W) : Option (Int32 × am_W) :=
  r4 a1 (s1 + s0) (a3 + (nI 1)) w
def F_Loc_priceOf_4 (r4 : Int32 → Int32 → Int32 → am_W → Option (Int32 × am_W)) (a1 : Int32) (a2 : Int32) (a3 : Int32) (w : am_W) : Option (Int32 × am_W) :=
  if (w.1 1 2) ≤ a3 then (some (a2, w)) else ((F_Loc_has a1 a3 w).bind fun q1 => if q1.1 = 0 then (F_Loc_priceOf_34 r4 a1 a3 (nI 0) a2 q1.2) else (am_ck (am_in a3 10) (F_Loc_priceOf_34 r4 a1 a3 (q1.2.1 44 a3.toNatClampNeg) a2 q1.2)))
def L_Loc_priceOf_4 : Nat → Int32 → Int32 → Int32 → am_W → Option (Int32 × am_W)
  | 0, _, _, _, _ => none
  | n + 1, a1, a2, a3, w => F_Loc_priceOf_4 (L_Loc_priceOf_4 n) a1 a2 a3 w
def F_Loc_priceOf (a1 : Int32) (w : am_W) : Option (Int32 × am_W) :=
  L_Loc_priceOf_4 am_NF a1 (nI 0) (nI 0) w
theorem T_Loc_priceOf_34 {D : Nat} {o : Int32 × am_W} {r4 : Int32 → Int32 → Int32 → am_W → Option (Int32 × am_W)} (Hr4 : ∀ (a1 : Int32) (a2 : Int32) (a3 : Int32) (w : am_W) , r4 a1 a2 a3 w = some o → am_gi (D + 1) 129 o (4, [(0, .ref 0), (1, .int a1), (2, .int a2), (3, .int a3)], [], ww w, 0, 0)) (a1 : Int32) (a3 : Int32) (s0 : Int32) (s1 : Int32) (w : am_W) (H : F_Loc_priceOf_34 r4 a1 a3 s0 s1 w = some o) : am_gi (D + 1) 129 o (34, [(0, .ref 0), (1, .int a1), (3, .int a3)], [.int s0, .int s1], ww w, 0, 0) := by
  unfold F_Loc_priceOf_34 at H
  exact am_go_blk 4 (Hr4 a1 (s1 + s0) (a3 + (nI 1)) w H)
theorem T_Loc_priceOf_4 {D : Nat} {o : Int32 × am_W} {r4 : Int32 → Int32 → Int32 → am_W → Option (Int32 × am_W)} (Hr4 : ∀ (a1 : Int32) (a2 : Int32) (a3 : Int32) (w : am_W) , r4 a1 a2 a3 w = some o → am_gi (D + 1) 129 o (4, [(0, .ref 0), (1, .int a1), (2, .int a2), (3, .int a3)], [], ww w, 0, 0)) (a1 : Int32) (a2 : Int32) (a3 : Int32) (w : am_W) (H : F_Loc_priceOf_4 r4 a1 a2 a3 w = some o) : am_gi (D + 1) 129 o (4, [(0, .ref 0), (1, .int a1), (2, .int a2), (3, .int a3)], [], ww w, 0, 0) := by
  unfold F_Loc_priceOf_4 at H
  refine am_go_blk 5 ⟨fun hc => ?_, fun hc => ?_⟩
  · have H := am_it hc H
    show am_gi (D + 1) 129 o (42, [(2, .int a2)], [], ww w, 0, 0)
    exact am_go_blk 2 ⟨rfl, am_fi H⟩
  · have H := am_ie hc H
    show am_gi (D + 1) 129 o (15, [(0, .ref 0), (1, .int a1), (2, .int a2), (3, .int a3)], [], ww w, 0, 0)
    obtain ⟨q1, hqq1, H⟩ := am_bnE H
    refine am_go_blk 3 (?_ : am_gi (D + 1) 129 o (18, [(0, .ref 0), (1, .int a1), (2, .int a2), (3, .int a3)], [.int a3, .int a1, .int a2], ww w, 0, 0))
    refine am_cls rfl rfl rfl (am_calli rfl (M_Loc_has (D := D) hqq1) (?_ : am_gi (D + 1) 129 o (21, [(0, .ref 0), (1, .int a1), (2, .int a2), (3, .int a3)], [.int q1.1, .int a2], ww q1.2, 0, 0)))
    refine am_go_blk 1 ⟨fun hc => ?_, fun hc => ?_⟩
    · have H := am_it hc H
      show am_gi (D + 1) 129 o (33, [(0, .ref 0), (1, .int a1), (3, .int a3)], [.int a2], ww q1.2, 0, 0)
      exact am_go_blk 1 (T_Loc_priceOf_34 Hr4 a1 a3 (nI 0) a2 q1.2 H)
    · have H := am_ie hc H
      show am_gi (D + 1) 129 o (24, [(0, .ref 0), (1, .int a1), (2, .int a2), (3, .int a3)], [.int a2], ww q1.2, 0, 0)
      obtain ⟨hc, H⟩ := am_ckE H
      refine am_go_blk 4 ⟨am_inv hc, (?_ : am_gi (D + 1) 129 o (30, [(0, .ref 0), (1, .int a1), (2, .int a2), (3, .int a3)], [.int (q1.2.1 44 a3.toNatClampNeg), .int a2], ww q1.2, 0, 0))⟩
      exact am_go_blk 1 (T_Loc_priceOf_34 Hr4 a1 a3 (q1.2.1 44 a3.toNatClampNeg) a2 q1.2 H)
theorem TL_Loc_priceOf_4 {D : Nat} {o : Int32 × am_W} : ∀ (n : Nat) (a1 : Int32) (a2 : Int32) (a3 : Int32) (w : am_W) , L_Loc_priceOf_4 n a1 a2 a3 w = some o → am_gi (D + 1) 129 o (4, [(0, .ref 0), (1, .int a1), (2, .int a2), (3, .int a3)], [], ww w, 0, 0)
  | 0, _, _, _, _, H => by cases H
  | n + 1, a1, a2, a3, w, H => T_Loc_priceOf_4 (TL_Loc_priceOf_4 n) a1 a2 a3 w H
theorem T_Loc_priceOf {D : Nat} {o : Int32 × am_W} (a1 : Int32) (w : am_W) (H : F_Loc_priceOf a1 w = some o) : am_gi (D + 1) 129 o (0, [(0, .ref 0), (1, .int a1)], [], ww w, 0, 0) := by
  unfold F_Loc_priceOf at H
  exact am_go_blk 4 (TL_Loc_priceOf_4 am_NF a1 (nI 0) (nI 0) w H)
theorem M_Loc_priceOf {D : Nat} {o : Int32 × am_W} {a1 : Int32} {w : am_W} (H : F_Loc_priceOf a1 w = some o) : am_run (D + 2) 129 [.ref 0, .int a1] (ww w) (some (.int o.1)) (ww o.2) 0 0 :=
  am_run_of rfl (T_Loc_priceOf a1 w H)
def F_Loc_cheapestSaws_165 (s0 : Int32) (w : am_W) : Option (Int32 × am_W) :=
  some (s0, w)
def F_Loc_cheapestSaws_148 (r78 : Int32 → Int32 → Int32 → Int32 → Int32 → Int32 → am_W → Option (Int32 × am_W)) (a1 : Int32) (a2 : Int32) (a3 : Int32) (a4 : Int32) (a5 : Int32) (a6 : Int32) (w : am_W) : Option (Int32 × am_W) :=
  r78 a1 a2 a3 a4 a5 (a6 + (nI 1)) w
def F_Loc_cheapestSaws_116 (r78 : Int32 → Int32 → Int32 → Int32 → Int32 → Int32 → am_W → Option (Int32 × am_W)) (a1 : Int32) (a2 : Int32) (a3 : Int32) (a4 : Int32) (a5 : Int32) (a6 : Int32) (a7 : Int32) (w : am_W) : Option (Int32 × am_W) :=
  (F_Rail_goneAtLast ((w.1 1 3) ||| a6) w).bind fun q2 => if (a1 &&& (q2.1 ^^^ (-nI 1))) = 0 then (F_Loc_cheapestSaws_148 r78 a1 a2 a3 a6 a7 a6 q2.2) else (F_Loc_cheapestSaws_148 r78 a1 a2 a3 a4 a5 a6 q2.2)
def F_Loc_cheapestSaws_78 (r78 : Int32 → Int32 → Int32 → Int32 → Int32 → Int32 → am_W → Option (Int32 × am_W)) (a1 : Int32) (a2 : Int32) (a3 : Int32) (a4 : Int32) (a5 : Int32) (a6 : Int32) (w : am_W) : Option (Int32 × am_W) :=
  if a3 < a6 then (if a2 = 0 then (F_Loc_cheapestSaws_165 a4 w) else (F_Loc_cheapestSaws_165 a5 w)) else (if (a6 &&& (a3 ^^^ (-nI 1))) = 0 then ((F_Loc_priceOf a6 w).bind fun q1 => if a4 < 0 then (F_Loc_cheapestSaws_116 r78 a1 a2 a3 a4 a5 a6 q1.1 q1.2) else (if a5 ≤ q1.1 then (F_Loc_cheapestSaws_148 r78 a1 a2 a3 a4 a5 a6 q1.2) else (F_Loc_cheapestSaws_116 r78 a1 a2 a3 a4 a5 a6 q1.1 q1.2))) else (F_Loc_cheapestSaws_148 r78 a1 a2 a3 a4 a5 a6 w))
def L_Loc_cheapestSaws_78 : Nat → Int32 → Int32 → Int32 → Int32 → Int32 → Int32 → am_W → Option (Int32 × am_W)
  | 0, _, _, _, _, _, _, _ => none
  | n + 1, a1, a2, a3, a4, a5, a6, w => F_Loc_cheapestSaws_78 (L_Loc_cheapestSaws_78 n) a1 a2 a3 a4 a5 a6 w
def F_Loc_cheapestSaws_61 (r5 : Int32 → Int32 → Int32 → Int32 → am_W → Option (Int32 × am_W)) (a1 : Int32) (a2 : Int32) (a4 : Int32) (s0 : Int32) (s1 : Int32) (w : am_W) : Option (Int32 × am_W) :=
  r5 a1 a2 (s1 ||| s0) (a4 + (nI 1)) w
def F_Loc_cheapestSaws_5 (r5 : Int32 → Int32 → Int32 → Int32 → am_W → Option (Int32 × am_W)) (a1 : Int32) (a2 : Int32) (a3 : Int32) (a4 : Int32) (w : am_W) : Option (Int32 × am_W) :=
  if (w.1 1 2) ≤ a4 then (L_Loc_cheapestSaws_78 am_NF a1 a2 a3 (-nI 1) (-nI 1) (nI 0) w) else ((F_Law_sawing (w.1 17 2) a4 w).bind fun q3 => am_ck (am_in a4 10) (am_lt (wst q3.2 44 a4 q3.1) fun w4 => (F_Rail_isShut a4 w4).bind fun q5 => if q5.1 = 0 then (F_Loc_cheapestSaws_61 r5 a1 a2 a4 (nI 0) a3 q5.2) else (F_Loc_cheapestSaws_61 r5 a1 a2 a4 ((nI 1) <<< (a4 &&& 31)) a3 q5.2)))
def L_Loc_cheapestSaws_5 : Nat → Int32 → Int32 → Int32 → Int32 → am_W → Option (Int32 × am_W)
  | 0, _, _, _, _, _ => none
  | n + 1, a1, a2, a3, a4, w => F_Loc_cheapestSaws_5 (L_Loc_cheapestSaws_5 n) a1 a2 a3 a4 w
def F_Loc_cheapestSaws (a1 : Int32) (a2 : Int32) (w : am_W) : Option (Int32 × am_W) :=
  L_Loc_cheapestSaws_5 am_NF a1 a2 (nI 0) (nI 0) w
theorem T_Loc_cheapestSaws_165 {D : Nat} {o : Int32 × am_W} (s0 : Int32) (w : am_W) (H : F_Loc_cheapestSaws_165 s0 w = some o) : am_gi (D + 5) 128 o (165, [], [.int s0], ww w, 0, 0) := by
  unfold F_Loc_cheapestSaws_165 at H
  exact am_go_blk 1 ⟨rfl, am_fi H⟩
theorem T_Loc_cheapestSaws_148 {D : Nat} {o : Int32 × am_W} {r78 : Int32 → Int32 → Int32 → Int32 → Int32 → Int32 → am_W → Option (Int32 × am_W)} (Hr78 : ∀ (a1 : Int32) (a2 : Int32) (a3 : Int32) (a4 : Int32) (a5 : Int32) (a6 : Int32) (w : am_W) , r78 a1 a2 a3 a4 a5 a6 w = some o → am_gi (D + 5) 128 o (78, [(0, .ref 0), (1, .int a1), (2, .int a2), (3, .int a3), (4, .int a4), (5, .int a5), (6, .int a6)], [], ww w, 0, 0)) (a1 : Int32) (a2 : Int32) (a3 : Int32) (a4 : Int32) (a5 : Int32) (a6 : Int32) (w : am_W) (H : F_Loc_cheapestSaws_148 r78 a1 a2 a3 a4 a5 a6 w = some o) : am_gi (D + 5) 128 o (148, [(0, .ref 0), (1, .int a1), (2, .int a2), (3, .int a3), (4, .int a4), (5, .int a5), (6, .int a6)], [], ww w, 0, 0) := by
  unfold F_Loc_cheapestSaws_148 at H
  exact am_go_blk 2 (Hr78 a1 a2 a3 a4 a5 (a6 + (nI 1)) w H)
theorem T_Loc_cheapestSaws_116 {D : Nat} {o : Int32 × am_W} {r78 : Int32 → Int32 → Int32 → Int32 → Int32 → Int32 → am_W → Option (Int32 × am_W)} (Hr78 : ∀ (a1 : Int32) (a2 : Int32) (a3 : Int32) (a4 : Int32) (a5 : Int32) (a6 : Int32) (w : am_W) , r78 a1 a2 a3 a4 a5 a6 w = some o → am_gi (D + 5) 128 o (78, [(0, .ref 0), (1, .int a1), (2, .int a2), (3, .int a3), (4, .int a4), (5, .int a5), (6, .int a6)], [], ww w, 0, 0)) (a1 : Int32) (a2 : Int32) (a3 : Int32) (a4 : Int32) (a5 : Int32) (a6 : Int32) (a7 : Int32) (w : am_W) (H : F_Loc_cheapestSaws_116 r78 a1 a2 a3 a4 a5 a6 a7 w = some o) : am_gi (D + 5) 128 o (116, [(0, .ref 0), (1, .int a1), (2, .int a2), (3, .int a3), (4, .int a4), (5, .int a5), (6, .int a6), (7, .int a7)], [], ww w, 0, 0) := by
  unfold F_Loc_cheapestSaws_116 at H
  obtain ⟨q2, hqq2, H⟩ := am_bnE H
  refine am_go_blk 8 (?_ : am_gi (D + 5) 128 o (131, [(0, .ref 0), (1, .int a1), (2, .int a2), (3, .int a3), (4, .int a4), (5, .int a5), (6, .int a6), (7, .int a7)], [.int ((w.1 1 3) ||| a6), .ref 1, .int a1], ww w, 0, 0))
  refine am_invd rfl rfl rfl rfl (am_calli rfl (M_Rail_goneAtLast (D := D + 2) hqq2) (?_ : am_gi (D + 5) 128 o (134, [(0, .ref 0), (1, .int a1), (2, .int a2), (3, .int a3), (4, .int a4), (5, .int a5), (6, .int a6), (7, .int a7)], [.int q2.1, .int a1], ww q2.2, 0, 0)))
  refine am_go_blk 4 ⟨fun hc => ?_, fun hc => ?_⟩
  · have H := am_ie hc H
    exact T_Loc_cheapestSaws_148 Hr78 a1 a2 a3 a4 a5 a6 q2.2 H
  · have H := am_it hc H
    show am_gi (D + 5) 128 o (140, [(0, .ref 0), (1, .int a1), (2, .int a2), (3, .int a3), (4, .int a4), (5, .int a5), (6, .int a6), (7, .int a7)], [], ww q2.2, 0, 0)
    exact am_go_blk 4 (T_Loc_cheapestSaws_148 Hr78 a1 a2 a3 a6 a7 a6 q2.2 H)
theorem T_Loc_cheapestSaws_78 {D : Nat} {o : Int32 × am_W} {r78 : Int32 → Int32 → Int32 → Int32 → Int32 → Int32 → am_W → Option (Int32 × am_W)} (Hr78 : ∀ (a1 : Int32) (a2 : Int32) (a3 : Int32) (a4 : Int32) (a5 : Int32) (a6 : Int32) (w : am_W) , r78 a1 a2 a3 a4 a5 a6 w = some o → am_gi (D + 5) 128 o (78, [(0, .ref 0), (1, .int a1), (2, .int a2), (3, .int a3), (4, .int a4), (5, .int a5), (6, .int a6)], [], ww w, 0, 0)) (a1 : Int32) (a2 : Int32) (a3 : Int32) (a4 : Int32) (a5 : Int32) (a6 : Int32) (w : am_W) (H : F_Loc_cheapestSaws_78 r78 a1 a2 a3 a4 a5 a6 w = some o) : am_gi (D + 5) 128 o (78, [(0, .ref 0), (1, .int a1), (2, .int a2), (3, .int a3), (4, .int a4), (5, .int a5), (6, .int a6)], [], ww w, 0, 0) := by
  unfold F_Loc_cheapestSaws_78 at H
  refine am_go_blk 3 ⟨fun hc => ?_, fun hc => ?_⟩
  · have H := am_it hc H
    show am_gi (D + 5) 128 o (154, [(2, .int a2), (4, .int a4), (5, .int a5)], [], ww w, 0, 0)
    refine am_go_blk 2 ⟨fun hc => ?_, fun hc => ?_⟩
    · have H := am_ie hc H
      show am_gi (D + 5) 128 o (163, [(5, .int a5)], [], ww w, 0, 0)
      exact am_go_blk 1 (T_Loc_cheapestSaws_165 a5 w H)
    · have H := am_it hc H
      show am_gi (D + 5) 128 o (158, [(2, .int a2), (4, .int a4), (5, .int a5)], [], ww w, 0, 0)
      exact am_go_blk 2 (T_Loc_cheapestSaws_165 a4 w H)
  · have H := am_ie hc H
    show am_gi (D + 5) 128 o (84, [(0, .ref 0), (1, .int a1), (2, .int a2), (3, .int a3), (4, .int a4), (5, .int a5), (6, .int a6)], [], ww w, 0, 0)
    refine am_go_blk 6 ⟨fun hc => ?_, fun hc => ?_⟩
    · have H := am_it hc H
      show am_gi (D + 5) 128 o (96, [(0, .ref 0), (1, .int a1), (2, .int a2), (3, .int a3), (4, .int a4), (5, .int a5), (6, .int a6)], [], ww w, 0, 0)
      obtain ⟨q1, hqq1, H⟩ := am_bnE H
      refine am_go_blk 2 (?_ : am_gi (D + 5) 128 o (99, [(0, .ref 0), (1, .int a1), (2, .int a2), (3, .int a3), (4, .int a4), (5, .int a5), (6, .int a6)], [.int a6, .ref 0], ww w, 0, 0))
      refine am_invd rfl rfl rfl rfl (am_calli rfl (M_Loc_priceOf (D := D + 3) hqq1) (?_ : am_gi (D + 5) 128 o (102, [(0, .ref 0), (1, .int a1), (2, .int a2), (3, .int a3), (4, .int a4), (5, .int a5), (6, .int a6)], [.int q1.1], ww q1.2, 0, 0)))
      refine am_go_blk 3 ⟨fun hc => ?_, fun hc => ?_⟩
      · have H := am_it hc H
        exact T_Loc_cheapestSaws_116 Hr78 a1 a2 a3 a4 a5 a6 q1.1 q1.2 H
      · have H := am_ie hc H
        show am_gi (D + 5) 128 o (109, [(7, .int q1.1), (0, .ref 0), (1, .int a1), (2, .int a2), (3, .int a3), (4, .int a4), (5, .int a5), (6, .int a6)], [], ww q1.2, 0, 0)
        refine am_go_blk 3 ⟨fun hc => ?_, fun hc => ?_⟩
        · have H := am_it hc H
          exact T_Loc_cheapestSaws_148 Hr78 a1 a2 a3 a4 a5 a6 q1.2 H
        · have H := am_ie hc H
          exact T_Loc_cheapestSaws_116 Hr78 a1 a2 a3 a4 a5 a6 q1.1 q1.2 H
    · have H := am_ie hc H
      show am_gi (D + 5) 128 o (93, [(0, .ref 0), (1, .int a1), (2, .int a2), (3, .int a3), (4, .int a4), (5, .int a5), (6, .int a6)], [], ww w, 0, 0)
      exact am_go_blk 1 (T_Loc_cheapestSaws_148 Hr78 a1 a2 a3 a4 a5 a6 w H)
theorem TL_Loc_cheapestSaws_78 {D : Nat} {o : Int32 × am_W} : ∀ (n : Nat) (a1 : Int32) (a2 : Int32) (a3 : Int32) (a4 : Int32) (a5 : Int32) (a6 : Int32) (w : am_W) , L_Loc_cheapestSaws_78 n a1 a2 a3 a4 a5 a6 w = some o → am_gi (D + 5) 128 o (78, [(0, .ref 0), (1, .int a1), (2, .int a2), (3, .int a3), (4, .int a4), (5, .int a5), (6, .int a6)], [], ww w, 0, 0)
  | 0, _, _, _, _, _, _, _, H => by cases H
  | n + 1, a1, a2, a3, a4, a5, a6, w, H => T_Loc_cheapestSaws_78 (TL_Loc_cheapestSaws_78 n) a1 a2 a3 a4 a5 a6 w H
theorem T_Loc_cheapestSaws_61 {D : Nat} {o : Int32 × am_W} {r5 : Int32 → Int32 → Int32 → Int32 → am_W → Option (Int32 × am_W)} (Hr5 : ∀ (a1 : Int32) (a2 : Int32) (a3 : Int32) (a4 : Int32) (w : am_W) , r5 a1 a2 a3 a4 w = some o → am_gi (D + 5) 128 o (5, [(0, .ref 0), (1, .int a1), (2, .int a2), (3, .int a3), (4, .int a4)], [], ww w, 0, 0)) (a1 : Int32) (a2 : Int32) (a4 : Int32) (s0 : Int32) (s1 : Int32) (w : am_W) (H : F_Loc_cheapestSaws_61 r5 a1 a2 a4 s0 s1 w = some o) : am_gi (D + 5) 128 o (61, [(0, .ref 0), (1, .int a1), (2, .int a2), (4, .int a4)], [.int s0, .int s1], ww w, 0, 0) := by
  unfold F_Loc_cheapestSaws_61 at H
  exact am_go_blk 4 (Hr5 a1 a2 (s1 ||| s0) (a4 + (nI 1)) w H)
theorem T_Loc_cheapestSaws_5 {D : Nat} {o : Int32 × am_W} {r5 : Int32 → Int32 → Int32 → Int32 → am_W → Option (Int32 × am_W)} (Hr5 : ∀ (a1 : Int32) (a2 : Int32) (a3 : Int32) (a4 : Int32) (w : am_W) , r5 a1 a2 a3 a4 w = some o → am_gi (D + 5) 128 o (5, [(0, .ref 0), (1, .int a1), (2, .int a2), (3, .int a3), (4, .int a4)], [], ww w, 0, 0)) (a1 : Int32) (a2 : Int32) (a3 : Int32) (a4 : Int32) (w : am_W) (H : F_Loc_cheapestSaws_5 r5 a1 a2 a3 a4 w = some o) : am_gi (D + 5) 128 o (5, [(0, .ref 0), (1, .int a1), (2, .int a2), (3, .int a3), (4, .int a4)], [], ww w, 0, 0) := by
  unfold F_Loc_cheapestSaws_5 at H
  refine am_go_blk 5 ⟨fun hc => ?_, fun hc => ?_⟩
  · have H := am_it hc H
    show am_gi (D + 5) 128 o (69, [(0, .ref 0), (1, .int a1), (2, .int a2), (3, .int a3)], [], ww w, 0, 0)
    exact am_go_blk 6 (TL_Loc_cheapestSaws_78 am_NF a1 a2 a3 (-nI 1) (-nI 1) (nI 0) w H)
  · have H := am_ie hc H
    show am_gi (D + 5) 128 o (17, [(0, .ref 0), (1, .int a1), (2, .int a2), (3, .int a3), (4, .int a4)], [], ww w, 0, 0)
    obtain ⟨q3, hqq3, H⟩ := am_bnE H
    refine am_go_blk 9 (?_ : am_gi (D + 5) 128 o (36, [(0, .ref 0), (1, .int a1), (2, .int a2), (3, .int a3), (4, .int a4)], [.int a4, .int (w.1 17 2), .ref 17, .int a4, .ref 44], ww w, 0, 0))
    refine am_invd rfl rfl rfl rfl (am_calli rfl (M_Law_sawing (D := D) hqq3) (?_ : am_gi (D + 5) 128 o (39, [(0, .ref 0), (1, .int a1), (2, .int a2), (3, .int a3), (4, .int a4)], [.int q3.1, .int a4, .ref 44], ww q3.2, 0, 0)))
    obtain ⟨hc, H⟩ := am_ckE H
    obtain ⟨w4, ew4, H⟩ := am_ltE H
    refine am_go_blk 1 ⟨am_inv hc, am_hp (ww_s44 ew4) (?_ : am_gi (D + 5) 128 o (40, [(0, .ref 0), (1, .int a1), (2, .int a2), (3, .int a3), (4, .int a4)], [], ww w4, 0, 0))⟩
    obtain ⟨q5, hqq5, H⟩ := am_bnE H
    refine am_go_blk 4 (?_ : am_gi (D + 5) 128 o (47, [(0, .ref 0), (1, .int a1), (2, .int a2), (3, .int a3), (4, .int a4)], [.int a4, .ref 1, .int a3], ww w4, 0, 0))
    refine am_invd rfl rfl rfl rfl (am_calli rfl (M_Rail_isShut (D := D + 3) hqq5) (?_ : am_gi (D + 5) 128 o (50, [(0, .ref 0), (1, .int a1), (2, .int a2), (3, .int a3), (4, .int a4)], [.int q5.1, .int a3], ww q5.2, 0, 0)))
    refine am_go_blk 1 ⟨fun hc => ?_, fun hc => ?_⟩
    · have H := am_it hc H
      show am_gi (D + 5) 128 o (60, [(0, .ref 0), (1, .int a1), (2, .int a2), (4, .int a4)], [.int a3], ww q5.2, 0, 0)
      exact am_go_blk 1 (T_Loc_cheapestSaws_61 Hr5 a1 a2 a4 (nI 0) a3 q5.2 H)
    · have H := am_ie hc H
      show am_gi (D + 5) 128 o (53, [(0, .ref 0), (1, .int a1), (2, .int a2), (3, .int a3), (4, .int a4)], [.int a3], ww q5.2, 0, 0)
      exact am_go_blk 4 (T_Loc_cheapestSaws_61 Hr5 a1 a2 a4 ((nI 1) <<< (a4 &&& 31)) a3 q5.2 H)
theorem TL_Loc_cheapestSaws_5 {D : Nat} {o : Int32 × am_W} : ∀ (n : Nat) (a1 : Int32) (a2 : Int32) (a3 : Int32) (a4 : Int32) (w : am_W) , L_Loc_cheapestSaws_5 n a1 a2 a3 a4 w = some o → am_gi (D + 5) 128 o (5, [(0, .ref 0), (1, .int a1), (2, .int a2), (3, .int a3), (4, .int a4)], [], ww w, 0, 0)
  | 0, _, _, _, _, _, H => by cases H
  | n + 1, a1, a2, a3, a4, w, H => T_Loc_cheapestSaws_5 (TL_Loc_cheapestSaws_5 n) a1 a2 a3 a4 w H
theorem T_Loc_cheapestSaws {D : Nat} {o : Int32 × am_W} (a1 : Int32) (a2 : Int32) (w : am_W) (H : F_Loc_cheapestSaws a1 a2 w = some o) : am_gi (D + 5) 128 o (0, [(0, .ref 0), (1, .int a1), (2, .int a2)], [], ww w, 0, 0) := by
  unfold F_Loc_cheapestSaws at H
  exact am_go_blk 4 (TL_Loc_cheapestSaws_5 am_NF a1 a2 (nI 0) (nI 0) w H)
theorem M_Loc_cheapestSaws {D : Nat} {o : Int32 × am_W} {a1 : Int32} {a2 : Int32} {w : am_W} (H : F_Loc_cheapestSaws a1 a2 w = some o) : am_run (D + 6) 128 [.ref 0, .int a1, .int a2] (ww w) (some (.int o.1)) (ww o.2) 0 0 :=
  am_run_of rfl (T_Loc_cheapestSaws a1 a2 w H)
def F_Loc_sawFor_34 (s0 : Int32) (w : am_W) : Option (Int32 × am_W) :=
  some (s0, w)
def F_Loc_sawFor (a1 : Int32) (a2 : Int32) (w : am_W) : Option (Int32 × am_W) :=
  (F_Rail_isThing a1 w).bind fun q1 => if q1.1 = 0 then (some ((-nI 5), q1.2)) else ((F_Loc_isEither a2 q1.2).bind fun q2 => if q2.1 = 0 then (F_Loc_sawFor_34 (-nI 7) q2.2) else ((F_Loc_cheapestSaws ((nI 1) <<< (a1 &&& 31)) a2 q2.2).bind fun q3 => F_Loc_sawFor_34 q3.1 q3.2))
theorem T_Loc_sawFor_34 {D : Nat} {o : Int32 × am_W} (s0 : Int32) (w : am_W) (H : F_Loc_sawFor_34 s0 w = some o) : am_gi (D + 6) 94 o (34, [], [.int s0], ww w, 0, 0) := by
  unfold F_Loc_sawFor_34 at H
  exact am_go_blk 1 ⟨rfl, am_fi H⟩
theorem T_Loc_sawFor {D : Nat} {o : Int32 × am_W} (a1 : Int32) (a2 : Int32) (w : am_W) (H : F_Loc_sawFor a1 a2 w = some o) : am_gi (D + 6) 94 o (0, [(0, .ref 0), (1, .int a1), (2, .int a2)], [], ww w, 0, 0) := by
  unfold F_Loc_sawFor at H
  obtain ⟨q1, hqq1, H⟩ := am_bnE H
  refine am_go_blk 3 (?_ : am_gi (D + 6) 94 o (5, [(0, .ref 0), (1, .int a1), (2, .int a2)], [.int a1, .ref 1], ww w, 0, 0))
  refine am_invd rfl rfl rfl rfl (am_calli rfl (M_Rail_isThing (D := D + 5) hqq1) (?_ : am_gi (D + 6) 94 o (8, [(0, .ref 0), (1, .int a1), (2, .int a2)], [.int q1.1], ww q1.2, 0, 0)))
  refine am_go_blk 1 ⟨fun hc => ?_, fun hc => ?_⟩
  · have H := am_ie hc H
    show am_gi (D + 6) 94 o (14, [(0, .ref 0), (1, .int a1), (2, .int a2)], [], ww q1.2, 0, 0)
    obtain ⟨q2, hqq2, H⟩ := am_bnE H
    refine am_go_blk 1 (?_ : am_gi (D + 6) 94 o (15, [(0, .ref 0), (1, .int a1), (2, .int a2)], [.int a2], ww q1.2, 0, 0))
    refine am_cls rfl rfl rfl (am_calli rfl (M_Loc_isEither (D := D + 5) hqq2) (?_ : am_gi (D + 6) 94 o (18, [(0, .ref 0), (1, .int a1), (2, .int a2)], [.int q2.1], ww q2.2, 0, 0)))
    refine am_go_blk 1 ⟨fun hc => ?_, fun hc => ?_⟩
    · have H := am_it hc H
      show am_gi (D + 6) 94 o (32, [], [], ww q2.2, 0, 0)
      exact am_go_blk 1 (T_Loc_sawFor_34 (-nI 7) q2.2 H)
    · have H := am_ie hc H
      show am_gi (D + 6) 94 o (21, [(0, .ref 0), (1, .int a1), (2, .int a2)], [], ww q2.2, 0, 0)
      obtain ⟨q3, hqq3, H⟩ := am_bnE H
      refine am_go_blk 5 (?_ : am_gi (D + 6) 94 o (26, [(0, .ref 0), (1, .int a1), (2, .int a2)], [.int a2, .int ((nI 1) <<< (a1 &&& 31)), .ref 0], ww q2.2, 0, 0))
      refine am_invd rfl rfl rfl rfl (am_calli rfl (M_Loc_cheapestSaws (D := D) hqq3) (?_ : am_gi (D + 6) 94 o (29, [(0, .ref 0), (1, .int a1), (2, .int a2)], [.int q3.1], ww q3.2, 0, 0)))
      exact am_go_blk 1 (T_Loc_sawFor_34 q3.1 q3.2 H)
  · have H := am_it hc H
    show am_gi (D + 6) 94 o (11, [(0, .ref 0), (1, .int a1), (2, .int a2)], [], ww q1.2, 0, 0)
    exact am_go_blk 2 ⟨rfl, am_fi H⟩
theorem M_Loc_sawFor {D : Nat} {o : Int32 × am_W} {a1 : Int32} {a2 : Int32} {w : am_W} (H : F_Loc_sawFor a1 a2 w = some o) : am_run (D + 7) 94 [.ref 0, .int a1, .int a2] (ww w) (some (.int o.1)) (ww o.2) 0 0 :=
  am_run_of rfl (T_Loc_sawFor a1 a2 w H)
def F_Loc_sawAll_24 (s0 : Int32) (w : am_W) : Option (Int32 × am_W) :=
  some (s0, w)
def F_Loc_sawAll (a1 : Int32) (w : am_W) : Option (Int32 × am_W) :=
  (F_Loc_isEither a1 w).bind fun q1 => if q1.1 = 0 then (F_Loc_sawAll_24 (-nI 2) q1.2) else ((F_Loc_cheapestSaws (q1.2.1 1 4) a1 q1.2).bind fun q2 => F_Loc_sawAll_24 q2.1 q2.2)
theorem T_Loc_sawAll_24 {D : Nat} {o : Int32 × am_W} (s0 : Int32) (w : am_W) (H : F_Loc_sawAll_24 s0 w = some o) : am_gi (D + 6) 95 o (24, [], [.int s0], ww w, 0, 0) := by
  unfold F_Loc_sawAll_24 at H
  exact am_go_blk 1 ⟨rfl, am_fi H⟩
theorem T_Loc_sawAll {D : Nat} {o : Int32 × am_W} (a1 : Int32) (w : am_W) (H : F_Loc_sawAll a1 w = some o) : am_gi (D + 6) 95 o (0, [(0, .ref 0), (1, .int a1)], [], ww w, 0, 0) := by
  unfold F_Loc_sawAll at H
  obtain ⟨q1, hqq1, H⟩ := am_bnE H
  refine am_go_blk 1 (?_ : am_gi (D + 6) 95 o (1, [(0, .ref 0), (1, .int a1)], [.int a1], ww w, 0, 0))
  refine am_cls rfl rfl rfl (am_calli rfl (M_Loc_isEither (D := D + 5) hqq1) (?_ : am_gi (D + 6) 95 o (4, [(0, .ref 0), (1, .int a1)], [.int q1.1], ww q1.2, 0, 0)))
  refine am_go_blk 1 ⟨fun hc => ?_, fun hc => ?_⟩
  · have H := am_it hc H
    show am_gi (D + 6) 95 o (22, [], [], ww q1.2, 0, 0)
    exact am_go_blk 1 (T_Loc_sawAll_24 (-nI 2) q1.2 H)
  · have H := am_ie hc H
    show am_gi (D + 6) 95 o (7, [(0, .ref 0), (1, .int a1)], [], ww q1.2, 0, 0)
    obtain ⟨q2, hqq2, H⟩ := am_bnE H
    refine am_go_blk 5 (?_ : am_gi (D + 6) 95 o (16, [(0, .ref 0), (1, .int a1)], [.int a1, .int (q1.2.1 1 4), .ref 0], ww q1.2, 0, 0))
    refine am_invd rfl rfl rfl rfl (am_calli rfl (M_Loc_cheapestSaws (D := D) hqq2) (?_ : am_gi (D + 6) 95 o (19, [(0, .ref 0), (1, .int a1)], [.int q2.1], ww q2.2, 0, 0)))
    exact am_go_blk 1 (T_Loc_sawAll_24 q2.1 q2.2 H)
theorem M_Loc_sawAll {D : Nat} {o : Int32 × am_W} {a1 : Int32} {w : am_W} (H : F_Loc_sawAll a1 w = some o) : am_run (D + 7) 95 [.ref 0, .int a1] (ww w) (some (.int o.1)) (ww o.2) 0 0 :=
  am_run_of rfl (T_Loc_sawAll a1 w H)
def F_Loc_keys_94 (r41 : Int32 → Int32 → Int32 → am_W → Option (Int32 × am_W)) (a1 : Int32) (a2 : Int32) (a3 : Int32) (w : am_W) : Option (Int32 × am_W) :=
  r41 a1 a2 (a3 + (nI 1)) w
def F_Loc_keys_41 (r41 : Int32 → Int32 → Int32 → am_W → Option (Int32 × am_W)) (a1 : Int32) (a2 : Int32) (a3 : Int32) (w : am_W) : Option (Int32 × am_W) :=
  if (w.1 1 2) ≤ a3 then (some (a2, w)) else ((F_Rail_isShut a3 w).bind fun q4 => if q4.1 = 0 then (F_Loc_keys_94 r41 a1 a2 a3 q4.2) else ((F_Rail_goneAtLast ((q4.2.1 1 3) ||| ((nI 1) <<< (a3 &&& 31))) q4.2).bind fun q5 => (F_Loc_has q5.1 a1 q5.2).bind fun q6 => if q6.1 = 0 then (F_Loc_keys_94 r41 a1 a2 a3 q6.2) else (F_Loc_keys_94 r41 a1 (a2 ||| ((nI 1) <<< (a3 &&& 31))) a3 q6.2)))
def L_Loc_keys_41 : Nat → Int32 → Int32 → Int32 → am_W → Option (Int32 × am_W)
  | 0, _, _, _, _ => none
  | n + 1, a1, a2, a3, w => F_Loc_keys_41 (L_Loc_keys_41 n) a1 a2 a3 w
def F_Loc_keys (a1 : Int32) (w : am_W) : Option (Int32 × am_W) :=
  (F_Rail_isThing a1 w).bind fun q1 => if q1.1 = 0 then (some ((-nI 5), q1.2)) else ((F_Rail_goneAtLast (q1.2.1 1 3) q1.2).bind fun q2 => (F_Loc_has q2.1 a1 q2.2).bind fun q3 => if q3.1 = 0 then (L_Loc_keys_41 am_NF a1 (nI 0) (nI 0) q3.2) else (some ((nI 0), q3.2)))
theorem T_Loc_keys_94 {D : Nat} {o : Int32 × am_W} {r41 : Int32 → Int32 → Int32 → am_W → Option (Int32 × am_W)} (Hr41 : ∀ (a1 : Int32) (a2 : Int32) (a3 : Int32) (w : am_W) , r41 a1 a2 a3 w = some o → am_gi (D + 3) 96 o (41, [(0, .ref 0), (1, .int a1), (2, .int a2), (3, .int a3)], [], ww w, 0, 0)) (a1 : Int32) (a2 : Int32) (a3 : Int32) (w : am_W) (H : F_Loc_keys_94 r41 a1 a2 a3 w = some o) : am_gi (D + 3) 96 o (94, [(0, .ref 0), (1, .int a1), (2, .int a2), (3, .int a3)], [], ww w, 0, 0) := by
  unfold F_Loc_keys_94 at H
  exact am_go_blk 2 (Hr41 a1 a2 (a3 + (nI 1)) w H)
theorem T_Loc_keys_41 {D : Nat} {o : Int32 × am_W} {r41 : Int32 → Int32 → Int32 → am_W → Option (Int32 × am_W)} (Hr41 : ∀ (a1 : Int32) (a2 : Int32) (a3 : Int32) (w : am_W) , r41 a1 a2 a3 w = some o → am_gi (D + 3) 96 o (41, [(0, .ref 0), (1, .int a1), (2, .int a2), (3, .int a3)], [], ww w, 0, 0)) (a1 : Int32) (a2 : Int32) (a3 : Int32) (w : am_W) (H : F_Loc_keys_41 r41 a1 a2 a3 w = some o) : am_gi (D + 3) 96 o (41, [(0, .ref 0), (1, .int a1), (2, .int a2), (3, .int a3)], [], ww w, 0, 0) := by
  unfold F_Loc_keys_41 at H
  refine am_go_blk 5 ⟨fun hc => ?_, fun hc => ?_⟩
  · have H := am_it hc H
    show am_gi (D + 3) 96 o (100, [(2, .int a2)], [], ww w, 0, 0)
    exact am_go_blk 2 ⟨rfl, am_fi H⟩
  · have H := am_ie hc H
    show am_gi (D + 3) 96 o (52, [(0, .ref 0), (1, .int a1), (2, .int a2), (3, .int a3)], [], ww w, 0, 0)
    obtain ⟨q4, hqq4, H⟩ := am_bnE H
    refine am_go_blk 3 (?_ : am_gi (D + 3) 96 o (57, [(0, .ref 0), (1, .int a1), (2, .int a2), (3, .int a3)], [.int a3, .ref 1], ww w, 0, 0))
    refine am_invd rfl rfl rfl rfl (am_calli rfl (M_Rail_isShut (D := D + 1) hqq4) (?_ : am_gi (D + 3) 96 o (60, [(0, .ref 0), (1, .int a1), (2, .int a2), (3, .int a3)], [.int q4.1], ww q4.2, 0, 0)))
    refine am_go_blk 1 ⟨fun hc => ?_, fun hc => ?_⟩
    · have H := am_it hc H
      exact T_Loc_keys_94 Hr41 a1 a2 a3 q4.2 H
    · have H := am_ie hc H
      show am_gi (D + 3) 96 o (63, [(0, .ref 0), (1, .int a1), (2, .int a2), (3, .int a3)], [], ww q4.2, 0, 0)
      obtain ⟨q5, hqq5, H⟩ := am_bnE H
      refine am_go_blk 9 (?_ : am_gi (D + 3) 96 o (78, [(0, .ref 0), (1, .int a1), (2, .int a2), (3, .int a3)], [.int ((q4.2.1 1 3) ||| ((nI 1) <<< (a3 &&& 31))), .ref 1], ww q4.2, 0, 0))
      refine am_invd rfl rfl rfl rfl (am_calli rfl (M_Rail_goneAtLast (D := D) hqq5) (?_ : am_gi (D + 3) 96 o (81, [(0, .ref 0), (1, .int a1), (2, .int a2), (3, .int a3)], [.int q5.1], ww q5.2, 0, 0)))
      obtain ⟨q6, hqq6, H⟩ := am_bnE H
      refine am_go_blk 1 (?_ : am_gi (D + 3) 96 o (82, [(0, .ref 0), (1, .int a1), (2, .int a2), (3, .int a3)], [.int a1, .int q5.1], ww q5.2, 0, 0))
      refine am_cls rfl rfl rfl (am_calli rfl (M_Loc_has (D := D + 2) hqq6) (?_ : am_gi (D + 3) 96 o (85, [(0, .ref 0), (1, .int a1), (2, .int a2), (3, .int a3)], [.int q6.1], ww q6.2, 0, 0)))
      refine am_go_blk 1 ⟨fun hc => ?_, fun hc => ?_⟩
      · have H := am_it hc H
        exact T_Loc_keys_94 Hr41 a1 a2 a3 q6.2 H
      · have H := am_ie hc H
        show am_gi (D + 3) 96 o (88, [(0, .ref 0), (1, .int a1), (2, .int a2), (3, .int a3)], [], ww q6.2, 0, 0)
        exact am_go_blk 6 (T_Loc_keys_94 Hr41 a1 (a2 ||| ((nI 1) <<< (a3 &&& 31))) a3 q6.2 H)
theorem TL_Loc_keys_41 {D : Nat} {o : Int32 × am_W} : ∀ (n : Nat) (a1 : Int32) (a2 : Int32) (a3 : Int32) (w : am_W) , L_Loc_keys_41 n a1 a2 a3 w = some o → am_gi (D + 3) 96 o (41, [(0, .ref 0), (1, .int a1), (2, .int a2), (3, .int a3)], [], ww w, 0, 0)
  | 0, _, _, _, _, H => by cases H
  | n + 1, a1, a2, a3, w, H => T_Loc_keys_41 (TL_Loc_keys_41 n) a1 a2 a3 w H
theorem T_Loc_keys {D : Nat} {o : Int32 × am_W} (a1 : Int32) (w : am_W) (H : F_Loc_keys a1 w = some o) : am_gi (D + 3) 96 o (0, [(0, .ref 0), (1, .int a1)], [], ww w, 0, 0) := by
  unfold F_Loc_keys at H
  obtain ⟨q1, hqq1, H⟩ := am_bnE H
  refine am_go_blk 3 (?_ : am_gi (D + 3) 96 o (5, [(0, .ref 0), (1, .int a1)], [.int a1, .ref 1], ww w, 0, 0))
  refine am_invd rfl rfl rfl rfl (am_calli rfl (M_Rail_isThing (D := D + 2) hqq1) (?_ : am_gi (D + 3) 96 o (8, [(0, .ref 0), (1, .int a1)], [.int q1.1], ww q1.2, 0, 0)))
  refine am_go_blk 1 ⟨fun hc => ?_, fun hc => ?_⟩
  · have H := am_ie hc H
    show am_gi (D + 3) 96 o (14, [(0, .ref 0), (1, .int a1)], [], ww q1.2, 0, 0)
    obtain ⟨q2, hqq2, H⟩ := am_bnE H
    refine am_go_blk 7 (?_ : am_gi (D + 3) 96 o (27, [(2, .int (nI 0)), (0, .ref 0), (1, .int a1)], [.int (q1.2.1 1 3), .ref 1], ww q1.2, 0, 0))
    refine am_invd rfl rfl rfl rfl (am_calli rfl (M_Rail_goneAtLast (D := D) hqq2) (?_ : am_gi (D + 3) 96 o (30, [(2, .int (nI 0)), (0, .ref 0), (1, .int a1)], [.int q2.1], ww q2.2, 0, 0)))
    obtain ⟨q3, hqq3, H⟩ := am_bnE H
    refine am_go_blk 1 (?_ : am_gi (D + 3) 96 o (31, [(2, .int (nI 0)), (0, .ref 0), (1, .int a1)], [.int a1, .int q2.1], ww q2.2, 0, 0))
    refine am_cls rfl rfl rfl (am_calli rfl (M_Loc_has (D := D + 2) hqq3) (?_ : am_gi (D + 3) 96 o (34, [(2, .int (nI 0)), (0, .ref 0), (1, .int a1)], [.int q3.1], ww q3.2, 0, 0)))
    refine am_go_blk 1 ⟨fun hc => ?_, fun hc => ?_⟩
    · have H := am_it hc H
      show am_gi (D + 3) 96 o (39, [(0, .ref 0), (1, .int a1), (2, .int (nI 0))], [], ww q3.2, 0, 0)
      exact am_go_blk 2 (TL_Loc_keys_41 am_NF a1 (nI 0) (nI 0) q3.2 H)
    · have H := am_ie hc H
      show am_gi (D + 3) 96 o (37, [(2, .int (nI 0)), (0, .ref 0), (1, .int a1)], [], ww q3.2, 0, 0)
      exact am_go_blk 2 ⟨rfl, am_fi H⟩
  · have H := am_it hc H
    show am_gi (D + 3) 96 o (11, [(0, .ref 0), (1, .int a1)], [], ww q1.2, 0, 0)
    exact am_go_blk 2 ⟨rfl, am_fi H⟩
theorem M_Loc_keys {D : Nat} {o : Int32 × am_W} {a1 : Int32} {w : am_W} (H : F_Loc_keys a1 w = some o) : am_run (D + 4) 96 [.ref 0, .int a1] (ww w) (some (.int o.1)) (ww o.2) 0 0 :=
  am_run_of rfl (T_Loc_keys a1 w H)
def F_Loc_note_171 (s0 : Int32) (w : am_W) : Option (Int32 × am_W) :=
  some (s0, w)
def F_Loc_note_155 (r68 : Int32 → Int32 → Int32 → Int32 → Int32 → am_W → Option (Int32 × am_W)) (a1 : Int32) (a2 : Int32) (a3 : Int32) (a4 : Int32) (a5 : Int32) (w : am_W) : Option (Int32 × am_W) :=
  r68 a1 a2 a3 a4 (a5 + (nI 1)) w
def F_Loc_note_148 (r68 : Int32 → Int32 → Int32 → Int32 → Int32 → am_W → Option (Int32 × am_W)) (a1 : Int32) (a2 : Int32) (a5 : Int32) (a6 : Int32) (w : am_W) : Option (Int32 × am_W) :=
  F_Loc_note_155 r68 a1 a2 a6 a5 a5 w
def F_Loc_note_68 (r68 : Int32 → Int32 → Int32 → Int32 → Int32 → am_W → Option (Int32 × am_W)) (a1 : Int32) (a2 : Int32) (a3 : Int32) (a4 : Int32) (a5 : Int32) (w : am_W) : Option (Int32 × am_W) :=
  if (w.1 1 0) ≤ a5 then (if a2 = 0 then (F_Loc_note_171 a4 w) else (F_Loc_note_171 a3 w)) else (am_ck (am_cpk (nI 0) (nI 0) (w.1 1 0) 8 8) (am_lt (wcp w 4 43 (nI 0) (nI 0) (w.1 1 0)) fun w5 => am_ck (am_in a5 8) (am_lt (wst w5 43 a5 (nI 0)) fun w6 => (F_Day_run 43 w6).bind fun w7 => am_ck (am_in a1 8) (if (w7.1 41 a1.toNatClampNeg) < 0 then (F_Loc_note_155 r68 a1 a2 a3 a4 a5 w7) else (if a3 < 0 then (F_Loc_note_148 r68 a1 a2 a5 (w7.1 41 a1.toNatClampNeg) w7) else (if a3 ≤ (w7.1 41 a1.toNatClampNeg) then (F_Loc_note_155 r68 a1 a2 a3 a4 a5 w7) else (F_Loc_note_148 r68 a1 a2 a5 (w7.1 41 a1.toNatClampNeg) w7)))))))
def L_Loc_note_68 : Nat → Int32 → Int32 → Int32 → Int32 → Int32 → am_W → Option (Int32 × am_W)
  | 0, _, _, _, _, _, _ => none
  | n + 1, a1, a2, a3, a4, a5, w => F_Loc_note_68 (L_Loc_note_68 n) a1 a2 a3 a4 a5 w
def F_Loc_note (a1 : Int32) (a2 : Int32) (w : am_W) : Option (Int32 × am_W) :=
  (F_Rail_isThing a1 w).bind fun q1 => if q1.1 = 0 then (some ((-nI 5), q1.2)) else ((F_Loc_isEither a2 q1.2).bind fun q2 => if q2.1 = 0 then (some ((-nI 7), q2.2)) else ((F_Rail_isGone a1 q2.2).bind fun q3 => if q3.1 = 0 then ((F_Day_run 4 q3.2).bind fun w4 => am_ck (am_in a1 8) (L_Loc_note_68 am_NF a1 a2 (w4.1 41 a1.toNatClampNeg) (-nI 1) (nI 0) w4)) else (some ((-nI 3), q3.2))))
theorem T_Loc_note_171 {D : Nat} {o : Int32 × am_W} (s0 : Int32) (w : am_W) (H : F_Loc_note_171 s0 w = some o) : am_gi (D + 3) 97 o (171, [], [.int s0], ww w, 0, 0) := by
  unfold F_Loc_note_171 at H
  exact am_go_blk 1 ⟨rfl, am_fi H⟩
theorem T_Loc_note_155 {D : Nat} {o : Int32 × am_W} {r68 : Int32 → Int32 → Int32 → Int32 → Int32 → am_W → Option (Int32 × am_W)} (Hr68 : ∀ (a1 : Int32) (a2 : Int32) (a3 : Int32) (a4 : Int32) (a5 : Int32) (w : am_W) , r68 a1 a2 a3 a4 a5 w = some o → am_gi (D + 3) 97 o (68, [(0, .ref 0), (1, .int a1), (2, .int a2), (3, .int a3), (4, .int a4), (5, .int a5)], [], ww w, 0, 0)) (a1 : Int32) (a2 : Int32) (a3 : Int32) (a4 : Int32) (a5 : Int32) (w : am_W) (H : F_Loc_note_155 r68 a1 a2 a3 a4 a5 w = some o) : am_gi (D + 3) 97 o (155, [(0, .ref 0), (1, .int a1), (2, .int a2), (3, .int a3), (4, .int a4), (5, .int a5)], [], ww w, 0, 0) := by
  unfold F_Loc_note_155 at H
  exact am_go_blk 2 (Hr68 a1 a2 a3 a4 (a5 + (nI 1)) w H)
theorem T_Loc_note_148 {D : Nat} {o : Int32 × am_W} {r68 : Int32 → Int32 → Int32 → Int32 → Int32 → am_W → Option (Int32 × am_W)} (Hr68 : ∀ (a1 : Int32) (a2 : Int32) (a3 : Int32) (a4 : Int32) (a5 : Int32) (w : am_W) , r68 a1 a2 a3 a4 a5 w = some o → am_gi (D + 3) 97 o (68, [(0, .ref 0), (1, .int a1), (2, .int a2), (3, .int a3), (4, .int a4), (5, .int a5)], [], ww w, 0, 0)) (a1 : Int32) (a2 : Int32) (a5 : Int32) (a6 : Int32) (w : am_W) (H : F_Loc_note_148 r68 a1 a2 a5 a6 w = some o) : am_gi (D + 3) 97 o (148, [(0, .ref 0), (1, .int a1), (2, .int a2), (5, .int a5), (6, .int a6)], [], ww w, 0, 0) := by
  unfold F_Loc_note_148 at H
  exact am_go_blk 4 (T_Loc_note_155 Hr68 a1 a2 a6 a5 a5 w H)
theorem T_Loc_note_68 {D : Nat} {o : Int32 × am_W} {r68 : Int32 → Int32 → Int32 → Int32 → Int32 → am_W → Option (Int32 × am_W)} (Hr68 : ∀ (a1 : Int32) (a2 : Int32) (a3 : Int32) (a4 : Int32) (a5 : Int32) (w : am_W) , r68 a1 a2 a3 a4 a5 w = some o → am_gi (D + 3) 97 o (68, [(0, .ref 0), (1, .int a1), (2, .int a2), (3, .int a3), (4, .int a4), (5, .int a5)], [], ww w, 0, 0)) (a1 : Int32) (a2 : Int32) (a3 : Int32) (a4 : Int32) (a5 : Int32) (w : am_W) (H : F_Loc_note_68 r68 a1 a2 a3 a4 a5 w = some o) : am_gi (D + 3) 97 o (68, [(0, .ref 0), (1, .int a1), (2, .int a2), (3, .int a3), (4, .int a4), (5, .int a5)], [], ww w, 0, 0) := by
  unfold F_Loc_note_68 at H
  refine am_go_blk 5 ⟨fun hc => ?_, fun hc => ?_⟩
  · have H := am_it hc H
    show am_gi (D + 3) 97 o (161, [(2, .int a2), (3, .int a3), (4, .int a4)], [], ww w, 0, 0)
    refine am_go_blk 2 ⟨fun hc => ?_, fun hc => ?_⟩
    · have H := am_ie hc H
      show am_gi (D + 3) 97 o (170, [(3, .int a3)], [], ww w, 0, 0)
      exact am_go_blk 1 (T_Loc_note_171 a3 w H)
    · have H := am_it hc H
      show am_gi (D + 3) 97 o (165, [(2, .int a2), (3, .int a3), (4, .int a4)], [], ww w, 0, 0)
      exact am_go_blk 2 (T_Loc_note_171 a4 w H)
  · have H := am_ie hc H
    show am_gi (D + 3) 97 o (80, [(0, .ref 0), (1, .int a1), (2, .int a2), (3, .int a3), (4, .int a4), (5, .int a5)], [], ww w, 0, 0)
    obtain ⟨hc, H⟩ := am_ckE H
    obtain ⟨w5, ew5, H⟩ := am_ltE H
    refine am_go_blk 11 (am_cpv hc (am_hp (ww_c43 ew5) (?_ : am_gi (D + 3) 97 o (103, [(0, .ref 0), (1, .int a1), (2, .int a2), (3, .int a3), (4, .int a4), (5, .int a5)], [], ww w5, 0, 0))))
    obtain ⟨hc, H⟩ := am_ckE H
    obtain ⟨w6, ew6, H⟩ := am_ltE H
    refine am_go_blk 5 ⟨am_inv hc, am_hp (ww_s43 ew6) (?_ : am_gi (D + 3) 97 o (111, [(0, .ref 0), (1, .int a1), (2, .int a2), (3, .int a3), (4, .int a4), (5, .int a5)], [], ww w6, 0, 0))⟩
    obtain ⟨w7, hqw7, H⟩ := am_bnE H
    refine am_go_blk 4 (?_ : am_gi (D + 3) 97 o (119, [(0, .ref 0), (1, .int a1), (2, .int a2), (3, .int a3), (4, .int a4), (5, .int a5)], [.ref 43, .ref 40], ww w6, 0, 0))
    refine am_invd rfl rfl rfl rfl (am_callv rfl (M_Day_run (D := D) (Or.inr rfl) hqw7) (?_ : am_gi (D + 3) 97 o (122, [(0, .ref 0), (1, .int a1), (2, .int a2), (3, .int a3), (4, .int a4), (5, .int a5)], [], ww w7, 0, 0)))
    obtain ⟨hc, H⟩ := am_ckE H
    refine am_go_blk 5 ⟨am_inv hc, (?_ : am_gi (D + 3) 97 o (131, [(0, .ref 0), (1, .int a1), (2, .int a2), (3, .int a3), (4, .int a4), (5, .int a5)], [.int (w7.1 41 a1.toNatClampNeg)], ww w7, 0, 0))⟩
    refine am_go_blk 3 ⟨fun hc => ?_, fun hc => ?_⟩
    · have H := am_it hc H
      exact T_Loc_note_155 Hr68 a1 a2 a3 a4 a5 w7 H
    · have H := am_ie hc H
      show am_gi (D + 3) 97 o (138, [(6, .int (w7.1 41 a1.toNatClampNeg)), (0, .ref 0), (1, .int a1), (2, .int a2), (3, .int a3), (4, .int a4), (5, .int a5)], [], ww w7, 0, 0)
      refine am_go_blk 2 ⟨fun hc => ?_, fun hc => ?_⟩
      · have H := am_it hc H
        exact T_Loc_note_148 Hr68 a1 a2 a5 (w7.1 41 a1.toNatClampNeg) w7 H
      · have H := am_ie hc H
        show am_gi (D + 3) 97 o (142, [(6, .int (w7.1 41 a1.toNatClampNeg)), (0, .ref 0), (1, .int a1), (2, .int a2), (3, .int a3), (4, .int a4), (5, .int a5)], [], ww w7, 0, 0)
        refine am_go_blk 3 ⟨fun hc => ?_, fun hc => ?_⟩
        · have H := am_it hc H
          exact T_Loc_note_155 Hr68 a1 a2 a3 a4 a5 w7 H
        · have H := am_ie hc H
          exact T_Loc_note_148 Hr68 a1 a2 a5 (w7.1 41 a1.toNatClampNeg) w7 H
theorem TL_Loc_note_68 {D : Nat} {o : Int32 × am_W} : ∀ (n : Nat) (a1 : Int32) (a2 : Int32) (a3 : Int32) (a4 : Int32) (a5 : Int32) (w : am_W) , L_Loc_note_68 n a1 a2 a3 a4 a5 w = some o → am_gi (D + 3) 97 o (68, [(0, .ref 0), (1, .int a1), (2, .int a2), (3, .int a3), (4, .int a4), (5, .int a5)], [], ww w, 0, 0)
  | 0, _, _, _, _, _, _, H => by cases H
  | n + 1, a1, a2, a3, a4, a5, w, H => T_Loc_note_68 (TL_Loc_note_68 n) a1 a2 a3 a4 a5 w H
theorem T_Loc_note {D : Nat} {o : Int32 × am_W} (a1 : Int32) (a2 : Int32) (w : am_W) (H : F_Loc_note a1 a2 w = some o) : am_gi (D + 3) 97 o (0, [(0, .ref 0), (1, .int a1), (2, .int a2)], [], ww w, 0, 0) := by
  unfold F_Loc_note at H
  obtain ⟨q1, hqq1, H⟩ := am_bnE H
  refine am_go_blk 3 (?_ : am_gi (D + 3) 97 o (5, [(0, .ref 0), (1, .int a1), (2, .int a2)], [.int a1, .ref 1], ww w, 0, 0))
  refine am_invd rfl rfl rfl rfl (am_calli rfl (M_Rail_isThing (D := D + 2) hqq1) (?_ : am_gi (D + 3) 97 o (8, [(0, .ref 0), (1, .int a1), (2, .int a2)], [.int q1.1], ww q1.2, 0, 0)))
  refine am_go_blk 1 ⟨fun hc => ?_, fun hc => ?_⟩
  · have H := am_ie hc H
    show am_gi (D + 3) 97 o (14, [(0, .ref 0), (1, .int a1), (2, .int a2)], [], ww q1.2, 0, 0)
    obtain ⟨q2, hqq2, H⟩ := am_bnE H
    refine am_go_blk 1 (?_ : am_gi (D + 3) 97 o (15, [(0, .ref 0), (1, .int a1), (2, .int a2)], [.int a2], ww q1.2, 0, 0))
    refine am_cls rfl rfl rfl (am_calli rfl (M_Loc_isEither (D := D + 2) hqq2) (?_ : am_gi (D + 3) 97 o (18, [(0, .ref 0), (1, .int a1), (2, .int a2)], [.int q2.1], ww q2.2, 0, 0)))
    refine am_go_blk 1 ⟨fun hc => ?_, fun hc => ?_⟩
    · have H := am_ie hc H
      show am_gi (D + 3) 97 o (24, [(0, .ref 0), (1, .int a1), (2, .int a2)], [], ww q2.2, 0, 0)
      obtain ⟨q3, hqq3, H⟩ := am_bnE H
      refine am_go_blk 3 (?_ : am_gi (D + 3) 97 o (29, [(0, .ref 0), (1, .int a1), (2, .int a2)], [.int a1, .ref 1], ww q2.2, 0, 0))
      refine am_invd rfl rfl rfl rfl (am_calli rfl (M_Rail_isGone (D := D + 1) hqq3) (?_ : am_gi (D + 3) 97 o (32, [(0, .ref 0), (1, .int a1), (2, .int a2)], [.int q3.1], ww q3.2, 0, 0)))
      refine am_go_blk 1 ⟨fun hc => ?_, fun hc => ?_⟩
      · have H := am_it hc H
        show am_gi (D + 3) 97 o (38, [(0, .ref 0), (1, .int a1), (2, .int a2)], [], ww q3.2, 0, 0)
        obtain ⟨w4, hqw4, H⟩ := am_bnE H
        refine am_go_blk 5 (?_ : am_gi (D + 3) 97 o (49, [(0, .ref 0), (1, .int a1), (2, .int a2)], [.ref 4, .ref 40], ww q3.2, 0, 0))
        refine am_invd rfl rfl rfl rfl (am_callv rfl (M_Day_run (D := D) (Or.inl rfl) hqw4) (?_ : am_gi (D + 3) 97 o (52, [(0, .ref 0), (1, .int a1), (2, .int a2)], [], ww w4, 0, 0)))
        obtain ⟨hc, H⟩ := am_ckE H
        refine am_go_blk 5 ⟨am_inv hc, (?_ : am_gi (D + 3) 97 o (61, [(0, .ref 0), (1, .int a1), (2, .int a2)], [.int (w4.1 41 a1.toNatClampNeg)], ww w4, 0, 0))⟩
        exact am_go_blk 5 (TL_Loc_note_68 am_NF a1 a2 (w4.1 41 a1.toNatClampNeg) (-nI 1) (nI 0) w4 H)
      · have H := am_ie hc H
        show am_gi (D + 3) 97 o (35, [(0, .ref 0), (1, .int a1), (2, .int a2)], [], ww q3.2, 0, 0)
        exact am_go_blk 2 ⟨rfl, am_fi H⟩
    · have H := am_it hc H
      show am_gi (D + 3) 97 o (21, [(0, .ref 0), (1, .int a1), (2, .int a2)], [], ww q2.2, 0, 0)
      exact am_go_blk 2 ⟨rfl, am_fi H⟩
  · have H := am_it hc H
    show am_gi (D + 3) 97 o (11, [(0, .ref 0), (1, .int a1), (2, .int a2)], [], ww q1.2, 0, 0)
    exact am_go_blk 2 ⟨rfl, am_fi H⟩
theorem M_Loc_note {D : Nat} {o : Int32 × am_W} {a1 : Int32} {a2 : Int32} {w : am_W} (H : F_Loc_note a1 a2 w = some o) : am_run (D + 4) 97 [.ref 0, .int a1, .int a2] (ww w) (some (.int o.1)) (ww o.2) 0 0 :=
  am_run_of rfl (T_Loc_note a1 a2 w H)
def F_Kinds_offBy_52 (a2 : Int32) (w : am_W) : Option (Int32 × am_W) :=
  some (a2, w)
def F_Kinds_offBy_49 (s0 : Int32) (w : am_W) : Option (Int32 × am_W) :=
  some (s0, w)
def F_Kinds_offBy (a0 : Int32) (a1 : Int32) (a2 : Int32) (w : am_W) : Option (Int32 × am_W) :=
  if a0.toInt = 1 then (some (((nI 2) * a2), w)) else if a0.toInt = 2 then (F_Kinds_offBy_52 a2 w) else if a0.toInt = 3 then (if a2 = 0 then (F_Kinds_offBy_49 (nI 0) w) else (F_Kinds_offBy_49 (((nI 2) * a2) + a1) w)) else if a0.toInt = 4 then (some ((nI 1), w)) else (F_Kinds_offBy_52 a2 w)
theorem T_Kinds_offBy_52 {D : Nat} {o : Int32 × am_W} (a2 : Int32) (w : am_W) (H : F_Kinds_offBy_52 a2 w = some o) : am_gi D 6 o (52, [(2, .int a2)], [], ww w, 0, 0) := by
  unfold F_Kinds_offBy_52 at H
  exact am_go_blk 2 ⟨rfl, am_fi H⟩
theorem T_Kinds_offBy_49 {D : Nat} {o : Int32 × am_W} (s0 : Int32) (w : am_W) (H : F_Kinds_offBy_49 s0 w = some o) : am_gi D 6 o (49, [], [.int s0], ww w, 0, 0) := by
  unfold F_Kinds_offBy_49 at H
  exact am_go_blk 1 ⟨rfl, am_fi H⟩
theorem T_Kinds_offBy {D : Nat} {o : Int32 × am_W} (a0 : Int32) (a1 : Int32) (a2 : Int32) (w : am_W) (H : F_Kinds_offBy a0 a1 a2 w = some o) : am_gi D 6 o (0, [(0, .int a0), (1, .int a1), (2, .int a2)], [], ww w, 0, 0) := by
  unfold F_Kinds_offBy at H
  refine am_go_blk 2 ⟨fun hc => ?_, fun hc => ?_⟩
  · have H := am_it hc H
    show am_gi D 6 o (32, [(2, .int a2)], [], ww w, 0, 0)
    exact am_go_blk 4 ⟨rfl, am_fi H⟩
  have H := am_ie hc H
  refine ⟨fun hc => ?_, fun hc => ?_⟩
  · have H := am_it hc H
    exact T_Kinds_offBy_52 a2 w H
  have H := am_ie hc H
  refine ⟨fun hc => ?_, fun hc => ?_⟩
  · have H := am_it hc H
    show am_gi D 6 o (36, [(1, .int a1), (2, .int a2)], [], ww w, 0, 0)
    refine am_go_blk 2 ⟨fun hc => ?_, fun hc => ?_⟩
    · have H := am_ie hc H
      show am_gi D 6 o (44, [(1, .int a1), (2, .int a2)], [], ww w, 0, 0)
      exact am_go_blk 5 (T_Kinds_offBy_49 (((nI 2) * a2) + a1) w H)
    · have H := am_it hc H
      show am_gi D 6 o (40, [(1, .int a1), (2, .int a2)], [], ww w, 0, 0)
      exact am_go_blk 2 (T_Kinds_offBy_49 (nI 0) w H)
  have H := am_ie hc H
  refine ⟨fun hc => ?_, fun hc => ?_⟩
  · have H := am_it hc H
    show am_gi D 6 o (50, [], [], ww w, 0, 0)
    exact am_go_blk 2 ⟨rfl, am_fi H⟩
  have H := am_ie hc H
  exact T_Kinds_offBy_52 a2 w H
theorem M_Kinds_offBy {D : Nat} {o : Int32 × am_W} {a0 : Int32} {a1 : Int32} {a2 : Int32} {w : am_W} (H : F_Kinds_offBy a0 a1 a2 w = some o) : am_run (D + 1) 6 [.int a0, .int a1, .int a2] (ww w) (some (.int o.1)) (ww o.2) 0 0 :=
  am_run_of rfl (T_Kinds_offBy a0 a1 a2 w H)
def F_Law_prising (a1 : Int32) (a2 : Int32) (w : am_W) : Option (Int32 × am_W) :=
  am_ck (am_in a1 8) (am_ck (am_in a1 8) ((F_Law_says (w.1 17 2) (nI 0) a1 a2 (nI 0) w).bind fun q1 => (F_Kinds_offBy (w.1 2 a1.toNatClampNeg) (w.1 3 a1.toNatClampNeg) q1.1 q1.2).bind fun q2 => some (q2.1, q2.2)))
theorem T_Law_prising {D : Nat} {o : Int32 × am_W} (a1 : Int32) (a2 : Int32) (w : am_W) (H : F_Law_prising a1 a2 w = some o) : am_gi (D + 4) 14 o (0, [(0, .ref 17), (1, .int a1), (2, .int a2)], [], ww w, 0, 0) := by
  unfold F_Law_prising at H
  obtain ⟨hc, H⟩ := am_ckE H
  refine am_go_blk 5 ⟨am_inv hc, (?_ : am_gi (D + 4) 14 o (9, [(0, .ref 17), (1, .int a1), (2, .int a2)], [.int (w.1 2 a1.toNatClampNeg)], ww w, 0, 0))⟩
  obtain ⟨hc, H⟩ := am_ckE H
  refine am_go_blk 5 ⟨am_inv hc, (?_ : am_gi (D + 4) 14 o (18, [(0, .ref 17), (1, .int a1), (2, .int a2)], [.int (w.1 3 a1.toNatClampNeg), .int (w.1 2 a1.toNatClampNeg)], ww w, 0, 0))⟩
  obtain ⟨q1, hqq1, H⟩ := am_bnE H
  refine am_go_blk 7 (?_ : am_gi (D + 4) 14 o (27, [(0, .ref 17), (1, .int a1), (2, .int a2)], [.int (nI 0), .int a2, .int a1, .int (nI 0), .int (w.1 17 2), .ref 17, .int (w.1 3 a1.toNatClampNeg), .int (w.1 2 a1.toNatClampNeg)], ww w, 0, 0))
  refine am_invd rfl rfl rfl rfl (am_calli rfl (M_Law_says (D := D) hqq1) (?_ : am_gi (D + 4) 14 o (30, [(0, .ref 17), (1, .int a1), (2, .int a2)], [.int q1.1, .int (w.1 3 a1.toNatClampNeg), .int (w.1 2 a1.toNatClampNeg)], ww q1.2, 0, 0)))
  obtain ⟨q2, hqq2, H⟩ := am_bnE H
  refine am_cls rfl rfl rfl (am_calli rfl (M_Kinds_offBy (D := D + 3) hqq2) (?_ : am_gi (D + 4) 14 o (33, [(0, .ref 17), (1, .int a1), (2, .int a2)], [.int q2.1], ww q2.2, 0, 0)))
  exact am_go_blk 1 ⟨rfl, am_fi H⟩
theorem M_Law_prising {D : Nat} {o : Int32 × am_W} {a1 : Int32} {a2 : Int32} {w : am_W} (H : F_Law_prising a1 a2 w = some o) : am_run (D + 5) 14 [.ref 17, .int a1, .int a2] (ww w) (some (.int o.1)) (ww o.2) 0 0 :=
  am_run_of rfl (T_Law_prising a1 a2 w H)
def F_Loc_out_73 (r28 : Int32 → Int32 → Int32 → Int32 → am_W → Option (Int32 × am_W)) (a1 : Int32) (a2 : Int32) (a3 : Int32) (a4 : Int32) (w : am_W) : Option (Int32 × am_W) :=
  r28 a1 a2 a3 (a4 + (nI 1)) w
def F_Loc_out_28 (r28 : Int32 → Int32 → Int32 → Int32 → am_W → Option (Int32 × am_W)) (a1 : Int32) (a2 : Int32) (a3 : Int32) (a4 : Int32) (w : am_W) : Option (Int32 × am_W) :=
  if (w.1 1 2) ≤ a4 then (some (a3, w)) else ((F_Loc_has a2 a4 w).bind fun q3 => if q3.1 = 0 then (F_Loc_out_73 r28 a1 a2 a3 a4 q3.2) else ((F_Law_prising a1 a4 q3.2).bind fun q4 => if q4.1 = 0 then (some ((-nI 1), q4.2)) else (F_Loc_out_73 r28 a1 a2 (a3 + q4.1) a4 q4.2)))
def L_Loc_out_28 : Nat → Int32 → Int32 → Int32 → Int32 → am_W → Option (Int32 × am_W)
  | 0, _, _, _, _, _ => none
  | n + 1, a1, a2, a3, a4, w => F_Loc_out_28 (L_Loc_out_28 n) a1 a2 a3 a4 w
def F_Loc_out (a1 : Int32) (w : am_W) : Option (Int32 × am_W) :=
  (F_Rail_isThing a1 w).bind fun q1 => if q1.1 = 0 then (some ((-nI 5), q1.2)) else ((F_Rail_holders a1 q1.2).bind fun q2 => L_Loc_out_28 am_NF a1 q2.1 (nI 0) (nI 0) q2.2)
theorem T_Loc_out_73 {D : Nat} {o : Int32 × am_W} {r28 : Int32 → Int32 → Int32 → Int32 → am_W → Option (Int32 × am_W)} (Hr28 : ∀ (a1 : Int32) (a2 : Int32) (a3 : Int32) (a4 : Int32) (w : am_W) , r28 a1 a2 a3 a4 w = some o → am_gi (D + 5) 98 o (28, [(0, .ref 0), (1, .int a1), (2, .int a2), (3, .int a3), (4, .int a4)], [], ww w, 0, 0)) (a1 : Int32) (a2 : Int32) (a3 : Int32) (a4 : Int32) (w : am_W) (H : F_Loc_out_73 r28 a1 a2 a3 a4 w = some o) : am_gi (D + 5) 98 o (73, [(0, .ref 0), (1, .int a1), (2, .int a2), (3, .int a3), (4, .int a4)], [], ww w, 0, 0) := by
  unfold F_Loc_out_73 at H
  exact am_go_blk 2 (Hr28 a1 a2 a3 (a4 + (nI 1)) w H)
theorem T_Loc_out_28 {D : Nat} {o : Int32 × am_W} {r28 : Int32 → Int32 → Int32 → Int32 → am_W → Option (Int32 × am_W)} (Hr28 : ∀ (a1 : Int32) (a2 : Int32) (a3 : Int32) (a4 : Int32) (w : am_W) , r28 a1 a2 a3 a4 w = some o → am_gi (D + 5) 98 o (28, [(0, .ref 0), (1, .int a1), (2, .int a2), (3, .int a3), (4, .int a4)], [], ww w, 0, 0)) (a1 : Int32) (a2 : Int32) (a3 : Int32) (a4 : Int32) (w : am_W) (H : F_Loc_out_28 r28 a1 a2 a3 a4 w = some o) : am_gi (D + 5) 98 o (28, [(0, .ref 0), (1, .int a1), (2, .int a2), (3, .int a3), (4, .int a4)], [], ww w, 0, 0) := by
  unfold F_Loc_out_28 at H
  refine am_go_blk 5 ⟨fun hc => ?_, fun hc => ?_⟩
  · have H := am_it hc H
    show am_gi (D + 5) 98 o (79, [(3, .int a3)], [], ww w, 0, 0)
    exact am_go_blk 2 ⟨rfl, am_fi H⟩
  · have H := am_ie hc H
    show am_gi (D + 5) 98 o (40, [(0, .ref 0), (1, .int a1), (2, .int a2), (3, .int a3), (4, .int a4)], [], ww w, 0, 0)
    obtain ⟨q3, hqq3, H⟩ := am_bnE H
    refine am_go_blk 2 (?_ : am_gi (D + 5) 98 o (43, [(0, .ref 0), (1, .int a1), (2, .int a2), (3, .int a3), (4, .int a4)], [.int a4, .int a2], ww w, 0, 0))
    refine am_cls rfl rfl rfl (am_calli rfl (M_Loc_has (D := D + 4) hqq3) (?_ : am_gi (D + 5) 98 o (46, [(0, .ref 0), (1, .int a1), (2, .int a2), (3, .int a3), (4, .int a4)], [.int q3.1], ww q3.2, 0, 0)))
    refine am_go_blk 1 ⟨fun hc => ?_, fun hc => ?_⟩
    · have H := am_it hc H
      exact T_Loc_out_73 Hr28 a1 a2 a3 a4 q3.2 H
    · have H := am_ie hc H
      show am_gi (D + 5) 98 o (49, [(0, .ref 0), (1, .int a1), (2, .int a2), (3, .int a3), (4, .int a4)], [], ww q3.2, 0, 0)
      obtain ⟨q4, hqq4, H⟩ := am_bnE H
      refine am_go_blk 4 (?_ : am_gi (D + 5) 98 o (56, [(0, .ref 0), (1, .int a1), (2, .int a2), (3, .int a3), (4, .int a4)], [.int a4, .int a1, .ref 17], ww q3.2, 0, 0))
      refine am_invd rfl rfl rfl rfl (am_calli rfl (M_Law_prising (D := D) hqq4) (?_ : am_gi (D + 5) 98 o (59, [(0, .ref 0), (1, .int a1), (2, .int a2), (3, .int a3), (4, .int a4)], [.int q4.1], ww q4.2, 0, 0)))
      refine am_go_blk 3 ⟨fun hc => ?_, fun hc => ?_⟩
      · have H := am_ie hc H
        show am_gi (D + 5) 98 o (68, [(0, .ref 0), (1, .int a1), (2, .int a2), (3, .int a3), (4, .int a4), (5, .int q4.1)], [], ww q4.2, 0, 0)
        exact am_go_blk 4 (T_Loc_out_73 Hr28 a1 a2 (a3 + q4.1) a4 q4.2 H)
      · have H := am_it hc H
        show am_gi (D + 5) 98 o (66, [(5, .int q4.1), (0, .ref 0), (1, .int a1), (2, .int a2), (3, .int a3), (4, .int a4)], [], ww q4.2, 0, 0)
        exact am_go_blk 2 ⟨rfl, am_fi H⟩
theorem TL_Loc_out_28 {D : Nat} {o : Int32 × am_W} : ∀ (n : Nat) (a1 : Int32) (a2 : Int32) (a3 : Int32) (a4 : Int32) (w : am_W) , L_Loc_out_28 n a1 a2 a3 a4 w = some o → am_gi (D + 5) 98 o (28, [(0, .ref 0), (1, .int a1), (2, .int a2), (3, .int a3), (4, .int a4)], [], ww w, 0, 0)
  | 0, _, _, _, _, _, H => by cases H
  | n + 1, a1, a2, a3, a4, w, H => T_Loc_out_28 (TL_Loc_out_28 n) a1 a2 a3 a4 w H
theorem T_Loc_out {D : Nat} {o : Int32 × am_W} (a1 : Int32) (w : am_W) (H : F_Loc_out a1 w = some o) : am_gi (D + 5) 98 o (0, [(0, .ref 0), (1, .int a1)], [], ww w, 0, 0) := by
  unfold F_Loc_out at H
  obtain ⟨q1, hqq1, H⟩ := am_bnE H
  refine am_go_blk 3 (?_ : am_gi (D + 5) 98 o (5, [(0, .ref 0), (1, .int a1)], [.int a1, .ref 1], ww w, 0, 0))
  refine am_invd rfl rfl rfl rfl (am_calli rfl (M_Rail_isThing (D := D + 4) hqq1) (?_ : am_gi (D + 5) 98 o (8, [(0, .ref 0), (1, .int a1)], [.int q1.1], ww q1.2, 0, 0)))
  refine am_go_blk 1 ⟨fun hc => ?_, fun hc => ?_⟩
  · have H := am_ie hc H
    show am_gi (D + 5) 98 o (14, [(0, .ref 0), (1, .int a1)], [], ww q1.2, 0, 0)
    obtain ⟨q2, hqq2, H⟩ := am_bnE H
    refine am_go_blk 3 (?_ : am_gi (D + 5) 98 o (19, [(0, .ref 0), (1, .int a1)], [.int a1, .ref 1], ww q1.2, 0, 0))
    refine am_invd rfl rfl rfl rfl (am_calli rfl (M_Rail_holders (D := D + 1) hqq2) (?_ : am_gi (D + 5) 98 o (22, [(0, .ref 0), (1, .int a1)], [.int q2.1], ww q2.2, 0, 0)))
    exact am_go_blk 5 (TL_Loc_out_28 am_NF a1 q2.1 (nI 0) (nI 0) q2.2 H)
  · have H := am_it hc H
    show am_gi (D + 5) 98 o (11, [(0, .ref 0), (1, .int a1)], [], ww q1.2, 0, 0)
    exact am_go_blk 2 ⟨rfl, am_fi H⟩
theorem M_Loc_out {D : Nat} {o : Int32 × am_W} {a1 : Int32} {w : am_W} (H : F_Loc_out a1 w = some o) : am_run (D + 6) 98 [.ref 0, .int a1] (ww w) (some (.int o.1)) (ww o.2) 0 0 :=
  am_run_of rfl (T_Loc_out a1 w H)
def F_Rail_fixers_29 (r4 : Int32 → Int32 → Int32 → am_W → Option (Int32 × am_W)) (a1 : Int32) (a3 : Int32) (s0 : Int32) (s1 : Int32) (w : am_W) : Option (Int32 × am_W) :=
  r4 a1 (s1 ||| s0) (a3 + (nI 1)) w
def F_Rail_fixers_4 (r4 : Int32 → Int32 → Int32 → am_W → Option (Int32 × am_W)) (a1 : Int32) (a2 : Int32) (a3 : Int32) (w : am_W) : Option (Int32 × am_W) :=
  if (w.1 1 2) ≤ a3 then (some (a2, w)) else ((F_Rail_isFixing a3 a1 w).bind fun q1 => if q1.1 = 0 then (F_Rail_fixers_29 r4 a1 a3 (nI 0) a2 q1.2) else (F_Rail_fixers_29 r4 a1 a3 ((nI 1) <<< (a3 &&& 31)) a2 q1.2))
def L_Rail_fixers_4 : Nat → Int32 → Int32 → Int32 → am_W → Option (Int32 × am_W)
  | 0, _, _, _, _ => none
  | n + 1, a1, a2, a3, w => F_Rail_fixers_4 (L_Rail_fixers_4 n) a1 a2 a3 w
def F_Rail_fixers (a1 : Int32) (w : am_W) : Option (Int32 × am_W) :=
  L_Rail_fixers_4 am_NF a1 (nI 0) (nI 0) w
theorem T_Rail_fixers_29 {D : Nat} {o : Int32 × am_W} {r4 : Int32 → Int32 → Int32 → am_W → Option (Int32 × am_W)} (Hr4 : ∀ (a1 : Int32) (a2 : Int32) (a3 : Int32) (w : am_W) , r4 a1 a2 a3 w = some o → am_gi (D + 3) 42 o (4, [(0, .ref 1), (1, .int a1), (2, .int a2), (3, .int a3)], [], ww w, 0, 0)) (a1 : Int32) (a3 : Int32) (s0 : Int32) (s1 : Int32) (w : am_W) (H : F_Rail_fixers_29 r4 a1 a3 s0 s1 w = some o) : am_gi (D + 3) 42 o (29, [(0, .ref 1), (1, .int a1), (3, .int a3)], [.int s0, .int s1], ww w, 0, 0) := by
  unfold F_Rail_fixers_29 at H
  exact am_go_blk 4 (Hr4 a1 (s1 ||| s0) (a3 + (nI 1)) w H)
theorem T_Rail_fixers_4 {D : Nat} {o : Int32 × am_W} {r4 : Int32 → Int32 → Int32 → am_W → Option (Int32 × am_W)} (Hr4 : ∀ (a1 : Int32) (a2 : Int32) (a3 : Int32) (w : am_W) , r4 a1 a2 a3 w = some o → am_gi (D + 3) 42 o (4, [(0, .ref 1), (1, .int a1), (2, .int a2), (3, .int a3)], [], ww w, 0, 0)) (a1 : Int32) (a2 : Int32) (a3 : Int32) (w : am_W) (H : F_Rail_fixers_4 r4 a1 a2 a3 w = some o) : am_gi (D + 3) 42 o (4, [(0, .ref 1), (1, .int a1), (2, .int a2), (3, .int a3)], [], ww w, 0, 0) := by
  unfold F_Rail_fixers_4 at H
  refine am_go_blk 4 ⟨fun hc => ?_, fun hc => ?_⟩
  · have H := am_it hc H
    show am_gi (D + 3) 42 o (37, [(2, .int a2)], [], ww w, 0, 0)
    exact am_go_blk 2 ⟨rfl, am_fi H⟩
  · have H := am_ie hc H
    show am_gi (D + 3) 42 o (12, [(0, .ref 1), (1, .int a1), (2, .int a2), (3, .int a3)], [], ww w, 0, 0)
    obtain ⟨q1, hqq1, H⟩ := am_bnE H
    refine am_go_blk 4 (?_ : am_gi (D + 3) 42 o (16, [(0, .ref 1), (1, .int a1), (2, .int a2), (3, .int a3)], [.int a1, .int a3, .ref 1, .int a2], ww w, 0, 0))
    refine am_invd rfl rfl rfl rfl (am_calli rfl (M_Rail_isFixing (D := D) hqq1) (?_ : am_gi (D + 3) 42 o (19, [(0, .ref 1), (1, .int a1), (2, .int a2), (3, .int a3)], [.int q1.1, .int a2], ww q1.2, 0, 0)))
    refine am_go_blk 1 ⟨fun hc => ?_, fun hc => ?_⟩
    · have H := am_it hc H
      show am_gi (D + 3) 42 o (28, [(0, .ref 1), (1, .int a1), (3, .int a3)], [.int a2], ww q1.2, 0, 0)
      exact am_go_blk 1 (T_Rail_fixers_29 Hr4 a1 a3 (nI 0) a2 q1.2 H)
    · have H := am_ie hc H
      show am_gi (D + 3) 42 o (22, [(0, .ref 1), (1, .int a1), (2, .int a2), (3, .int a3)], [.int a2], ww q1.2, 0, 0)
      exact am_go_blk 4 (T_Rail_fixers_29 Hr4 a1 a3 ((nI 1) <<< (a3 &&& 31)) a2 q1.2 H)
theorem TL_Rail_fixers_4 {D : Nat} {o : Int32 × am_W} : ∀ (n : Nat) (a1 : Int32) (a2 : Int32) (a3 : Int32) (w : am_W) , L_Rail_fixers_4 n a1 a2 a3 w = some o → am_gi (D + 3) 42 o (4, [(0, .ref 1), (1, .int a1), (2, .int a2), (3, .int a3)], [], ww w, 0, 0)
  | 0, _, _, _, _, H => by cases H
  | n + 1, a1, a2, a3, w, H => T_Rail_fixers_4 (TL_Rail_fixers_4 n) a1 a2 a3 w H
theorem T_Rail_fixers {D : Nat} {o : Int32 × am_W} (a1 : Int32) (w : am_W) (H : F_Rail_fixers a1 w = some o) : am_gi (D + 3) 42 o (0, [(0, .ref 1), (1, .int a1)], [], ww w, 0, 0) := by
  unfold F_Rail_fixers at H
  exact am_go_blk 4 (TL_Rail_fixers_4 am_NF a1 (nI 0) (nI 0) w H)
theorem M_Rail_fixers {D : Nat} {o : Int32 × am_W} {a1 : Int32} {w : am_W} (H : F_Rail_fixers a1 w = some o) : am_run (D + 4) 42 [.ref 1, .int a1] (ww w) (some (.int o.1)) (ww o.2) 0 0 :=
  am_run_of rfl (T_Rail_fixers a1 w H)
def F_Loc_steals_43 (r4 : Int32 → Int32 → am_W → Option (Int32 × am_W)) (a1 : Int32) (a2 : Int32) (w : am_W) : Option (Int32 × am_W) :=
  r4 a1 (a2 + (nI 1)) w
def F_Loc_steals_4 (r4 : Int32 → Int32 → am_W → Option (Int32 × am_W)) (a1 : Int32) (a2 : Int32) (w : am_W) : Option (Int32 × am_W) :=
  if (w.1 1 0) ≤ a2 then (some (a1, w)) else ((F_Rail_isGone a2 w).bind fun q1 => if q1.1 = 0 then ((F_Rail_fixers a2 q1.2).bind fun q2 => if q2.1 = 0 then (F_Loc_steals_43 r4 (a1 ||| ((nI 1) <<< (a2 &&& 31))) a2 q2.2) else (F_Loc_steals_43 r4 a1 a2 q2.2)) else (F_Loc_steals_43 r4 a1 a2 q1.2))
def L_Loc_steals_4 : Nat → Int32 → Int32 → am_W → Option (Int32 × am_W)
  | 0, _, _, _ => none
  | n + 1, a1, a2, w => F_Loc_steals_4 (L_Loc_steals_4 n) a1 a2 w
def F_Loc_steals (w : am_W) : Option (Int32 × am_W) :=
  L_Loc_steals_4 am_NF (nI 0) (nI 0) w
theorem T_Loc_steals_43 {D : Nat} {o : Int32 × am_W} {r4 : Int32 → Int32 → am_W → Option (Int32 × am_W)} (Hr4 : ∀ (a1 : Int32) (a2 : Int32) (w : am_W) , r4 a1 a2 w = some o → am_gi (D + 4) 99 o (4, [(0, .ref 0), (1, .int a1), (2, .int a2)], [], ww w, 0, 0)) (a1 : Int32) (a2 : Int32) (w : am_W) (H : F_Loc_steals_43 r4 a1 a2 w = some o) : am_gi (D + 4) 99 o (43, [(0, .ref 0), (1, .int a1), (2, .int a2)], [], ww w, 0, 0) := by
  unfold F_Loc_steals_43 at H
  exact am_go_blk 2 (Hr4 a1 (a2 + (nI 1)) w H)
theorem T_Loc_steals_4 {D : Nat} {o : Int32 × am_W} {r4 : Int32 → Int32 → am_W → Option (Int32 × am_W)} (Hr4 : ∀ (a1 : Int32) (a2 : Int32) (w : am_W) , r4 a1 a2 w = some o → am_gi (D + 4) 99 o (4, [(0, .ref 0), (1, .int a1), (2, .int a2)], [], ww w, 0, 0)) (a1 : Int32) (a2 : Int32) (w : am_W) (H : F_Loc_steals_4 r4 a1 a2 w = some o) : am_gi (D + 4) 99 o (4, [(0, .ref 0), (1, .int a1), (2, .int a2)], [], ww w, 0, 0) := by
  unfold F_Loc_steals_4 at H
  refine am_go_blk 5 ⟨fun hc => ?_, fun hc => ?_⟩
  · have H := am_it hc H
    show am_gi (D + 4) 99 o (49, [(1, .int a1)], [], ww w, 0, 0)
    exact am_go_blk 2 ⟨rfl, am_fi H⟩
  · have H := am_ie hc H
    show am_gi (D + 4) 99 o (15, [(0, .ref 0), (1, .int a1), (2, .int a2)], [], ww w, 0, 0)
    obtain ⟨q1, hqq1, H⟩ := am_bnE H
    refine am_go_blk 3 (?_ : am_gi (D + 4) 99 o (20, [(0, .ref 0), (1, .int a1), (2, .int a2)], [.int a2, .ref 1], ww w, 0, 0))
    refine am_invd rfl rfl rfl rfl (am_calli rfl (M_Rail_isGone (D := D + 2) hqq1) (?_ : am_gi (D + 4) 99 o (23, [(0, .ref 0), (1, .int a1), (2, .int a2)], [.int q1.1], ww q1.2, 0, 0)))
    refine am_go_blk 1 ⟨fun hc => ?_, fun hc => ?_⟩
    · have H := am_ie hc H
      exact T_Loc_steals_43 Hr4 a1 a2 q1.2 H
    · have H := am_it hc H
      show am_gi (D + 4) 99 o (26, [(0, .ref 0), (1, .int a1), (2, .int a2)], [], ww q1.2, 0, 0)
      obtain ⟨q2, hqq2, H⟩ := am_bnE H
      refine am_go_blk 3 (?_ : am_gi (D + 4) 99 o (31, [(0, .ref 0), (1, .int a1), (2, .int a2)], [.int a2, .ref 1], ww q1.2, 0, 0))
      refine am_invd rfl rfl rfl rfl (am_calli rfl (M_Rail_fixers (D := D) hqq2) (?_ : am_gi (D + 4) 99 o (34, [(0, .ref 0), (1, .int a1), (2, .int a2)], [.int q2.1], ww q2.2, 0, 0)))
      refine am_go_blk 1 ⟨fun hc => ?_, fun hc => ?_⟩
      · have H := am_ie hc H
        exact T_Loc_steals_43 Hr4 a1 a2 q2.2 H
      · have H := am_it hc H
        show am_gi (D + 4) 99 o (37, [(0, .ref 0), (1, .int a1), (2, .int a2)], [], ww q2.2, 0, 0)
        exact am_go_blk 6 (T_Loc_steals_43 Hr4 (a1 ||| ((nI 1) <<< (a2 &&& 31))) a2 q2.2 H)
theorem TL_Loc_steals_4 {D : Nat} {o : Int32 × am_W} : ∀ (n : Nat) (a1 : Int32) (a2 : Int32) (w : am_W) , L_Loc_steals_4 n a1 a2 w = some o → am_gi (D + 4) 99 o (4, [(0, .ref 0), (1, .int a1), (2, .int a2)], [], ww w, 0, 0)
  | 0, _, _, _, H => by cases H
  | n + 1, a1, a2, w, H => T_Loc_steals_4 (TL_Loc_steals_4 n) a1 a2 w H
theorem T_Loc_steals {D : Nat} {o : Int32 × am_W} (w : am_W) (H : F_Loc_steals w = some o) : am_gi (D + 4) 99 o (0, [(0, .ref 0)], [], ww w, 0, 0) := by
  unfold F_Loc_steals at H
  exact am_go_blk 4 (TL_Loc_steals_4 am_NF (nI 0) (nI 0) w H)
theorem M_Loc_steals {D : Nat} {o : Int32 × am_W} {w : am_W} (H : F_Loc_steals w = some o) : am_run (D + 5) 99 [.ref 0] (ww w) (some (.int o.1)) (ww o.2) 0 0 :=
  am_run_of rfl (T_Loc_steals w H)
def F_Loc_toSteal_88 (r14 : Int32 → Int32 → Int32 → Int32 → am_W → Option (Int32 × am_W)) (a1 : Int32) (a2 : Int32) (a3 : Int32) (a4 : Int32) (w : am_W) : Option (Int32 × am_W) :=
  r14 a1 a2 a3 (a4 + (nI 1)) w
def F_Loc_toSteal_86 (r14 : Int32 → Int32 → Int32 → Int32 → am_W → Option (Int32 × am_W)) (a1 : Int32) (a2 : Int32) (a4 : Int32) (s0 : Int32) (s1 : Int32) (w : am_W) : Option (Int32 × am_W) :=
  F_Loc_toSteal_88 r14 a1 a2 (s1 + s0) a4 w
def F_Loc_toSteal_14 (r14 : Int32 → Int32 → Int32 → Int32 → am_W → Option (Int32 × am_W)) (a1 : Int32) (a2 : Int32) (a3 : Int32) (a4 : Int32) (w : am_W) : Option (Int32 × am_W) :=
  if (w.1 1 2) ≤ a4 then (some (a3, w)) else ((F_Loc_has a2 a4 w).bind fun q2 => if q2.1 = 0 then (F_Loc_toSteal_88 r14 a1 a2 a3 a4 q2.2) else ((F_Law_says (q2.2.1 17 2) (nI 1) a1 a4 (nI 0) q2.2).bind fun q3 => (F_Law_prising a1 a4 q3.2).bind fun q4 => if q4.1 = 0 then (F_Loc_toSteal_86 r14 a1 a2 a4 q3.1 a3 q4.2) else (F_Loc_toSteal_86 r14 a1 a2 a4 (if q4.1 < q3.1 then q4.1 else q3.1) a3 q4.2)))
def L_Loc_toSteal_14 : Nat → Int32 → Int32 → Int32 → Int32 → am_W → Option (Int32 × am_W)
  | 0, _, _, _, _, _ => none
  | n + 1, a1, a2, a3, a4, w => F_Loc_toSteal_14 (L_Loc_toSteal_14 n) a1 a2 a3 a4 w
def F_Loc_toSteal (a1 : Int32) (w : am_W) : Option (Int32 × am_W) :=
  (F_Rail_fixers a1 w).bind fun q1 => L_Loc_toSteal_14 am_NF a1 q1.1 (nI 0) (nI 0) q1.2
theorem T_Loc_toSteal_88 {D : Nat} {o : Int32 × am_W} {r14 : Int32 → Int32 → Int32 → Int32 → am_W → Option (Int32 × am_W)} (Hr14 : ∀ (a1 : Int32) (a2 : Int32) (a3 : Int32) (a4 : Int32) (w : am_W) , r14 a1 a2 a3 a4 w = some o → am_gi (D + 5) 130 o (14, [(0, .ref 0), (1, .int a1), (2, .int a2), (3, .int a3), (4, .int a4)], [], ww w, 0, 0)) (a1 : Int32) (a2 : Int32) (a3 : Int32) (a4 : Int32) (w : am_W) (H : F_Loc_toSteal_88 r14 a1 a2 a3 a4 w = some o) : am_gi (D + 5) 130 o (88, [(0, .ref 0), (1, .int a1), (2, .int a2), (3, .int a3), (4, .int a4)], [], ww w, 0, 0) := by
  unfold F_Loc_toSteal_88 at H
  exact am_go_blk 2 (Hr14 a1 a2 a3 (a4 + (nI 1)) w H)
theorem T_Loc_toSteal_86 {D : Nat} {o : Int32 × am_W} {r14 : Int32 → Int32 → Int32 → Int32 → am_W → Option (Int32 × am_W)} (Hr14 : ∀ (a1 : Int32) (a2 : Int32) (a3 : Int32) (a4 : Int32) (w : am_W) , r14 a1 a2 a3 a4 w = some o → am_gi (D + 5) 130 o (14, [(0, .ref 0), (1, .int a1), (2, .int a2), (3, .int a3), (4, .int a4)], [], ww w, 0, 0)) (a1 : Int32) (a2 : Int32) (a4 : Int32) (s0 : Int32) (s1 : Int32) (w : am_W) (H : F_Loc_toSteal_86 r14 a1 a2 a4 s0 s1 w = some o) : am_gi (D + 5) 130 o (86, [(0, .ref 0), (1, .int a1), (2, .int a2), (4, .int a4)], [.int s0, .int s1], ww w, 0, 0) := by
  unfold F_Loc_toSteal_86 at H
  exact am_go_blk 2 (T_Loc_toSteal_88 Hr14 a1 a2 (s1 + s0) a4 w H)
theorem T_Loc_toSteal_14 {D : Nat} {o : Int32 × am_W} {r14 : Int32 → Int32 → Int32 → Int32 → am_W → Option (Int32 × am_W)} (Hr14 : ∀ (a1 : Int32) (a2 : Int32) (a3 : Int32) (a4 : Int32) (w : am_W) , r14 a1 a2 a3 a4 w = some o → am_gi (D + 5) 130 o (14, [(0, .ref 0), (1, .int a1), (2, .int a2), (3, .int a3), (4, .int a4)], [], ww w, 0, 0)) (a1 : Int32) (a2 : Int32) (a3 : Int32) (a4 : Int32) (w : am_W) (H : F_Loc_toSteal_14 r14 a1 a2 a3 a4 w = some o) : am_gi (D + 5) 130 o (14, [(0, .ref 0), (1, .int a1), (2, .int a2), (3, .int a3), (4, .int a4)], [], ww w, 0, 0) := by
  unfold F_Loc_toSteal_14 at H
  refine am_go_blk 5 ⟨fun hc => ?_, fun hc => ?_⟩
  · have H := am_it hc H
    show am_gi (D + 5) 130 o (94, [(3, .int a3)], [], ww w, 0, 0)
    exact am_go_blk 2 ⟨rfl, am_fi H⟩
  · have H := am_ie hc H
    show am_gi (D + 5) 130 o (26, [(0, .ref 0), (1, .int a1), (2, .int a2), (3, .int a3), (4, .int a4)], [], ww w, 0, 0)
    obtain ⟨q2, hqq2, H⟩ := am_bnE H
    refine am_go_blk 2 (?_ : am_gi (D + 5) 130 o (29, [(0, .ref 0), (1, .int a1), (2, .int a2), (3, .int a3), (4, .int a4)], [.int a4, .int a2], ww w, 0, 0))
    refine am_cls rfl rfl rfl (am_calli rfl (M_Loc_has (D := D + 4) hqq2) (?_ : am_gi (D + 5) 130 o (32, [(0, .ref 0), (1, .int a1), (2, .int a2), (3, .int a3), (4, .int a4)], [.int q2.1], ww q2.2, 0, 0)))
    refine am_go_blk 1 ⟨fun hc => ?_, fun hc => ?_⟩
    · have H := am_it hc H
      exact T_Loc_toSteal_88 Hr14 a1 a2 a3 a4 q2.2 H
    · have H := am_ie hc H
      show am_gi (D + 5) 130 o (35, [(0, .ref 0), (1, .int a1), (2, .int a2), (3, .int a3), (4, .int a4)], [], ww q2.2, 0, 0)
      obtain ⟨q3, hqq3, H⟩ := am_bnE H
      refine am_go_blk 9 (?_ : am_gi (D + 5) 130 o (51, [(0, .ref 0), (1, .int a1), (2, .int a2), (3, .int a3), (4, .int a4)], [.int (nI 0), .int a4, .int a1, .int (nI 1), .int (q2.2.1 17 2), .ref 17], ww q2.2, 0, 0))
      refine am_invd rfl rfl rfl rfl (am_calli rfl (M_Law_says (D := D + 1) hqq3) (?_ : am_gi (D + 5) 130 o (54, [(0, .ref 0), (1, .int a1), (2, .int a2), (3, .int a3), (4, .int a4)], [.int q3.1], ww q3.2, 0, 0)))
      obtain ⟨q4, hqq4, H⟩ := am_bnE H
      refine am_go_blk 5 (?_ : am_gi (D + 5) 130 o (63, [(5, .int q3.1), (0, .ref 0), (1, .int a1), (2, .int a2), (3, .int a3), (4, .int a4)], [.int a4, .int a1, .ref 17], ww q3.2, 0, 0))
      refine am_invd rfl rfl rfl rfl (am_calli rfl (M_Law_prising (D := D) hqq4) (?_ : am_gi (D + 5) 130 o (66, [(5, .int q3.1), (0, .ref 0), (1, .int a1), (2, .int a2), (3, .int a3), (4, .int a4)], [.int q4.1], ww q4.2, 0, 0)))
      refine am_go_blk 4 ⟨fun hc => ?_, fun hc => ?_⟩
      · have H := am_ie hc H
        show am_gi (D + 5) 130 o (79, [(0, .ref 0), (1, .int a1), (2, .int a2), (4, .int a4), (5, .int q3.1), (6, .int q4.1)], [.int a3], ww q4.2, 0, 0)
        refine am_go_blk 3 (?_ : am_gi (D + 5) 130 o (86, [(0, .ref 0), (1, .int a1), (2, .int a2), (4, .int a4)], [.int (if q4.1 < q3.1 then q4.1 else q3.1), .int a3], ww q4.2, 0, 0))
        exact T_Loc_toSteal_86 Hr14 a1 a2 a4 (if q4.1 < q3.1 then q4.1 else q3.1) a3 q4.2 H
      · have H := am_it hc H
        show am_gi (D + 5) 130 o (74, [(6, .int q4.1), (5, .int q3.1), (0, .ref 0), (1, .int a1), (2, .int a2), (3, .int a3), (4, .int a4)], [.int a3], ww q4.2, 0, 0)
        exact am_go_blk 2 (T_Loc_toSteal_86 Hr14 a1 a2 a4 q3.1 a3 q4.2 H)
theorem TL_Loc_toSteal_14 {D : Nat} {o : Int32 × am_W} : ∀ (n : Nat) (a1 : Int32) (a2 : Int32) (a3 : Int32) (a4 : Int32) (w : am_W) , L_Loc_toSteal_14 n a1 a2 a3 a4 w = some o → am_gi (D + 5) 130 o (14, [(0, .ref 0), (1, .int a1), (2, .int a2), (3, .int a3), (4, .int a4)], [], ww w, 0, 0)
  | 0, _, _, _, _, _, H => by cases H
  | n + 1, a1, a2, a3, a4, w, H => T_Loc_toSteal_14 (TL_Loc_toSteal_14 n) a1 a2 a3 a4 w H
theorem T_Loc_toSteal {D : Nat} {o : Int32 × am_W} (a1 : Int32) (w : am_W) (H : F_Loc_toSteal a1 w = some o) : am_gi (D + 5) 130 o (0, [(0, .ref 0), (1, .int a1)], [], ww w, 0, 0) := by
  unfold F_Loc_toSteal at H
  obtain ⟨q1, hqq1, H⟩ := am_bnE H
  refine am_go_blk 3 (?_ : am_gi (D + 5) 130 o (5, [(0, .ref 0), (1, .int a1)], [.int a1, .ref 1], ww w, 0, 0))
  refine am_invd rfl rfl rfl rfl (am_calli rfl (M_Rail_fixers (D := D + 1) hqq1) (?_ : am_gi (D + 5) 130 o (8, [(0, .ref 0), (1, .int a1)], [.int q1.1], ww q1.2, 0, 0)))
  exact am_go_blk 5 (TL_Loc_toSteal_14 am_NF a1 q1.1 (nI 0) (nI 0) q1.2 H)
theorem M_Loc_toSteal {D : Nat} {o : Int32 × am_W} {a1 : Int32} {w : am_W} (H : F_Loc_toSteal a1 w = some o) : am_run (D + 6) 130 [.ref 0, .int a1] (ww w) (some (.int o.1)) (ww o.2) 0 0 :=
  am_run_of rfl (T_Loc_toSteal a1 w H)
def F_Loc_theft_35 (s0 : Int32) (w : am_W) : Option (Int32 × am_W) :=
  some (s0, w)
def F_Loc_theft (a1 : Int32) (w : am_W) : Option (Int32 × am_W) :=
  (F_Rail_isThing a1 w).bind fun q1 => if q1.1 = 0 then (some ((-nI 5), q1.2)) else ((F_Rail_isGone a1 q1.2).bind fun q2 => if q2.1 = 0 then ((F_Loc_toSteal a1 q2.2).bind fun q3 => F_Loc_theft_35 q3.1 q3.2) else (F_Loc_theft_35 (-nI 3) q2.2))
theorem T_Loc_theft_35 {D : Nat} {o : Int32 × am_W} (s0 : Int32) (w : am_W) (H : F_Loc_theft_35 s0 w = some o) : am_gi (D + 6) 100 o (35, [], [.int s0], ww w, 0, 0) := by
  unfold F_Loc_theft_35 at H
  exact am_go_blk 1 ⟨rfl, am_fi H⟩
theorem T_Loc_theft {D : Nat} {o : Int32 × am_W} (a1 : Int32) (w : am_W) (H : F_Loc_theft a1 w = some o) : am_gi (D + 6) 100 o (0, [(0, .ref 0), (1, .int a1)], [], ww w, 0, 0) := by
  unfold F_Loc_theft at H
  obtain ⟨q1, hqq1, H⟩ := am_bnE H
  refine am_go_blk 3 (?_ : am_gi (D + 6) 100 o (5, [(0, .ref 0), (1, .int a1)], [.int a1, .ref 1], ww w, 0, 0))
  refine am_invd rfl rfl rfl rfl (am_calli rfl (M_Rail_isThing (D := D + 5) hqq1) (?_ : am_gi (D + 6) 100 o (8, [(0, .ref 0), (1, .int a1)], [.int q1.1], ww q1.2, 0, 0)))
  refine am_go_blk 1 ⟨fun hc => ?_, fun hc => ?_⟩
  · have H := am_ie hc H
    show am_gi (D + 6) 100 o (14, [(0, .ref 0), (1, .int a1)], [], ww q1.2, 0, 0)
    obtain ⟨q2, hqq2, H⟩ := am_bnE H
    refine am_go_blk 3 (?_ : am_gi (D + 6) 100 o (19, [(0, .ref 0), (1, .int a1)], [.int a1, .ref 1], ww q1.2, 0, 0))
    refine am_invd rfl rfl rfl rfl (am_calli rfl (M_Rail_isGone (D := D + 4) hqq2) (?_ : am_gi (D + 6) 100 o (22, [(0, .ref 0), (1, .int a1)], [.int q2.1], ww q2.2, 0, 0)))
    refine am_go_blk 1 ⟨fun hc => ?_, fun hc => ?_⟩
    · have H := am_it hc H
      show am_gi (D + 6) 100 o (30, [(0, .ref 0), (1, .int a1)], [], ww q2.2, 0, 0)
      obtain ⟨q3, hqq3, H⟩ := am_bnE H
      refine am_go_blk 2 (?_ : am_gi (D + 6) 100 o (32, [(0, .ref 0), (1, .int a1)], [.int a1, .ref 0], ww q2.2, 0, 0))
      refine am_invd rfl rfl rfl rfl (am_calli rfl (M_Loc_toSteal (D := D) hqq3) (?_ : am_gi (D + 6) 100 o (35, [], [.int q3.1], ww q3.2, 0, 0)))
      exact T_Loc_theft_35 q3.1 q3.2 H
    · have H := am_ie hc H
      show am_gi (D + 6) 100 o (25, [(0, .ref 0), (1, .int a1)], [], ww q2.2, 0, 0)
      exact am_go_blk 2 (T_Loc_theft_35 (-nI 3) q2.2 H)
  · have H := am_it hc H
    show am_gi (D + 6) 100 o (11, [(0, .ref 0), (1, .int a1)], [], ww q1.2, 0, 0)
    exact am_go_blk 2 ⟨rfl, am_fi H⟩
theorem M_Loc_theft {D : Nat} {o : Int32 × am_W} {a1 : Int32} {w : am_W} (H : F_Loc_theft a1 w = some o) : am_run (D + 7) 100 [.ref 0, .int a1] (ww w) (some (.int o.1)) (ww o.2) 0 0 :=
  am_run_of rfl (T_Loc_theft a1 w H)
def F_Loc_loot_80 (s0 : Int32) (w : am_W) : Option (Int32 × am_W) :=
  some (s0, w)
def F_Loc_loot_65 (r17 : Int32 → Int32 → Int32 → Int32 → am_W → Option (Int32 × am_W)) (a1 : Int32) (a2 : Int32) (a3 : Int32) (a4 : Int32) (w : am_W) : Option (Int32 × am_W) :=
  r17 a1 a2 a3 (a4 + (nI 1)) w
def F_Loc_loot_59 (r17 : Int32 → Int32 → Int32 → Int32 → am_W → Option (Int32 × am_W)) (a1 : Int32) (a4 : Int32) (a5 : Int32) (w : am_W) : Option (Int32 × am_W) :=
  F_Loc_loot_65 r17 a1 a4 a5 a4 w
def F_Loc_loot_17 (r17 : Int32 → Int32 → Int32 → Int32 → am_W → Option (Int32 × am_W)) (a1 : Int32) (a2 : Int32) (a3 : Int32) (a4 : Int32) (w : am_W) : Option (Int32 × am_W) :=
  if (w.1 1 0) ≤ a4 then (if a1 = 0 then (F_Loc_loot_80 a2 w) else (F_Loc_loot_80 a3 w)) else ((F_Rail_isGone a4 w).bind fun q2 => if q2.1 = 0 then ((F_Loc_toSteal a4 q2.2).bind fun q3 => if a2 < 0 then (F_Loc_loot_59 r17 a1 a4 q3.1 q3.2) else (if a3 ≤ q3.1 then (F_Loc_loot_65 r17 a1 a2 a3 a4 q3.2) else (F_Loc_loot_59 r17 a1 a4 q3.1 q3.2))) else (F_Loc_loot_65 r17 a1 a2 a3 a4 q2.2))
def L_Loc_loot_17 : Nat → Int32 → Int32 → Int32 → Int32 → am_W → Option (Int32 × am_W)
  | 0, _, _, _, _, _ => none
  | n + 1, a1, a2, a3, a4, w => F_Loc_loot_17 (L_Loc_loot_17 n) a1 a2 a3 a4 w
def F_Loc_loot (a1 : Int32) (w : am_W) : Option (Int32 × am_W) :=
  (F_Loc_isEither a1 w).bind fun q1 => if q1.1 = 0 then (some ((-nI 2), q1.2)) else (L_Loc_loot_17 am_NF a1 (-nI 1) (-nI 1) (nI 0) q1.2)
theorem T_Loc_loot_80 {D : Nat} {o : Int32 × am_W} (s0 : Int32) (w : am_W) (H : F_Loc_loot_80 s0 w = some o) : am_gi (D + 6) 101 o (80, [], [.int s0], ww w, 0, 0) := by
  unfold F_Loc_loot_80 at H
  exact am_go_blk 1 ⟨rfl, am_fi H⟩
theorem T_Loc_loot_65 {D : Nat} {o : Int32 × am_W} {r17 : Int32 → Int32 → Int32 → Int32 → am_W → Option (Int32 × am_W)} (Hr17 : ∀ (a1 : Int32) (a2 : Int32) (a3 : Int32) (a4 : Int32) (w : am_W) , r17 a1 a2 a3 a4 w = some o → am_gi (D + 6) 101 o (17, [(0, .ref 0), (1, .int a1), (2, .int a2), (3, .int a3), (4, .int a4)], [], ww w, 0, 0)) (a1 : Int32) (a2 : Int32) (a3 : Int32) (a4 : Int32) (w : am_W) (H : F_Loc_loot_65 r17 a1 a2 a3 a4 w = some o) : am_gi (D + 6) 101 o (65, [(0, .ref 0), (1, .int a1), (2, .int a2), (3, .int a3), (4, .int a4)], [], ww w, 0, 0) := by
  unfold F_Loc_loot_65 at H
  exact am_go_blk 2 (Hr17 a1 a2 a3 (a4 + (nI 1)) w H)
theorem T_Loc_loot_59 {D : Nat} {o : Int32 × am_W} {r17 : Int32 → Int32 → Int32 → Int32 → am_W → Option (Int32 × am_W)} (Hr17 : ∀ (a1 : Int32) (a2 : Int32) (a3 : Int32) (a4 : Int32) (w : am_W) , r17 a1 a2 a3 a4 w = some o → am_gi (D + 6) 101 o (17, [(0, .ref 0), (1, .int a1), (2, .int a2), (3, .int a3), (4, .int a4)], [], ww w, 0, 0)) (a1 : Int32) (a4 : Int32) (a5 : Int32) (w : am_W) (H : F_Loc_loot_59 r17 a1 a4 a5 w = some o) : am_gi (D + 6) 101 o (59, [(0, .ref 0), (1, .int a1), (4, .int a4), (5, .int a5)], [], ww w, 0, 0) := by
  unfold F_Loc_loot_59 at H
  exact am_go_blk 4 (T_Loc_loot_65 Hr17 a1 a4 a5 a4 w H)
theorem T_Loc_loot_17 {D : Nat} {o : Int32 × am_W} {r17 : Int32 → Int32 → Int32 → Int32 → am_W → Option (Int32 × am_W)} (Hr17 : ∀ (a1 : Int32) (a2 : Int32) (a3 : Int32) (a4 : Int32) (w : am_W) , r17 a1 a2 a3 a4 w = some o → am_gi (D + 6) 101 o (17, [(0, .ref 0), (1, .int a1), (2, .int a2), (3, .int a3), (4, .int a4)], [], ww w, 0, 0)) (a1 : Int32) (a2 : Int32) (a3 : Int32) (a4 : Int32) (w : am_W) (H : F_Loc_loot_17 r17 a1 a2 a3 a4 w = some o) : am_gi (D + 6) 101 o (17, [(0, .ref 0), (1, .int a1), (2, .int a2), (3, .int a3), (4, .int a4)], [], ww w, 0, 0) := by
  unfold F_Loc_loot_17 at H
  refine am_go_blk 5 ⟨fun hc => ?_, fun hc => ?_⟩
  · have H := am_it hc H
    show am_gi (D + 6) 101 o (71, [(1, .int a1), (2, .int a2), (3, .int a3)], [], ww w, 0, 0)
    refine am_go_blk 2 ⟨fun hc => ?_, fun hc => ?_⟩
    · have H := am_ie hc H
      show am_gi (D + 6) 101 o (79, [(3, .int a3)], [], ww w, 0, 0)
      exact am_go_blk 1 (T_Loc_loot_80 a3 w H)
    · have H := am_it hc H
      show am_gi (D + 6) 101 o (75, [(1, .int a1), (2, .int a2), (3, .int a3)], [], ww w, 0, 0)
      exact am_go_blk 2 (T_Loc_loot_80 a2 w H)
  · have H := am_ie hc H
    show am_gi (D + 6) 101 o (29, [(0, .ref 0), (1, .int a1), (2, .int a2), (3, .int a3), (4, .int a4)], [], ww w, 0, 0)
    obtain ⟨q2, hqq2, H⟩ := am_bnE H
    refine am_go_blk 3 (?_ : am_gi (D + 6) 101 o (35, [(0, .ref 0), (1, .int a1), (2, .int a2), (3, .int a3), (4, .int a4)], [.int a4, .ref 1], ww w, 0, 0))
    refine am_invd rfl rfl rfl rfl (am_calli rfl (M_Rail_isGone (D := D + 4) hqq2) (?_ : am_gi (D + 6) 101 o (38, [(0, .ref 0), (1, .int a1), (2, .int a2), (3, .int a3), (4, .int a4)], [.int q2.1], ww q2.2, 0, 0)))
    refine am_go_blk 1 ⟨fun hc => ?_, fun hc => ?_⟩
    · have H := am_ie hc H
      exact T_Loc_loot_65 Hr17 a1 a2 a3 a4 q2.2 H
    · have H := am_it hc H
      show am_gi (D + 6) 101 o (41, [(0, .ref 0), (1, .int a1), (2, .int a2), (3, .int a3), (4, .int a4)], [], ww q2.2, 0, 0)
      obtain ⟨q3, hqq3, H⟩ := am_bnE H
      refine am_go_blk 2 (?_ : am_gi (D + 6) 101 o (44, [(0, .ref 0), (1, .int a1), (2, .int a2), (3, .int a3), (4, .int a4)], [.int a4, .ref 0], ww q2.2, 0, 0))
      refine am_invd rfl rfl rfl rfl (am_calli rfl (M_Loc_toSteal (D := D) hqq3) (?_ : am_gi (D + 6) 101 o (47, [(0, .ref 0), (1, .int a1), (2, .int a2), (3, .int a3), (4, .int a4)], [.int q3.1], ww q3.2, 0, 0)))
      refine am_go_blk 3 ⟨fun hc => ?_, fun hc => ?_⟩
      · have H := am_it hc H
        exact T_Loc_loot_59 Hr17 a1 a4 q3.1 q3.2 H
      · have H := am_ie hc H
        show am_gi (D + 6) 101 o (53, [(5, .int q3.1), (0, .ref 0), (1, .int a1), (2, .int a2), (3, .int a3), (4, .int a4)], [], ww q3.2, 0, 0)
        refine am_go_blk 3 ⟨fun hc => ?_, fun hc => ?_⟩
        · have H := am_it hc H
          exact T_Loc_loot_65 Hr17 a1 a2 a3 a4 q3.2 H
        · have H := am_ie hc H
          exact T_Loc_loot_59 Hr17 a1 a4 q3.1 q3.2 H
theorem TL_Loc_loot_17 {D : Nat} {o : Int32 × am_W} : ∀ (n : Nat) (a1 : Int32) (a2 : Int32) (a3 : Int32) (a4 : Int32) (w : am_W) , L_Loc_loot_17 n a1 a2 a3 a4 w = some o → am_gi (D + 6) 101 o (17, [(0, .ref 0), (1, .int a1), (2, .int a2), (3, .int a3), (4, .int a4)], [], ww w, 0, 0)
  | 0, _, _, _, _, _, H => by cases H
  | n + 1, a1, a2, a3, a4, w, H => T_Loc_loot_17 (TL_Loc_loot_17 n) a1 a2 a3 a4 w H
theorem T_Loc_loot {D : Nat} {o : Int32 × am_W} (a1 : Int32) (w : am_W) (H : F_Loc_loot a1 w = some o) : am_gi (D + 6) 101 o (0, [(0, .ref 0), (1, .int a1)], [], ww w, 0, 0) := by
  unfold F_Loc_loot at H
  obtain ⟨q1, hqq1, H⟩ := am_bnE H
  refine am_go_blk 1 (?_ : am_gi (D + 6) 101 o (1, [(0, .ref 0), (1, .int a1)], [.int a1], ww w, 0, 0))
  refine am_cls rfl rfl rfl (am_calli rfl (M_Loc_isEither (D := D + 5) hqq1) (?_ : am_gi (D + 6) 101 o (4, [(0, .ref 0), (1, .int a1)], [.int q1.1], ww q1.2, 0, 0)))
  refine am_go_blk 1 ⟨fun hc => ?_, fun hc => ?_⟩
  · have H := am_ie hc H
    show am_gi (D + 6) 101 o (10, [(0, .ref 0), (1, .int a1)], [], ww q1.2, 0, 0)
    exact am_go_blk 6 (TL_Loc_loot_17 am_NF a1 (-nI 1) (-nI 1) (nI 0) q1.2 H)
  · have H := am_it hc H
    show am_gi (D + 6) 101 o (7, [(0, .ref 0), (1, .int a1)], [], ww q1.2, 0, 0)
    exact am_go_blk 2 ⟨rfl, am_fi H⟩
theorem M_Loc_loot {D : Nat} {o : Int32 × am_W} {a1 : Int32} {w : am_W} (H : F_Loc_loot a1 w = some o) : am_run (D + 7) 101 [.ref 0, .int a1] (ww w) (some (.int o.1)) (ww o.2) 0 0 :=
  am_run_of rfl (T_Loc_loot a1 w H)
def F_Rail_dropLastLock (w : am_W) : Option (am_W) :=
  am_lt (wsf w 1 2 ((w.1 1 2) - (nI 1))) fun w1 => some w1
theorem T_Rail_dropLastLock {D : Nat} {o : am_W} (w : am_W) (H : F_Rail_dropLastLock w = some o) : am_gv D 37 o (0, [(0, .ref 1)], [], ww w, 0, 0) := by
  unfold F_Rail_dropLastLock at H
  obtain ⟨w1, ew1, H⟩ := am_ltE H
  refine am_go_blk 6 ⟨rfl, rfl, am_hp (ww_f1_2 ew1) (?_ : am_gv D 37 o (10, [(0, .ref 1)], [], ww w1, 0, 0))⟩
  exact am_go_blk 1 (am_fv H)
theorem M_Rail_dropLastLock {D : Nat} {o : am_W} {w : am_W} (H : F_Rail_dropLastLock w = some o) : am_run (D + 1) 37 [.ref 1] (ww w) none (ww o) 0 0 :=
  am_run_of rfl (T_Rail_dropLastLock w H)
def F_Rail_isThere_21 (s0 : Int32) (w : am_W) : Option (Int32 × am_W) :=
  am_ck (am_bo s0) (some (s0, w))
def F_Rail_isThere_20 (w : am_W) : Option (Int32 × am_W) :=
  F_Rail_isThere_21 (nI 0) w
def F_Rail_isThere (a1 : Int32) (w : am_W) : Option (Int32 × am_W) :=
  (F_Rail_isThing a1 w).bind fun q1 => if q1.1 = 0 then (F_Rail_isThere_20 q1.2) else ((F_Rail_isGone a1 q1.2).bind fun q2 => if q2.1 = 0 then (F_Rail_isThere_21 (nI 1) q2.2) else (F_Rail_isThere_20 q2.2))
theorem T_Rail_isThere_21 {D : Nat} {o : Int32 × am_W} (s0 : Int32) (w : am_W) (H : F_Rail_isThere_21 s0 w = some o) : am_gi (D + 2) 30 o (21, [], [.int s0], ww w, 0, 0) := by
  unfold F_Rail_isThere_21 at H
  obtain ⟨hc, H⟩ := am_ckE H
  exact am_go_blk 1 ⟨am_boE hc, am_fi H⟩
theorem T_Rail_isThere_20 {D : Nat} {o : Int32 × am_W} (w : am_W) (H : F_Rail_isThere_20 w = some o) : am_gi (D + 2) 30 o (20, [], [], ww w, 0, 0) := by
  unfold F_Rail_isThere_20 at H
  exact am_go_blk 1 (T_Rail_isThere_21 (nI 0) w H)
theorem T_Rail_isThere {D : Nat} {o : Int32 × am_W} (a1 : Int32) (w : am_W) (H : F_Rail_isThere a1 w = some o) : am_gi (D + 2) 30 o (0, [(0, .ref 1), (1, .int a1)], [], ww w, 0, 0) := by
  unfold F_Rail_isThere at H
  obtain ⟨q1, hqq1, H⟩ := am_bnE H
  refine am_go_blk 2 (?_ : am_gi (D + 2) 30 o (2, [(0, .ref 1), (1, .int a1)], [.int a1, .ref 1], ww w, 0, 0))
  refine am_invd rfl rfl rfl rfl (am_calli rfl (M_Rail_isThing (D := D + 1) hqq1) (?_ : am_gi (D + 2) 30 o (5, [(0, .ref 1), (1, .int a1)], [.int q1.1], ww q1.2, 0, 0)))
  refine am_go_blk 1 ⟨fun hc => ?_, fun hc => ?_⟩
  · have H := am_it hc H
    exact T_Rail_isThere_20 q1.2 H
  · have H := am_ie hc H
    show am_gi (D + 2) 30 o (8, [(0, .ref 1), (1, .int a1)], [], ww q1.2, 0, 0)
    obtain ⟨q2, hqq2, H⟩ := am_bnE H
    refine am_go_blk 2 (?_ : am_gi (D + 2) 30 o (10, [(0, .ref 1), (1, .int a1)], [.int a1, .ref 1], ww q1.2, 0, 0))
    refine am_invd rfl rfl rfl rfl (am_calli rfl (M_Rail_isGone (D := D) hqq2) (?_ : am_gi (D + 2) 30 o (13, [(0, .ref 1), (1, .int a1)], [.int q2.1], ww q2.2, 0, 0)))
    refine am_go_blk 1 ⟨fun hc => ?_, fun hc => ?_⟩
    · have H := am_ie hc H
      exact T_Rail_isThere_20 q2.2 H
    · have H := am_it hc H
      show am_gi (D + 2) 30 o (16, [(0, .ref 1), (1, .int a1)], [], ww q2.2, 0, 0)
      exact am_go_blk 2 (T_Rail_isThere_21 (nI 1) q2.2 H)
theorem M_Rail_isThere {D : Nat} {o : Int32 × am_W} {a1 : Int32} {w : am_W} (H : F_Rail_isThere a1 w = some o) : am_run (D + 3) 30 [.ref 1, .int a1] (ww w) (some (.int o.1)) (ww o.2) 0 0 :=
  am_run_of rfl (T_Rail_isThere a1 w H)
def F_Loc_guard_28 (w : am_W) : Option (Int32 × am_W) :=
  some ((-nI 7), w)
def F_Loc_guard_171 (s0 : Int32) (w : am_W) : Option (Int32 × am_W) :=
  some (s0, w)
def F_Loc_guard_154 (r69 : Int32 → Int32 → Int32 → Int32 → Int32 → Int32 → am_W → Option (Int32 × am_W)) (a1 : Int32) (a2 : Int32) (a3 : Int32) (a4 : Int32) (a5 : Int32) (a6 : Int32) (w : am_W) : Option (Int32 × am_W) :=
  r69 a1 a2 a3 a4 a5 (a6 + (nI 1)) w
def F_Loc_guard_146 (r69 : Int32 → Int32 → Int32 → Int32 → Int32 → Int32 → am_W → Option (Int32 × am_W)) (a1 : Int32) (a2 : Int32) (a3 : Int32) (a6 : Int32) (a7 : Int32) (w : am_W) : Option (Int32 × am_W) :=
  F_Loc_guard_154 r69 a1 a2 a3 a6 a7 a6 w
def F_Loc_guard_104 (r69 : Int32 → Int32 → Int32 → Int32 → Int32 → Int32 → am_W → Option (Int32 × am_W)) (a1 : Int32) (a2 : Int32) (a3 : Int32) (a4 : Int32) (a5 : Int32) (a6 : Int32) (w : am_W) : Option (Int32 × am_W) :=
  (F_Rail_addLock a1 a2 (((nI 1) <<< (a1 &&& 31)) ||| ((nI 1) <<< (a6 &&& 31))) w).bind fun w5 => (F_Loc_badness w5).bind fun q6 => (F_Rail_dropLastLock q6.2).bind fun w7 => if a4 < 0 then (F_Loc_guard_146 r69 a1 a2 a3 a6 q6.1 w7) else (if a5 ≤ q6.1 then (F_Loc_guard_154 r69 a1 a2 a3 a4 a5 a6 w7) else (F_Loc_guard_146 r69 a1 a2 a3 a6 q6.1 w7))
def F_Loc_guard_69 (r69 : Int32 → Int32 → Int32 → Int32 → Int32 → Int32 → am_W → Option (Int32 × am_W)) (a1 : Int32) (a2 : Int32) (a3 : Int32) (a4 : Int32) (a5 : Int32) (a6 : Int32) (w : am_W) : Option (Int32 × am_W) :=
  if (nI 8) < a6 then (if a3 = 0 then (F_Loc_guard_171 a4 w) else (F_Loc_guard_171 a5 w)) else (if a6 = a1 then (F_Loc_guard_154 r69 a1 a2 a3 a4 a5 a6 w) else (if (nI 8) ≤ a6 then (F_Loc_guard_104 r69 a1 a2 a3 a4 a5 a6 w) else ((F_Rail_isThere a6 w).bind fun q8 => if q8.1 = 0 then (F_Loc_guard_154 r69 a1 a2 a3 a4 a5 a6 q8.2) else (F_Loc_guard_104 r69 a1 a2 a3 a4 a5 a6 q8.2))))
def L_Loc_guard_69 : Nat → Int32 → Int32 → Int32 → Int32 → Int32 → Int32 → am_W → Option (Int32 × am_W)
  | 0, _, _, _, _, _, _, _ => none
  | n + 1, a1, a2, a3, a4, a5, a6, w => F_Loc_guard_69 (L_Loc_guard_69 n) a1 a2 a3 a4 a5 a6 w
def F_Loc_guard (a1 : Int32) (a2 : Int32) (a3 : Int32) (w : am_W) : Option (Int32 × am_W) :=
  (F_Rail_isThing a1 w).bind fun q1 => if q1.1 = 0 then (some ((-nI 5), q1.2)) else ((F_Loc_isSort a2 q1.2).bind fun q2 => if q2.1 = 0 then (F_Loc_guard_28 q2.2) else ((F_Loc_isEither a3 q2.2).bind fun q3 => if q3.1 = 0 then (F_Loc_guard_28 q3.2) else ((F_Rail_isGone a1 q3.2).bind fun q4 => if q4.1 = 0 then (if (q4.2.1 1 2) < (nI 10) then (L_Loc_guard_69 am_NF a1 a2 a3 (-nI 1) (-nI 1) (nI 0) q4.2) else (some ((-nI 4), q4.2))) else (some ((-nI 3), q4.2)))))
theorem T_Loc_guard_28 {D : Nat} {o : Int32 × am_W} (w : am_W) (H : F_Loc_guard_28 w = some o) : am_gi (D + 6) 102 o (28, [], [], ww w, 0, 0) := by
  unfold F_Loc_guard_28 at H
  exact am_go_blk 2 ⟨rfl, am_fi H⟩
theorem T_Loc_guard_171 {D : Nat} {o : Int32 × am_W} (s0 : Int32) (w : am_W) (H : F_Loc_guard_171 s0 w = some o) : am_gi (D + 6) 102 o (171, [], [.int s0], ww w, 0, 0) := by
  unfold F_Loc_guard_171 at H
  exact am_go_blk 1 ⟨rfl, am_fi H⟩
theorem T_Loc_guard_154 {D : Nat} {o : Int32 × am_W} {r69 : Int32 → Int32 → Int32 → Int32 → Int32 → Int32 → am_W → Option (Int32 × am_W)} (Hr69 : ∀ (a1 : Int32) (a2 : Int32) (a3 : Int32) (a4 : Int32) (a5 : Int32) (a6 : Int32) (w : am_W) , r69 a1 a2 a3 a4 a5 a6 w = some o → am_gi (D + 6) 102 o (69, [(0, .ref 0), (1, .int a1), (2, .int a2), (3, .int a3), (4, .int a4), (5, .int a5), (6, .int a6)], [], ww w, 0, 0)) (a1 : Int32) (a2 : Int32) (a3 : Int32) (a4 : Int32) (a5 : Int32) (a6 : Int32) (w : am_W) (H : F_Loc_guard_154 r69 a1 a2 a3 a4 a5 a6 w = some o) : am_gi (D + 6) 102 o (154, [(0, .ref 0), (1, .int a1), (2, .int a2), (3, .int a3), (4, .int a4), (5, .int a5), (6, .int a6)], [], ww w, 0, 0) := by
  unfold F_Loc_guard_154 at H
  exact am_go_blk 2 (Hr69 a1 a2 a3 a4 a5 (a6 + (nI 1)) w H)
theorem T_Loc_guard_146 {D : Nat} {o : Int32 × am_W} {r69 : Int32 → Int32 → Int32 → Int32 → Int32 → Int32 → am_W → Option (Int32 × am_W)} (Hr69 : ∀ (a1 : Int32) (a2 : Int32) (a3 : Int32) (a4 : Int32) (a5 : Int32) (a6 : Int32) (w : am_W) , r69 a1 a2 a3 a4 a5 a6 w = some o → am_gi (D + 6) 102 o (69, [(0, .ref 0), (1, .int a1), (2, .int a2), (3, .int a3), (4, .int a4), (5, .int a5), (6, .int a6)], [], ww w, 0, 0)) (a1 : Int32) (a2 : Int32) (a3 : Int32) (a6 : Int32) (a7 : Int32) (w : am_W) (H : F_Loc_guard_146 r69 a1 a2 a3 a6 a7 w = some o) : am_gi (D + 6) 102 o (146, [(0, .ref 0), (1, .int a1), (2, .int a2), (3, .int a3), (6, .int a6), (7, .int a7)], [], ww w, 0, 0) := by
  unfold F_Loc_guard_146 at H
  exact am_go_blk 4 (T_Loc_guard_154 Hr69 a1 a2 a3 a6 a7 a6 w H)
theorem T_Loc_guard_104 {D : Nat} {o : Int32 × am_W} {r69 : Int32 → Int32 → Int32 → Int32 → Int32 → Int32 → am_W → Option (Int32 × am_W)} (Hr69 : ∀ (a1 : Int32) (a2 : Int32) (a3 : Int32) (a4 : Int32) (a5 : Int32) (a6 : Int32) (w : am_W) , r69 a1 a2 a3 a4 a5 a6 w = some o → am_gi (D + 6) 102 o (69, [(0, .ref 0), (1, .int a1), (2, .int a2), (3, .int a3), (4, .int a4), (5, .int a5), (6, .int a6)], [], ww w, 0, 0)) (a1 : Int32) (a2 : Int32) (a3 : Int32) (a4 : Int32) (a5 : Int32) (a6 : Int32) (w : am_W) (H : F_Loc_guard_104 r69 a1 a2 a3 a4 a5 a6 w = some o) : am_gi (D + 6) 102 o (104, [(0, .ref 0), (1, .int a1), (2, .int a2), (3, .int a3), (4, .int a4), (5, .int a5), (6, .int a6)], [], ww w, 0, 0) := by
  unfold F_Loc_guard_104 at H
  obtain ⟨w5, hqw5, H⟩ := am_bnE H
  refine am_go_blk 11 (?_ : am_gi (D + 6) 102 o (118, [(0, .ref 0), (1, .int a1), (2, .int a2), (3, .int a3), (4, .int a4), (5, .int a5), (6, .int a6)], [.int (((nI 1) <<< (a1 &&& 31)) ||| ((nI 1) <<< (a6 &&& 31))), .int a2, .int a1, .ref 1], ww w, 0, 0))
  refine am_invd rfl rfl rfl rfl (am_callv rfl (M_Rail_addLock (D := D + 2) hqw5) (?_ : am_gi (D + 6) 102 o (121, [(0, .ref 0), (1, .int a1), (2, .int a2), (3, .int a3), (4, .int a4), (5, .int a5), (6, .int a6)], [], ww w5, 0, 0)))
  obtain ⟨q6, hqq6, H⟩ := am_bnE H
  refine am_go_blk 1 (?_ : am_gi (D + 6) 102 o (122, [(0, .ref 0), (1, .int a1), (2, .int a2), (3, .int a3), (4, .int a4), (5, .int a5), (6, .int a6)], [.ref 0], ww w5, 0, 0))
  refine am_invd rfl rfl rfl rfl (am_calli rfl (M_Loc_badness (D := D) hqq6) (?_ : am_gi (D + 6) 102 o (125, [(0, .ref 0), (1, .int a1), (2, .int a2), (3, .int a3), (4, .int a4), (5, .int a5), (6, .int a6)], [.int q6.1], ww q6.2, 0, 0)))
  obtain ⟨w7, hqw7, H⟩ := am_bnE H
  refine am_go_blk 3 (?_ : am_gi (D + 6) 102 o (131, [(7, .int q6.1), (0, .ref 0), (1, .int a1), (2, .int a2), (3, .int a3), (4, .int a4), (5, .int a5), (6, .int a6)], [.ref 1], ww q6.2, 0, 0))
  refine am_invd rfl rfl rfl rfl (am_callv rfl (M_Rail_dropLastLock (D := D + 5) hqw7) (?_ : am_gi (D + 6) 102 o (134, [(7, .int q6.1), (0, .ref 0), (1, .int a1), (2, .int a2), (3, .int a3), (4, .int a4), (5, .int a5), (6, .int a6)], [], ww w7, 0, 0)))
  refine am_go_blk 2 ⟨fun hc => ?_, fun hc => ?_⟩
  · have H := am_it hc H
    exact T_Loc_guard_146 Hr69 a1 a2 a3 a6 q6.1 w7 H
  · have H := am_ie hc H
    show am_gi (D + 6) 102 o (139, [(7, .int q6.1), (0, .ref 0), (1, .int a1), (2, .int a2), (3, .int a3), (4, .int a4), (5, .int a5), (6, .int a6)], [], ww w7, 0, 0)
    refine am_go_blk 3 ⟨fun hc => ?_, fun hc => ?_⟩
    · have H := am_it hc H
      exact T_Loc_guard_154 Hr69 a1 a2 a3 a4 a5 a6 w7 H
    · have H := am_ie hc H
      exact T_Loc_guard_146 Hr69 a1 a2 a3 a6 q6.1 w7 H
theorem T_Loc_guard_69 {D : Nat} {o : Int32 × am_W} {r69 : Int32 → Int32 → Int32 → Int32 → Int32 → Int32 → am_W → Option (Int32 × am_W)} (Hr69 : ∀ (a1 : Int32) (a2 : Int32) (a3 : Int32) (a4 : Int32) (a5 : Int32) (a6 : Int32) (w : am_W) , r69 a1 a2 a3 a4 a5 a6 w = some o → am_gi (D + 6) 102 o (69, [(0, .ref 0), (1, .int a1), (2, .int a2), (3, .int a3), (4, .int a4), (5, .int a5), (6, .int a6)], [], ww w, 0, 0)) (a1 : Int32) (a2 : Int32) (a3 : Int32) (a4 : Int32) (a5 : Int32) (a6 : Int32) (w : am_W) (H : F_Loc_guard_69 r69 a1 a2 a3 a4 a5 a6 w = some o) : am_gi (D + 6) 102 o (69, [(0, .ref 0), (1, .int a1), (2, .int a2), (3, .int a3), (4, .int a4), (5, .int a5), (6, .int a6)], [], ww w, 0, 0) := by
  unfold F_Loc_guard_69 at H
  refine am_go_blk 3 ⟨fun hc => ?_, fun hc => ?_⟩
  · have H := am_it hc H
    show am_gi (D + 6) 102 o (160, [(3, .int a3), (4, .int a4), (5, .int a5)], [], ww w, 0, 0)
    refine am_go_blk 2 ⟨fun hc => ?_, fun hc => ?_⟩
    · have H := am_ie hc H
      show am_gi (D + 6) 102 o (169, [(5, .int a5)], [], ww w, 0, 0)
      exact am_go_blk 1 (T_Loc_guard_171 a5 w H)
    · have H := am_it hc H
      show am_gi (D + 6) 102 o (164, [(3, .int a3), (4, .int a4), (5, .int a5)], [], ww w, 0, 0)
      exact am_go_blk 2 (T_Loc_guard_171 a4 w H)
  · have H := am_ie hc H
    show am_gi (D + 6) 102 o (76, [(0, .ref 0), (1, .int a1), (2, .int a2), (3, .int a3), (4, .int a4), (5, .int a5), (6, .int a6)], [], ww w, 0, 0)
    refine am_go_blk 3 ⟨fun hc => ?_, fun hc => ?_⟩
    · have H := am_it hc H
      exact T_Loc_guard_154 Hr69 a1 a2 a3 a4 a5 a6 w H
    · have H := am_ie hc H
      show am_gi (D + 6) 102 o (82, [(0, .ref 0), (1, .int a1), (2, .int a2), (3, .int a3), (4, .int a4), (5, .int a5), (6, .int a6)], [], ww w, 0, 0)
      refine am_go_blk 3 ⟨fun hc => ?_, fun hc => ?_⟩
      · have H := am_it hc H
        exact T_Loc_guard_104 Hr69 a1 a2 a3 a4 a5 a6 w H
      · have H := am_ie hc H
        show am_gi (D + 6) 102 o (89, [(0, .ref 0), (1, .int a1), (2, .int a2), (3, .int a3), (4, .int a4), (5, .int a5), (6, .int a6)], [], ww w, 0, 0)
        obtain ⟨q8, hqq8, H⟩ := am_bnE H
        refine am_go_blk 3 (?_ : am_gi (D + 6) 102 o (95, [(0, .ref 0), (1, .int a1), (2, .int a2), (3, .int a3), (4, .int a4), (5, .int a5), (6, .int a6)], [.int a6, .ref 1], ww w, 0, 0))
        refine am_invd rfl rfl rfl rfl (am_calli rfl (M_Rail_isThere (D := D + 3) hqq8) (?_ : am_gi (D + 6) 102 o (98, [(0, .ref 0), (1, .int a1), (2, .int a2), (3, .int a3), (4, .int a4), (5, .int a5), (6, .int a6)], [.int q8.1], ww q8.2, 0, 0)))
        refine am_go_blk 1 ⟨fun hc => ?_, fun hc => ?_⟩
        · have H := am_ie hc H
          exact T_Loc_guard_104 Hr69 a1 a2 a3 a4 a5 a6 q8.2 H
        · have H := am_it hc H
          show am_gi (D + 6) 102 o (101, [(0, .ref 0), (1, .int a1), (2, .int a2), (3, .int a3), (4, .int a4), (5, .int a5), (6, .int a6)], [], ww q8.2, 0, 0)
          exact am_go_blk 1 (T_Loc_guard_154 Hr69 a1 a2 a3 a4 a5 a6 q8.2 H)
theorem TL_Loc_guard_69 {D : Nat} {o : Int32 × am_W} : ∀ (n : Nat) (a1 : Int32) (a2 : Int32) (a3 : Int32) (a4 : Int32) (a5 : Int32) (a6 : Int32) (w : am_W) , L_Loc_guard_69 n a1 a2 a3 a4 a5 a6 w = some o → am_gi (D + 6) 102 o (69, [(0, .ref 0), (1, .int a1), (2, .int a2), (3, .int a3), (4, .int a4), (5, .int a5), (6, .int a6)], [], ww w, 0, 0)
  | 0, _, _, _, _, _, _, _, H => by cases H
  | n + 1, a1, a2, a3, a4, a5, a6, w, H => T_Loc_guard_69 (TL_Loc_guard_69 n) a1 a2 a3 a4 a5 a6 w H
theorem T_Loc_guard {D : Nat} {o : Int32 × am_W} (a1 : Int32) (a2 : Int32) (a3 : Int32) (w : am_W) (H : F_Loc_guard a1 a2 a3 w = some o) : am_gi (D + 6) 102 o (0, [(0, .ref 0), (1, .int a1), (2, .int a2), (3, .int a3)], [], ww w, 0, 0) := by
  unfold F_Loc_guard at H
  obtain ⟨q1, hqq1, H⟩ := am_bnE H
  refine am_go_blk 3 (?_ : am_gi (D + 6) 102 o (5, [(0, .ref 0), (1, .int a1), (2, .int a2), (3, .int a3)], [.int a1, .ref 1], ww w, 0, 0))
  refine am_invd rfl rfl rfl rfl (am_calli rfl (M_Rail_isThing (D := D + 5) hqq1) (?_ : am_gi (D + 6) 102 o (8, [(0, .ref 0), (1, .int a1), (2, .int a2), (3, .int a3)], [.int q1.1], ww q1.2, 0, 0)))
  refine am_go_blk 1 ⟨fun hc => ?_, fun hc => ?_⟩
  · have H := am_ie hc H
    show am_gi (D + 6) 102 o (14, [(0, .ref 0), (1, .int a1), (2, .int a2), (3, .int a3)], [], ww q1.2, 0, 0)
    obtain ⟨q2, hqq2, H⟩ := am_bnE H
    refine am_go_blk 1 (?_ : am_gi (D + 6) 102 o (15, [(0, .ref 0), (1, .int a1), (2, .int a2), (3, .int a3)], [.int a2], ww q1.2, 0, 0))
    refine am_cls rfl rfl rfl (am_calli rfl (M_Loc_isSort (D := D + 5) hqq2) (?_ : am_gi (D + 6) 102 o (18, [(0, .ref 0), (1, .int a1), (2, .int a2), (3, .int a3)], [.int q2.1], ww q2.2, 0, 0)))
    refine am_go_blk 1 ⟨fun hc => ?_, fun hc => ?_⟩
    · have H := am_it hc H
      exact T_Loc_guard_28 q2.2 H
    · have H := am_ie hc H
      show am_gi (D + 6) 102 o (21, [(0, .ref 0), (1, .int a1), (2, .int a2), (3, .int a3)], [], ww q2.2, 0, 0)
      obtain ⟨q3, hqq3, H⟩ := am_bnE H
      refine am_go_blk 1 (?_ : am_gi (D + 6) 102 o (22, [(0, .ref 0), (1, .int a1), (2, .int a2), (3, .int a3)], [.int a3], ww q2.2, 0, 0))
      refine am_cls rfl rfl rfl (am_calli rfl (M_Loc_isEither (D := D + 5) hqq3) (?_ : am_gi (D + 6) 102 o (25, [(0, .ref 0), (1, .int a1), (2, .int a2), (3, .int a3)], [.int q3.1], ww q3.2, 0, 0)))
      refine am_go_blk 1 ⟨fun hc => ?_, fun hc => ?_⟩
      · have H := am_ie hc H
        show am_gi (D + 6) 102 o (31, [(0, .ref 0), (1, .int a1), (2, .int a2), (3, .int a3)], [], ww q3.2, 0, 0)
        obtain ⟨q4, hqq4, H⟩ := am_bnE H
        refine am_go_blk 3 (?_ : am_gi (D + 6) 102 o (36, [(0, .ref 0), (1, .int a1), (2, .int a2), (3, .int a3)], [.int a1, .ref 1], ww q3.2, 0, 0))
        refine am_invd rfl rfl rfl rfl (am_calli rfl (M_Rail_isGone (D := D + 4) hqq4) (?_ : am_gi (D + 6) 102 o (39, [(0, .ref 0), (1, .int a1), (2, .int a2), (3, .int a3)], [.int q4.1], ww q4.2, 0, 0)))
        refine am_go_blk 1 ⟨fun hc => ?_, fun hc => ?_⟩
        · have H := am_it hc H
          show am_gi (D + 6) 102 o (45, [(0, .ref 0), (1, .int a1), (2, .int a2), (3, .int a3)], [], ww q4.2, 0, 0)
          refine am_go_blk 5 ⟨fun hc => ?_, fun hc => ?_⟩
          · have H := am_it hc H
            show am_gi (D + 6) 102 o (60, [(0, .ref 0), (1, .int a1), (2, .int a2), (3, .int a3)], [], ww q4.2, 0, 0)
            exact am_go_blk 6 (TL_Loc_guard_69 am_NF a1 a2 a3 (-nI 1) (-nI 1) (nI 0) q4.2 H)
          · have H := am_ie hc H
            show am_gi (D + 6) 102 o (57, [(0, .ref 0), (1, .int a1), (2, .int a2), (3, .int a3)], [], ww q4.2, 0, 0)
            exact am_go_blk 2 ⟨rfl, am_fi H⟩
        · have H := am_ie hc H
          show am_gi (D + 6) 102 o (42, [(0, .ref 0), (1, .int a1), (2, .int a2), (3, .int a3)], [], ww q4.2, 0, 0)
          exact am_go_blk 2 ⟨rfl, am_fi H⟩
      · have H := am_it hc H
        exact T_Loc_guard_28 q3.2 H
  · have H := am_it hc H
    show am_gi (D + 6) 102 o (11, [(0, .ref 0), (1, .int a1), (2, .int a2), (3, .int a3)], [], ww q1.2, 0, 0)
    exact am_go_blk 2 ⟨rfl, am_fi H⟩
theorem M_Loc_guard {D : Nat} {o : Int32 × am_W} {a1 : Int32} {a2 : Int32} {a3 : Int32} {w : am_W} (H : F_Loc_guard a1 a2 a3 w = some o) : am_run (D + 7) 102 [.ref 0, .int a1, .int a2, .int a3] (ww w) (some (.int o.1)) (ww o.2) 0 0 :=
  am_run_of rfl (T_Loc_guard a1 a2 a3 w H)
def F_Loc_isSheet_14 (s0 : Int32) (w : am_W) : Option (Int32 × am_W) :=
  am_ck (am_bo s0) (some (s0, w))
def F_Loc_isSheet_13 (w : am_W) : Option (Int32 × am_W) :=
  F_Loc_isSheet_14 (nI 0) w
def F_Loc_isSheet (a0 : Int32) (w : am_W) : Option (Int32 × am_W) :=
  if a0 < 0 then (F_Loc_isSheet_13 w) else (if (nI 4) ≤ a0 then (F_Loc_isSheet_13 w) else (F_Loc_isSheet_14 (nI 1) w))
theorem T_Loc_isSheet_14 {D : Nat} {o : Int32 × am_W} (s0 : Int32) (w : am_W) (H : F_Loc_isSheet_14 s0 w = some o) : am_gi D 125 o (14, [], [.int s0], ww w, 0, 0) := by
  unfold F_Loc_isSheet_14 at H
  obtain ⟨hc, H⟩ := am_ckE H
  exact am_go_blk 1 ⟨am_boE hc, am_fi H⟩
theorem T_Loc_isSheet_13 {D : Nat} {o : Int32 × am_W} (w : am_W) (H : F_Loc_isSheet_13 w = some o) : am_gi D 125 o (13, [], [], ww w, 0, 0) := by
  unfold F_Loc_isSheet_13 at H
  exact am_go_blk 1 (T_Loc_isSheet_14 (nI 0) w H)
theorem T_Loc_isSheet {D : Nat} {o : Int32 × am_W} (a0 : Int32) (w : am_W) (H : F_Loc_isSheet a0 w = some o) : am_gi D 125 o (0, [(0, .int a0)], [], ww w, 0, 0) := by
  unfold F_Loc_isSheet at H
  refine am_go_blk 2 ⟨fun hc => ?_, fun hc => ?_⟩
  · have H := am_it hc H
    exact T_Loc_isSheet_13 w H
  · have H := am_ie hc H
    show am_gi D 125 o (4, [(0, .int a0)], [], ww w, 0, 0)
    refine am_go_blk 3 ⟨fun hc => ?_, fun hc => ?_⟩
    · have H := am_it hc H
      exact T_Loc_isSheet_13 w H
    · have H := am_ie hc H
      show am_gi D 125 o (9, [(0, .int a0)], [], ww w, 0, 0)
      exact am_go_blk 2 (T_Loc_isSheet_14 (nI 1) w H)
theorem M_Loc_isSheet {D : Nat} {o : Int32 × am_W} {a0 : Int32} {w : am_W} (H : F_Loc_isSheet a0 w = some o) : am_run (D + 1) 125 [.int a0] (ww w) (some (.int o.1)) (ww o.2) 0 0 :=
  am_run_of rfl (T_Loc_isSheet a0 w H)
def F_Sheet_isMissing_13 (s0 : Int32) (w : am_W) : Option (Int32 × am_W) :=
  am_ck (am_bo s0) (some (s0, w))
def F_Sheet_isMissing (p0 : Nat) (w : am_W) : Option (Int32 × am_W) :=
  if (w.1 (45 + 2 * p0) 0) = (-nI 1) then (F_Sheet_isMissing_13 (nI 1) w) else (F_Sheet_isMissing_13 (nI 0) w)
theorem T_Sheet_isMissing_13 {D : Nat} {o : Int32 × am_W} (s0 : Int32) (w : am_W) (H : F_Sheet_isMissing_13 s0 w = some o) : am_gi D 63 o (13, [], [.int s0], ww w, 0, 0) := by
  unfold F_Sheet_isMissing_13 at H
  obtain ⟨hc, H⟩ := am_ckE H
  exact am_go_blk 1 ⟨am_boE hc, am_fi H⟩
theorem T_Sheet_isMissing {D : Nat} {o : Int32 × am_W} (p0 : Nat) (w : am_W) (hp0 : p0 < 4) (H : F_Sheet_isMissing p0 w = some o) : am_gi D 63 o (0, [(0, .ref (45 + 2 * p0))], [], ww w, 0, 0) := by
  unfold F_Sheet_isMissing at H
  refine am_go_blk 1 (?_ : am_gi D 63 o (1, [(0, .ref (45 + 2 * p0))], [.ref (45 + 2 * p0)], ww w, 0, 0))
  refine am_gfd rfl rfl (ww_sheet hp0) rfl (?_ : am_gi D 63 o (4, [(0, .ref (45 + 2 * p0))], [.int (w.1 (45 + 2 * p0) 0)], ww w, 0, 0))
  refine am_go_blk 2 ⟨fun hc => ?_, fun hc => ?_⟩
  · have H := am_ie hc H
    show am_gi D 63 o (12, [], [], ww w, 0, 0)
    exact am_go_blk 1 (T_Sheet_isMissing_13 (nI 0) w H)
  · have H := am_it hc H
    show am_gi D 63 o (8, [(0, .ref (45 + 2 * p0))], [], ww w, 0, 0)
    exact am_go_blk 2 (T_Sheet_isMissing_13 (nI 1) w H)
theorem M_Sheet_isMissing {D : Nat} {o : Int32 × am_W} {p0 : Nat} {w : am_W} (hp0 : p0 < 4) (H : F_Sheet_isMissing p0 w = some o) : am_run (D + 1) 63 [.ref (45 + 2 * p0)] (ww w) (some (.int o.1)) (ww o.2) 0 0 :=
  am_run_of rfl (T_Sheet_isMissing p0 w hp0 H)
def F_Loc_refusalOf_28 (s0 : Int32) (w : am_W) : Option (Int32 × am_W) :=
  some (s0, w)
def F_Loc_refusalOf (a1 : Int32) (w : am_W) : Option (Int32 × am_W) :=
  (F_Loc_isSheet a1 w).bind fun q1 => if q1.1 = 0 then (some ((-nI 2), q1.2)) else (am_ck (am_in a1 4) ((F_Sheet_isMissing a1.toNatClampNeg q1.2).bind fun q3 => if q3.1 = 0 then (F_Loc_refusalOf_28 (nI 0) q3.2) else (F_Loc_refusalOf_28 (-nI 11) q3.2)))
theorem T_Loc_refusalOf_28 {D : Nat} {o : Int32 × am_W} (s0 : Int32) (w : am_W) (H : F_Loc_refusalOf_28 s0 w = some o) : am_gi (D + 1) 126 o (28, [], [.int s0], ww w, 0, 0) := by
  unfold F_Loc_refusalOf_28 at H
  exact am_go_blk 1 ⟨rfl, am_fi H⟩
theorem T_Loc_refusalOf {D : Nat} {o : Int32 × am_W} (a1 : Int32) (w : am_W) (H : F_Loc_refusalOf a1 w = some o) : am_gi (D + 1) 126 o (0, [(0, .ref 0), (1, .int a1)], [], ww w, 0, 0) := by
  unfold F_Loc_refusalOf at H
  obtain ⟨q1, hqq1, H⟩ := am_bnE H
  refine am_go_blk 1 (?_ : am_gi (D + 1) 126 o (1, [(0, .ref 0), (1, .int a1)], [.int a1], ww w, 0, 0))
  refine am_cls rfl rfl rfl (am_calli rfl (M_Loc_isSheet (D := D) hqq1) (?_ : am_gi (D + 1) 126 o (4, [(0, .ref 0), (1, .int a1)], [.int q1.1], ww q1.2, 0, 0)))
  refine am_go_blk 1 ⟨fun hc => ?_, fun hc => ?_⟩
  · have H := am_ie hc H
    show am_gi (D + 1) 126 o (10, [(0, .ref 0), (1, .int a1)], [], ww q1.2, 0, 0)
    obtain ⟨hi2, H⟩ := am_ckE H
    refine am_go_blk 4 ⟨am_inv hi2, am_tv (am_shv (am_inl hi2)) (?_ : am_gi (D + 1) 126 o (16, [(0, .ref 0), (1, .int a1)], [.ref (45 + 2 * a1.toNatClampNeg)], ww q1.2, 0, 0))⟩
    obtain ⟨q3, hqq3, H⟩ := am_bnE H
    refine am_invd rfl rfl (ww_sheet (am_inl hi2)) rfl (am_calli rfl (M_Sheet_isMissing (D := D) (am_inl hi2) hqq3) (?_ : am_gi (D + 1) 126 o (19, [(0, .ref 0), (1, .int a1)], [.int q3.1], ww q3.2, 0, 0)))
    refine am_go_blk 1 ⟨fun hc => ?_, fun hc => ?_⟩
    · have H := am_it hc H
      show am_gi (D + 1) 126 o (27, [], [], ww q3.2, 0, 0)
      exact am_go_blk 1 (T_Loc_refusalOf_28 (nI 0) q3.2 H)
    · have H := am_ie hc H
      show am_gi (D + 1) 126 o (22, [(0, .ref 0), (1, .int a1)], [], ww q3.2, 0, 0)
      exact am_go_blk 2 (T_Loc_refusalOf_28 (-nI 11) q3.2 H)
  · have H := am_it hc H
    show am_gi (D + 1) 126 o (7, [(0, .ref 0), (1, .int a1)], [], ww q1.2, 0, 0)
    exact am_go_blk 2 ⟨rfl, am_fi H⟩
theorem M_Loc_refusalOf {D : Nat} {o : Int32 × am_W} {a1 : Int32} {w : am_W} (H : F_Loc_refusalOf a1 w = some o) : am_run (D + 2) 126 [.ref 0, .int a1] (ww w) (some (.int o.1)) (ww o.2) 0 0 :=
  am_run_of rfl (T_Loc_refusalOf a1 w H)
def F_Loc_firstWrong_61 (a3 : Int32) (w : am_W) : Option (Int32 × am_W) :=
  some (a3, w)
def F_Loc_firstWrong_10 (r10 : Nat → Int32 → Int32 → am_W → Option (Int32 × am_W)) (p1 : Nat) (a2 : Int32) (a3 : Int32) (w : am_W) : Option (Int32 × am_W) :=
  if (w.1 (45 + 2 * p1) 1) ≤ a3 then (some ((-nI 1), w)) else (am_ck (am_in a3 40) ((F_Rail_isThing (w.1 (46 + 2 * p1) a3.toNatClampNeg) w).bind fun q1 => if q1.1 = 0 then (F_Loc_firstWrong_61 a3 q1.2) else ((F_Rail_canGo a2 (q1.2.1 1 3) q1.2).bind fun q2 => (F_Loc_has q2.1 (w.1 (46 + 2 * p1) a3.toNatClampNeg) q2.2).bind fun q3 => if q3.1 = 0 then (F_Loc_firstWrong_61 a3 q3.2) else (r10 p1 (a2 ||| ((nI 1) <<< ((w.1 (46 + 2 * p1) a3.toNatClampNeg) &&& 31))) (a3 + (nI 1)) q3.2))))
def L_Loc_firstWrong_10 : Nat → Nat → Int32 → Int32 → am_W → Option (Int32 × am_W)
  | 0, _, _, _, _ => none
  | n + 1, p1, a2, a3, w => F_Loc_firstWrong_10 (L_Loc_firstWrong_10 n) p1 a2 a3 w
def F_Loc_firstWrong (p1 : Nat) (w : am_W) : Option (Int32 × am_W) :=
  L_Loc_firstWrong_10 am_NF p1 (w.1 1 1) (nI 0) w
theorem T_Loc_firstWrong_61 {D : Nat} {o : Int32 × am_W} (a3 : Int32) (w : am_W) (H : F_Loc_firstWrong_61 a3 w = some o) : am_gi (D + 2) 131 o (61, [(3, .int a3)], [], ww w, 0, 0) := by
  unfold F_Loc_firstWrong_61 at H
  exact am_go_blk 2 ⟨rfl, am_fi H⟩
theorem T_Loc_firstWrong_10 {D : Nat} {o : Int32 × am_W} {r10 : Nat → Int32 → Int32 → am_W → Option (Int32 × am_W)} (Hr10 : ∀ (p1 : Nat) (a2 : Int32) (a3 : Int32) (w : am_W) (hp1 : p1 < 4), r10 p1 a2 a3 w = some o → am_gi (D + 2) 131 o (10, [(0, .ref 0), (1, .ref (45 + 2 * p1)), (2, .int a2), (3, .int a3)], [], ww w, 0, 0)) (p1 : Nat) (a2 : Int32) (a3 : Int32) (w : am_W) (hp1 : p1 < 4) (H : F_Loc_firstWrong_10 r10 p1 a2 a3 w = some o) : am_gi (D + 2) 131 o (10, [(0, .ref 0), (1, .ref (45 + 2 * p1)), (2, .int a2), (3, .int a3)], [], ww w, 0, 0) := by
  unfold F_Loc_firstWrong_10 at H
  refine am_go_blk 2 (?_ : am_gi (D + 2) 131 o (12, [(0, .ref 0), (1, .ref (45 + 2 * p1)), (2, .int a2), (3, .int a3)], [.ref (45 + 2 * p1), .int a3], ww w, 0, 0))
  refine am_gfd rfl rfl (ww_sheet hp1) rfl (?_ : am_gi (D + 2) 131 o (15, [(0, .ref 0), (1, .ref (45 + 2 * p1)), (2, .int a2), (3, .int a3)], [.int (w.1 (45 + 2 * p1) 1), .int a3], ww w, 0, 0))
  refine am_go_blk 1 ⟨fun hc => ?_, fun hc => ?_⟩
  · have H := am_it hc H
    show am_gi (D + 2) 131 o (76, [], [], ww w, 0, 0)
    exact am_go_blk 2 ⟨rfl, am_fi H⟩
  · have H := am_ie hc H
    show am_gi (D + 2) 131 o (18, [(0, .ref 0), (1, .ref (45 + 2 * p1)), (2, .int a2), (3, .int a3)], [], ww w, 0, 0)
    refine am_go_blk 1 (?_ : am_gi (D + 2) 131 o (19, [(0, .ref 0), (1, .ref (45 + 2 * p1)), (2, .int a2), (3, .int a3)], [.ref (45 + 2 * p1)], ww w, 0, 0))
    refine am_gfd rfl rfl (ww_sheet hp1) rfl (?_ : am_gi (D + 2) 131 o (22, [(0, .ref 0), (1, .ref (45 + 2 * p1)), (2, .int a2), (3, .int a3)], [.ref (46 + 2 * p1)], ww w, 0, 0))
    refine am_go_blk 1 (?_ : am_gi (D + 2) 131 o (23, [(0, .ref 0), (1, .ref (45 + 2 * p1)), (2, .int a2), (3, .int a3)], [.int a3, .ref (46 + 2 * p1)], ww w, 0, 0))
    obtain ⟨hc, H⟩ := am_ckE H
    refine am_iald rfl (ww_numbers hp1) (am_inv hc) (?_ : am_gi (D + 2) 131 o (24, [(0, .ref 0), (1, .ref (45 + 2 * p1)), (2, .int a2), (3, .int a3)], [.int (w.1 (46 + 2 * p1) a3.toNatClampNeg)], ww w, 0, 0))
    obtain ⟨q1, hqq1, H⟩ := am_bnE H
    refine am_go_blk 4 (?_ : am_gi (D + 2) 131 o (32, [(4, .int (w.1 (46 + 2 * p1) a3.toNatClampNeg)), (0, .ref 0), (1, .ref (45 + 2 * p1)), (2, .int a2), (3, .int a3)], [.int (w.1 (46 + 2 * p1) a3.toNatClampNeg), .ref 1], ww w, 0, 0))
    refine am_invd rfl rfl rfl rfl (am_calli rfl (M_Rail_isThing (D := D + 1) hqq1) (?_ : am_gi (D + 2) 131 o (35, [(4, .int (w.1 (46 + 2 * p1) a3.toNatClampNeg)), (0, .ref 0), (1, .ref (45 + 2 * p1)), (2, .int a2), (3, .int a3)], [.int q1.1], ww q1.2, 0, 0)))
    refine am_go_blk 1 ⟨fun hc => ?_, fun hc => ?_⟩
    · have H := am_it hc H
      exact T_Loc_firstWrong_61 a3 q1.2 H
    · have H := am_ie hc H
      show am_gi (D + 2) 131 o (38, [(4, .int (w.1 (46 + 2 * p1) a3.toNatClampNeg)), (0, .ref 0), (1, .ref (45 + 2 * p1)), (2, .int a2), (3, .int a3)], [], ww q1.2, 0, 0)
      obtain ⟨q2, hqq2, H⟩ := am_bnE H
      refine am_go_blk 6 (?_ : am_gi (D + 2) 131 o (50, [(4, .int (w.1 (46 + 2 * p1) a3.toNatClampNeg)), (0, .ref 0), (1, .ref (45 + 2 * p1)), (2, .int a2), (3, .int a3)], [.int (q1.2.1 1 3), .int a2, .ref 1], ww q1.2, 0, 0))
      refine am_invd rfl rfl rfl rfl (am_calli rfl (M_Rail_canGo (D := D) hqq2) (?_ : am_gi (D + 2) 131 o (53, [(4, .int (w.1 (46 + 2 * p1) a3.toNatClampNeg)), (0, .ref 0), (1, .ref (45 + 2 * p1)), (2, .int a2), (3, .int a3)], [.int q2.1], ww q2.2, 0, 0)))
      obtain ⟨q3, hqq3, H⟩ := am_bnE H
      refine am_go_blk 1 (?_ : am_gi (D + 2) 131 o (55, [(4, .int (w.1 (46 + 2 * p1) a3.toNatClampNeg)), (0, .ref 0), (1, .ref (45 + 2 * p1)), (2, .int a2), (3, .int a3)], [.int (w.1 (46 + 2 * p1) a3.toNatClampNeg), .int q2.1], ww q2.2, 0, 0))
      refine am_cls rfl rfl rfl (am_calli rfl (M_Loc_has (D := D + 1) hqq3) (?_ : am_gi (D + 2) 131 o (58, [(4, .int (w.1 (46 + 2 * p1) a3.toNatClampNeg)), (0, .ref 0), (1, .ref (45 + 2 * p1)), (2, .int a2), (3, .int a3)], [.int q3.1], ww q3.2, 0, 0)))
      refine am_go_blk 1 ⟨fun hc => ?_, fun hc => ?_⟩
      · have H := am_ie hc H
        show am_gi (D + 2) 131 o (63, [(0, .ref 0), (1, .ref (45 + 2 * p1)), (2, .int a2), (3, .int a3), (4, .int (w.1 (46 + 2 * p1) a3.toNatClampNeg))], [], ww q3.2, 0, 0)
        exact am_go_blk 8 (Hr10 p1 (a2 ||| ((nI 1) <<< ((w.1 (46 + 2 * p1) a3.toNatClampNeg) &&& 31))) (a3 + (nI 1)) q3.2 hp1 H)
      · have H := am_it hc H
        exact T_Loc_firstWrong_61 a3 q3.2 H
theorem TL_Loc_firstWrong_10 {D : Nat} {o : Int32 × am_W} : ∀ (n : Nat) (p1 : Nat) (a2 : Int32) (a3 : Int32) (w : am_W) (hp1 : p1 < 4), L_Loc_firstWrong_10 n p1 a2 a3 w = some o → am_gi (D + 2) 131 o (10, [(0, .ref 0), (1, .ref (45 + 2 * p1)), (2, .int a2), (3, .int a3)], [], ww w, 0, 0)
  | 0, _, _, _, _, _, H => by cases H
  | n + 1, p1, a2, a3, w, hp1, H => T_Loc_firstWrong_10 (TL_Loc_firstWrong_10 n) p1 a2 a3 w hp1 H
theorem T_Loc_firstWrong {D : Nat} {o : Int32 × am_W} (p1 : Nat) (w : am_W) (hp1 : p1 < 4) (H : F_Loc_firstWrong p1 w = some o) : am_gi (D + 2) 131 o (0, [(0, .ref 0), (1, .ref (45 + 2 * p1))], [], ww w, 0, 0) := by
  unfold F_Loc_firstWrong at H
  exact am_go_blk 6 (TL_Loc_firstWrong_10 am_NF p1 (w.1 1 1) (nI 0) w hp1 H)
theorem M_Loc_firstWrong {D : Nat} {o : Int32 × am_W} {p1 : Nat} {w : am_W} (hp1 : p1 < 4) (H : F_Loc_firstWrong p1 w = some o) : am_run (D + 3) 131 [.ref 0, .ref (45 + 2 * p1)] (ww w) (some (.int o.1)) (ww o.2) 0 0 :=
  am_run_of rfl (T_Loc_firstWrong p1 w hp1 H)
def F_Loc_judge_24 (s0 : Int32) (w : am_W) : Option (Int32 × am_W) :=
  some (s0, w)
def F_Loc_judge (a1 : Int32) (w : am_W) : Option (Int32 × am_W) :=
  (F_Loc_refusalOf a1 w).bind fun q1 => if q1.1 = 0 then (am_ck (am_in a1 4) ((F_Loc_firstWrong a1.toNatClampNeg q1.2).bind fun q3 => F_Loc_judge_24 q3.1 q3.2)) else (F_Loc_judge_24 q1.1 q1.2)
theorem T_Loc_judge_24 {D : Nat} {o : Int32 × am_W} (s0 : Int32) (w : am_W) (H : F_Loc_judge_24 s0 w = some o) : am_gi (D + 3) 103 o (24, [], [.int s0], ww w, 0, 0) := by
  unfold F_Loc_judge_24 at H
  exact am_go_blk 1 ⟨rfl, am_fi H⟩
theorem T_Loc_judge {D : Nat} {o : Int32 × am_W} (a1 : Int32) (w : am_W) (H : F_Loc_judge a1 w = some o) : am_gi (D + 3) 103 o (0, [(0, .ref 0), (1, .int a1)], [], ww w, 0, 0) := by
  unfold F_Loc_judge at H
  obtain ⟨q1, hqq1, H⟩ := am_bnE H
  refine am_go_blk 2 (?_ : am_gi (D + 3) 103 o (2, [(0, .ref 0), (1, .int a1)], [.int a1, .ref 0], ww w, 0, 0))
  refine am_invd rfl rfl rfl rfl (am_calli rfl (M_Loc_refusalOf (D := D + 1) hqq1) (?_ : am_gi (D + 3) 103 o (5, [(0, .ref 0), (1, .int a1)], [.int q1.1], ww q1.2, 0, 0)))
  refine am_go_blk 3 ⟨fun hc => ?_, fun hc => ?_⟩
  · have H := am_it hc H
    show am_gi (D + 3) 103 o (14, [(0, .ref 0), (1, .int a1)], [], ww q1.2, 0, 0)
    obtain ⟨hi2, H⟩ := am_ckE H
    refine am_go_blk 5 ⟨am_inv hi2, am_tv (am_shv (am_inl hi2)) (?_ : am_gi (D + 3) 103 o (21, [(0, .ref 0), (1, .int a1)], [.ref (45 + 2 * a1.toNatClampNeg), .ref 0], ww q1.2, 0, 0))⟩
    obtain ⟨q3, hqq3, H⟩ := am_bnE H
    refine am_invd rfl rfl rfl rfl (am_calli rfl (M_Loc_firstWrong (D := D) (am_inl hi2) hqq3) (?_ : am_gi (D + 3) 103 o (24, [], [.int q3.1], ww q3.2, 0, 0)))
    exact T_Loc_judge_24 q3.1 q3.2 H
  · have H := am_ie hc H
    show am_gi (D + 3) 103 o (10, [(2, .int q1.1), (0, .ref 0), (1, .int a1)], [], ww q1.2, 0, 0)
    exact am_go_blk 2 (T_Loc_judge_24 q1.1 q1.2 H)
theorem M_Loc_judge {D : Nat} {o : Int32 × am_W} {a1 : Int32} {w : am_W} (H : F_Loc_judge a1 w = some o) : am_run (D + 4) 103 [.ref 0, .int a1] (ww w) (some (.int o.1)) (ww o.2) 0 0 :=
  am_run_of rfl (T_Loc_judge a1 w H)
def F_Loc_sortsBy_49 (r16 : Nat → Int32 → Int32 → Int32 → Int32 → am_W → Option (Int32 × am_W)) (p1 : Nat) (a2 : Int32) (a3 : Int32) (a4 : Int32) (a5 : Int32) (w : am_W) : Option (Int32 × am_W) :=
  r16 p1 a2 a3 a4 (a5 + (nI 1)) w
def F_Loc_sortsBy_16 (r16 : Nat → Int32 → Int32 → Int32 → Int32 → am_W → Option (Int32 × am_W)) (p1 : Nat) (a2 : Int32) (a3 : Int32) (a4 : Int32) (a5 : Int32) (w : am_W) : Option (Int32 × am_W) :=
  if (nI 3) ≤ a5 then ((F_Rail_putSort a2 a3 w).bind fun w1 => some (a4, w1)) else ((F_Rail_putSort a2 a5 w).bind fun w2 => (F_Loc_firstWrong p1 w2).bind fun q3 => if 0 ≤ q3.1 then (F_Loc_sortsBy_49 r16 p1 a2 a3 a4 a5 q3.2) else (F_Loc_sortsBy_49 r16 p1 a2 a3 (a4 ||| ((nI 1) <<< (a5 &&& 31))) a5 q3.2))
def L_Loc_sortsBy_16 : Nat → Nat → Int32 → Int32 → Int32 → Int32 → am_W → Option (Int32 × am_W)
  | 0, _, _, _, _, _, _ => none
  | n + 1, p1, a2, a3, a4, a5, w => F_Loc_sortsBy_16 (L_Loc_sortsBy_16 n) p1 a2 a3 a4 a5 w
def F_Loc_sortsBy (p1 : Nat) (a2 : Int32) (w : am_W) : Option (Int32 × am_W) :=
  am_ck (am_in a2 10) (L_Loc_sortsBy_16 am_NF p1 a2 (w.1 6 a2.toNatClampNeg) (nI 0) (nI 0) w)
theorem T_Loc_sortsBy_49 {D : Nat} {o : Int32 × am_W} {r16 : Nat → Int32 → Int32 → Int32 → Int32 → am_W → Option (Int32 × am_W)} (Hr16 : ∀ (p1 : Nat) (a2 : Int32) (a3 : Int32) (a4 : Int32) (a5 : Int32) (w : am_W) (hp1 : p1 < 4), r16 p1 a2 a3 a4 a5 w = some o → am_gi (D + 3) 133 o (16, [(0, .ref 0), (1, .ref (45 + 2 * p1)), (2, .int a2), (3, .int a3), (4, .int a4), (5, .int a5)], [], ww w, 0, 0)) (p1 : Nat) (a2 : Int32) (a3 : Int32) (a4 : Int32) (a5 : Int32) (w : am_W) (hp1 : p1 < 4) (H : F_Loc_sortsBy_49 r16 p1 a2 a3 a4 a5 w = some o) : am_gi (D + 3) 133 o (49, [(0, .ref 0), (1, .ref (45 + 2 * p1)), (2, .int a2), (3, .int a3), (4, .int a4), (5, .int a5)], [], ww w, 0, 0) := by
  unfold F_Loc_sortsBy_49 at H
  exact am_go_blk 2 (Hr16 p1 a2 a3 a4 (a5 + (nI 1)) w hp1 H)
theorem T_Loc_sortsBy_16 {D : Nat} {o : Int32 × am_W} {r16 : Nat → Int32 → Int32 → Int32 → Int32 → am_W → Option (Int32 × am_W)} (Hr16 : ∀ (p1 : Nat) (a2 : Int32) (a3 : Int32) (a4 : Int32) (a5 : Int32) (w : am_W) (hp1 : p1 < 4), r16 p1 a2 a3 a4 a5 w = some o → am_gi (D + 3) 133 o (16, [(0, .ref 0), (1, .ref (45 + 2 * p1)), (2, .int a2), (3, .int a3), (4, .int a4), (5, .int a5)], [], ww w, 0, 0)) (p1 : Nat) (a2 : Int32) (a3 : Int32) (a4 : Int32) (a5 : Int32) (w : am_W) (hp1 : p1 < 4) (H : F_Loc_sortsBy_16 r16 p1 a2 a3 a4 a5 w = some o) : am_gi (D + 3) 133 o (16, [(0, .ref 0), (1, .ref (45 + 2 * p1)), (2, .int a2), (3, .int a3), (4, .int a4), (5, .int a5)], [], ww w, 0, 0) := by
  unfold F_Loc_sortsBy_16 at H
  refine am_go_blk 3 ⟨fun hc => ?_, fun hc => ?_⟩
  · have H := am_it hc H
    show am_gi (D + 3) 133 o (55, [(0, .ref 0), (2, .int a2), (3, .int a3), (4, .int a4)], [], ww w, 0, 0)
    obtain ⟨w1, hqw1, H⟩ := am_bnE H
    refine am_go_blk 4 (?_ : am_gi (D + 3) 133 o (61, [(0, .ref 0), (2, .int a2), (3, .int a3), (4, .int a4)], [.int a3, .int a2, .ref 1], ww w, 0, 0))
    refine am_invd rfl rfl rfl rfl (am_callv rfl (M_Rail_putSort (D := D) hqw1) (?_ : am_gi (D + 3) 133 o (64, [(0, .ref 0), (2, .int a2), (3, .int a3), (4, .int a4)], [], ww w1, 0, 0)))
    exact am_go_blk 2 ⟨rfl, am_fi H⟩
  · have H := am_ie hc H
    show am_gi (D + 3) 133 o (22, [(0, .ref 0), (1, .ref (45 + 2 * p1)), (2, .int a2), (3, .int a3), (4, .int a4), (5, .int a5)], [], ww w, 0, 0)
    obtain ⟨w2, hqw2, H⟩ := am_bnE H
    refine am_go_blk 4 (?_ : am_gi (D + 3) 133 o (29, [(0, .ref 0), (1, .ref (45 + 2 * p1)), (2, .int a2), (3, .int a3), (4, .int a4), (5, .int a5)], [.int a5, .int a2, .ref 1], ww w, 0, 0))
    refine am_invd rfl rfl rfl rfl (am_callv rfl (M_Rail_putSort (D := D) hqw2) (?_ : am_gi (D + 3) 133 o (32, [(0, .ref 0), (1, .ref (45 + 2 * p1)), (2, .int a2), (3, .int a3), (4, .int a4), (5, .int a5)], [], ww w2, 0, 0)))
    obtain ⟨q3, hqq3, H⟩ := am_bnE H
    refine am_go_blk 2 (?_ : am_gi (D + 3) 133 o (34, [(0, .ref 0), (1, .ref (45 + 2 * p1)), (2, .int a2), (3, .int a3), (4, .int a4), (5, .int a5)], [.ref (45 + 2 * p1), .ref 0], ww w2, 0, 0))
    refine am_invd rfl rfl rfl rfl (am_calli rfl (M_Loc_firstWrong (D := D) hp1 hqq3) (?_ : am_gi (D + 3) 133 o (37, [(0, .ref 0), (1, .ref (45 + 2 * p1)), (2, .int a2), (3, .int a3), (4, .int a4), (5, .int a5)], [.int q3.1], ww q3.2, 0, 0)))
    refine am_go_blk 1 ⟨fun hc => ?_, fun hc => ?_⟩
    · have H := am_it hc H
      exact T_Loc_sortsBy_49 Hr16 p1 a2 a3 a4 a5 q3.2 hp1 H
    · have H := am_ie hc H
      show am_gi (D + 3) 133 o (40, [(0, .ref 0), (1, .ref (45 + 2 * p1)), (2, .int a2), (3, .int a3), (4, .int a4), (5, .int a5)], [], ww q3.2, 0, 0)
      exact am_go_blk 6 (T_Loc_sortsBy_49 Hr16 p1 a2 a3 (a4 ||| ((nI 1) <<< (a5 &&& 31))) a5 q3.2 hp1 H)
theorem TL_Loc_sortsBy_16 {D : Nat} {o : Int32 × am_W} : ∀ (n : Nat) (p1 : Nat) (a2 : Int32) (a3 : Int32) (a4 : Int32) (a5 : Int32) (w : am_W) (hp1 : p1 < 4), L_Loc_sortsBy_16 n p1 a2 a3 a4 a5 w = some o → am_gi (D + 3) 133 o (16, [(0, .ref 0), (1, .ref (45 + 2 * p1)), (2, .int a2), (3, .int a3), (4, .int a4), (5, .int a5)], [], ww w, 0, 0)
  | 0, _, _, _, _, _, _, _, H => by cases H
  | n + 1, p1, a2, a3, a4, a5, w, hp1, H => T_Loc_sortsBy_16 (TL_Loc_sortsBy_16 n) p1 a2 a3 a4 a5 w hp1 H
theorem T_Loc_sortsBy {D : Nat} {o : Int32 × am_W} (p1 : Nat) (a2 : Int32) (w : am_W) (hp1 : p1 < 4) (H : F_Loc_sortsBy p1 a2 w = some o) : am_gi (D + 3) 133 o (0, [(0, .ref 0), (1, .ref (45 + 2 * p1)), (2, .int a2)], [], ww w, 0, 0) := by
  unfold F_Loc_sortsBy at H
  obtain ⟨hc, H⟩ := am_ckE H
  refine am_go_blk 5 ⟨am_inv hc, (?_ : am_gi (D + 3) 133 o (9, [(0, .ref 0), (1, .ref (45 + 2 * p1)), (2, .int a2)], [.int (w.1 6 a2.toNatClampNeg)], ww w, 0, 0))⟩
  exact am_go_blk 5 (TL_Loc_sortsBy_16 am_NF p1 a2 (w.1 6 a2.toNatClampNeg) (nI 0) (nI 0) w hp1 H)
theorem M_Loc_sortsBy {D : Nat} {o : Int32 × am_W} {p1 : Nat} {a2 : Int32} {w : am_W} (hp1 : p1 < 4) (H : F_Loc_sortsBy p1 a2 w = some o) : am_run (D + 4) 133 [.ref 0, .ref (45 + 2 * p1), .int a2] (ww w) (some (.int o.1)) (ww o.2) 0 0 :=
  am_run_of rfl (T_Loc_sortsBy p1 a2 w hp1 H)
