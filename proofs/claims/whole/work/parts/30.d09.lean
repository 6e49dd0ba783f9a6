/-! ===== the methods as functions, and that each does what its function says: Mod_seen .. Mod_taken ===== -/
def F_Mod_seen_34 (r34 : Int32 → Int32 → am_W → Option (Int32 × am_W)) (a1 : Int32) (a3 : Int32) (w : am_W) : Option (Int32 × am_W) :=
  if (w.1 53 0) ≤ a3 then (some ((-nI 1), w)) else (am_ck (am_in (((nI 40) * a1) + a3) 160) (am_ck (am_in a3 8) (if (w.1 64 (((nI 40) * a1) + a3).toNatClampNeg) = (w.1 72 a3.toNatClampNeg) then (r34 a1 (a3 + (nI 1)) w) else (some (a3, w)))))
def L_Mod_seen_34 : Nat → Int32 → Int32 → am_W → Option (Int32 × am_W)
  | 0, _, _, _ => none
  | n + 1, a1, a3, w => F_Mod_seen_34 (L_Mod_seen_34 n) a1 a3 w
def F_Mod_seen (a1 : Int32) (w : am_W) : Option (Int32 × am_W) :=
  (F_Mod_sheetWrong a1 w).bind fun q1 => if q1.1 = 0 then (am_ck (am_in a1 4) (if (q1.2.1 63 a1.toNatClampNeg) = (q1.2.1 53 0) then ((F_Mod_lives q1.2).bind fun w2 => L_Mod_seen_34 am_NF a1 (nI 0) w2) else (some ((-nI 2), q1.2)))) else (some (q1.1, q1.2))
theorem T_Mod_seen_34 {D : Nat} {o : Int32 × am_W} {r34 : Int32 → Int32 → am_W → Option (Int32 × am_W)} (Hr34 : ∀ (a1 : Int32) (a3 : Int32) (w : am_W) , r34 a1 a3 w = some o → am_gi (D + 7) 228 o (34, [(0, .ref 53), (1, .int a1), (3, .int a3)], [], ww w, 0, 0)) (a1 : Int32) (a3 : Int32) (w : am_W) (H : F_Mod_seen_34 r34 a1 a3 w = some o) : am_gi (D + 7) 228 o (34, [(0, .ref 53), (1, .int a1), (3, .int a3)], [], ww w, 0, 0) := by
  unfold F_Mod_seen_34 at H
  refine am_go_blk 4 ⟨fun hc => ?_, fun hc => ?_⟩
  · have H := am_it hc H
    show am_gi (D + 7) 228 o (70, [], [], ww w, 0, 0)
    exact am_go_blk 2 ⟨rfl, am_fi H⟩
  · have H := am_ie hc H
    show am_gi (D + 7) 228 o (42, [(0, .ref 53), (1, .int a1), (3, .int a3)], [], ww w, 0, 0)
    obtain ⟨hc, H⟩ := am_ckE H
    refine am_go_blk 8 ⟨am_inv hc, (?_ : am_gi (D + 7) 228 o (53, [(0, .ref 53), (1, .int a1), (3, .int a3)], [.int (w.1 64 (((nI 40) * a1) + a3).toNatClampNeg)], ww w, 0, 0))⟩
    obtain ⟨hc, H⟩ := am_ckE H
    refine am_go_blk 4 ⟨am_inv hc, (?_ : am_gi (D + 7) 228 o (59, [(0, .ref 53), (1, .int a1), (3, .int a3)], [.int (w.1 72 a3.toNatClampNeg), .int (w.1 64 (((nI 40) * a1) + a3).toNatClampNeg)], ww w, 0, 0))⟩
    refine am_go_blk 1 ⟨fun hc => ?_, fun hc => ?_⟩
    · have H := am_it hc H
      show am_gi (D + 7) 228 o (64, [(0, .ref 53), (1, .int a1), (3, .int a3)], [], ww w, 0, 0)
      exact am_go_blk 2 (Hr34 a1 (a3 + (nI 1)) w H)
    · have H := am_ie hc H
      show am_gi (D + 7) 228 o (62, [(0, .ref 53), (1, .int a1), (3, .int a3)], [], ww w, 0, 0)
      exact am_go_blk 2 ⟨rfl, am_fi H⟩
theorem TL_Mod_seen_34 {D : Nat} {o : Int32 × am_W} : ∀ (n : Nat) (a1 : Int32) (a3 : Int32) (w : am_W) , L_Mod_seen_34 n a1 a3 w = some o → am_gi (D + 7) 228 o (34, [(0, .ref 53), (1, .int a1), (3, .int a3)], [], ww w, 0, 0)
  | 0, _, _, _, H => by cases H
  | n + 1, a1, a3, w, H => T_Mod_seen_34 (TL_Mod_seen_34 n) a1 a3 w H
theorem T_Mod_seen {D : Nat} {o : Int32 × am_W} (a1 : Int32) (w : am_W) (H : F_Mod_seen a1 w = some o) : am_gi (D + 7) 228 o (0, [(0, .ref 53), (1, .int a1)], [], ww w, 0, 0) := by
  unfold F_Mod_seen at H
  obtain ⟨q1, hqq1, H⟩ := am_bnE H
  refine am_go_blk 2 (?_ : am_gi (D + 7) 228 o (2, [(0, .ref 53), (1, .int a1)], [.int a1, .ref 53], ww w, 0, 0))
  refine am_invd rfl rfl rfl rfl (am_calli rfl (M_Mod_sheetWrong (D := D + 5) hqq1) (?_ : am_gi (D + 7) 228 o (5, [(0, .ref 53), (1, .int a1)], [.int q1.1], ww q1.2, 0, 0)))
  refine am_go_blk 3 ⟨fun hc => ?_, fun hc => ?_⟩
  · have H := am_it hc H
    show am_gi (D + 7) 228 o (12, [(0, .ref 53), (1, .int a1)], [], ww q1.2, 0, 0)
    obtain ⟨hc, H⟩ := am_ckE H
    refine am_go_blk 4 ⟨am_inv hc, (?_ : am_gi (D + 7) 228 o (18, [(0, .ref 53), (1, .int a1)], [.int (q1.2.1 63 a1.toNatClampNeg)], ww q1.2, 0, 0))⟩
    refine am_go_blk 3 ⟨fun hc => ?_, fun hc => ?_⟩
    · have H := am_it hc H
      show am_gi (D + 7) 228 o (28, [(0, .ref 53), (1, .int a1)], [], ww q1.2, 0, 0)
      obtain ⟨w2, hqw2, H⟩ := am_bnE H
      refine am_go_blk 1 (?_ : am_gi (D + 7) 228 o (29, [(0, .ref 53), (1, .int a1)], [.ref 53], ww q1.2, 0, 0))
      refine am_invd rfl rfl rfl rfl (am_callv rfl (M_Mod_lives (D := D) hqw2) (?_ : am_gi (D + 7) 228 o (32, [(0, .ref 53), (1, .int a1)], [], ww w2, 0, 0)))
      exact am_go_blk 2 (TL_Mod_seen_34 am_NF a1 (nI 0) w2 H)
    · have H := am_ie hc H
      show am_gi (D + 7) 228 o (25, [(0, .ref 53), (1, .int a1)], [], ww q1.2, 0, 0)
      exact am_go_blk 2 ⟨rfl, am_fi H⟩
  · have H := am_ie hc H
    show am_gi (D + 7) 228 o (10, [(2, .int q1.1), (0, .ref 53), (1, .int a1)], [], ww q1.2, 0, 0)
    exact am_go_blk 2 ⟨rfl, am_fi H⟩
theorem M_Mod_seen {D : Nat} {o : Int32 × am_W} {a1 : Int32} {w : am_W} (H : F_Mod_seen a1 w = some o) : am_run (D + 8) 228 [.ref 53, .int a1] (ww w) (some (.int o.1)) (ww o.2) 0 0 :=
  am_run_of rfl (T_Mod_seen a1 w H)
def F_Mod_livesBy_67 (r67 : Int32 → am_W → Option (am_W)) (a4 : Int32) (w : am_W) : Option (am_W) :=
  if (w.1 53 0) ≤ a4 then (some w) else (am_ck (am_in a4 8) (am_ck (am_in a4 8) (am_lt (wst w 56 a4 (w.1 74 a4.toNatClampNeg)) fun w2 => r67 (a4 + (nI 1)) w2)))
def L_Mod_livesBy_67 : Nat → Int32 → am_W → Option (am_W)
  | 0, _, _ => none
  | n + 1, a4, w => F_Mod_livesBy_67 (L_Mod_livesBy_67 n) a4 w
def F_Mod_livesBy_8 (r8 : Int64 → Int32 → am_W → Option (am_W)) (a2 : Int64) (a4 : Int32) (w : am_W) : Option (am_W) :=
  if (w.1 53 0) ≤ a4 then ((F_Mod_lives w).bind fun w1 => L_Mod_livesBy_67 am_NF (nI 0) w1) else (am_ck (am_in a4 8) (am_ck (am_in a4 8) (am_lt (wst w 74 a4 (w.1 56 a4.toNatClampNeg)) fun w3 => am_ck (am_in a4 8) (am_lt (wst w3 56 a4 ((((a2 * (lN 48271)) - (a2 * (lN 48271)) / (lN 2147483647) * (lN 2147483647)) - ((a2 * (lN 48271)) - (a2 * (lN 48271)) / (lN 2147483647) * (lN 2147483647)) / (lN 24) * (lN 24)).toInt32)) fun w4 => r8 ((a2 * (lN 48271)) - (a2 * (lN 48271)) / (lN 2147483647) * (lN 2147483647)) (a4 + (nI 1)) w4))))
def L_Mod_livesBy_8 : Nat → Int64 → Int32 → am_W → Option (am_W)
  | 0, _, _, _ => none
  | n + 1, a2, a4, w => F_Mod_livesBy_8 (L_Mod_livesBy_8 n) a2 a4 w
def F_Mod_livesBy (a1 : Int32) (w : am_W) : Option (am_W) :=
  L_Mod_livesBy_8 am_NF (a1.toInt64 + (lN 1)) (nI 0) w
theorem T_Mod_livesBy_67 {D : Nat} {o : am_W} {r67 : Int32 → am_W → Option (am_W)} (Hr67 : ∀ (a4 : Int32) (w : am_W) , r67 a4 w = some o → am_gv (D + 7) 229 o (67, [(0, .ref 53), (4, .int a4)], [], ww w, 0, 0)) (a4 : Int32) (w : am_W) (H : F_Mod_livesBy_67 r67 a4 w = some o) : am_gv (D + 7) 229 o (67, [(0, .ref 53), (4, .int a4)], [], ww w, 0, 0) := by
  unfold F_Mod_livesBy_67 at H
  refine am_go_blk 4 ⟨fun hc => ?_, fun hc => ?_⟩
  · have H := am_it hc H
    show am_gv (D + 7) 229 o (96, [], [], ww w, 0, 0)
    exact am_go_blk 1 (am_fv H)
  · have H := am_ie hc H
    show am_gv (D + 7) 229 o (76, [(0, .ref 53), (4, .int a4)], [], ww w, 0, 0)
    obtain ⟨hc, H⟩ := am_ckE H
    refine am_go_blk 7 ⟨am_inv hc, (?_ : am_gv (D + 7) 229 o (89, [(0, .ref 53), (4, .int a4)], [.int (w.1 74 a4.toNatClampNeg), .int a4, .ref 56], ww w, 0, 0))⟩
    obtain ⟨hc, H⟩ := am_ckE H
    obtain ⟨w2, ew2, H⟩ := am_ltE H
    refine am_go_blk 1 ⟨am_inv hc, am_hp (ww_s56 ew2) (?_ : am_gv (D + 7) 229 o (90, [(0, .ref 53), (4, .int a4)], [], ww w2, 0, 0))⟩
    exact am_go_blk 2 (Hr67 (a4 + (nI 1)) w2 H)
theorem TL_Mod_livesBy_67 {D : Nat} {o : am_W} : ∀ (n : Nat) (a4 : Int32) (w : am_W) , L_Mod_livesBy_67 n a4 w = some o → am_gv (D + 7) 229 o (67, [(0, .ref 53), (4, .int a4)], [], ww w, 0, 0)
  | 0, _, _, H => by cases H
  | n + 1, a4, w, H => T_Mod_livesBy_67 (TL_Mod_livesBy_67 n) a4 w H
theorem T_Mod_livesBy_8 {D : Nat} {o : am_W} {r8 : Int64 → Int32 → am_W → Option (am_W)} (Hr8 : ∀ (a2 : Int64) (a4 : Int32) (w : am_W) , r8 a2 a4 w = some o → am_gv (D + 7) 229 o (8, [(0, .ref 53), (2, .long a2), (4, .int a4)], [], ww w, 0, 0)) (a2 : Int64) (a4 : Int32) (w : am_W) (H : F_Mod_livesBy_8 r8 a2 a4 w = some o) : am_gv (D + 7) 229 o (8, [(0, .ref 53), (2, .long a2), (4, .int a4)], [], ww w, 0, 0) := by
  unfold F_Mod_livesBy_8 at H
  refine am_go_blk 4 ⟨fun hc => ?_, fun hc => ?_⟩
  · have H := am_it hc H
    show am_gv (D + 7) 229 o (60, [(0, .ref 53)], [], ww w, 0, 0)
    obtain ⟨w1, hqw1, H⟩ := am_bnE H
    refine am_go_blk 1 (?_ : am_gv (D + 7) 229 o (61, [(0, .ref 53)], [.ref 53], ww w, 0, 0))
    refine am_invd rfl rfl rfl rfl (am_callv rfl (M_Mod_lives (D := D) hqw1) (?_ : am_gv (D + 7) 229 o (64, [(0, .ref 53)], [], ww w1, 0, 0)))
    exact am_go_blk 2 (TL_Mod_livesBy_67 am_NF (nI 0) w1 H)
  · have H := am_ie hc H
    show am_gv (D + 7) 229 o (17, [(0, .ref 53), (2, .long a2), (4, .int a4)], [], ww w, 0, 0)
    obtain ⟨hc, H⟩ := am_ckE H
    refine am_go_blk 7 ⟨am_inv hc, (?_ : am_gv (D + 7) 229 o (30, [(0, .ref 53), (2, .long a2), (4, .int a4)], [.int (w.1 56 a4.toNatClampNeg), .int a4, .ref 74], ww w, 0, 0))⟩
    obtain ⟨hc, H⟩ := am_ckE H
    obtain ⟨w3, ew3, H⟩ := am_ltE H
    refine am_go_blk 1 ⟨am_inv hc, am_hp (ww_s74 ew3) (?_ : am_gv (D + 7) 229 o (31, [(0, .ref 53), (2, .long a2), (4, .int a4)], [], ww w3, 0, 0))⟩
    refine am_go_blk 5 ⟨by decide, (?_ : am_gv (D + 7) 229 o (40, [(0, .ref 53), (2, .long a2), (4, .int a4)], [.long ((a2 * (lN 48271)) - (a2 * (lN 48271)) / (lN 2147483647) * (lN 2147483647))], ww w3, 0, 0))⟩
    refine am_go_blk 7 ⟨by decide, (?_ : am_gv (D + 7) 229 o (52, [(2, .long ((a2 * (lN 48271)) - (a2 * (lN 48271)) / (lN 2147483647) * (lN 2147483647))), (0, .ref 53), (4, .int a4)], [.long (((a2 * (lN 48271)) - (a2 * (lN 48271)) / (lN 2147483647) * (lN 2147483647)) - ((a2 * (lN 48271)) - (a2 * (lN 48271)) / (lN 2147483647) * (lN 2147483647)) / (lN 24) * (lN 24)), .int a4, .ref 56], ww w3, 0, 0))⟩
    obtain ⟨hc, H⟩ := am_ckE H
    obtain ⟨w4, ew4, H⟩ := am_ltE H
    refine am_go_blk 2 ⟨am_inv hc, am_hp (ww_s56 ew4) (?_ : am_gv (D + 7) 229 o (54, [(2, .long ((a2 * (lN 48271)) - (a2 * (lN 48271)) / (lN 2147483647) * (lN 2147483647))), (0, .ref 53), (4, .int a4)], [], ww w4, 0, 0))⟩
    exact am_go_blk 2 (Hr8 ((a2 * (lN 48271)) - (a2 * (lN 48271)) / (lN 2147483647) * (lN 2147483647)) (a4 + (nI 1)) w4 H)
theorem TL_Mod_livesBy_8 {D : Nat} {o : am_W} : ∀ (n : Nat) (a2 : Int64) (a4 : Int32) (w : am_W) , L_Mod_livesBy_8 n a2 a4 w = some o → am_gv (D + 7) 229 o (8, [(0, .ref 53), (2, .long a2), (4, .int a4)], [], ww w, 0, 0)
  | 0, _, _, _, H => by cases H
  | n + 1, a2, a4, w, H => T_Mod_livesBy_8 (TL_Mod_livesBy_8 n) a2 a4 w H
theorem T_Mod_livesBy {D : Nat} {o : am_W} (a1 : Int32) (w : am_W) (H : F_Mod_livesBy a1 w = some o) : am_gv (D + 7) 229 o (0, [(0, .ref 53), (1, .int a1)], [], ww w, 0, 0) := by
  unfold F_Mod_livesBy at H
  exact am_go_blk 7 (TL_Mod_livesBy_8 am_NF (a1.toInt64 + (lN 1)) (nI 0) w H)
theorem M_Mod_livesBy {D : Nat} {o : am_W} {a1 : Int32} {w : am_W} (H : F_Mod_livesBy a1 w = some o) : am_run (D + 8) 229 [.ref 53, .int a1] (ww w) none (ww o) 0 0 :=
  am_run_of rfl (T_Mod_livesBy a1 w H)
def F_Mod_drawn (a1 : Int32) (a2 : Int32) (w : am_W) : Option (Int32 × am_W) :=
  (F_Mod_isThing a2 w).bind fun q1 => if q1.1 = 0 then (some ((-nI 5), q1.2)) else ((F_Mod_in a1 (nI 0) (nI 99999) q1.2).bind fun q2 => if q2.1 = 0 then (some ((-nI 7), q2.2)) else ((F_Mod_isGone a2 q2.2).bind fun q3 => if q3.1 = 0 then ((F_Mod_livesBy a1 q3.2).bind fun w4 => am_ck (am_in a2 8) (some ((w4.1 72 a2.toNatClampNeg), w4))) else (some ((-nI 3), q3.2))))
theorem T_Mod_drawn {D : Nat} {o : Int32 × am_W} (a1 : Int32) (a2 : Int32) (w : am_W) (H : F_Mod_drawn a1 a2 w = some o) : am_gi (D + 8) 230 o (0, [(0, .ref 53), (1, .int a1), (2, .int a2)], [], ww w, 0, 0) := by
  unfold F_Mod_drawn at H
  obtain ⟨q1, hqq1, H⟩ := am_bnE H
  refine am_go_blk 2 (?_ : am_gi (D + 8) 230 o (2, [(0, .ref 53), (1, .int a1), (2, .int a2)], [.int a2, .ref 53], ww w, 0, 0))
  refine am_invd rfl rfl rfl rfl (am_calli rfl (M_Mod_isThing (D := D + 6) hqq1) (?_ : am_gi (D + 8) 230 o (5, [(0, .ref 53), (1, .int a1), (2, .int a2)], [.int q1.1], ww q1.2, 0, 0)))
  refine am_go_blk 1 ⟨fun hc => ?_, fun hc => ?_⟩
  · have H := am_ie hc H
    show am_gi (D + 8) 230 o (11, [(0, .ref 53), (1, .int a1), (2, .int a2)], [], ww q1.2, 0, 0)
    obtain ⟨q2, hqq2, H⟩ := am_bnE H
    refine am_go_blk 3 (?_ : am_gi (D + 8) 230 o (16, [(0, .ref 53), (1, .int a1), (2, .int a2)], [.int (nI 99999), .int (nI 0), .int a1], ww q1.2, 0, 0))
    refine am_cls rfl rfl rfl (am_calli rfl (M_Mod_in (D := D + 7) hqq2) (?_ : am_gi (D + 8) 230 o (19, [(0, .ref 53), (1, .int a1), (2, .int a2)], [.int q2.1], ww q2.2, 0, 0)))
    refine am_go_blk 1 ⟨fun hc => ?_, fun hc => ?_⟩
    · have H := am_ie hc H
      show am_gi (D + 8) 230 o (25, [(0, .ref 53), (1, .int a1), (2, .int a2)], [], ww q2.2, 0, 0)
      obtain ⟨q3, hqq3, H⟩ := am_bnE H
      refine am_go_blk 2 (?_ : am_gi (D + 8) 230 o (27, [(0, .ref 53), (1, .int a1), (2, .int a2)], [.int a2, .ref 53], ww q2.2, 0, 0))
      refine am_invd rfl rfl rfl rfl (am_calli rfl (M_Mod_isGone (D := D + 7) hqq3) (?_ : am_gi (D + 8) 230 o (30, [(0, .ref 53), (1, .int a1), (2, .int a2)], [.int q3.1], ww q3.2, 0, 0)))
      refine am_go_blk 1 ⟨fun hc => ?_, fun hc => ?_⟩
      · have H := am_it hc H
        show am_gi (D + 8) 230 o (36, [(0, .ref 53), (1, .int a1), (2, .int a2)], [], ww q3.2, 0, 0)
        obtain ⟨w4, hqw4, H⟩ := am_bnE H
        refine am_go_blk 2 (?_ : am_gi (D + 8) 230 o (38, [(0, .ref 53), (1, .int a1), (2, .int a2)], [.int a1, .ref 53], ww q3.2, 0, 0))
        refine am_invd rfl rfl rfl rfl (am_callv rfl (M_Mod_livesBy (D := D) hqw4) (?_ : am_gi (D + 8) 230 o (41, [(0, .ref 53), (1, .int a1), (2, .int a2)], [], ww w4, 0, 0)))
        obtain ⟨hc, H⟩ := am_ckE H
        refine am_go_blk 4 ⟨am_inv hc, (?_ : am_gi (D + 8) 230 o (47, [(0, .ref 53), (1, .int a1), (2, .int a2)], [.int (w4.1 72 a2.toNatClampNeg)], ww w4, 0, 0))⟩
        exact am_go_blk 1 ⟨rfl, am_fi H⟩
      · have H := am_ie hc H
        show am_gi (D + 8) 230 o (33, [(0, .ref 53), (1, .int a1), (2, .int a2)], [], ww q3.2, 0, 0)
        exact am_go_blk 2 ⟨rfl, am_fi H⟩
    · have H := am_it hc H
      show am_gi (D + 8) 230 o (22, [(0, .ref 53), (1, .int a1), (2, .int a2)], [], ww q2.2, 0, 0)
      exact am_go_blk 2 ⟨rfl, am_fi H⟩
  · have H := am_it hc H
    show am_gi (D + 8) 230 o (8, [(0, .ref 53), (1, .int a1), (2, .int a2)], [], ww q1.2, 0, 0)
    exact am_go_blk 2 ⟨rfl, am_fi H⟩
theorem M_Mod_drawn {D : Nat} {o : Int32 × am_W} {a1 : Int32} {a2 : Int32} {w : am_W} (H : F_Mod_drawn a1 a2 w = some o) : am_run (D + 9) 230 [.ref 53, .int a1, .int a2] (ww w) (some (.int o.1)) (ww o.2) 0 0 :=
  am_run_of rfl (T_Mod_drawn a1 a2 w H)
def F_Mod_lowest_51 (a5 : Int64) (s0 : Int64) (w : am_W) : Option (Int64 × am_W) :=
  if a5 = 0 then none else (some ((s0 / a5), w))
def F_Mod_lowest_16 (r16 : Int64 → Int64 → Int32 → Int64 → Int64 → am_W → Option (Int64 × am_W)) (a0 : Int64) (a2 : Int64) (a4 : Int32) (a5 : Int64) (a7 : Int64) (w : am_W) : Option (Int64 × am_W) :=
  if (lg_cmp a7 (lN 0)) = 0 then (if a4 = 0 then (F_Mod_lowest_51 a5 a0 w) else (F_Mod_lowest_51 a5 a2 w)) else (if a7 = 0 then none else (r16 a0 a2 a4 a7 (a5 - a5 / a7 * a7) w))
def L_Mod_lowest_16 : Nat → Int64 → Int64 → Int32 → Int64 → Int64 → am_W → Option (Int64 × am_W)
  | 0, _, _, _, _, _, _ => none
  | n + 1, a0, a2, a4, a5, a7, w => F_Mod_lowest_16 (L_Mod_lowest_16 n) a0 a2 a4 a5 a7 w
def F_Mod_lowest (a0 : Int64) (a2 : Int64) (a4 : Int32) (w : am_W) : Option (Int64 × am_W) :=
  if (lg_cmp a0 (lN 0)) = 0 then (some (a4.toInt64, w)) else (L_Mod_lowest_16 am_NF a0 a2 a4 a0 a2 w)
theorem T_Mod_lowest_51 {D : Nat} {o : Int64 × am_W} (a5 : Int64) (s0 : Int64) (w : am_W) (H : F_Mod_lowest_51 a5 s0 w = some o) : am_gj D 231 o (51, [(5, .long a5)], [.long s0], ww w, 0, 0) := by
  unfold F_Mod_lowest_51 at H
  obtain ⟨hc, H⟩ := am_inE H
  refine am_go_blk 2 ⟨hc, (?_ : am_gj D 231 o (54, [(5, .long a5)], [.long (s0 / a5)], ww w, 0, 0))⟩
  exact am_go_blk 1 (am_fj H)
theorem T_Mod_lowest_16 {D : Nat} {o : Int64 × am_W} {r16 : Int64 → Int64 → Int32 → Int64 → Int64 → am_W → Option (Int64 × am_W)} (Hr16 : ∀ (a0 : Int64) (a2 : Int64) (a4 : Int32) (a5 : Int64) (a7 : Int64) (w : am_W) , r16 a0 a2 a4 a5 a7 w = some o → am_gj D 231 o (16, [(0, .long a0), (2, .long a2), (4, .int a4), (5, .long a5), (7, .long a7)], [], ww w, 0, 0)) (a0 : Int64) (a2 : Int64) (a4 : Int32) (a5 : Int64) (a7 : Int64) (w : am_W) (H : F_Mod_lowest_16 r16 a0 a2 a4 a5 a7 w = some o) : am_gj D 231 o (16, [(0, .long a0), (2, .long a2), (4, .int a4), (5, .long a5), (7, .long a7)], [], ww w, 0, 0) := by
  unfold F_Mod_lowest_16 at H
  refine am_go_blk 4 ⟨fun hc => ?_, fun hc => ?_⟩
  · have H := am_it hc H
    show am_gj D 231 o (41, [(0, .long a0), (2, .long a2), (4, .int a4), (5, .long a5)], [], ww w, 0, 0)
    refine am_go_blk 2 ⟨fun hc => ?_, fun hc => ?_⟩
    · have H := am_ie hc H
      show am_gj D 231 o (50, [(2, .long a2), (5, .long a5)], [], ww w, 0, 0)
      exact am_go_blk 1 (T_Mod_lowest_51 a5 a2 w H)
    · have H := am_it hc H
      show am_gj D 231 o (46, [(0, .long a0), (2, .long a2), (4, .int a4), (5, .long a5)], [], ww w, 0, 0)
      exact am_go_blk 2 (T_Mod_lowest_51 a5 a0 w H)
  · have H := am_ie hc H
    show am_gj D 231 o (23, [(0, .long a0), (2, .long a2), (4, .int a4), (5, .long a5), (7, .long a7)], [], ww w, 0, 0)
    obtain ⟨hc, H⟩ := am_inE H
    refine am_go_blk 3 ⟨hc, (?_ : am_gj D 231 o (28, [(0, .long a0), (2, .long a2), (4, .int a4), (5, .long a5), (7, .long a7)], [.long (a5 - a5 / a7 * a7)], ww w, 0, 0))⟩
    exact am_go_blk 6 (Hr16 a0 a2 a4 a7 (a5 - a5 / a7 * a7) w H)
theorem TL_Mod_lowest_16 {D : Nat} {o : Int64 × am_W} : ∀ (n : Nat) (a0 : Int64) (a2 : Int64) (a4 : Int32) (a5 : Int64) (a7 : Int64) (w : am_W) , L_Mod_lowest_16 n a0 a2 a4 a5 a7 w = some o → am_gj D 231 o (16, [(0, .long a0), (2, .long a2), (4, .int a4), (5, .long a5), (7, .long a7)], [], ww w, 0, 0)
  | 0, _, _, _, _, _, _, H => by cases H
  | n + 1, a0, a2, a4, a5, a7, w, H => T_Mod_lowest_16 (TL_Mod_lowest_16 n) a0 a2 a4 a5 a7 w H
theorem T_Mod_lowest {D : Nat} {o : Int64 × am_W} (a0 : Int64) (a2 : Int64) (a4 : Int32) (w : am_W) (H : F_Mod_lowest a0 a2 a4 w = some o) : am_gj D 231 o (0, [(0, .long a0), (2, .long a2), (4, .int a4)], [], ww w, 0, 0) := by
  unfold F_Mod_lowest at H
  refine am_go_blk 4 ⟨fun hc => ?_, fun hc => ?_⟩
  · have H := am_ie hc H
    show am_gj D 231 o (10, [(0, .long a0), (2, .long a2), (4, .int a4)], [], ww w, 0, 0)
    exact am_go_blk 4 (TL_Mod_lowest_16 am_NF a0 a2 a4 a0 a2 w H)
  · have H := am_it hc H
    show am_gj D 231 o (6, [(0, .long a0), (2, .long a2), (4, .int a4)], [], ww w, 0, 0)
    exact am_go_blk 3 (am_fj H)
theorem M_Mod_lowest {D : Nat} {o : Int64 × am_W} {a0 : Int64} {a2 : Int64} {a4 : Int32} {w : am_W} (H : F_Mod_lowest a0 a2 a4 w = some o) : am_run (D + 1) 231 [.long a0, .long a2, .int a4] (ww w) (some (.long o.1)) (ww o.2) 0 0 :=
  am_run_of rfl (T_Mod_lowest a0 a2 a4 w H)
def F_Mod_odds_119 (r78 : Int32 → Int32 → Int32 → Int32 → Int64 → Int32 → am_W → Option (Int64 × am_W)) (a1 : Int32) (a2 : Int32) (a3 : Int32) (a4 : Int32) (a8 : Int32) (s0 : Int64) (s1 : Int64) (w : am_W) : Option (Int64 × am_W) :=
  r78 a1 a2 a3 a4 (s1 + s0) (a8 + (nI 1)) w
def F_Mod_odds_78 (r78 : Int32 → Int32 → Int32 → Int32 → Int64 → Int32 → am_W → Option (Int64 × am_W)) (a1 : Int32) (a2 : Int32) (a3 : Int32) (a4 : Int32) (a6 : Int64) (a8 : Int32) (w : am_W) : Option (Int64 × am_W) :=
  if a2 ≤ a8 then ((F_Mod_lowest a6 a2.toInt64 a4 w).bind fun q2 => some (q2.1, q2.2)) else ((F_Mod_livesBy (a1 + a8) w).bind fun w3 => am_ck (am_in (a3 / (nI 100)) 8) ((F_Mod_in (w3.1 72 (a3 / (nI 100)).toNatClampNeg) (nI 0) (a3 - a3 / (nI 100) * (nI 100)) w3).bind fun q4 => if q4.1 = 0 then (F_Mod_odds_119 r78 a1 a2 a3 a4 a8 (lN 0) a6 q4.2) else (F_Mod_odds_119 r78 a1 a2 a3 a4 a8 (lN 1) a6 q4.2)))
def L_Mod_odds_78 : Nat → Int32 → Int32 → Int32 → Int32 → Int64 → Int32 → am_W → Option (Int64 × am_W)
  | 0, _, _, _, _, _, _, _ => none
  | n + 1, a1, a2, a3, a4, a6, a8, w => F_Mod_odds_78 (L_Mod_odds_78 n) a1 a2 a3 a4 a6 a8 w
def F_Mod_odds_61 (a1 : Int32) (a2 : Int32) (a3 : Int32) (a4 : Int32) (s0 : Int32) (w : am_W) : Option (Int64 × am_W) :=
  if s0 = 0 then (some ((-lN 4611686018427387904), w)) else (L_Mod_odds_78 am_NF a1 a2 a3 a4 (lN 0) (nI 0) w)
def F_Mod_odds_60 (a1 : Int32) (a2 : Int32) (a3 : Int32) (a4 : Int32) (w : am_W) : Option (Int64 × am_W) :=
  F_Mod_odds_61 a1 a2 a3 a4 (nI 0) w
def F_Mod_odds (a1 : Int32) (a2 : Int32) (a3 : Int32) (a4 : Int32) (w : am_W) : Option (Int64 × am_W) :=
  (F_Mod_in a1 (nI 0) (nI 99999) w).bind fun q1 => if q1.1 = 0 then (F_Mod_odds_60 a1 a2 a3 a4 q1.2) else ((F_Mod_in a2 (nI 1) (nI 40) q1.2).bind fun q5 => if q5.1 = 0 then (F_Mod_odds_60 a1 a2 a3 a4 q5.2) else (if a3 < 0 then (F_Mod_odds_60 a1 a2 a3 a4 q5.2) else ((F_Mod_isThing (a3 / (nI 100)) q5.2).bind fun q6 => if q6.1 = 0 then (F_Mod_odds_60 a1 a2 a3 a4 q6.2) else ((F_Mod_isHour (a3 - a3 / (nI 100) * (nI 100)) q6.2).bind fun q7 => if q7.1 = 0 then (F_Mod_odds_60 a1 a2 a3 a4 q7.2) else ((F_Mod_in a4 (nI 0) (nI 1) q7.2).bind fun q8 => if q8.1 = 0 then (F_Mod_odds_60 a1 a2 a3 a4 q8.2) else (F_Mod_odds_61 a1 a2 a3 a4 (nI 1) q8.2))))))
theorem T_Mod_odds_119 {D : Nat} {o : Int64 × am_W} {r78 : Int32 → Int32 → Int32 → Int32 → Int64 → Int32 → am_W → Option (Int64 × am_W)} (Hr78 : ∀ (a1 : Int32) (a2 : Int32) (a3 : Int32) (a4 : Int32) (a6 : Int64) (a8 : Int32) (w : am_W) , r78 a1 a2 a3 a4 a6 a8 w = some o → am_gj (D + 8) 232 o (78, [(0, .ref 53), (1, .int a1), (2, .int a2), (3, .int a3), (4, .int a4), (6, .long a6), (8, .int a8)], [], ww w, 0, 0)) (a1 : Int32) (a2 : Int32) (a3 : Int32) (a4 : Int32) (a8 : Int32) (s0 : Int64) (s1 : Int64) (w : am_W) (H : F_Mod_odds_119 r78 a1 a2 a3 a4 a8 s0 s1 w = some o) : am_gj (D + 8) 232 o (119, [(0, .ref 53), (1, .int a1), (2, .int a2), (3, .int a3), (4, .int a4), (8, .int a8)], [.long s0, .long s1], ww w, 0, 0) := by
  unfold F_Mod_odds_119 at H
  exact am_go_blk 4 (Hr78 a1 a2 a3 a4 (s1 + s0) (a8 + (nI 1)) w H)
theorem T_Mod_odds_78 {D : Nat} {o : Int64 × am_W} {r78 : Int32 → Int32 → Int32 → Int32 → Int64 → Int32 → am_W → Option (Int64 × am_W)} (Hr78 : ∀ (a1 : Int32) (a2 : Int32) (a3 : Int32) (a4 : Int32) (a6 : Int64) (a8 : Int32) (w : am_W) , r78 a1 a2 a3 a4 a6 a8 w = some o → am_gj (D + 8) 232 o (78, [(0, .ref 53), (1, .int a1), (2, .int a2), (3, .int a3), (4, .int a4), (6, .long a6), (8, .int a8)], [], ww w, 0, 0)) (a1 : Int32) (a2 : Int32) (a3 : Int32) (a4 : Int32) (a6 : Int64) (a8 : Int32) (w : am_W) (H : F_Mod_odds_78 r78 a1 a2 a3 a4 a6 a8 w = some o) : am_gj (D + 8) 232 o (78, [(0, .ref 53), (1, .int a1), (2, .int a2), (3, .int a3), (4, .int a4), (6, .long a6), (8, .int a8)], [], ww w, 0, 0) := by
  unfold F_Mod_odds_78 at H
  refine am_go_blk 3 ⟨fun hc => ?_, fun hc => ?_⟩
  · have H := am_it hc H
    show am_gj (D + 8) 232 o (128, [(2, .int a2), (4, .int a4), (6, .long a6)], [], ww w, 0, 0)
    obtain ⟨q2, hqq2, H⟩ := am_bnE H
    refine am_go_blk 4 (?_ : am_gj (D + 8) 232 o (134, [(2, .int a2), (4, .int a4), (6, .long a6)], [.int a4, .long a2.toInt64, .long a6], ww w, 0, 0))
    refine am_cls rfl rfl rfl (am_callj rfl (M_Mod_lowest (D := D + 7) hqq2) (?_ : am_gj (D + 8) 232 o (137, [(2, .int a2), (4, .int a4), (6, .long a6)], [.long q2.1], ww q2.2, 0, 0)))
    exact am_go_blk 1 (am_fj H)
  · have H := am_ie hc H
    show am_gj (D + 8) 232 o (84, [(0, .ref 53), (1, .int a1), (2, .int a2), (3, .int a3), (4, .int a4), (6, .long a6), (8, .int a8)], [], ww w, 0, 0)
    obtain ⟨w3, hqw3, H⟩ := am_bnE H
    refine am_go_blk 4 (?_ : am_gj (D + 8) 232 o (89, [(0, .ref 53), (1, .int a1), (2, .int a2), (3, .int a3), (4, .int a4), (6, .long a6), (8, .int a8)], [.int (a1 + a8), .ref 53], ww w, 0, 0))
    refine am_invd rfl rfl rfl rfl (am_callv rfl (M_Mod_livesBy (D := D) hqw3) (?_ : am_gj (D + 8) 232 o (92, [(0, .ref 53), (1, .int a1), (2, .int a2), (3, .int a3), (4, .int a4), (6, .long a6), (8, .int a8)], [], ww w3, 0, 0)))
    refine am_go_blk 6 ⟨by decide, (?_ : am_gj (D + 8) 232 o (102, [(0, .ref 53), (1, .int a1), (2, .int a2), (3, .int a3), (4, .int a4), (6, .long a6), (8, .int a8)], [.int (a3 / (nI 100)), .ref 72, .long a6], ww w3, 0, 0))⟩
    obtain ⟨hc, H⟩ := am_ckE H
    refine am_go_blk 1 ⟨am_inv hc, (?_ : am_gj (D + 8) 232 o (103, [(0, .ref 53), (1, .int a1), (2, .int a2), (3, .int a3), (4, .int a4), (6, .long a6), (8, .int a8)], [.int (w3.1 72 (a3 / (nI 100)).toNatClampNeg), .long a6], ww w3, 0, 0))⟩
    refine am_go_blk 4 ⟨by decide, (?_ : am_gj (D + 8) 232 o (108, [(0, .ref 53), (1, .int a1), (2, .int a2), (3, .int a3), (4, .int a4), (6, .long a6), (8, .int a8)], [.int (a3 - a3 / (nI 100) * (nI 100)), .int (nI 0), .int (w3.1 72 (a3 / (nI 100)).toNatClampNeg), .long a6], ww w3, 0, 0))⟩
    obtain ⟨q4, hqq4, H⟩ := am_bnE H
    refine am_cls rfl rfl rfl (am_calli rfl (M_Mod_in (D := D + 7) hqq4) (?_ : am_gj (D + 8) 232 o (111, [(0, .ref 53), (1, .int a1), (2, .int a2), (3, .int a3), (4, .int a4), (6, .long a6), (8, .int a8)], [.int q4.1, .long a6], ww q4.2, 0, 0)))
    refine am_go_blk 1 ⟨fun hc => ?_, fun hc => ?_⟩
    · have H := am_it hc H
      show am_gj (D + 8) 232 o (118, [(0, .ref 53), (1, .int a1), (2, .int a2), (3, .int a3), (4, .int a4), (8, .int a8)], [.long a6], ww q4.2, 0, 0)
      exact am_go_blk 1 (T_Mod_odds_119 Hr78 a1 a2 a3 a4 a8 (lN 0) a6 q4.2 H)
    · have H := am_ie hc H
      show am_gj (D + 8) 232 o (114, [(0, .ref 53), (1, .int a1), (2, .int a2), (3, .int a3), (4, .int a4), (6, .long a6), (8, .int a8)], [.long a6], ww q4.2, 0, 0)
      exact am_go_blk 2 (T_Mod_odds_119 Hr78 a1 a2 a3 a4 a8 (lN 1) a6 q4.2 H)
theorem TL_Mod_odds_78 {D : Nat} {o : Int64 × am_W} : ∀ (n : Nat) (a1 : Int32) (a2 : Int32) (a3 : Int32) (a4 : Int32) (a6 : Int64) (a8 : Int32) (w : am_W) , L_Mod_odds_78 n a1 a2 a3 a4 a6 a8 w = some o → am_gj (D + 8) 232 o (78, [(0, .ref 53), (1, .int a1), (2, .int a2), (3, .int a3), (4, .int a4), (6, .long a6), (8, .int a8)], [], ww w, 0, 0)
  | 0, _, _, _, _, _, _, _, H => by cases H
  | n + 1, a1, a2, a3, a4, a6, a8, w, H => T_Mod_odds_78 (TL_Mod_odds_78 n) a1 a2 a3 a4 a6 a8 w H
theorem T_Mod_odds_61 {D : Nat} {o : Int64 × am_W} (a1 : Int32) (a2 : Int32) (a3 : Int32) (a4 : Int32) (s0 : Int32) (w : am_W) (H : F_Mod_odds_61 a1 a2 a3 a4 s0 w = some o) : am_gj (D + 8) 232 o (61, [(0, .ref 53), (1, .int a1), (2, .int a2), (3, .int a3), (4, .int a4)], [.int s0], ww w, 0, 0) := by
  unfold F_Mod_odds_61 at H
  refine am_go_blk 3 ⟨fun hc => ?_, fun hc => ?_⟩
  · have H := am_ie hc H
    show am_gj (D + 8) 232 o (72, [(0, .ref 53), (1, .int a1), (2, .int a2), (3, .int a3), (4, .int a4)], [], ww w, 0, 0)
    exact am_go_blk 4 (TL_Mod_odds_78 am_NF a1 a2 a3 a4 (lN 0) (nI 0) w H)
  · have H := am_it hc H
    show am_gj (D + 8) 232 o (68, [(5, .int s0), (0, .ref 53), (1, .int a1), (2, .int a2), (3, .int a3), (4, .int a4)], [], ww w, 0, 0)
    exact am_go_blk 2 (am_fj H)
theorem T_Mod_odds_60 {D : Nat} {o : Int64 × am_W} (a1 : Int32) (a2 : Int32) (a3 : Int32) (a4 : Int32) (w : am_W) (H : F_Mod_odds_60 a1 a2 a3 a4 w = some o) : am_gj (D + 8) 232 o (60, [(0, .ref 53), (1, .int a1), (2, .int a2), (3, .int a3), (4, .int a4)], [], ww w, 0, 0) := by
  unfold F_Mod_odds_60 at H
  exact am_go_blk 1 (T_Mod_odds_61 a1 a2 a3 a4 (nI 0) w H)
theorem T_Mod_odds {D : Nat} {o : Int64 × am_W} (a1 : Int32) (a2 : Int32) (a3 : Int32) (a4 : Int32) (w : am_W) (H : F_Mod_odds a1 a2 a3 a4 w = some o) : am_gj (D + 8) 232 o (0, [(0, .ref 53), (1, .int a1), (2, .int a2), (3, .int a3), (4, .int a4)], [], ww w, 0, 0) := by
  unfold F_Mod_odds at H
  obtain ⟨q1, hqq1, H⟩ := am_bnE H
  refine am_go_blk 3 (?_ : am_gj (D + 8) 232 o (5, [(0, .ref 53), (1, .int a1), (2, .int a2), (3, .int a3), (4, .int a4)], [.int (nI 99999), .int (nI 0), .int a1], ww w, 0, 0))
  refine am_cls rfl rfl rfl (am_calli rfl (M_Mod_in (D := D + 7) hqq1) (?_ : am_gj (D + 8) 232 o (8, [(0, .ref 53), (1, .int a1), (2, .int a2), (3, .int a3), (4, .int a4)], [.int q1.1], ww q1.2, 0, 0)))
  refine am_go_blk 1 ⟨fun hc => ?_, fun hc => ?_⟩
  · have H := am_it hc H
    exact T_Mod_odds_60 a1 a2 a3 a4 q1.2 H
  · have H := am_ie hc H
    show am_gj (D + 8) 232 o (11, [(0, .ref 53), (1, .int a1), (2, .int a2), (3, .int a3), (4, .int a4)], [], ww q1.2, 0, 0)
    obtain ⟨q5, hqq5, H⟩ := am_bnE H
    refine am_go_blk 3 (?_ : am_gj (D + 8) 232 o (15, [(0, .ref 53), (1, .int a1), (2, .int a2), (3, .int a3), (4, .int a4)], [.int (nI 40), .int (nI 1), .int a2], ww q1.2, 0, 0))
    refine am_cls rfl rfl rfl (am_calli rfl (M_Mod_in (D := D + 7) hqq5) (?_ : am_gj (D + 8) 232 o (18, [(0, .ref 53), (1, .int a1), (2, .int a2), (3, .int a3), (4, .int a4)], [.int q5.1], ww q5.2, 0, 0)))
    refine am_go_blk 1 ⟨fun hc => ?_, fun hc => ?_⟩
    · have H := am_it hc H
      exact T_Mod_odds_60 a1 a2 a3 a4 q5.2 H
    · have H := am_ie hc H
      show am_gj (D + 8) 232 o (21, [(0, .ref 53), (1, .int a1), (2, .int a2), (3, .int a3), (4, .int a4)], [], ww q5.2, 0, 0)
      refine am_go_blk 2 ⟨fun hc => ?_, fun hc => ?_⟩
      · have H := am_it hc H
        exact T_Mod_odds_60 a1 a2 a3 a4 q5.2 H
      · have H := am_ie hc H
        show am_gj (D + 8) 232 o (25, [(0, .ref 53), (1, .int a1), (2, .int a2), (3, .int a3), (4, .int a4)], [], ww q5.2, 0, 0)
        refine am_go_blk 4 ⟨by decide, (?_ : am_gj (D + 8) 232 o (30, [(0, .ref 53), (1, .int a1), (2, .int a2), (3, .int a3), (4, .int a4)], [.int (a3 / (nI 100)), .ref 53], ww q5.2, 0, 0))⟩
        obtain ⟨q6, hqq6, H⟩ := am_bnE H
        refine am_invd rfl rfl rfl rfl (am_calli rfl (M_Mod_isThing (D := D + 6) hqq6) (?_ : am_gj (D + 8) 232 o (33, [(0, .ref 53), (1, .int a1), (2, .int a2), (3, .int a3), (4, .int a4)], [.int q6.1], ww q6.2, 0, 0)))
        refine am_go_blk 1 ⟨fun hc => ?_, fun hc => ?_⟩
        · have H := am_it hc H
          exact T_Mod_odds_60 a1 a2 a3 a4 q6.2 H
        · have H := am_ie hc H
          show am_gj (D + 8) 232 o (36, [(0, .ref 53), (1, .int a1), (2, .int a2), (3, .int a3), (4, .int a4)], [], ww q6.2, 0, 0)
          refine am_go_blk 3 ⟨by decide, (?_ : am_gj (D + 8) 232 o (40, [(0, .ref 53), (1, .int a1), (2, .int a2), (3, .int a3), (4, .int a4)], [.int (a3 - a3 / (nI 100) * (nI 100))], ww q6.2, 0, 0))⟩
          obtain ⟨q7, hqq7, H⟩ := am_bnE H
          refine am_cls rfl rfl rfl (am_calli rfl (M_Mod_isHour (D := D + 6) hqq7) (?_ : am_gj (D + 8) 232 o (43, [(0, .ref 53), (1, .int a1), (2, .int a2), (3, .int a3), (4, .int a4)], [.int q7.1], ww q7.2, 0, 0)))
          refine am_go_blk 1 ⟨fun hc => ?_, fun hc => ?_⟩
          · have H := am_it hc H
            exact T_Mod_odds_60 a1 a2 a3 a4 q7.2 H
          · have H := am_ie hc H
            show am_gj (D + 8) 232 o (46, [(0, .ref 53), (1, .int a1), (2, .int a2), (3, .int a3), (4, .int a4)], [], ww q7.2, 0, 0)
            obtain ⟨q8, hqq8, H⟩ := am_bnE H
            refine am_go_blk 3 (?_ : am_gj (D + 8) 232 o (50, [(0, .ref 53), (1, .int a1), (2, .int a2), (3, .int a3), (4, .int a4)], [.int (nI 1), .int (nI 0), .int a4], ww q7.2, 0, 0))
            refine am_cls rfl rfl rfl (am_calli rfl (M_Mod_in (D := D + 7) hqq8) (?_ : am_gj (D + 8) 232 o (53, [(0, .ref 53), (1, .int a1), (2, .int a2), (3, .int a3), (4, .int a4)], [.int q8.1], ww q8.2, 0, 0)))
            refine am_go_blk 1 ⟨fun hc => ?_, fun hc => ?_⟩
            · have H := am_it hc H
              exact T_Mod_odds_60 a1 a2 a3 a4 q8.2 H
            · have H := am_ie hc H
              show am_gj (D + 8) 232 o (56, [(0, .ref 53), (1, .int a1), (2, .int a2), (3, .int a3), (4, .int a4)], [], ww q8.2, 0, 0)
              exact am_go_blk 2 (T_Mod_odds_61 a1 a2 a3 a4 (nI 1) q8.2 H)
theorem M_Mod_odds {D : Nat} {o : Int64 × am_W} {a1 : Int32} {a2 : Int32} {a3 : Int32} {a4 : Int32} {w : am_W} (H : F_Mod_odds a1 a2 a3 a4 w = some o) : am_run (D + 9) 232 [.ref 53, .int a1, .int a2, .int a3, .int a4] (ww w) (some (.long o.1)) (ww o.2) 0 0 :=
  am_run_of rfl (T_Mod_odds a1 a2 a3 a4 w H)
def F_Mod_image_73 (r73 : Int32 → am_W → Option (Int32 × am_W)) (a1 : Int32) (w : am_W) : Option (Int32 × am_W) :=
  if (nI 30) ≤ a1 then (some ((w.1 53 0), w)) else (am_ck (am_in a1 30) (am_ck (am_in ((nI 8) + a1) 38) (am_lt (wst w 61 ((nI 8) + a1) (w.1 57 a1.toNatClampNeg)) fun w7 => r73 (a1 + (nI 1)) w7)))
def L_Mod_image_73 : Nat → Int32 → am_W → Option (Int32 × am_W)
  | 0, _, _ => none
  | n + 1, a1, w => F_Mod_image_73 (L_Mod_image_73 n) a1 w
def F_Mod_image_47 (r47 : Int32 → am_W → Option (Int32 × am_W)) (a1 : Int32) (w : am_W) : Option (Int32 × am_W) :=
  if (nI 8) ≤ a1 then (L_Mod_image_73 am_NF (nI 0) w) else (am_ck (am_in a1 8) (am_ck (am_in a1 38) (am_lt (wst w 61 a1 (w.1 56 a1.toNatClampNeg)) fun w8 => r47 (a1 + (nI 1)) w8)))
def L_Mod_image_47 : Nat → Int32 → am_W → Option (Int32 × am_W)
  | 0, _, _ => none
  | n + 1, a1, w => F_Mod_image_47 (L_Mod_image_47 n) a1 w
def F_Mod_image (w : am_W) : Option (Int32 × am_W) :=
  am_lt (wsf w 53 14 (nI 1)) fun w1 => am_lt (wsf w1 53 15 (w1.1 53 0)) fun w2 => am_lt (wsf w2 53 16 (w2.1 53 5)) fun w3 => am_lt (wsf w3 53 17 (w3.1 53 4)) fun w4 => am_lt (wsf w4 53 18 (w4.1 53 7)) fun w5 => am_lt (wsf w5 53 19 (w5.1 53 13)) fun w6 => L_Mod_image_47 am_NF (nI 0) w6
theorem T_Mod_image_73 {D : Nat} {o : Int32 × am_W} {r73 : Int32 → am_W → Option (Int32 × am_W)} (Hr73 : ∀ (a1 : Int32) (w : am_W) , r73 a1 w = some o → am_gi D 233 o (73, [(0, .ref 53), (1, .int a1)], [], ww w, 0, 0)) (a1 : Int32) (w : am_W) (H : F_Mod_image_73 r73 a1 w = some o) : am_gi D 233 o (73, [(0, .ref 53), (1, .int a1)], [], ww w, 0, 0) := by
  unfold F_Mod_image_73 at H
  refine am_go_blk 3 ⟨fun hc => ?_, fun hc => ?_⟩
  · have H := am_it hc H
    show am_gi D 233 o (100, [(0, .ref 53)], [], ww w, 0, 0)
    exact am_go_blk 3 ⟨rfl, am_fi H⟩
  · have H := am_ie hc H
    show am_gi D 233 o (79, [(0, .ref 53), (1, .int a1)], [], ww w, 0, 0)
    obtain ⟨hc, H⟩ := am_ckE H
    refine am_go_blk 9 ⟨am_inv hc, (?_ : am_gi D 233 o (93, [(0, .ref 53), (1, .int a1)], [.int (w.1 57 a1.toNatClampNeg), .int ((nI 8) + a1), .ref 61], ww w, 0, 0))⟩
    obtain ⟨hc, H⟩ := am_ckE H
    obtain ⟨w7, ew7, H⟩ := am_ltE H
    refine am_go_blk 1 ⟨am_inv hc, am_hp (ww_s61 ew7) (?_ : am_gi D 233 o (94, [(0, .ref 53), (1, .int a1)], [], ww w7, 0, 0))⟩
    exact am_go_blk 2 (Hr73 (a1 + (nI 1)) w7 H)
theorem TL_Mod_image_73 {D : Nat} {o : Int32 × am_W} : ∀ (n : Nat) (a1 : Int32) (w : am_W) , L_Mod_image_73 n a1 w = some o → am_gi D 233 o (73, [(0, .ref 53), (1, .int a1)], [], ww w, 0, 0)
  | 0, _, _, H => by cases H
  | n + 1, a1, w, H => T_Mod_image_73 (TL_Mod_image_73 n) a1 w H
theorem T_Mod_image_47 {D : Nat} {o : Int32 × am_W} {r47 : Int32 → am_W → Option (Int32 × am_W)} (Hr47 : ∀ (a1 : Int32) (w : am_W) , r47 a1 w = some o → am_gi D 233 o (47, [(0, .ref 53), (1, .int a1)], [], ww w, 0, 0)) (a1 : Int32) (w : am_W) (H : F_Mod_image_47 r47 a1 w = some o) : am_gi D 233 o (47, [(0, .ref 53), (1, .int a1)], [], ww w, 0, 0) := by
  unfold F_Mod_image_47 at H
  refine am_go_blk 3 ⟨fun hc => ?_, fun hc => ?_⟩
  · have H := am_it hc H
    show am_gi D 233 o (71, [(0, .ref 53)], [], ww w, 0, 0)
    exact am_go_blk 2 (TL_Mod_image_73 am_NF (nI 0) w H)
  · have H := am_ie hc H
    show am_gi D 233 o (53, [(0, .ref 53), (1, .int a1)], [], ww w, 0, 0)
    obtain ⟨hc, H⟩ := am_ckE H
    refine am_go_blk 7 ⟨am_inv hc, (?_ : am_gi D 233 o (64, [(0, .ref 53), (1, .int a1)], [.int (w.1 56 a1.toNatClampNeg), .int a1, .ref 61], ww w, 0, 0))⟩
    obtain ⟨hc, H⟩ := am_ckE H
    obtain ⟨w8, ew8, H⟩ := am_ltE H
    refine am_go_blk 1 ⟨am_inv hc, am_hp (ww_s61 ew8) (?_ : am_gi D 233 o (65, [(0, .ref 53), (1, .int a1)], [], ww w8, 0, 0))⟩
    exact am_go_blk 2 (Hr47 (a1 + (nI 1)) w8 H)
theorem TL_Mod_image_47 {D : Nat} {o : Int32 × am_W} : ∀ (n : Nat) (a1 : Int32) (w : am_W) , L_Mod_image_47 n a1 w = some o → am_gi D 233 o (47, [(0, .ref 53), (1, .int a1)], [], ww w, 0, 0)
  | 0, _, _, H => by cases H
  | n + 1, a1, w, H => T_Mod_image_47 (TL_Mod_image_47 n) a1 w H
theorem T_Mod_image {D : Nat} {o : Int32 × am_W} (w : am_W) (H : F_Mod_image w = some o) : am_gi D 233 o (0, [(0, .ref 53)], [], ww w, 0, 0) := by
  unfold F_Mod_image at H
  obtain ⟨w1, ew1, H⟩ := am_ltE H
  refine am_go_blk 3 ⟨rfl, rfl, am_hp (ww_f53_14 ew1) (?_ : am_gi D 233 o (5, [(0, .ref 53)], [], ww w1, 0, 0))⟩
  obtain ⟨w2, ew2, H⟩ := am_ltE H
  refine am_go_blk 4 ⟨rfl, rfl, am_hp (ww_f53_15 ew2) (?_ : am_gi D 233 o (13, [(0, .ref 53)], [], ww w2, 0, 0))⟩
  obtain ⟨w3, ew3, H⟩ := am_ltE H
  refine am_go_blk 4 ⟨rfl, rfl, am_hp (ww_f53_16 ew3) (?_ : am_gi D 233 o (21, [(0, .ref 53)], [], ww w3, 0, 0))⟩
  obtain ⟨w4, ew4, H⟩ := am_ltE H
  refine am_go_blk 4 ⟨rfl, rfl, am_hp (ww_f53_17 ew4) (?_ : am_gi D 233 o (29, [(0, .ref 53)], [], ww w4, 0, 0))⟩
  obtain ⟨w5, ew5, H⟩ := am_ltE H
  refine am_go_blk 4 ⟨rfl, rfl, am_hp (ww_f53_18 ew5) (?_ : am_gi D 233 o (37, [(0, .ref 53)], [], ww w5, 0, 0))⟩
  obtain ⟨w6, ew6, H⟩ := am_ltE H
  refine am_go_blk 4 ⟨rfl, rfl, am_hp (ww_f53_19 ew6) (?_ : am_gi D 233 o (45, [(0, .ref 53)], [], ww w6, 0, 0))⟩
  exact am_go_blk 2 (TL_Mod_image_47 am_NF (nI 0) w6 H)
theorem M_Mod_image {D : Nat} {o : Int32 × am_W} {w : am_W} (H : F_Mod_image w = some o) : am_run (D + 1) 233 [.ref 53] (ww w) (some (.int o.1)) (ww o.2) 0 0 :=
  am_run_of rfl (T_Mod_image w H)
def F_Mod_back_78 (r78 : Int32 → am_W → Option (Int32 × am_W)) (a1 : Int32) (w : am_W) : Option (Int32 × am_W) :=
  if (nI 30) ≤ a1 then (some ((w.1 53 0), w)) else (am_ck (am_in ((nI 8) + a1) 38) (am_ck (am_in a1 30) (am_lt (wst w 57 a1 (w.1 61 ((nI 8) + a1).toNatClampNeg)) fun w6 => r78 (a1 + (nI 1)) w6)))
def L_Mod_back_78 : Nat → Int32 → am_W → Option (Int32 × am_W)
  | 0, _, _ => none
  | n + 1, a1, w => F_Mod_back_78 (L_Mod_back_78 n) a1 w
def F_Mod_back_52 (r52 : Int32 → am_W → Option (Int32 × am_W)) (a1 : Int32) (w : am_W) : Option (Int32 × am_W) :=
  if (nI 8) ≤ a1 then (L_Mod_back_78 am_NF (nI 0) w) else (am_ck (am_in a1 38) (am_ck (am_in a1 8) (am_lt (wst w 56 a1 (w.1 61 a1.toNatClampNeg)) fun w7 => r52 (a1 + (nI 1)) w7)))
def L_Mod_back_52 : Nat → Int32 → am_W → Option (Int32 × am_W)
  | 0, _, _ => none
  | n + 1, a1, w => F_Mod_back_52 (L_Mod_back_52 n) a1 w
def F_Mod_back (w : am_W) : Option (Int32 × am_W) :=
  if (w.1 53 14) = 0 then (some ((-nI 3), w)) else (am_lt (wsf w 53 0 (w.1 53 15)) fun w1 => am_lt (wsf w1 53 5 (w1.1 53 16)) fun w2 => am_lt (wsf w2 53 4 (w2.1 53 17)) fun w3 => am_lt (wsf w3 53 7 (w3.1 53 18)) fun w4 => am_lt (wsf w4 53 13 (w4.1 53 19)) fun w5 => L_Mod_back_52 am_NF (nI 0) w5)
theorem T_Mod_back_78 {D : Nat} {o : Int32 × am_W} {r78 : Int32 → am_W → Option (Int32 × am_W)} (Hr78 : ∀ (a1 : Int32) (w : am_W) , r78 a1 w = some o → am_gi D 234 o (78, [(0, .ref 53), (1, .int a1)], [], ww w, 0, 0)) (a1 : Int32) (w : am_W) (H : F_Mod_back_78 r78 a1 w = some o) : am_gi D 234 o (78, [(0, .ref 53), (1, .int a1)], [], ww w, 0, 0) := by
  unfold F_Mod_back_78 at H
  refine am_go_blk 3 ⟨fun hc => ?_, fun hc => ?_⟩
  · have H := am_it hc H
    show am_gi D 234 o (105, [(0, .ref 53)], [], ww w, 0, 0)
    exact am_go_blk 3 ⟨rfl, am_fi H⟩
  · have H := am_ie hc H
    show am_gi D 234 o (84, [(0, .ref 53), (1, .int a1)], [], ww w, 0, 0)
    obtain ⟨hc, H⟩ := am_ckE H
    refine am_go_blk 9 ⟨am_inv hc, (?_ : am_gi D 234 o (98, [(0, .ref 53), (1, .int a1)], [.int (w.1 61 ((nI 8) + a1).toNatClampNeg), .int a1, .ref 57], ww w, 0, 0))⟩
    obtain ⟨hc, H⟩ := am_ckE H
    obtain ⟨w6, ew6, H⟩ := am_ltE H
    refine am_go_blk 1 ⟨am_inv hc, am_hp (ww_s57 ew6) (?_ : am_gi D 234 o (99, [(0, .ref 53), (1, .int a1)], [], ww w6, 0, 0))⟩
    exact am_go_blk 2 (Hr78 (a1 + (nI 1)) w6 H)
theorem TL_Mod_back_78 {D : Nat} {o : Int32 × am_W} : ∀ (n : Nat) (a1 : Int32) (w : am_W) , L_Mod_back_78 n a1 w = some o → am_gi D 234 o (78, [(0, .ref 53), (1, .int a1)], [], ww w, 0, 0)
  | 0, _, _, H => by cases H
  | n + 1, a1, w, H => T_Mod_back_78 (TL_Mod_back_78 n) a1 w H
theorem T_Mod_back_52 {D : Nat} {o : Int32 × am_W} {r52 : Int32 → am_W → Option (Int32 × am_W)} (Hr52 : ∀ (a1 : Int32) (w : am_W) , r52 a1 w = some o → am_gi D 234 o (52, [(0, .ref 53), (1, .int a1)], [], ww w, 0, 0)) (a1 : Int32) (w : am_W) (H : F_Mod_back_52 r52 a1 w = some o) : am_gi D 234 o (52, [(0, .ref 53), (1, .int a1)], [], ww w, 0, 0) := by
  unfold F_Mod_back_52 at H
  refine am_go_blk 3 ⟨fun hc => ?_, fun hc => ?_⟩
  · have H := am_it hc H
    show am_gi D 234 o (76, [(0, .ref 53)], [], ww w, 0, 0)
    exact am_go_blk 2 (TL_Mod_back_78 am_NF (nI 0) w H)
  · have H := am_ie hc H
    show am_gi D 234 o (58, [(0, .ref 53), (1, .int a1)], [], ww w, 0, 0)
    obtain ⟨hc, H⟩ := am_ckE H
    refine am_go_blk 7 ⟨am_inv hc, (?_ : am_gi D 234 o (69, [(0, .ref 53), (1, .int a1)], [.int (w.1 61 a1.toNatClampNeg), .int a1, .ref 56], ww w, 0, 0))⟩
    obtain ⟨hc, H⟩ := am_ckE H
    obtain ⟨w7, ew7, H⟩ := am_ltE H
    refine am_go_blk 1 ⟨am_inv hc, am_hp (ww_s56 ew7) (?_ : am_gi D 234 o (70, [(0, .ref 53), (1, .int a1)], [], ww w7, 0, 0))⟩
    exact am_go_blk 2 (Hr52 (a1 + (nI 1)) w7 H)
theorem TL_Mod_back_52 {D : Nat} {o : Int32 × am_W} : ∀ (n : Nat) (a1 : Int32) (w : am_W) , L_Mod_back_52 n a1 w = some o → am_gi D 234 o (52, [(0, .ref 53), (1, .int a1)], [], ww w, 0, 0)
  | 0, _, _, H => by cases H
  | n + 1, a1, w, H => T_Mod_back_52 (TL_Mod_back_52 n) a1 w H
theorem T_Mod_back {D : Nat} {o : Int32 × am_W} (w : am_W) (H : F_Mod_back w = some o) : am_gi D 234 o (0, [(0, .ref 53)], [], ww w, 0, 0) := by
  unfold F_Mod_back at H
  refine am_go_blk 3 ⟨fun hc => ?_, fun hc => ?_⟩
  · have H := am_ie hc H
    show am_gi D 234 o (10, [(0, .ref 53)], [], ww w, 0, 0)
    obtain ⟨w1, ew1, H⟩ := am_ltE H
    refine am_go_blk 4 ⟨rfl, rfl, am_hp (ww_f53_0 ew1) (?_ : am_gi D 234 o (18, [(0, .ref 53)], [], ww w1, 0, 0))⟩
    obtain ⟨w2, ew2, H⟩ := am_ltE H
    refine am_go_blk 4 ⟨rfl, rfl, am_hp (ww_f53_5 ew2) (?_ : am_gi D 234 o (26, [(0, .ref 53)], [], ww w2, 0, 0))⟩
    obtain ⟨w3, ew3, H⟩ := am_ltE H
    refine am_go_blk 4 ⟨rfl, rfl, am_hp (ww_f53_4 ew3) (?_ : am_gi D 234 o (34, [(0, .ref 53)], [], ww w3, 0, 0))⟩
    obtain ⟨w4, ew4, H⟩ := am_ltE H
    refine am_go_blk 4 ⟨rfl, rfl, am_hp (ww_f53_7 ew4) (?_ : am_gi D 234 o (42, [(0, .ref 53)], [], ww w4, 0, 0))⟩
    obtain ⟨w5, ew5, H⟩ := am_ltE H
    refine am_go_blk 4 ⟨rfl, rfl, am_hp (ww_f53_13 ew5) (?_ : am_gi D 234 o (50, [(0, .ref 53)], [], ww w5, 0, 0))⟩
    exact am_go_blk 2 (TL_Mod_back_52 am_NF (nI 0) w5 H)
  · have H := am_it hc H
    show am_gi D 234 o (7, [(0, .ref 53)], [], ww w, 0, 0)
    exact am_go_blk 2 ⟨rfl, am_fi H⟩
theorem M_Mod_back {D : Nat} {o : Int32 × am_W} {w : am_W} (H : F_Mod_back w = some o) : am_run (D + 1) 234 [.ref 53] (ww w) (some (.int o.1)) (ww o.2) 0 0 :=
  am_run_of rfl (T_Mod_back w H)
def F_Mod_sheet_29 (w : am_W) : Option (Int32 × am_W) :=
  some ((-nI 2), w)
def F_Mod_sheet_70 (r70 : Int32 → Int32 → am_W → Option (Int32 × am_W)) (a1 : Int32) (a4 : Int32) (w : am_W) : Option (Int32 × am_W) :=
  if (nI 40) ≤ a4 then (some ((nI 1), w)) else (am_ck (am_in (((nI 40) * a1) + a4) 160) (am_lt (wst w 64 (((nI 40) * a1) + a4) (nI 0)) fun w5 => r70 a1 (a4 + (nI 1)) w5))
def L_Mod_sheet_70 : Nat → Int32 → Int32 → am_W → Option (Int32 × am_W)
  | 0, _, _, _ => none
  | n + 1, a1, a4, w => F_Mod_sheet_70 (L_Mod_sheet_70 n) a1 a4 w
def F_Mod_sheet_66 (a1 : Int32) (s0 : Int32) (s1 : Int32) (w : am_W) : Option (Int32 × am_W) :=
  am_ck (am_in s1 4) (am_lt (wst w 63 s1 s0) fun w4 => L_Mod_sheet_70 am_NF a1 (nI 0) w4)
def F_Mod_sheet_44 (a1 : Int32) (a2 : Int32) (a3 : Int32) (w : am_W) : Option (Int32 × am_W) :=
  am_ck (am_in a1 4) (am_lt (wst w 62 a1 a2) fun w3 => if a2 = (-nI 1) then (F_Mod_sheet_66 a1 (nI 0) a1 w3) else (F_Mod_sheet_66 a1 a3 a1 w3))
def F_Mod_sheet_32 (a1 : Int32) (a2 : Int32) (a3 : Int32) (w : am_W) : Option (Int32 × am_W) :=
  if a2 = (-nI 1) then (F_Mod_sheet_44 a1 a2 a3 w) else (if 0 ≤ a3 then (F_Mod_sheet_44 a1 a2 a3 w) else (some ((-nI 14), w)))
def F_Mod_sheet (a1 : Int32) (a2 : Int32) (a3 : Int32) (w : am_W) : Option (Int32 × am_W) :=
  (F_Mod_in a1 (nI 0) (nI 3) w).bind fun q1 => if q1.1 = 0 then (F_Mod_sheet_29 q1.2) else ((F_Mod_in a2 (-nI 1) (nI 2) q1.2).bind fun q2 => if q2.1 = 0 then (F_Mod_sheet_29 q2.2) else (if a2 = (-nI 1) then (F_Mod_sheet_32 a1 a2 a3 q2.2) else (if a3 ≤ (nI 40) then (F_Mod_sheet_32 a1 a2 a3 q2.2) else (F_Mod_sheet_29 q2.2))))
theorem T_Mod_sheet_29 {D : Nat} {o : Int32 × am_W} (w : am_W) (H : F_Mod_sheet_29 w = some o) : am_gi (D + 1) 235 o (29, [], [], ww w, 0, 0) := by
  unfold F_Mod_sheet_29 at H
  exact am_go_blk 2 ⟨rfl, am_fi H⟩
theorem T_Mod_sheet_70 {D : Nat} {o : Int32 × am_W} {r70 : Int32 → Int32 → am_W → Option (Int32 × am_W)} (Hr70 : ∀ (a1 : Int32) (a4 : Int32) (w : am_W) , r70 a1 a4 w = some o → am_gi (D + 1) 235 o (70, [(0, .ref 53), (1, .int a1), (4, .int a4)], [], ww w, 0, 0)) (a1 : Int32) (a4 : Int32) (w : am_W) (H : F_Mod_sheet_70 r70 a1 a4 w = some o) : am_gi (D + 1) 235 o (70, [(0, .ref 53), (1, .int a1), (4, .int a4)], [], ww w, 0, 0) := by
  unfold F_Mod_sheet_70 at H
  refine am_go_blk 3 ⟨fun hc => ?_, fun hc => ?_⟩
  · have H := am_it hc H
    show am_gi (D + 1) 235 o (96, [], [], ww w, 0, 0)
    exact am_go_blk 2 ⟨rfl, am_fi H⟩
  · have H := am_ie hc H
    show am_gi (D + 1) 235 o (77, [(0, .ref 53), (1, .int a1), (4, .int a4)], [], ww w, 0, 0)
    obtain ⟨hc, H⟩ := am_ckE H
    obtain ⟨w5, ew5, H⟩ := am_ltE H
    refine am_go_blk 9 ⟨am_inv hc, am_hp (ww_s64 ew5) (?_ : am_gi (D + 1) 235 o (90, [(0, .ref 53), (1, .int a1), (4, .int a4)], [], ww w5, 0, 0))⟩
    exact am_go_blk 2 (Hr70 a1 (a4 + (nI 1)) w5 H)
theorem TL_Mod_sheet_70 {D : Nat} {o : Int32 × am_W} : ∀ (n : Nat) (a1 : Int32) (a4 : Int32) (w : am_W) , L_Mod_sheet_70 n a1 a4 w = some o → am_gi (D + 1) 235 o (70, [(0, .ref 53), (1, .int a1), (4, .int a4)], [], ww w, 0, 0)
  | 0, _, _, _, H => by cases H
  | n + 1, a1, a4, w, H => T_Mod_sheet_70 (TL_Mod_sheet_70 n) a1 a4 w H
theorem T_Mod_sheet_66 {D : Nat} {o : Int32 × am_W} (a1 : Int32) (s0 : Int32) (s1 : Int32) (w : am_W) (H : F_Mod_sheet_66 a1 s0 s1 w = some o) : am_gi (D + 1) 235 o (66, [(0, .ref 53), (1, .int a1)], [.int s0, .int s1, .ref 63], ww w, 0, 0) := by
  unfold F_Mod_sheet_66 at H
  obtain ⟨hc, H⟩ := am_ckE H
  obtain ⟨w4, ew4, H⟩ := am_ltE H
  refine am_go_blk 1 ⟨am_inv hc, am_hp (ww_s63 ew4) (?_ : am_gi (D + 1) 235 o (67, [(0, .ref 53), (1, .int a1)], [], ww w4, 0, 0))⟩
  exact am_go_blk 2 (TL_Mod_sheet_70 am_NF a1 (nI 0) w4 H)
theorem T_Mod_sheet_44 {D : Nat} {o : Int32 × am_W} (a1 : Int32) (a2 : Int32) (a3 : Int32) (w : am_W) (H : F_Mod_sheet_44 a1 a2 a3 w = some o) : am_gi (D + 1) 235 o (44, [(0, .ref 53), (1, .int a1), (2, .int a2), (3, .int a3)], [], ww w, 0, 0) := by
  unfold F_Mod_sheet_44 at H
  obtain ⟨hc, H⟩ := am_ckE H
  obtain ⟨w3, ew3, H⟩ := am_ltE H
  refine am_go_blk 5 ⟨am_inv hc, am_hp (ww_s62 ew3) (?_ : am_gi (D + 1) 235 o (51, [(0, .ref 53), (1, .int a1), (2, .int a2), (3, .int a3)], [], ww w3, 0, 0))⟩
  refine am_go_blk 6 ⟨fun hc => ?_, fun hc => ?_⟩
  · have H := am_ie hc H
    show am_gi (D + 1) 235 o (65, [(0, .ref 53), (1, .int a1), (3, .int a3)], [.int a1, .ref 63], ww w3, 0, 0)
    exact am_go_blk 1 (T_Mod_sheet_66 a1 a3 a1 w3 H)
  · have H := am_it hc H
    show am_gi (D + 1) 235 o (61, [(0, .ref 53), (1, .int a1), (2, .int a2), (3, .int a3)], [.int a1, .ref 63], ww w3, 0, 0)
    exact am_go_blk 2 (T_Mod_sheet_66 a1 (nI 0) a1 w3 H)
theorem T_Mod_sheet_32 {D : Nat} {o : Int32 × am_W} (a1 : Int32) (a2 : Int32) (a3 : Int32) (w : am_W) (H : F_Mod_sheet_32 a1 a2 a3 w = some o) : am_gi (D + 1) 235 o (32, [(0, .ref 53), (1, .int a1), (2, .int a2), (3, .int a3)], [], ww w, 0, 0) := by
  unfold F_Mod_sheet_32 at H
  refine am_go_blk 3 ⟨fun hc => ?_, fun hc => ?_⟩
  · have H := am_it hc H
    exact T_Mod_sheet_44 a1 a2 a3 w H
  · have H := am_ie hc H
    show am_gi (D + 1) 235 o (37, [(0, .ref 53), (1, .int a1), (2, .int a2), (3, .int a3)], [], ww w, 0, 0)
    refine am_go_blk 2 ⟨fun hc => ?_, fun hc => ?_⟩
    · have H := am_it hc H
      exact T_Mod_sheet_44 a1 a2 a3 w H
    · have H := am_ie hc H
      show am_gi (D + 1) 235 o (41, [(0, .ref 53), (1, .int a1), (2, .int a2), (3, .int a3)], [], ww w, 0, 0)
      exact am_go_blk 2 ⟨rfl, am_fi H⟩
theorem T_Mod_sheet {D : Nat} {o : Int32 × am_W} (a1 : Int32) (a2 : Int32) (a3 : Int32) (w : am_W) (H : F_Mod_sheet a1 a2 a3 w = some o) : am_gi (D + 1) 235 o (0, [(0, .ref 53), (1, .int a1), (2, .int a2), (3, .int a3)], [], ww w, 0, 0) := by
  unfold F_Mod_sheet at H
  obtain ⟨q1, hqq1, H⟩ := am_bnE H
  refine am_go_blk 3 (?_ : am_gi (D + 1) 235 o (3, [(0, .ref 53), (1, .int a1), (2, .int a2), (3, .int a3)], [.int (nI 3), .int (nI 0), .int a1], ww w, 0, 0))
  refine am_cls rfl rfl rfl (am_calli rfl (M_Mod_in (D := D) hqq1) (?_ : am_gi (D + 1) 235 o (6, [(0, .ref 53), (1, .int a1), (2, .int a2), (3, .int a3)], [.int q1.1], ww q1.2, 0, 0)))
  refine am_go_blk 1 ⟨fun hc => ?_, fun hc => ?_⟩
  · have H := am_it hc H
    exact T_Mod_sheet_29 q1.2 H
  · have H := am_ie hc H
    show am_gi (D + 1) 235 o (9, [(0, .ref 53), (1, .int a1), (2, .int a2), (3, .int a3)], [], ww q1.2, 0, 0)
    obtain ⟨q2, hqq2, H⟩ := am_bnE H
    refine am_go_blk 3 (?_ : am_gi (D + 1) 235 o (12, [(0, .ref 53), (1, .int a1), (2, .int a2), (3, .int a3)], [.int (nI 2), .int (-nI 1), .int a2], ww q1.2, 0, 0))
    refine am_cls rfl rfl rfl (am_calli rfl (M_Mod_in (D := D) hqq2) (?_ : am_gi (D + 1) 235 o (15, [(0, .ref 53), (1, .int a1), (2, .int a2), (3, .int a3)], [.int q2.1], ww q2.2, 0, 0)))
    refine am_go_blk 1 ⟨fun hc => ?_, fun hc => ?_⟩
    · have H := am_it hc H
      exact T_Mod_sheet_29 q2.2 H
    · have H := am_ie hc H
      show am_gi (D + 1) 235 o (18, [(0, .ref 53), (1, .int a1), (2, .int a2), (3, .int a3)], [], ww q2.2, 0, 0)
      refine am_go_blk 3 ⟨fun hc => ?_, fun hc => ?_⟩
      · have H := am_it hc H
        exact T_Mod_sheet_32 a1 a2 a3 q2.2 H
      · have H := am_ie hc H
        show am_gi (D + 1) 235 o (23, [(0, .ref 53), (1, .int a1), (2, .int a2), (3, .int a3)], [], ww q2.2, 0, 0)
        refine am_go_blk 3 ⟨fun hc => ?_, fun hc => ?_⟩
        · have H := am_it hc H
          exact T_Mod_sheet_32 a1 a2 a3 q2.2 H
        · have H := am_ie hc H
          exact T_Mod_sheet_29 q2.2 H
theorem M_Mod_sheet {D : Nat} {o : Int32 × am_W} {a1 : Int32} {a2 : Int32} {a3 : Int32} {w : am_W} (H : F_Mod_sheet a1 a2 a3 w = some o) : am_run (D + 2) 235 [.ref 53, .int a1, .int a2, .int a3] (ww w) (some (.int o.1)) (ww o.2) 0 0 :=
  am_run_of rfl (T_Mod_sheet a1 a2 a3 w H)
def F_Mod_cell_84 (s0 : Int32) (s1 : Int32) (w : am_W) : Option (Int32 × am_W) :=
  am_ck (am_in s1 160) (am_lt (wst w 64 s1 s0) fun w3 => some ((nI 1), w3))
def F_Mod_cell (a1 : Int32) (a2 : Int32) (a3 : Int32) (w : am_W) : Option (Int32 × am_W) :=
  (F_Mod_in a1 (nI 0) (nI 3) w).bind fun q1 => if q1.1 = 0 then (some ((-nI 2), q1.2)) else (am_ck (am_in a1 4) (if (q1.2.1 62 a1.toNatClampNeg) = (-nI 1) then (some ((-nI 11), q1.2)) else (am_ck (am_in a1 4) ((F_Mod_in a2 (nI 0) ((q1.2.1 63 a1.toNatClampNeg) - (nI 1)) q1.2).bind fun q2 => if q2.1 = 0 then (some ((-nI 12), q2.2)) else (am_ck (am_in a1 4) (if (q2.2.1 62 a1.toNatClampNeg) = 0 then (F_Mod_cell_84 a3.toInt8.toInt32 (((nI 40) * a1) + a2) q2.2) else (am_ck (am_in a1 4) (if (q2.2.1 62 a1.toNatClampNeg) = (nI 1) then (F_Mod_cell_84 a3.toInt16.toInt32 (((nI 40) * a1) + a2) q2.2) else (F_Mod_cell_84 a3 (((nI 40) * a1) + a2) q2.2)))))))))
theorem T_Mod_cell_84 {D : Nat} {o : Int32 × am_W} (s0 : Int32) (s1 : Int32) (w : am_W) (H : F_Mod_cell_84 s0 s1 w = some o) : am_gi (D + 1) 236 o (84, [], [.int s0, .int s1, .ref 64], ww w, 0, 0) := by
  unfold F_Mod_cell_84 at H
  obtain ⟨hc, H⟩ := am_ckE H
  obtain ⟨w3, ew3, H⟩ := am_ltE H
  refine am_go_blk 1 ⟨am_inv hc, am_hp (ww_s64 ew3) (?_ : am_gi (D + 1) 236 o (85, [], [], ww w3, 0, 0))⟩
  exact am_go_blk 2 ⟨rfl, am_fi H⟩
theorem T_Mod_cell {D : Nat} {o : Int32 × am_W} (a1 : Int32) (a2 : Int32) (a3 : Int32) (w : am_W) (H : F_Mod_cell a1 a2 a3 w = some o) : am_gi (D + 1) 236 o (0, [(0, .ref 53), (1, .int a1), (2, .int a2), (3, .int a3)], [], ww w, 0, 0) := by
  unfold F_Mod_cell at H
  obtain ⟨q1, hqq1, H⟩ := am_bnE H
  refine am_go_blk 3 (?_ : am_gi (D + 1) 236 o (3, [(0, .ref 53), (1, .int a1), (2, .int a2), (3, .int a3)], [.int (nI 3), .int (nI 0), .int a1], ww w, 0, 0))
  refine am_cls rfl rfl rfl (am_calli rfl (M_Mod_in (D := D) hqq1) (?_ : am_gi (D + 1) 236 o (6, [(0, .ref 53), (1, .int a1), (2, .int a2), (3, .int a3)], [.int q1.1], ww q1.2, 0, 0)))
  refine am_go_blk 1 ⟨fun hc => ?_, fun hc => ?_⟩
  · have H := am_ie hc H
    show am_gi (D + 1) 236 o (12, [(0, .ref 53), (1, .int a1), (2, .int a2), (3, .int a3)], [], ww q1.2, 0, 0)
    obtain ⟨hc, H⟩ := am_ckE H
    refine am_go_blk 4 ⟨am_inv hc, (?_ : am_gi (D + 1) 236 o (18, [(0, .ref 53), (1, .int a1), (2, .int a2), (3, .int a3)], [.int (q1.2.1 62 a1.toNatClampNeg)], ww q1.2, 0, 0))⟩
    refine am_go_blk 2 ⟨fun hc => ?_, fun hc => ?_⟩
    · have H := am_ie hc H
      show am_gi (D + 1) 236 o (25, [(0, .ref 53), (1, .int a1), (2, .int a2), (3, .int a3)], [], ww q1.2, 0, 0)
      obtain ⟨hc, H⟩ := am_ckE H
      refine am_go_blk 6 ⟨am_inv hc, (?_ : am_gi (D + 1) 236 o (33, [(0, .ref 53), (1, .int a1), (2, .int a2), (3, .int a3)], [.int (q1.2.1 63 a1.toNatClampNeg), .int (nI 0), .int a2], ww q1.2, 0, 0))⟩
      obtain ⟨q2, hqq2, H⟩ := am_bnE H
      refine am_go_blk 2 (?_ : am_gi (D + 1) 236 o (35, [(0, .ref 53), (1, .int a1), (2, .int a2), (3, .int a3)], [.int ((q1.2.1 63 a1.toNatClampNeg) - (nI 1)), .int (nI 0), .int a2], ww q1.2, 0, 0))
      refine am_cls rfl rfl rfl (am_calli rfl (M_Mod_in (D := D) hqq2) (?_ : am_gi (D + 1) 236 o (38, [(0, .ref 53), (1, .int a1), (2, .int a2), (3, .int a3)], [.int q2.1], ww q2.2, 0, 0)))
      refine am_go_blk 1 ⟨fun hc => ?_, fun hc => ?_⟩
      · have H := am_ie hc H
        show am_gi (D + 1) 236 o (44, [(0, .ref 53), (1, .int a1), (2, .int a2), (3, .int a3)], [], ww q2.2, 0, 0)
        obtain ⟨hc, H⟩ := am_ckE H
        refine am_go_blk 11 ⟨am_inv hc, (?_ : am_gi (D + 1) 236 o (60, [(0, .ref 53), (1, .int a1), (2, .int a2), (3, .int a3)], [.int (q2.2.1 62 a1.toNatClampNeg), .int (((nI 40) * a1) + a2), .ref 64], ww q2.2, 0, 0))⟩
        refine am_go_blk 1 ⟨fun hc => ?_, fun hc => ?_⟩
        · have H := am_ie hc H
          show am_gi (D + 1) 236 o (68, [(0, .ref 53), (1, .int a1), (3, .int a3)], [.int (((nI 40) * a1) + a2), .ref 64], ww q2.2, 0, 0)
          obtain ⟨hc, H⟩ := am_ckE H
          refine am_go_blk 4 ⟨am_inv hc, (?_ : am_gi (D + 1) 236 o (74, [(0, .ref 53), (1, .int a1), (3, .int a3)], [.int (q2.2.1 62 a1.toNatClampNeg), .int (((nI 40) * a1) + a2), .ref 64], ww q2.2, 0, 0))⟩
          refine am_go_blk 2 ⟨fun hc => ?_, fun hc => ?_⟩
          · have H := am_ie hc H
            show am_gi (D + 1) 236 o (83, [(3, .int a3)], [.int (((nI 40) * a1) + a2), .ref 64], ww q2.2, 0, 0)
            exact am_go_blk 1 (T_Mod_cell_84 a3 (((nI 40) * a1) + a2) q2.2 H)
          · have H := am_it hc H
            show am_gi (D + 1) 236 o (78, [(0, .ref 53), (1, .int a1), (3, .int a3)], [.int (((nI 40) * a1) + a2), .ref 64], ww q2.2, 0, 0)
            exact am_go_blk 3 (T_Mod_cell_84 a3.toInt16.toInt32 (((nI 40) * a1) + a2) q2.2 H)
        · have H := am_it hc H
          show am_gi (D + 1) 236 o (63, [(0, .ref 53), (1, .int a1), (2, .int a2), (3, .int a3)], [.int (((nI 40) * a1) + a2), .ref 64], ww q2.2, 0, 0)
          exact am_go_blk 3 (T_Mod_cell_84 a3.toInt8.toInt32 (((nI 40) * a1) + a2) q2.2 H)
      · have H := am_it hc H
        show am_gi (D + 1) 236 o (41, [(0, .ref 53), (1, .int a1), (2, .int a2), (3, .int a3)], [], ww q2.2, 0, 0)
        exact am_go_blk 2 ⟨rfl, am_fi H⟩
    · have H := am_it hc H
      show am_gi (D + 1) 236 o (22, [(0, .ref 53), (1, .int a1), (2, .int a2), (3, .int a3)], [], ww q1.2, 0, 0)
      exact am_go_blk 2 ⟨rfl, am_fi H⟩
  · have H := am_it hc H
    show am_gi (D + 1) 236 o (9, [(0, .ref 53), (1, .int a1), (2, .int a2), (3, .int a3)], [], ww q1.2, 0, 0)
    exact am_go_blk 2 ⟨rfl, am_fi H⟩
theorem M_Mod_cell {D : Nat} {o : Int32 × am_W} {a1 : Int32} {a2 : Int32} {a3 : Int32} {w : am_W} (H : F_Mod_cell a1 a2 a3 w = some o) : am_run (D + 2) 236 [.ref 53, .int a1, .int a2, .int a3] (ww w) (some (.int o.1)) (ww o.2) 0 0 :=
  am_run_of rfl (T_Mod_cell a1 a2 a3 w H)
def F_Mod_copy_18 (w : am_W) : Option (Int32 × am_W) :=
  some ((-nI 2), w)
def F_Mod_copy_41 (w : am_W) : Option (Int32 × am_W) :=
  some ((-nI 11), w)
def F_Mod_copy_124 (w : am_W) : Option (Int32 × am_W) :=
  some ((-nI 12), w)
def F_Mod_copy_173 (r147 : Int32 → Int32 → Int32 → Int32 → am_W → Option (Int32 × am_W)) (a5 : Int32) (a6 : Int32) (a7 : Int32) (a8 : Int32) (s0 : Int32) (w : am_W) : Option (Int32 × am_W) :=
  am_ck (am_in (a6 + s0) 160) (am_ck (am_in (a7 + s0) 160) (am_lt (wst w 64 (a7 + s0) (w.1 64 (a6 + s0).toNatClampNeg)) fun w3 => r147 a5 a6 a7 (a8 + (nI 1)) w3))
def F_Mod_copy_147 (r147 : Int32 → Int32 → Int32 → Int32 → am_W → Option (Int32 × am_W)) (a5 : Int32) (a6 : Int32) (a7 : Int32) (a8 : Int32) (w : am_W) : Option (Int32 × am_W) :=
  if a5 ≤ a8 then (some (a5, w)) else (if a7 ≤ a6 then (F_Mod_copy_173 r147 a5 a6 a7 a8 a8 w) else (F_Mod_copy_173 r147 a5 a6 a7 a8 ((a5 - (nI 1)) - a8) w))
def L_Mod_copy_147 : Nat → Int32 → Int32 → Int32 → Int32 → am_W → Option (Int32 × am_W)
  | 0, _, _, _, _, _ => none
  | n + 1, a5, a6, a7, a8, w => F_Mod_copy_147 (L_Mod_copy_147 n) a5 a6 a7 a8 w
def F_Mod_copy (a1 : Int32) (a2 : Int32) (a3 : Int32) (a4 : Int32) (a5 : Int32) (w : am_W) : Option (Int32 × am_W) :=
  (F_Mod_in a1 (nI 0) (nI 3) w).bind fun q1 => if q1.1 = 0 then (F_Mod_copy_18 q1.2) else ((F_Mod_in a3 (nI 0) (nI 3) q1.2).bind fun q2 => if q2.1 = 0 then (F_Mod_copy_18 q2.2) else (am_ck (am_in a1 4) (if (q2.2.1 62 a1.toNatClampNeg) = (-nI 1) then (F_Mod_copy_41 q2.2) else (am_ck (am_in a3 4) (if (q2.2.1 62 a3.toNatClampNeg) = (-nI 1) then (F_Mod_copy_41 q2.2) else (am_ck (am_in a1 4) (am_ck (am_in a3 4) (if (q2.2.1 62 a1.toNatClampNeg) = (q2.2.1 62 a3.toNatClampNeg) then (if a5 < 0 then (F_Mod_copy_124 q2.2) else (if a2 < 0 then (F_Mod_copy_124 q2.2) else (if a4 < 0 then (F_Mod_copy_124 q2.2) else (am_ck (am_in a1 4) (if (q2.2.1 63 a1.toNatClampNeg) < a2 then (F_Mod_copy_124 q2.2) else (am_ck (am_in a3 4) (if (q2.2.1 63 a3.toNatClampNeg) < a4 then (F_Mod_copy_124 q2.2) else (am_ck (am_in a1 4) (if ((q2.2.1 63 a1.toNatClampNeg) - a2) < a5 then (F_Mod_copy_124 q2.2) else (am_ck (am_in a3 4) (if a5 ≤ ((q2.2.1 63 a3.toNatClampNeg) - a4) then (L_Mod_copy_147 am_NF a5 (((nI 40) * a1) + a2) (((nI 40) * a3) + a4) (nI 0) q2.2) else (F_Mod_copy_124 q2.2)))))))))))) else (some ((-nI 13), q2.2))))))))))
theorem T_Mod_copy_18 {D : Nat} {o : Int32 × am_W} (w : am_W) (H : F_Mod_copy_18 w = some o) : am_gi (D + 1) 237 o (18, [], [], ww w, 0, 0) := by
  unfold F_Mod_copy_18 at H
  exact am_go_blk 2 ⟨rfl, am_fi H⟩
theorem T_Mod_copy_41 {D : Nat} {o : Int32 × am_W} (w : am_W) (H : F_Mod_copy_41 w = some o) : am_gi (D + 1) 237 o (41, [], [], ww w, 0, 0) := by
  unfold F_Mod_copy_41 at H
  exact am_go_blk 2 ⟨rfl, am_fi H⟩
theorem T_Mod_copy_124 {D : Nat} {o : Int32 × am_W} (w : am_W) (H : F_Mod_copy_124 w = some o) : am_gi (D + 1) 237 o (124, [], [], ww w, 0, 0) := by
  unfold F_Mod_copy_124 at H
  exact am_go_blk 2 ⟨rfl, am_fi H⟩
theorem T_Mod_copy_173 {D : Nat} {o : Int32 × am_W} {r147 : Int32 → Int32 → Int32 → Int32 → am_W → Option (Int32 × am_W)} (Hr147 : ∀ (a5 : Int32) (a6 : Int32) (a7 : Int32) (a8 : Int32) (w : am_W) , r147 a5 a6 a7 a8 w = some o → am_gi (D + 1) 237 o (147, [(0, .ref 53), (5, .int a5), (6, .int a6), (7, .int a7), (8, .int a8)], [], ww w, 0, 0)) (a5 : Int32) (a6 : Int32) (a7 : Int32) (a8 : Int32) (s0 : Int32) (w : am_W) (H : F_Mod_copy_173 r147 a5 a6 a7 a8 s0 w = some o) : am_gi (D + 1) 237 o (173, [(0, .ref 53), (5, .int a5), (6, .int a6), (7, .int a7), (8, .int a8)], [.int s0], ww w, 0, 0) := by
  unfold F_Mod_copy_173 at H
  obtain ⟨hc, H⟩ := am_ckE H
  refine am_go_blk 12 ⟨am_inv hc, (?_ : am_gi (D + 1) 237 o (194, [(9, .int s0), (0, .ref 53), (5, .int a5), (6, .int a6), (7, .int a7), (8, .int a8)], [.int (w.1 64 (a6 + s0).toNatClampNeg), .int (a7 + s0), .ref 64], ww w, 0, 0))⟩
  obtain ⟨hc, H⟩ := am_ckE H
  obtain ⟨w3, ew3, H⟩ := am_ltE H
  refine am_go_blk 1 ⟨am_inv hc, am_hp (ww_s64 ew3) (?_ : am_gi (D + 1) 237 o (195, [(9, .int s0), (0, .ref 53), (5, .int a5), (6, .int a6), (7, .int a7), (8, .int a8)], [], ww w3, 0, 0))⟩
  exact am_go_blk 2 (Hr147 a5 a6 a7 (a8 + (nI 1)) w3 H)
theorem T_Mod_copy_147 {D : Nat} {o : Int32 × am_W} {r147 : Int32 → Int32 → Int32 → Int32 → am_W → Option (Int32 × am_W)} (Hr147 : ∀ (a5 : Int32) (a6 : Int32) (a7 : Int32) (a8 : Int32) (w : am_W) , r147 a5 a6 a7 a8 w = some o → am_gi (D + 1) 237 o (147, [(0, .ref 53), (5, .int a5), (6, .int a6), (7, .int a7), (8, .int a8)], [], ww w, 0, 0)) (a5 : Int32) (a6 : Int32) (a7 : Int32) (a8 : Int32) (w : am_W) (H : F_Mod_copy_147 r147 a5 a6 a7 a8 w = some o) : am_gi (D + 1) 237 o (147, [(0, .ref 53), (5, .int a5), (6, .int a6), (7, .int a7), (8, .int a8)], [], ww w, 0, 0) := by
  unfold F_Mod_copy_147 at H
  refine am_go_blk 3 ⟨fun hc => ?_, fun hc => ?_⟩
  · have H := am_it hc H
    show am_gi (D + 1) 237 o (201, [(5, .int a5)], [], ww w, 0, 0)
    exact am_go_blk 2 ⟨rfl, am_fi H⟩
  · have H := am_ie hc H
    show am_gi (D + 1) 237 o (154, [(0, .ref 53), (5, .int a5), (6, .int a6), (7, .int a7), (8, .int a8)], [], ww w, 0, 0)
    refine am_go_blk 3 ⟨fun hc => ?_, fun hc => ?_⟩
    · have H := am_it hc H
      show am_gi (D + 1) 237 o (171, [(0, .ref 53), (5, .int a5), (6, .int a6), (7, .int a7), (8, .int a8)], [], ww w, 0, 0)
      exact am_go_blk 1 (T_Mod_copy_173 Hr147 a5 a6 a7 a8 a8 w H)
    · have H := am_ie hc H
      show am_gi (D + 1) 237 o (161, [(0, .ref 53), (5, .int a5), (6, .int a6), (7, .int a7), (8, .int a8)], [], ww w, 0, 0)
      exact am_go_blk 6 (T_Mod_copy_173 Hr147 a5 a6 a7 a8 ((a5 - (nI 1)) - a8) w H)
theorem TL_Mod_copy_147 {D : Nat} {o : Int32 × am_W} : ∀ (n : Nat) (a5 : Int32) (a6 : Int32) (a7 : Int32) (a8 : Int32) (w : am_W) , L_Mod_copy_147 n a5 a6 a7 a8 w = some o → am_gi (D + 1) 237 o (147, [(0, .ref 53), (5, .int a5), (6, .int a6), (7, .int a7), (8, .int a8)], [], ww w, 0, 0)
  | 0, _, _, _, _, _, H => by cases H
  | n + 1, a5, a6, a7, a8, w, H => T_Mod_copy_147 (TL_Mod_copy_147 n) a5 a6 a7 a8 w H
theorem T_Mod_copy {D : Nat} {o : Int32 × am_W} (a1 : Int32) (a2 : Int32) (a3 : Int32) (a4 : Int32) (a5 : Int32) (w : am_W) (H : F_Mod_copy a1 a2 a3 a4 a5 w = some o) : am_gi (D + 1) 237 o (0, [(0, .ref 53), (1, .int a1), (2, .int a2), (3, .int a3), (4, .int a4), (5, .int a5)], [], ww w, 0, 0) := by
  unfold F_Mod_copy at H
  obtain ⟨q1, hqq1, H⟩ := am_bnE H
  refine am_go_blk 3 (?_ : am_gi (D + 1) 237 o (3, [(0, .ref 53), (1, .int a1), (2, .int a2), (3, .int a3), (4, .int a4), (5, .int a5)], [.int (nI 3), .int (nI 0), .int a1], ww w, 0, 0))
  refine am_cls rfl rfl rfl (am_calli rfl (M_Mod_in (D := D) hqq1) (?_ : am_gi (D + 1) 237 o (6, [(0, .ref 53), (1, .int a1), (2, .int a2), (3, .int a3), (4, .int a4), (5, .int a5)], [.int q1.1], ww q1.2, 0, 0)))
  refine am_go_blk 1 ⟨fun hc => ?_, fun hc => ?_⟩
  · have H := am_it hc H
    exact T_Mod_copy_18 q1.2 H
  · have H := am_ie hc H
    show am_gi (D + 1) 237 o (9, [(0, .ref 53), (1, .int a1), (2, .int a2), (3, .int a3), (4, .int a4), (5, .int a5)], [], ww q1.2, 0, 0)
    obtain ⟨q2, hqq2, H⟩ := am_bnE H
    refine am_go_blk 3 (?_ : am_gi (D + 1) 237 o (12, [(0, .ref 53), (1, .int a1), (2, .int a2), (3, .int a3), (4, .int a4), (5, .int a5)], [.int (nI 3), .int (nI 0), .int a3], ww q1.2, 0, 0))
    refine am_cls rfl rfl rfl (am_calli rfl (M_Mod_in (D := D) hqq2) (?_ : am_gi (D + 1) 237 o (15, [(0, .ref 53), (1, .int a1), (2, .int a2), (3, .int a3), (4, .int a4), (5, .int a5)], [.int q2.1], ww q2.2, 0, 0)))
    refine am_go_blk 1 ⟨fun hc => ?_, fun hc => ?_⟩
    · have H := am_ie hc H
      show am_gi (D + 1) 237 o (21, [(0, .ref 53), (1, .int a1), (2, .int a2), (3, .int a3), (4, .int a4), (5, .int a5)], [], ww q2.2, 0, 0)
      obtain ⟨hc, H⟩ := am_ckE H
      refine am_go_blk 4 ⟨am_inv hc, (?_ : am_gi (D + 1) 237 o (27, [(0, .ref 53), (1, .int a1), (2, .int a2), (3, .int a3), (4, .int a4), (5, .int a5)], [.int (q2.2.1 62 a1.toNatClampNeg)], ww q2.2, 0, 0))⟩
      refine am_go_blk 2 ⟨fun hc => ?_, fun hc => ?_⟩
      · have H := am_it hc H
        exact T_Mod_copy_41 q2.2 H
      · have H := am_ie hc H
        show am_gi (D + 1) 237 o (31, [(0, .ref 53), (1, .int a1), (2, .int a2), (3, .int a3), (4, .int a4), (5, .int a5)], [], ww q2.2, 0, 0)
        obtain ⟨hc, H⟩ := am_ckE H
        refine am_go_blk 4 ⟨am_inv hc, (?_ : am_gi (D + 1) 237 o (37, [(0, .ref 53), (1, .int a1), (2, .int a2), (3, .int a3), (4, .int a4), (5, .int a5)], [.int (q2.2.1 62 a3.toNatClampNeg)], ww q2.2, 0, 0))⟩
        refine am_go_blk 2 ⟨fun hc => ?_, fun hc => ?_⟩
        · have H := am_ie hc H
          show am_gi (D + 1) 237 o (44, [(0, .ref 53), (1, .int a1), (2, .int a2), (3, .int a3), (4, .int a4), (5, .int a5)], [], ww q2.2, 0, 0)
          obtain ⟨hc, H⟩ := am_ckE H
          refine am_go_blk 4 ⟨am_inv hc, (?_ : am_gi (D + 1) 237 o (50, [(0, .ref 53), (1, .int a1), (2, .int a2), (3, .int a3), (4, .int a4), (5, .int a5)], [.int (q2.2.1 62 a1.toNatClampNeg)], ww q2.2, 0, 0))⟩
          obtain ⟨hc, H⟩ := am_ckE H
          refine am_go_blk 4 ⟨am_inv hc, (?_ : am_gi (D + 1) 237 o (56, [(0, .ref 53), (1, .int a1), (2, .int a2), (3, .int a3), (4, .int a4), (5, .int a5)], [.int (q2.2.1 62 a3.toNatClampNeg), .int (q2.2.1 62 a1.toNatClampNeg)], ww q2.2, 0, 0))⟩
          refine am_go_blk 1 ⟨fun hc => ?_, fun hc => ?_⟩
          · have H := am_it hc H
            show am_gi (D + 1) 237 o (62, [(0, .ref 53), (1, .int a1), (2, .int a2), (3, .int a3), (4, .int a4), (5, .int a5)], [], ww q2.2, 0, 0)
            refine am_go_blk 2 ⟨fun hc => ?_, fun hc => ?_⟩
            · have H := am_it hc H
              exact T_Mod_copy_124 q2.2 H
            · have H := am_ie hc H
              show am_gi (D + 1) 237 o (67, [(0, .ref 53), (1, .int a1), (2, .int a2), (3, .int a3), (4, .int a4), (5, .int a5)], [], ww q2.2, 0, 0)
              refine am_go_blk 2 ⟨fun hc => ?_, fun hc => ?_⟩
              · have H := am_it hc H
                exact T_Mod_copy_124 q2.2 H
              · have H := am_ie hc H
                show am_gi (D + 1) 237 o (71, [(0, .ref 53), (1, .int a1), (2, .int a2), (3, .int a3), (4, .int a4), (5, .int a5)], [], ww q2.2, 0, 0)
                refine am_go_blk 2 ⟨fun hc => ?_, fun hc => ?_⟩
                · have H := am_it hc H
                  exact T_Mod_copy_124 q2.2 H
                · have H := am_ie hc H
                  show am_gi (D + 1) 237 o (76, [(0, .ref 53), (1, .int a1), (2, .int a2), (3, .int a3), (4, .int a4), (5, .int a5)], [], ww q2.2, 0, 0)
                  obtain ⟨hc, H⟩ := am_ckE H
                  refine am_go_blk 5 ⟨am_inv hc, (?_ : am_gi (D + 1) 237 o (83, [(0, .ref 53), (1, .int a1), (2, .int a2), (3, .int a3), (4, .int a4), (5, .int a5)], [.int (q2.2.1 63 a1.toNatClampNeg), .int a2], ww q2.2, 0, 0))⟩
                  refine am_go_blk 1 ⟨fun hc => ?_, fun hc => ?_⟩
                  · have H := am_it hc H
                    exact T_Mod_copy_124 q2.2 H
                  · have H := am_ie hc H
                    show am_gi (D + 1) 237 o (86, [(0, .ref 53), (1, .int a1), (2, .int a2), (3, .int a3), (4, .int a4), (5, .int a5)], [], ww q2.2, 0, 0)
                    obtain ⟨hc, H⟩ := am_ckE H
                    refine am_go_blk 5 ⟨am_inv hc, (?_ : am_gi (D + 1) 237 o (94, [(0, .ref 53), (1, .int a1), (2, .int a2), (3, .int a3), (4, .int a4), (5, .int a5)], [.int (q2.2.1 63 a3.toNatClampNeg), .int a4], ww q2.2, 0, 0))⟩
                    refine am_go_blk 1 ⟨fun hc => ?_, fun hc => ?_⟩
                    · have H := am_it hc H
                      exact T_Mod_copy_124 q2.2 H
                    · have H := am_ie hc H
                      show am_gi (D + 1) 237 o (97, [(0, .ref 53), (1, .int a1), (2, .int a2), (3, .int a3), (4, .int a4), (5, .int a5)], [], ww q2.2, 0, 0)
                      obtain ⟨hc, H⟩ := am_ckE H
                      refine am_go_blk 5 ⟨am_inv hc, (?_ : am_gi (D + 1) 237 o (105, [(0, .ref 53), (1, .int a1), (2, .int a2), (3, .int a3), (4, .int a4), (5, .int a5)], [.int (q2.2.1 63 a1.toNatClampNeg), .int a5], ww q2.2, 0, 0))⟩
                      refine am_go_blk 3 ⟨fun hc => ?_, fun hc => ?_⟩
                      · have H := am_it hc H
                        exact T_Mod_copy_124 q2.2 H
                      · have H := am_ie hc H
                        show am_gi (D + 1) 237 o (110, [(0, .ref 53), (1, .int a1), (2, .int a2), (3, .int a3), (4, .int a4), (5, .int a5)], [], ww q2.2, 0, 0)
                        obtain ⟨hc, H⟩ := am_ckE H
                        refine am_go_blk 5 ⟨am_inv hc, (?_ : am_gi (D + 1) 237 o (118, [(0, .ref 53), (1, .int a1), (2, .int a2), (3, .int a3), (4, .int a4), (5, .int a5)], [.int (q2.2.1 63 a3.toNatClampNeg), .int a5], ww q2.2, 0, 0))⟩
                        refine am_go_blk 3 ⟨fun hc => ?_, fun hc => ?_⟩
                        · have H := am_it hc H
                          show am_gi (D + 1) 237 o (127, [(0, .ref 53), (1, .int a1), (2, .int a2), (3, .int a3), (4, .int a4), (5, .int a5)], [], ww q2.2, 0, 0)
                          exact am_go_blk 14 (TL_Mod_copy_147 am_NF a5 (((nI 40) * a1) + a2) (((nI 40) * a3) + a4) (nI 0) q2.2 H)
                        · have H := am_ie hc H
                          exact T_Mod_copy_124 q2.2 H
          · have H := am_ie hc H
            show am_gi (D + 1) 237 o (59, [(0, .ref 53), (1, .int a1), (2, .int a2), (3, .int a3), (4, .int a4), (5, .int a5)], [], ww q2.2, 0, 0)
            exact am_go_blk 2 ⟨rfl, am_fi H⟩
        · have H := am_it hc H
          exact T_Mod_copy_41 q2.2 H
    · have H := am_it hc H
      exact T_Mod_copy_18 q2.2 H
theorem M_Mod_copy {D : Nat} {o : Int32 × am_W} {a1 : Int32} {a2 : Int32} {a3 : Int32} {a4 : Int32} {a5 : Int32} {w : am_W} (H : F_Mod_copy a1 a2 a3 a4 a5 w = some o) : am_run (D + 2) 237 [.ref 53, .int a1, .int a2, .int a3, .int a4, .int a5] (ww w) (some (.int o.1)) (ww o.2) 0 0 :=
  am_run_of rfl (T_Mod_copy a1 a2 a3 a4 a5 w H)
def F_Mod_locksBy_29 (w : am_W) : Option (Int32 × am_W) :=
  some ((-nI 2), w)
def F_Mod_locksBy_102 (w : am_W) : Option (Int32 × am_W) :=
  some ((-nI 12), w)
def F_Mod_locksBy_153 (r64 : Int32 → Int32 → Int32 → Int32 → Int32 → am_W → Option (Int32 × am_W)) (a1 : Int32) (a3 : Int32) (a4 : Int32) (a6 : Int32) (s0 : Int32) (s1 : Int32) (w : am_W) : Option (Int32 × am_W) :=
  r64 a1 a3 a4 (s1 + s0) (a6 + (nI 1)) w
def F_Mod_locksBy_64 (r64 : Int32 → Int32 → Int32 → Int32 → Int32 → am_W → Option (Int32 × am_W)) (a1 : Int32) (a3 : Int32) (a4 : Int32) (a5 : Int32) (a6 : Int32) (w : am_W) : Option (Int32 × am_W) :=
  if a4 ≤ a6 then (some (a5, w)) else (if a3 < 0 then (F_Mod_locksBy_102 w) else (if (a3 + ((nI 3) * a6)) < a3 then (F_Mod_locksBy_102 w) else (am_ck (am_in a1 4) (if (a3 + ((nI 3) * a6)) ≤ ((w.1 63 a1.toNatClampNeg) - (nI 3)) then (am_ck (am_in (((nI 40) * a1) + (a3 + ((nI 3) * a6))) 160) (am_ck (am_in ((((nI 40) * a1) + (a3 + ((nI 3) * a6))) + (nI 1)) 160) (am_ck (am_in ((((nI 40) * a1) + (a3 + ((nI 3) * a6))) + (nI 2)) 160) ((F_Mod_lock (w.1 64 (((nI 40) * a1) + (a3 + ((nI 3) * a6))).toNatClampNeg) (w.1 64 ((((nI 40) * a1) + (a3 + ((nI 3) * a6))) + (nI 1)).toNatClampNeg) (w.1 64 ((((nI 40) * a1) + (a3 + ((nI 3) * a6))) + (nI 2)).toNatClampNeg) w).bind fun q4 => if q4.1 < 0 then (F_Mod_locksBy_153 r64 a1 a3 a4 a6 (nI 0) a5 q4.2) else (F_Mod_locksBy_153 r64 a1 a3 a4 a6 (nI 1) a5 q4.2))))) else (F_Mod_locksBy_102 w)))))
def L_Mod_locksBy_64 : Nat → Int32 → Int32 → Int32 → Int32 → Int32 → am_W → Option (Int32 × am_W)
  | 0, _, _, _, _, _, _ => none
  | n + 1, a1, a3, a4, a5, a6, w => F_Mod_locksBy_64 (L_Mod_locksBy_64 n) a1 a3 a4 a5 a6 w
def F_Mod_locksBy (a1 : Int32) (a2 : Int32) (a3 : Int32) (a4 : Int32) (w : am_W) : Option (Int32 × am_W) :=
  (F_Mod_in a1 (nI 0) (nI 3) w).bind fun q1 => if q1.1 = 0 then (F_Mod_locksBy_29 q1.2) else ((F_Mod_in a2 (nI 0) (nI 2) q1.2).bind fun q2 => if q2.1 = 0 then (F_Mod_locksBy_29 q2.2) else ((F_Mod_in a4 (nI 0) (nI 10) q2.2).bind fun q3 => if q3.1 = 0 then (F_Mod_locksBy_29 q3.2) else (am_ck (am_in a1 4) (if (q3.2.1 62 a1.toNatClampNeg) = (-nI 1) then (some ((-nI 11), q3.2)) else (am_ck (am_in a1 4) (if (q3.2.1 62 a1.toNatClampNeg) = a2 then (L_Mod_locksBy_64 am_NF a1 a3 a4 (nI 0) (nI 0) q3.2) else (some ((-nI 13), q3.2))))))))
theorem T_Mod_locksBy_29 {D : Nat} {o : Int32 × am_W} (w : am_W) (H : F_Mod_locksBy_29 w = some o) : am_gi (D + 3) 238 o (29, [], [], ww w, 0, 0) := by
  unfold F_Mod_locksBy_29 at H
  exact am_go_blk 2 ⟨rfl, am_fi H⟩
theorem T_Mod_locksBy_102 {D : Nat} {o : Int32 × am_W} (w : am_W) (H : F_Mod_locksBy_102 w = some o) : am_gi (D + 3) 238 o (102, [], [], ww w, 0, 0) := by
  unfold F_Mod_locksBy_102 at H
  exact am_go_blk 2 ⟨rfl, am_fi H⟩
theorem T_Mod_locksBy_153 {D : Nat} {o : Int32 × am_W} {r64 : Int32 → Int32 → Int32 → Int32 → Int32 → am_W → Option (Int32 × am_W)} (Hr64 : ∀ (a1 : Int32) (a3 : Int32) (a4 : Int32) (a5 : Int32) (a6 : Int32) (w : am_W) , r64 a1 a3 a4 a5 a6 w = some o → am_gi (D + 3) 238 o (64, [(0, .ref 53), (1, .int a1), (3, .int a3), (4, .int a4), (5, .int a5), (6, .int a6)], [], ww w, 0, 0)) (a1 : Int32) (a3 : Int32) (a4 : Int32) (a6 : Int32) (s0 : Int32) (s1 : Int32) (w : am_W) (H : F_Mod_locksBy_153 r64 a1 a3 a4 a6 s0 s1 w = some o) : am_gi (D + 3) 238 o (153, [(0, .ref 53), (1, .int a1), (3, .int a3), (4, .int a4), (6, .int a6)], [.int s0, .int s1], ww w, 0, 0) := by
  unfold F_Mod_locksBy_153 at H
  exact am_go_blk 4 (Hr64 a1 a3 a4 (s1 + s0) (a6 + (nI 1)) w H)
theorem T_Mod_locksBy_64 {D : Nat} {o : Int32 × am_W} {r64 : Int32 → Int32 → Int32 → Int32 → Int32 → am_W → Option (Int32 × am_W)} (Hr64 : ∀ (a1 : Int32) (a3 : Int32) (a4 : Int32) (a5 : Int32) (a6 : Int32) (w : am_W) , r64 a1 a3 a4 a5 a6 w = some o → am_gi (D + 3) 238 o (64, [(0, .ref 53), (1, .int a1), (3, .int a3), (4, .int a4), (5, .int a5), (6, .int a6)], [], ww w, 0, 0)) (a1 : Int32) (a3 : Int32) (a4 : Int32) (a5 : Int32) (a6 : Int32) (w : am_W) (H : F_Mod_locksBy_64 r64 a1 a3 a4 a5 a6 w = some o) : am_gi (D + 3) 238 o (64, [(0, .ref 53), (1, .int a1), (3, .int a3), (4, .int a4), (5, .int a5), (6, .int a6)], [], ww w, 0, 0) := by
  unfold F_Mod_locksBy_64 at H
  refine am_go_blk 3 ⟨fun hc => ?_, fun hc => ?_⟩
  · have H := am_it hc H
    show am_gi (D + 3) 238 o (162, [(5, .int a5)], [], ww w, 0, 0)
    exact am_go_blk 2 ⟨rfl, am_fi H⟩
  · have H := am_ie hc H
    show am_gi (D + 3) 238 o (71, [(0, .ref 53), (1, .int a1), (3, .int a3), (4, .int a4), (5, .int a5), (6, .int a6)], [], ww w, 0, 0)
    refine am_go_blk 8 ⟨fun hc => ?_, fun hc => ?_⟩
    · have H := am_it hc H
      exact T_Mod_locksBy_102 w H
    · have H := am_ie hc H
      show am_gi (D + 3) 238 o (83, [(7, .int (a3 + ((nI 3) * a6))), (0, .ref 53), (1, .int a1), (3, .int a3), (4, .int a4), (5, .int a5), (6, .int a6)], [], ww w, 0, 0)
      refine am_go_blk 3 ⟨fun hc => ?_, fun hc => ?_⟩
      · have H := am_it hc H
        exact T_Mod_locksBy_102 w H
      · have H := am_ie hc H
        show am_gi (D + 3) 238 o (89, [(7, .int (a3 + ((nI 3) * a6))), (0, .ref 53), (1, .int a1), (3, .int a3), (4, .int a4), (5, .int a5), (6, .int a6)], [], ww w, 0, 0)
        obtain ⟨hc, H⟩ := am_ckE H
        refine am_go_blk 5 ⟨am_inv hc, (?_ : am_gi (D + 3) 238 o (97, [(7, .int (a3 + ((nI 3) * a6))), (0, .ref 53), (1, .int a1), (3, .int a3), (4, .int a4), (5, .int a5), (6, .int a6)], [.int (w.1 63 a1.toNatClampNeg), .int (a3 + ((nI 3) * a6))], ww w, 0, 0))⟩
        refine am_go_blk 3 ⟨fun hc => ?_, fun hc => ?_⟩
        · have H := am_it hc H
          show am_gi (D + 3) 238 o (105, [(0, .ref 53), (1, .int a1), (3, .int a3), (4, .int a4), (5, .int a5), (6, .int a6), (7, .int (a3 + ((nI 3) * a6)))], [], ww w, 0, 0)
          obtain ⟨hc, H⟩ := am_ckE H
          refine am_go_blk 12 ⟨am_inv hc, (?_ : am_gi (D + 3) 238 o (124, [(8, .int (((nI 40) * a1) + (a3 + ((nI 3) * a6)))), (0, .ref 53), (1, .int a1), (3, .int a3), (4, .int a4), (5, .int a5), (6, .int a6), (7, .int (a3 + ((nI 3) * a6)))], [.int (w.1 64 (((nI 40) * a1) + (a3 + ((nI 3) * a6))).toNatClampNeg), .ref 53, .int a5], ww w, 0, 0))⟩
          obtain ⟨hc, H⟩ := am_ckE H
          refine am_go_blk 6 ⟨am_inv hc, (?_ : am_gi (D + 3) 238 o (133, [(8, .int (((nI 40) * a1) + (a3 + ((nI 3) * a6)))), (0, .ref 53), (1, .int a1), (3, .int a3), (4, .int a4), (5, .int a5), (6, .int a6), (7, .int (a3 + ((nI 3) * a6)))], [.int (w.1 64 ((((nI 40) * a1) + (a3 + ((nI 3) * a6))) + (nI 1)).toNatClampNeg), .int (w.1 64 (((nI 40) * a1) + (a3 + ((nI 3) * a6))).toNatClampNeg), .ref 53, .int a5], ww w, 0, 0))⟩
          obtain ⟨hc, H⟩ := am_ckE H
          refine am_go_blk 6 ⟨am_inv hc, (?_ : am_gi (D + 3) 238 o (142, [(8, .int (((nI 40) * a1) + (a3 + ((nI 3) * a6)))), (0, .ref 53), (1, .int a1), (3, .int a3), (4, .int a4), (5, .int a5), (6, .int a6), (7, .int (a3 + ((nI 3) * a6)))], [.int (w.1 64 ((((nI 40) * a1) + (a3 + ((nI 3) * a6))) + (nI 2)).toNatClampNeg), .int (w.1 64 ((((nI 40) * a1) + (a3 + ((nI 3) * a6))) + (nI 1)).toNatClampNeg), .int (w.1 64 (((nI 40) * a1) + (a3 + ((nI 3) * a6))).toNatClampNeg), .ref 53, .int a5], ww w, 0, 0))⟩
          obtain ⟨q4, hqq4, H⟩ := am_bnE H
          refine am_invd rfl rfl rfl rfl (am_calli rfl (M_Mod_lock (D := D) hqq4) (?_ : am_gi (D + 3) 238 o (145, [(8, .int (((nI 40) * a1) + (a3 + ((nI 3) * a6)))), (0, .ref 53), (1, .int a1), (3, .int a3), (4, .int a4), (5, .int a5), (6, .int a6), (7, .int (a3 + ((nI 3) * a6)))], [.int q4.1, .int a5], ww q4.2, 0, 0)))
          refine am_go_blk 1 ⟨fun hc => ?_, fun hc => ?_⟩
          · have H := am_it hc H
            show am_gi (D + 3) 238 o (152, [(0, .ref 53), (1, .int a1), (3, .int a3), (4, .int a4), (6, .int a6)], [.int a5], ww q4.2, 0, 0)
            exact am_go_blk 1 (T_Mod_locksBy_153 Hr64 a1 a3 a4 a6 (nI 0) a5 q4.2 H)
          · have H := am_ie hc H
            show am_gi (D + 3) 238 o (148, [(8, .int (((nI 40) * a1) + (a3 + ((nI 3) * a6)))), (0, .ref 53), (1, .int a1), (3, .int a3), (4, .int a4), (5, .int a5), (6, .int a6), (7, .int (a3 + ((nI 3) * a6)))], [.int a5], ww q4.2, 0, 0)
            exact am_go_blk 2 (T_Mod_locksBy_153 Hr64 a1 a3 a4 a6 (nI 1) a5 q4.2 H)
        · have H := am_ie hc H
          exact T_Mod_locksBy_102 w H
theorem TL_Mod_locksBy_64 {D : Nat} {o : Int32 × am_W} : ∀ (n : Nat) (a1 : Int32) (a3 : Int32) (a4 : Int32) (a5 : Int32) (a6 : Int32) (w : am_W) , L_Mod_locksBy_64 n a1 a3 a4 a5 a6 w = some o → am_gi (D + 3) 238 o (64, [(0, .ref 53), (1, .int a1), (3, .int a3), (4, .int a4), (5, .int a5), (6, .int a6)], [], ww w, 0, 0)
  | 0, _, _, _, _, _, _, H => by cases H
  | n + 1, a1, a3, a4, a5, a6, w, H => T_Mod_locksBy_64 (TL_Mod_locksBy_64 n) a1 a3 a4 a5 a6 w H
theorem T_Mod_locksBy {D : Nat} {o : Int32 × am_W} (a1 : Int32) (a2 : Int32) (a3 : Int32) (a4 : Int32) (w : am_W) (H : F_Mod_locksBy a1 a2 a3 a4 w = some o) : am_gi (D + 3) 238 o (0, [(0, .ref 53), (1, .int a1), (2, .int a2), (3, .int a3), (4, .int a4)], [], ww w, 0, 0) := by
  unfold F_Mod_locksBy at H
  obtain ⟨q1, hqq1, H⟩ := am_bnE H
  refine am_go_blk 3 (?_ : am_gi (D + 3) 238 o (3, [(0, .ref 53), (1, .int a1), (2, .int a2), (3, .int a3), (4, .int a4)], [.int (nI 3), .int (nI 0), .int a1], ww w, 0, 0))
  refine am_cls rfl rfl rfl (am_calli rfl (M_Mod_in (D := D + 2) hqq1) (?_ : am_gi (D + 3) 238 o (6, [(0, .ref 53), (1, .int a1), (2, .int a2), (3, .int a3), (4, .int a4)], [.int q1.1], ww q1.2, 0, 0)))
  refine am_go_blk 1 ⟨fun hc => ?_, fun hc => ?_⟩
  · have H := am_it hc H
    exact T_Mod_locksBy_29 q1.2 H
  · have H := am_ie hc H
    show am_gi (D + 3) 238 o (9, [(0, .ref 53), (1, .int a1), (2, .int a2), (3, .int a3), (4, .int a4)], [], ww q1.2, 0, 0)
    obtain ⟨q2, hqq2, H⟩ := am_bnE H
    refine am_go_blk 3 (?_ : am_gi (D + 3) 238 o (12, [(0, .ref 53), (1, .int a1), (2, .int a2), (3, .int a3), (4, .int a4)], [.int (nI 2), .int (nI 0), .int a2], ww q1.2, 0, 0))
    refine am_cls rfl rfl rfl (am_calli rfl (M_Mod_in (D := D + 2) hqq2) (?_ : am_gi (D + 3) 238 o (15, [(0, .ref 53), (1, .int a1), (2, .int a2), (3, .int a3), (4, .int a4)], [.int q2.1], ww q2.2, 0, 0)))
    refine am_go_blk 1 ⟨fun hc => ?_, fun hc => ?_⟩
    · have H := am_it hc H
      exact T_Mod_locksBy_29 q2.2 H
    · have H := am_ie hc H
      show am_gi (D + 3) 238 o (18, [(0, .ref 53), (1, .int a1), (2, .int a2), (3, .int a3), (4, .int a4)], [], ww q2.2, 0, 0)
      obtain ⟨q3, hqq3, H⟩ := am_bnE H
      refine am_go_blk 3 (?_ : am_gi (D + 3) 238 o (23, [(0, .ref 53), (1, .int a1), (2, .int a2), (3, .int a3), (4, .int a4)], [.int (nI 10), .int (nI 0), .int a4], ww q2.2, 0, 0))
      refine am_cls rfl rfl rfl (am_calli rfl (M_Mod_in (D := D + 2) hqq3) (?_ : am_gi (D + 3) 238 o (26, [(0, .ref 53), (1, .int a1), (2, .int a2), (3, .int a3), (4, .int a4)], [.int q3.1], ww q3.2, 0, 0)))
      refine am_go_blk 1 ⟨fun hc => ?_, fun hc => ?_⟩
      · have H := am_ie hc H
        show am_gi (D + 3) 238 o (32, [(0, .ref 53), (1, .int a1), (2, .int a2), (3, .int a3), (4, .int a4)], [], ww q3.2, 0, 0)
        obtain ⟨hc, H⟩ := am_ckE H
        refine am_go_blk 4 ⟨am_inv hc, (?_ : am_gi (D + 3) 238 o (38, [(0, .ref 53), (1, .int a1), (2, .int a2), (3, .int a3), (4, .int a4)], [.int (q3.2.1 62 a1.toNatClampNeg)], ww q3.2, 0, 0))⟩
        refine am_go_blk 2 ⟨fun hc => ?_, fun hc => ?_⟩
        · have H := am_ie hc H
          show am_gi (D + 3) 238 o (45, [(0, .ref 53), (1, .int a1), (2, .int a2), (3, .int a3), (4, .int a4)], [], ww q3.2, 0, 0)
          obtain ⟨hc, H⟩ := am_ckE H
          refine am_go_blk 4 ⟨am_inv hc, (?_ : am_gi (D + 3) 238 o (51, [(0, .ref 53), (1, .int a1), (2, .int a2), (3, .int a3), (4, .int a4)], [.int (q3.2.1 62 a1.toNatClampNeg)], ww q3.2, 0, 0))⟩
          refine am_go_blk 2 ⟨fun hc => ?_, fun hc => ?_⟩
          · have H := am_it hc H
            show am_gi (D + 3) 238 o (58, [(0, .ref 53), (1, .int a1), (3, .int a3), (4, .int a4)], [], ww q3.2, 0, 0)
            exact am_go_blk 4 (TL_Mod_locksBy_64 am_NF a1 a3 a4 (nI 0) (nI 0) q3.2 H)
          · have H := am_ie hc H
            show am_gi (D + 3) 238 o (55, [(0, .ref 53), (1, .int a1), (2, .int a2), (3, .int a3), (4, .int a4)], [], ww q3.2, 0, 0)
            exact am_go_blk 2 ⟨rfl, am_fi H⟩
        · have H := am_it hc H
          show am_gi (D + 3) 238 o (42, [(0, .ref 53), (1, .int a1), (2, .int a2), (3, .int a3), (4, .int a4)], [], ww q3.2, 0, 0)
          exact am_go_blk 2 ⟨rfl, am_fi H⟩
      · have H := am_it hc H
        exact T_Mod_locksBy_29 q3.2 H
theorem M_Mod_locksBy {D : Nat} {o : Int32 × am_W} {a1 : Int32} {a2 : Int32} {a3 : Int32} {a4 : Int32} {w : am_W} (H : F_Mod_locksBy a1 a2 a3 a4 w = some o) : am_run (D + 4) 238 [.ref 53, .int a1, .int a2, .int a3, .int a4] (ww w) (some (.int o.1)) (ww o.2) 0 0 :=
  am_run_of rfl (T_Mod_locksBy a1 a2 a3 a4 w H)
def F_Mod_isUnder_34 (s0 : Int32) (w : am_W) : Option (Int32 × am_W) :=
  am_ck (am_bo s0) (some (s0, w))
def F_Mod_isUnder_29 (w : am_W) : Option (Int32 × am_W) :=
  F_Mod_isUnder_34 (nI 1) w
def F_Mod_isUnder_33 (w : am_W) : Option (Int32 × am_W) :=
  F_Mod_isUnder_34 (nI 0) w
def F_Mod_isUnder_19 (a0 : Int32) (a1 : Int32) (w : am_W) : Option (Int32 × am_W) :=
  if a1 = (nI 2) then (if a0 = (nI 4) then (F_Mod_isUnder_29 w) else (F_Mod_isUnder_33 w)) else (F_Mod_isUnder_33 w)
def F_Mod_isUnder (a0 : Int32) (a1 : Int32) (w : am_W) : Option (Int32 × am_W) :=
  if a1 = 0 then (F_Mod_isUnder_29 w) else (if a0 = a1 then (F_Mod_isUnder_29 w) else (if a1 = (nI 1) then (if a0 = (nI 3) then (F_Mod_isUnder_29 w) else (F_Mod_isUnder_19 a0 a1 w)) else (F_Mod_isUnder_19 a0 a1 w)))
theorem T_Mod_isUnder_34 {D : Nat} {o : Int32 × am_W} (s0 : Int32) (w : am_W) (H : F_Mod_isUnder_34 s0 w = some o) : am_gi D 239 o (34, [], [.int s0], ww w, 0, 0) := by
  unfold F_Mod_isUnder_34 at H
  obtain ⟨hc, H⟩ := am_ckE H
  exact am_go_blk 1 ⟨am_boE hc, am_fi H⟩
theorem T_Mod_isUnder_29 {D : Nat} {o : Int32 × am_W} (w : am_W) (H : F_Mod_isUnder_29 w = some o) : am_gi D 239 o (29, [], [], ww w, 0, 0) := by
  unfold F_Mod_isUnder_29 at H
  exact am_go_blk 2 (T_Mod_isUnder_34 (nI 1) w H)
theorem T_Mod_isUnder_33 {D : Nat} {o : Int32 × am_W} (w : am_W) (H : F_Mod_isUnder_33 w = some o) : am_gi D 239 o (33, [], [], ww w, 0, 0) := by
  unfold F_Mod_isUnder_33 at H
  exact am_go_blk 1 (T_Mod_isUnder_34 (nI 0) w H)
theorem T_Mod_isUnder_19 {D : Nat} {o : Int32 × am_W} (a0 : Int32) (a1 : Int32) (w : am_W) (H : F_Mod_isUnder_19 a0 a1 w = some o) : am_gi D 239 o (19, [(0, .int a0), (1, .int a1)], [], ww w, 0, 0) := by
  unfold F_Mod_isUnder_19 at H
  refine am_go_blk 3 ⟨fun hc => ?_, fun hc => ?_⟩
  · have H := am_ie hc H
    exact T_Mod_isUnder_33 w H
  · have H := am_it hc H
    show am_gi D 239 o (24, [(0, .int a0), (1, .int a1)], [], ww w, 0, 0)
    refine am_go_blk 3 ⟨fun hc => ?_, fun hc => ?_⟩
    · have H := am_ie hc H
      exact T_Mod_isUnder_33 w H
    · have H := am_it hc H
      exact T_Mod_isUnder_29 w H
theorem T_Mod_isUnder {D : Nat} {o : Int32 × am_W} (a0 : Int32) (a1 : Int32) (w : am_W) (H : F_Mod_isUnder a0 a1 w = some o) : am_gi D 239 o (0, [(0, .int a0), (1, .int a1)], [], ww w, 0, 0) := by
  unfold F_Mod_isUnder at H
  refine am_go_blk 2 ⟨fun hc => ?_, fun hc => ?_⟩
  · have H := am_it hc H
    exact T_Mod_isUnder_29 w H
  · have H := am_ie hc H
    show am_gi D 239 o (4, [(0, .int a0), (1, .int a1)], [], ww w, 0, 0)
    refine am_go_blk 3 ⟨fun hc => ?_, fun hc => ?_⟩
    · have H := am_it hc H
      exact T_Mod_isUnder_29 w H
    · have H := am_ie hc H
      show am_gi D 239 o (9, [(0, .int a0), (1, .int a1)], [], ww w, 0, 0)
      refine am_go_blk 3 ⟨fun hc => ?_, fun hc => ?_⟩
      · have H := am_ie hc H
        exact T_Mod_isUnder_19 a0 a1 w H
      · have H := am_it hc H
        show am_gi D 239 o (14, [(0, .int a0), (1, .int a1)], [], ww w, 0, 0)
        refine am_go_blk 3 ⟨fun hc => ?_, fun hc => ?_⟩
        · have H := am_it hc H
          exact T_Mod_isUnder_29 w H
        · have H := am_ie hc H
          exact T_Mod_isUnder_19 a0 a1 w H
theorem M_Mod_isUnder {D : Nat} {o : Int32 × am_W} {a0 : Int32} {a1 : Int32} {w : am_W} (H : F_Mod_isUnder a0 a1 w = some o) : am_run (D + 1) 239 [.int a0, .int a1] (ww w) (some (.int o.1)) (ww o.2) 0 0 :=
  am_run_of rfl (T_Mod_isUnder a0 a1 w H)
def F_Mod_taken_121 (s0 : Int32) (w : am_W) : Option (Int32 × am_W) :=
  some (s0, w)
def F_Mod_taken_91 (w : am_W) : Option (Int32 × am_W) :=
  F_Mod_taken_121 (-nI 11) w
def F_Mod_taken_119 (w : am_W) : Option (Int32 × am_W) :=
  F_Mod_taken_121 (-nI 13) w
def F_Mod_taken_69 (s0 : Int32) (w : am_W) : Option (Int32 × am_W) :=
  some (s0, w)
def F_Mod_taken_48 (w : am_W) : Option (Int32 × am_W) :=
  F_Mod_taken_69 (-nI 11) w
def F_Mod_taken (a1 : Int32) (a2 : Int32) (w : am_W) : Option (Int32 × am_W) :=
  (F_Mod_in a2 (nI 0) (nI 6) w).bind fun q1 => if q1.1 = 0 then (some ((-nI 2), q1.2)) else ((F_Mod_in a1 (nI 0) (nI 17) q1.2).bind fun q2 => if q2.1 = 0 then (some ((-nI 12), q2.2)) else (if (nI 10) ≤ a1 then ((F_Mod_isThing (a1 - (nI 10)) q2.2).bind fun q3 => if q3.1 = 0 then (F_Mod_taken_91 q3.2) else ((F_Mod_isGone (a1 - (nI 10)) q3.2).bind fun q4 => if q4.1 = 0 then (if (nI 6) ≤ a2 then (F_Mod_taken_119 q4.2) else (am_ck (am_in (a1 - (nI 10)) 8) ((F_Mod_isUnder (q4.2.1 54 (a1 - (nI 10)).toNatClampNeg) a2 q4.2).bind fun q5 => if q5.1 = 0 then (F_Mod_taken_119 q5.2) else (F_Mod_taken_121 (a1 - (nI 10)) q5.2)))) else (F_Mod_taken_91 q4.2))) else ((F_Mod_isLock a1 q2.2).bind fun q6 => if q6.1 = 0 then (F_Mod_taken_48 q6.2) else ((F_Mod_isShut a1 q6.2).bind fun q7 => if q7.1 = 0 then (F_Mod_taken_48 q7.2) else (if a2 = (nI 6) then ((F_Mod_through a1 q7.2).bind fun q8 => F_Mod_taken_69 q8.1 q8.2) else (F_Mod_taken_69 (-nI 13) q7.2))))))
theorem T_Mod_taken_121 {D : Nat} {o : Int32 × am_W} (s0 : Int32) (w : am_W) (H : F_Mod_taken_121 s0 w = some o) : am_gi (D + 2) 240 o (121, [], [.int s0], ww w, 0, 0) := by
  unfold F_Mod_taken_121 at H
  exact am_go_blk 1 ⟨rfl, am_fi H⟩
theorem T_Mod_taken_91 {D : Nat} {o : Int32 × am_W} (w : am_W) (H : F_Mod_taken_91 w = some o) : am_gi (D + 2) 240 o (91, [], [], ww w, 0, 0) := by
  unfold F_Mod_taken_91 at H
  exact am_go_blk 2 (T_Mod_taken_121 (-nI 11) w H)
theorem T_Mod_taken_119 {D : Nat} {o : Int32 × am_W} (w : am_W) (H : F_Mod_taken_119 w = some o) : am_gi (D + 2) 240 o (119, [], [], ww w, 0, 0) := by
  unfold F_Mod_taken_119 at H
  exact am_go_blk 1 (T_Mod_taken_121 (-nI 13) w H)
theorem T_Mod_taken_69 {D : Nat} {o : Int32 × am_W} (s0 : Int32) (w : am_W) (H : F_Mod_taken_69 s0 w = some o) : am_gi (D + 2) 240 o (69, [], [.int s0], ww w, 0, 0) := by
  unfold F_Mod_taken_69 at H
  exact am_go_blk 1 ⟨rfl, am_fi H⟩
theorem T_Mod_taken_48 {D : Nat} {o : Int32 × am_W} (w : am_W) (H : F_Mod_taken_48 w = some o) : am_gi (D + 2) 240 o (48, [], [], ww w, 0, 0) := by
  unfold F_Mod_taken_48 at H
  exact am_go_blk 2 (T_Mod_taken_69 (-nI 11) w H)
theorem T_Mod_taken {D : Nat} {o : Int32 × am_W} (a1 : Int32) (a2 : Int32) (w : am_W) (H : F_Mod_taken a1 a2 w = some o) : am_gi (D + 2) 240 o (0, [(0, .ref 53), (1, .int a1), (2, .int a2)], [], ww w, 0, 0) := by
  unfold F_Mod_taken at H
  obtain ⟨q1, hqq1, H⟩ := am_bnE H
  refine am_go_blk 3 (?_ : am_gi (D + 2) 240 o (4, [(0, .ref 53), (1, .int a1), (2, .int a2)], [.int (nI 6), .int (nI 0), .int a2], ww w, 0, 0))
  refine am_cls rfl rfl rfl (am_calli rfl (M_Mod_in (D := D + 1) hqq1) (?_ : am_gi (D + 2) 240 o (7, [(0, .ref 53), (1, .int a1), (2, .int a2)], [.int q1.1], ww q1.2, 0, 0)))
  refine am_go_blk 1 ⟨fun hc => ?_, fun hc => ?_⟩
  · have H := am_ie hc H
    show am_gi (D + 2) 240 o (13, [(0, .ref 53), (1, .int a1), (2, .int a2)], [], ww q1.2, 0, 0)
    obtain ⟨q2, hqq2, H⟩ := am_bnE H
    refine am_go_blk 3 (?_ : am_gi (D + 2) 240 o (17, [(0, .ref 53), (1, .int a1), (2, .int a2)], [.int (nI 17), .int (nI 0), .int a1], ww q1.2, 0, 0))
    refine am_cls rfl rfl rfl (am_calli rfl (M_Mod_in (D := D + 1) hqq2) (?_ : am_gi (D + 2) 240 o (20, [(0, .ref 53), (1, .int a1), (2, .int a2)], [.int q2.1], ww q2.2, 0, 0)))
    refine am_go_blk 1 ⟨fun hc => ?_, fun hc => ?_⟩
    · have H := am_ie hc H
      show am_gi (D + 2) 240 o (26, [(0, .ref 53), (1, .int a1), (2, .int a2)], [], ww q2.2, 0, 0)
      refine am_go_blk 3 ⟨fun hc => ?_, fun hc => ?_⟩
      · have H := am_it hc H
        show am_gi (D + 2) 240 o (70, [(0, .ref 53), (1, .int a1), (2, .int a2)], [], ww q2.2, 0, 0)
        obtain ⟨q3, hqq3, H⟩ := am_bnE H
        refine am_go_blk 6 (?_ : am_gi (D + 2) 240 o (77, [(3, .int (a1 - (nI 10))), (0, .ref 53), (1, .int a1), (2, .int a2)], [.int (a1 - (nI 10)), .ref 53], ww q2.2, 0, 0))
        refine am_invd rfl rfl rfl rfl (am_calli rfl (M_Mod_isThing (D := D) hqq3) (?_ : am_gi (D + 2) 240 o (80, [(3, .int (a1 - (nI 10))), (0, .ref 53), (1, .int a1), (2, .int a2)], [.int q3.1], ww q3.2, 0, 0)))
        refine am_go_blk 1 ⟨fun hc => ?_, fun hc => ?_⟩
        · have H := am_it hc H
          exact T_Mod_taken_91 q3.2 H
        · have H := am_ie hc H
          show am_gi (D + 2) 240 o (83, [(3, .int (a1 - (nI 10))), (0, .ref 53), (1, .int a1), (2, .int a2)], [], ww q3.2, 0, 0)
          obtain ⟨q4, hqq4, H⟩ := am_bnE H
          refine am_go_blk 2 (?_ : am_gi (D + 2) 240 o (85, [(3, .int (a1 - (nI 10))), (0, .ref 53), (1, .int a1), (2, .int a2)], [.int (a1 - (nI 10)), .ref 53], ww q3.2, 0, 0))
          refine am_invd rfl rfl rfl rfl (am_calli rfl (M_Mod_isGone (D := D + 1) hqq4) (?_ : am_gi (D + 2) 240 o (88, [(3, .int (a1 - (nI 10))), (0, .ref 53), (1, .int a1), (2, .int a2)], [.int q4.1], ww q4.2, 0, 0)))
          refine am_go_blk 1 ⟨fun hc => ?_, fun hc => ?_⟩
          · have H := am_it hc H
            show am_gi (D + 2) 240 o (96, [(0, .ref 53), (2, .int a2), (3, .int (a1 - (nI 10)))], [], ww q4.2, 0, 0)
            refine am_go_blk 3 ⟨fun hc => ?_, fun hc => ?_⟩
            · have H := am_it hc H
              exact T_Mod_taken_119 q4.2 H
            · have H := am_ie hc H
              show am_gi (D + 2) 240 o (102, [(0, .ref 53), (2, .int a2), (3, .int (a1 - (nI 10)))], [], ww q4.2, 0, 0)
              obtain ⟨hc, H⟩ := am_ckE H
              refine am_go_blk 4 ⟨am_inv hc, (?_ : am_gi (D + 2) 240 o (108, [(0, .ref 53), (2, .int a2), (3, .int (a1 - (nI 10)))], [.int (q4.2.1 54 (a1 - (nI 10)).toNatClampNeg)], ww q4.2, 0, 0))⟩
              obtain ⟨q5, hqq5, H⟩ := am_bnE H
              refine am_go_blk 1 (?_ : am_gi (D + 2) 240 o (109, [(0, .ref 53), (2, .int a2), (3, .int (a1 - (nI 10)))], [.int a2, .int (q4.2.1 54 (a1 - (nI 10)).toNatClampNeg)], ww q4.2, 0, 0))
              refine am_cls rfl rfl rfl (am_calli rfl (M_Mod_isUnder (D := D + 1) hqq5) (?_ : am_gi (D + 2) 240 o (112, [(0, .ref 53), (2, .int a2), (3, .int (a1 - (nI 10)))], [.int q5.1], ww q5.2, 0, 0)))
              refine am_go_blk 1 ⟨fun hc => ?_, fun hc => ?_⟩
              · have H := am_it hc H
                exact T_Mod_taken_119 q5.2 H
              · have H := am_ie hc H
                show am_gi (D + 2) 240 o (115, [(0, .ref 53), (2, .int a2), (3, .int (a1 - (nI 10)))], [], ww q5.2, 0, 0)
                exact am_go_blk 2 (T_Mod_taken_121 (a1 - (nI 10)) q5.2 H)
          · have H := am_ie hc H
            exact T_Mod_taken_91 q4.2 H
      · have H := am_ie hc H
        show am_gi (D + 2) 240 o (32, [(0, .ref 53), (1, .int a1), (2, .int a2)], [], ww q2.2, 0, 0)
        obtain ⟨q6, hqq6, H⟩ := am_bnE H
        refine am_go_blk 2 (?_ : am_gi (D + 2) 240 o (34, [(0, .ref 53), (1, .int a1), (2, .int a2)], [.int a1, .ref 53], ww q2.2, 0, 0))
        refine am_invd rfl rfl rfl rfl (am_calli rfl (M_Mod_isLock (D := D) hqq6) (?_ : am_gi (D + 2) 240 o (37, [(0, .ref 53), (1, .int a1), (2, .int a2)], [.int q6.1], ww q6.2, 0, 0)))
        refine am_go_blk 1 ⟨fun hc => ?_, fun hc => ?_⟩
        · have H := am_it hc H
          exact T_Mod_taken_48 q6.2 H
        · have H := am_ie hc H
          show am_gi (D + 2) 240 o (40, [(0, .ref 53), (1, .int a1), (2, .int a2)], [], ww q6.2, 0, 0)
          obtain ⟨q7, hqq7, H⟩ := am_bnE H
          refine am_go_blk 2 (?_ : am_gi (D + 2) 240 o (42, [(0, .ref 53), (1, .int a1), (2, .int a2)], [.int a1, .ref 53], ww q6.2, 0, 0))
          refine am_invd rfl rfl rfl rfl (am_calli rfl (M_Mod_isShut (D := D) hqq7) (?_ : am_gi (D + 2) 240 o (45, [(0, .ref 53), (1, .int a1), (2, .int a2)], [.int q7.1], ww q7.2, 0, 0)))
          refine am_go_blk 1 ⟨fun hc => ?_, fun hc => ?_⟩
          · have H := am_ie hc H
            show am_gi (D + 2) 240 o (53, [(0, .ref 53), (1, .int a1), (2, .int a2)], [], ww q7.2, 0, 0)
            refine am_go_blk 3 ⟨fun hc => ?_, fun hc => ?_⟩
            · have H := am_ie hc H
              show am_gi (D + 2) 240 o (67, [], [], ww q7.2, 0, 0)
              exact am_go_blk 1 (T_Mod_taken_69 (-nI 13) q7.2 H)
            · have H := am_it hc H
              show am_gi (D + 2) 240 o (59, [(0, .ref 53), (1, .int a1), (2, .int a2)], [], ww q7.2, 0, 0)
              obtain ⟨q8, hqq8, H⟩ := am_bnE H
              refine am_go_blk 2 (?_ : am_gi (D + 2) 240 o (61, [(0, .ref 53), (1, .int a1), (2, .int a2)], [.int a1, .ref 53], ww q7.2, 0, 0))
              refine am_invd rfl rfl rfl rfl (am_calli rfl (M_Mod_through (D := D + 1) hqq8) (?_ : am_gi (D + 2) 240 o (64, [(0, .ref 53), (1, .int a1), (2, .int a2)], [.int q8.1], ww q8.2, 0, 0)))
              exact am_go_blk 1 (T_Mod_taken_69 q8.1 q8.2 H)
          · have H := am_it hc H
            exact T_Mod_taken_48 q7.2 H
    · have H := am_it hc H
      show am_gi (D + 2) 240 o (23, [(0, .ref 53), (1, .int a1), (2, .int a2)], [], ww q2.2, 0, 0)
      exact am_go_blk 2 ⟨rfl, am_fi H⟩
  · have H := am_it hc H
    show am_gi (D + 2) 240 o (10, [(0, .ref 53), (1, .int a1), (2, .int a2)], [], ww q1.2, 0, 0)
    exact am_go_blk 2 ⟨rfl, am_fi H⟩
theorem M_Mod_taken {D : Nat} {o : Int32 × am_W} {a1 : Int32} {a2 : Int32} {w : am_W} (H : F_Mod_taken a1 a2 w = some o) : am_run (D + 3) 240 [.ref 53, .int a1, .int a2] (ww w) (some (.int o.1)) (ww o.2) 0 0 :=
  am_run_of rfl (T_Mod_taken a1 a2 w H)
