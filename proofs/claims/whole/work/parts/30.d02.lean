/-! ===== the methods as functions, and that each does what its function says: Rail_holders .. Loc_hour ===== -/
def F_Rail_holders_39 (r4 : Int32 → Int32 → Int32 → am_W → Option (Int32 × am_W)) (a1 : Int32) (a3 : Int32) (s0 : Int32) (s1 : Int32) (w : am_W) : Option (Int32 × am_W) :=
  r4 a1 (s1 ||| s0) (a3 + (nI 1)) w
def F_Rail_holders_38 (r4 : Int32 → Int32 → Int32 → am_W → Option (Int32 × am_W)) (a1 : Int32) (a3 : Int32) (s0 : Int32) (w : am_W) : Option (Int32 × am_W) :=
  F_Rail_holders_39 r4 a1 a3 (nI 0) s0 w
def F_Rail_holders_4 (r4 : Int32 → Int32 → Int32 → am_W → Option (Int32 × am_W)) (a1 : Int32) (a2 : Int32) (a3 : Int32) (w : am_W) : Option (Int32 × am_W) :=
  if (w.1 1 2) ≤ a3 then (some (a2, w)) else (am_ck (am_in a3 10) (if (w.1 5 a3.toNatClampNeg) = a1 then (F_Rail_holders_38 r4 a1 a3 a2 w) else ((F_Rail_isFixing a3 a1 w).bind fun q1 => if q1.1 = 0 then (F_Rail_holders_38 r4 a1 a3 a2 q1.2) else (F_Rail_holders_39 r4 a1 a3 ((nI 1) <<< (a3 &&& 31)) a2 q1.2))))
def L_Rail_holders_4 : Nat → Int32 → Int32 → Int32 → am_W → Option (Int32 × am_W)
  | 0, _, _, _, _ => none
  | n + 1, a1, a2, a3, w => F_Rail_holders_4 (L_Rail_holders_4 n) a1 a2 a3 w
def F_Rail_holders (a1 : Int32) (w : am_W) : Option (Int32 × am_W) :=
  L_Rail_holders_4 am_NF a1 (nI 0) (nI 0) w
theorem T_Rail_holders_39 {D : Nat} {o : Int32 × am_W} {r4 : Int32 → Int32 → Int32 → am_W → Option (Int32 × am_W)} (Hr4 : ∀ (a1 : Int32) (a2 : Int32) (a3 : Int32) (w : am_W) , r4 a1 a2 a3 w = some o → am_gi (D + 3) 43 o (4, [(0, .ref 1), (1, .int a1), (2, .int a2), (3, .int a3)], [], ww w, 0, 0)) (a1 : Int32) (a3 : Int32) (s0 : Int32) (s1 : Int32) (w : am_W) (H : F_Rail_holders_39 r4 a1 a3 s0 s1 w = some o) : am_gi (D + 3) 43 o (39, [(0, .ref 1), (1, .int a1), (3, .int a3)], [.int s0, .int s1], ww w, 0, 0) := by
  unfold F_Rail_holders_39 at H
  exact am_go_blk 4 (Hr4 a1 (s1 ||| s0) (a3 + (nI 1)) w H)
theorem T_Rail_holders_38 {D : Nat} {o : Int32 × am_W} {r4 : Int32 → Int32 → Int32 → am_W → Option (Int32 × am_W)} (Hr4 : ∀ (a1 : Int32) (a2 : Int32) (a3 : Int32) (w : am_W) , r4 a1 a2 a3 w = some o → am_gi (D + 3) 43 o (4, [(0, .ref 1), (1, .int a1), (2, .int a2), (3, .int a3)], [], ww w, 0, 0)) (a1 : Int32) (a3 : Int32) (s0 : Int32) (w : am_W) (H : F_Rail_holders_38 r4 a1 a3 s0 w = some o) : am_gi (D + 3) 43 o (38, [(0, .ref 1), (1, .int a1), (3, .int a3)], [.int s0], ww w, 0, 0) := by
  unfold F_Rail_holders_38 at H
  exact am_go_blk 1 (T_Rail_holders_39 Hr4 a1 a3 (nI 0) s0 w H)
theorem T_Rail_holders_4 {D : Nat} {o : Int32 × am_W} {r4 : Int32 → Int32 → Int32 → am_W → Option (Int32 × am_W)} (Hr4 : ∀ (a1 : Int32) (a2 : Int32) (a3 : Int32) (w : am_W) , r4 a1 a2 a3 w = some o → am_gi (D + 3) 43 o (4, [(0, .ref 1), (1, .int a1), (2, .int a2), (3, .int a3)], [], ww w, 0, 0)) (a1 : Int32) (a2 : Int32) (a3 : Int32) (w : am_W) (H : F_Rail_holders_4 r4 a1 a2 a3 w = some o) : am_gi (D + 3) 43 o (4, [(0, .ref 1), (1, .int a1), (2, .int a2), (3, .int a3)], [], ww w, 0, 0) := by
  unfold F_Rail_holders_4 at H
  refine am_go_blk 4 ⟨fun hc => ?_, fun hc => ?_⟩
  · have H := am_it hc H
    show am_gi (D + 3) 43 o (47, [(2, .int a2)], [], ww w, 0, 0)
    exact am_go_blk 2 ⟨rfl, am_fi H⟩
  · have H := am_ie hc H
    show am_gi (D + 3) 43 o (12, [(0, .ref 1), (1, .int a1), (2, .int a2), (3, .int a3)], [], ww w, 0, 0)
    obtain ⟨hc, H⟩ := am_ckE H
    refine am_go_blk 5 ⟨am_inv hc, (?_ : am_gi (D + 3) 43 o (19, [(0, .ref 1), (1, .int a1), (2, .int a2), (3, .int a3)], [.int (w.1 5 a3.toNatClampNeg), .int a2], ww w, 0, 0))⟩
    refine am_go_blk 2 ⟨fun hc => ?_, fun hc => ?_⟩
    · have H := am_it hc H
      exact T_Rail_holders_38 Hr4 a1 a3 a2 w H
    · have H := am_ie hc H
      show am_gi (D + 3) 43 o (23, [(0, .ref 1), (1, .int a1), (2, .int a2), (3, .int a3)], [.int a2], ww w, 0, 0)
      obtain ⟨q1, hqq1, H⟩ := am_bnE H
      refine am_go_blk 3 (?_ : am_gi (D + 3) 43 o (26, [(0, .ref 1), (1, .int a1), (2, .int a2), (3, .int a3)], [.int a1, .int a3, .ref 1, .int a2], ww w, 0, 0))
      refine am_invd rfl rfl rfl rfl (am_calli rfl (M_Rail_isFixing (D := D) hqq1) (?_ : am_gi (D + 3) 43 o (29, [(0, .ref 1), (1, .int a1), (2, .int a2), (3, .int a3)], [.int q1.1, .int a2], ww q1.2, 0, 0)))
      refine am_go_blk 1 ⟨fun hc => ?_, fun hc => ?_⟩
      · have H := am_it hc H
        exact T_Rail_holders_38 Hr4 a1 a3 a2 q1.2 H
      · have H := am_ie hc H
        show am_gi (D + 3) 43 o (32, [(0, .ref 1), (1, .int a1), (2, .int a2), (3, .int a3)], [.int a2], ww q1.2, 0, 0)
        exact am_go_blk 4 (T_Rail_holders_39 Hr4 a1 a3 ((nI 1) <<< (a3 &&& 31)) a2 q1.2 H)
theorem TL_Rail_holders_4 {D : Nat} {o : Int32 × am_W} : ∀ (n : Nat) (a1 : Int32) (a2 : Int32) (a3 : Int32) (w : am_W) , L_Rail_holders_4 n a1 a2 a3 w = some o → am_gi (D + 3) 43 o (4, [(0, .ref 1), (1, .int a1), (2, .int a2), (3, .int a3)], [], ww w, 0, 0)
  | 0, _, _, _, _, H => by cases H
  | n + 1, a1, a2, a3, w, H => T_Rail_holders_4 (TL_Rail_holders_4 n) a1 a2 a3 w H
theorem T_Rail_holders {D : Nat} {o : Int32 × am_W} (a1 : Int32) (w : am_W) (H : F_Rail_holders a1 w = some o) : am_gi (D + 3) 43 o (0, [(0, .ref 1), (1, .int a1)], [], ww w, 0, 0) := by
  unfold F_Rail_holders at H
  exact am_go_blk 4 (TL_Rail_holders_4 am_NF a1 (nI 0) (nI 0) w H)
theorem M_Rail_holders {D : Nat} {o : Int32 × am_W} {a1 : Int32} {w : am_W} (H : F_Rail_holders a1 w = some o) : am_run (D + 4) 43 [.ref 1, .int a1] (ww w) (some (.int o.1)) (ww o.2) 0 0 :=
  am_run_of rfl (T_Rail_holders a1 w H)
def F_Loc_holds_24 (s0 : Int32) (w : am_W) : Option (Int32 × am_W) :=
  some (s0, w)
def F_Loc_holds (a1 : Int32) (w : am_W) : Option (Int32 × am_W) :=
  (F_Rail_isThing a1 w).bind fun q1 => if q1.1 = 0 then (F_Loc_holds_24 (-nI 5) q1.2) else ((F_Rail_holders a1 q1.2).bind fun q2 => F_Loc_holds_24 q2.1 q2.2)
theorem T_Loc_holds_24 {D : Nat} {o : Int32 × am_W} (s0 : Int32) (w : am_W) (H : F_Loc_holds_24 s0 w = some o) : am_gi (D + 4) 80 o (24, [], [.int s0], ww w, 0, 0) := by
  unfold F_Loc_holds_24 at H
  exact am_go_blk 1 ⟨rfl, am_fi H⟩
theorem T_Loc_holds {D : Nat} {o : Int32 × am_W} (a1 : Int32) (w : am_W) (H : F_Loc_holds a1 w = some o) : am_gi (D + 4) 80 o (0, [(0, .ref 0), (1, .int a1)], [], ww w, 0, 0) := by
  unfold F_Loc_holds at H
  obtain ⟨q1, hqq1, H⟩ := am_bnE H
  refine am_go_blk 3 (?_ : am_gi (D + 4) 80 o (5, [(0, .ref 0), (1, .int a1)], [.int a1, .ref 1], ww w, 0, 0))
  refine am_invd rfl rfl rfl rfl (am_calli rfl (M_Rail_isThing (D := D + 3) hqq1) (?_ : am_gi (D + 4) 80 o (8, [(0, .ref 0), (1, .int a1)], [.int q1.1], ww q1.2, 0, 0)))
  refine am_go_blk 1 ⟨fun hc => ?_, fun hc => ?_⟩
  · have H := am_it hc H
    show am_gi (D + 4) 80 o (22, [], [], ww q1.2, 0, 0)
    exact am_go_blk 1 (T_Loc_holds_24 (-nI 5) q1.2 H)
  · have H := am_ie hc H
    show am_gi (D + 4) 80 o (11, [(0, .ref 0), (1, .int a1)], [], ww q1.2, 0, 0)
    obtain ⟨q2, hqq2, H⟩ := am_bnE H
    refine am_go_blk 3 (?_ : am_gi (D + 4) 80 o (16, [(0, .ref 0), (1, .int a1)], [.int a1, .ref 1], ww q1.2, 0, 0))
    refine am_invd rfl rfl rfl rfl (am_calli rfl (M_Rail_holders (D := D) hqq2) (?_ : am_gi (D + 4) 80 o (19, [(0, .ref 0), (1, .int a1)], [.int q2.1], ww q2.2, 0, 0)))
    exact am_go_blk 1 (T_Loc_holds_24 q2.1 q2.2 H)
theorem M_Loc_holds {D : Nat} {o : Int32 × am_W} {a1 : Int32} {w : am_W} (H : F_Loc_holds a1 w = some o) : am_run (D + 5) 80 [.ref 0, .int a1] (ww w) (some (.int o.1)) (ww o.2) 0 0 :=
  am_run_of rfl (T_Loc_holds a1 w H)
def F_Rail_canGo_97 (r5 : Int32 → Int32 → Int32 → Int32 → am_W → Option (Int32 × am_W)) (a1 : Int32) (a2 : Int32) (a3 : Int32) (a4 : Int32) (w : am_W) : Option (Int32 × am_W) :=
  r5 a1 a2 a3 (a4 + (nI 1)) w
def F_Rail_canGo_68 (r5 : Int32 → Int32 → Int32 → Int32 → am_W → Option (Int32 × am_W)) (a1 : Int32) (a2 : Int32) (a3 : Int32) (a4 : Int32) (s0 : Int32) (w : am_W) : Option (Int32 × am_W) :=
  if s0 = 0 then (F_Rail_canGo_97 r5 a1 a2 a3 a4 w) else (am_ck (am_in a4 10) (am_ck (am_in a4 10) (F_Rail_canGo_97 r5 a1 a2 (a3 ||| ((w.1 8 a4.toNatClampNeg) &&& (((nI 1) <<< ((w.1 5 a4.toNatClampNeg) &&& 31)) ^^^ (-nI 1)))) a4 w)))
def F_Rail_canGo_5 (r5 : Int32 → Int32 → Int32 → Int32 → am_W → Option (Int32 × am_W)) (a1 : Int32) (a2 : Int32) (a3 : Int32) (a4 : Int32) (w : am_W) : Option (Int32 × am_W) :=
  if (w.1 1 2) ≤ a4 then ((F_Rail_allThings w).bind fun q1 => some (((q1.1 &&& (a1 ^^^ (-nI 1))) &&& (a3 ^^^ (-nI 1))), q1.2)) else ((F_Loc_has a2 a4 w).bind fun q2 => if q2.1 = 0 then (am_ck (am_in a4 10) ((F_Loc_has a1 (q2.2.1 5 a4.toNatClampNeg) q2.2).bind fun q3 => if q3.1 = 0 then (am_ck (am_in a4 10) (if (((q3.2.1 7 a4.toNatClampNeg) &&& (a1 ^^^ (-nI 1))) &&& (((q3.2.1 7 a4.toNatClampNeg) &&& (a1 ^^^ (-nI 1))) - (nI 1))) = 0 then (F_Rail_canGo_68 r5 a1 a2 a3 a4 (nI 0) q3.2) else (F_Rail_canGo_68 r5 a1 a2 a3 a4 (nI 1) q3.2))) else (F_Rail_canGo_97 r5 a1 a2 a3 a4 q3.2))) else (F_Rail_canGo_97 r5 a1 a2 a3 a4 q2.2))
def L_Rail_canGo_5 : Nat → Int32 → Int32 → Int32 → Int32 → am_W → Option (Int32 × am_W)
  | 0, _, _, _, _, _ => none
  | n + 1, a1, a2, a3, a4, w => F_Rail_canGo_5 (L_Rail_canGo_5 n) a1 a2 a3 a4 w
def F_Rail_canGo (a1 : Int32) (a2 : Int32) (w : am_W) : Option (Int32 × am_W) :=
  L_Rail_canGo_5 am_NF a1 a2 (nI 0) (nI 0) w
theorem T_Rail_canGo_97 {D : Nat} {o : Int32 × am_W} {r5 : Int32 → Int32 → Int32 → Int32 → am_W → Option (Int32 × am_W)} (Hr5 : ∀ (a1 : Int32) (a2 : Int32) (a3 : Int32) (a4 : Int32) (w : am_W) , r5 a1 a2 a3 a4 w = some o → am_gi (D + 1) 45 o (5, [(0, .ref 1), (1, .int a1), (2, .int a2), (3, .int a3), (4, .int a4)], [], ww w, 0, 0)) (a1 : Int32) (a2 : Int32) (a3 : Int32) (a4 : Int32) (w : am_W) (H : F_Rail_canGo_97 r5 a1 a2 a3 a4 w = some o) : am_gi (D + 1) 45 o (97, [(0, .ref 1), (1, .int a1), (2, .int a2), (3, .int a3), (4, .int a4)], [], ww w, 0, 0) := by
  unfold F_Rail_canGo_97 at H
  exact am_go_blk 2 (Hr5 a1 a2 a3 (a4 + (nI 1)) w H)
theorem T_Rail_canGo_68 {D : Nat} {o : Int32 × am_W} {r5 : Int32 → Int32 → Int32 → Int32 → am_W → Option (Int32 × am_W)} (Hr5 : ∀ (a1 : Int32) (a2 : Int32) (a3 : Int32) (a4 : Int32) (w : am_W) , r5 a1 a2 a3 a4 w = some o → am_gi (D + 1) 45 o (5, [(0, .ref 1), (1, .int a1), (2, .int a2), (3, .int a3), (4, .int a4)], [], ww w, 0, 0)) (a1 : Int32) (a2 : Int32) (a3 : Int32) (a4 : Int32) (s0 : Int32) (w : am_W) (H : F_Rail_canGo_68 r5 a1 a2 a3 a4 s0 w = some o) : am_gi (D + 1) 45 o (68, [(0, .ref 1), (1, .int a1), (2, .int a2), (3, .int a3), (4, .int a4)], [.int s0], ww w, 0, 0) := by
  unfold F_Rail_canGo_68 at H
  refine am_go_blk 3 ⟨fun hc => ?_, fun hc => ?_⟩
  · have H := am_it hc H
    exact T_Rail_canGo_97 Hr5 a1 a2 a3 a4 w H
  · have H := am_ie hc H
    show am_gi (D + 1) 45 o (75, [(6, .int s0), (0, .ref 1), (1, .int a1), (2, .int a2), (3, .int a3), (4, .int a4)], [], ww w, 0, 0)
    obtain ⟨hc, H⟩ := am_ckE H
    refine am_go_blk 5 ⟨am_inv hc, (?_ : am_gi (D + 1) 45 o (83, [(6, .int s0), (0, .ref 1), (1, .int a1), (2, .int a2), (3, .int a3), (4, .int a4)], [.int (w.1 8 a4.toNatClampNeg), .int a3], ww w, 0, 0))⟩
    obtain ⟨hc, H⟩ := am_ckE H
    refine am_go_blk 5 ⟨am_inv hc, (?_ : am_gi (D + 1) 45 o (91, [(6, .int s0), (0, .ref 1), (1, .int a1), (2, .int a2), (3, .int a3), (4, .int a4)], [.int (w.1 5 a4.toNatClampNeg), .int (nI 1), .int (w.1 8 a4.toNatClampNeg), .int a3], ww w, 0, 0))⟩
    exact am_go_blk 6 (T_Rail_canGo_97 Hr5 a1 a2 (a3 ||| ((w.1 8 a4.toNatClampNeg) &&& (((nI 1) <<< ((w.1 5 a4.toNatClampNeg) &&& 31)) ^^^ (-nI 1)))) a4 w H)
theorem T_Rail_canGo_5 {D : Nat} {o : Int32 × am_W} {r5 : Int32 → Int32 → Int32 → Int32 → am_W → Option (Int32 × am_W)} (Hr5 : ∀ (a1 : Int32) (a2 : Int32) (a3 : Int32) (a4 : Int32) (w : am_W) , r5 a1 a2 a3 a4 w = some o → am_gi (D + 1) 45 o (5, [(0, .ref 1), (1, .int a1), (2, .int a2), (3, .int a3), (4, .int a4)], [], ww w, 0, 0)) (a1 : Int32) (a2 : Int32) (a3 : Int32) (a4 : Int32) (w : am_W) (H : F_Rail_canGo_5 r5 a1 a2 a3 a4 w = some o) : am_gi (D + 1) 45 o (5, [(0, .ref 1), (1, .int a1), (2, .int a2), (3, .int a3), (4, .int a4)], [], ww w, 0, 0) := by
  unfold F_Rail_canGo_5 at H
  refine am_go_blk 4 ⟨fun hc => ?_, fun hc => ?_⟩
  · have H := am_it hc H
    show am_gi (D + 1) 45 o (103, [(0, .ref 1), (1, .int a1), (3, .int a3)], [], ww w, 0, 0)
    obtain ⟨q1, hqq1, H⟩ := am_bnE H
    refine am_go_blk 1 (?_ : am_gi (D + 1) 45 o (104, [(0, .ref 1), (1, .int a1), (3, .int a3)], [.ref 1], ww w, 0, 0))
    refine am_invd rfl rfl rfl rfl (am_calli rfl (M_Rail_allThings (D := D) hqq1) (?_ : am_gi (D + 1) 45 o (107, [(0, .ref 1), (1, .int a1), (3, .int a3)], [.int q1.1], ww q1.2, 0, 0)))
    exact am_go_blk 9 ⟨rfl, am_fi H⟩
  · have H := am_ie hc H
    show am_gi (D + 1) 45 o (14, [(0, .ref 1), (1, .int a1), (2, .int a2), (3, .int a3), (4, .int a4)], [], ww w, 0, 0)
    obtain ⟨q2, hqq2, H⟩ := am_bnE H
    refine am_go_blk 2 (?_ : am_gi (D + 1) 45 o (17, [(0, .ref 1), (1, .int a1), (2, .int a2), (3, .int a3), (4, .int a4)], [.int a4, .int a2], ww w, 0, 0))
    refine am_cls rfl rfl rfl (am_calli rfl (M_Loc_has (D := D) hqq2) (?_ : am_gi (D + 1) 45 o (20, [(0, .ref 1), (1, .int a1), (2, .int a2), (3, .int a3), (4, .int a4)], [.int q2.1], ww q2.2, 0, 0)))
    refine am_go_blk 1 ⟨fun hc => ?_, fun hc => ?_⟩
    · have H := am_ie hc H
      exact T_Rail_canGo_97 Hr5 a1 a2 a3 a4 q2.2 H
    · have H := am_it hc H
      show am_gi (D + 1) 45 o (23, [(0, .ref 1), (1, .int a1), (2, .int a2), (3, .int a3), (4, .int a4)], [], ww q2.2, 0, 0)
      obtain ⟨hc, H⟩ := am_ckE H
      refine am_go_blk 5 ⟨am_inv hc, (?_ : am_gi (D + 1) 45 o (31, [(0, .ref 1), (1, .int a1), (2, .int a2), (3, .int a3), (4, .int a4)], [.int (q2.2.1 5 a4.toNatClampNeg), .int a1], ww q2.2, 0, 0))⟩
      obtain ⟨q3, hqq3, H⟩ := am_bnE H
      refine am_cls rfl rfl rfl (am_calli rfl (M_Loc_has (D := D) hqq3) (?_ : am_gi (D + 1) 45 o (34, [(0, .ref 1), (1, .int a1), (2, .int a2), (3, .int a3), (4, .int a4)], [.int q3.1], ww q3.2, 0, 0)))
      refine am_go_blk 1 ⟨fun hc => ?_, fun hc => ?_⟩
      · have H := am_it hc H
        show am_gi (D + 1) 45 o (40, [(0, .ref 1), (1, .int a1), (2, .int a2), (3, .int a3), (4, .int a4)], [], ww q3.2, 0, 0)
        obtain ⟨hc, H⟩ := am_ckE H
        refine am_go_blk 4 ⟨am_inv hc, (?_ : am_gi (D + 1) 45 o (47, [(0, .ref 1), (1, .int a1), (2, .int a2), (3, .int a3), (4, .int a4)], [.int (q3.2.1 7 a4.toNatClampNeg)], ww q3.2, 0, 0))⟩
        refine am_go_blk 11 ⟨fun hc => ?_, fun hc => ?_⟩
        · have H := am_it hc H
          show am_gi (D + 1) 45 o (67, [(0, .ref 1), (1, .int a1), (2, .int a2), (3, .int a3), (4, .int a4)], [], ww q3.2, 0, 0)
          exact am_go_blk 1 (T_Rail_canGo_68 Hr5 a1 a2 a3 a4 (nI 0) q3.2 H)
        · have H := am_ie hc H
          show am_gi (D + 1) 45 o (63, [(5, .int ((q3.2.1 7 a4.toNatClampNeg) &&& (a1 ^^^ (-nI 1)))), (0, .ref 1), (1, .int a1), (2, .int a2), (3, .int a3), (4, .int a4)], [], ww q3.2, 0, 0)
          exact am_go_blk 2 (T_Rail_canGo_68 Hr5 a1 a2 a3 a4 (nI 1) q3.2 H)
      · have H := am_ie hc H
        show am_gi (D + 1) 45 o (37, [(0, .ref 1), (1, .int a1), (2, .int a2), (3, .int a3), (4, .int a4)], [], ww q3.2, 0, 0)
        exact am_go_blk 1 (T_Rail_canGo_97 Hr5 a1 a2 a3 a4 q3.2 H)
theorem TL_Rail_canGo_5 {D : Nat} {o : Int32 × am_W} : ∀ (n : Nat) (a1 : Int32) (a2 : Int32) (a3 : Int32) (a4 : Int32) (w : am_W) , L_Rail_canGo_5 n a1 a2 a3 a4 w = some o → am_gi (D + 1) 45 o (5, [(0, .ref 1), (1, .int a1), (2, .int a2), (3, .int a3), (4, .int a4)], [], ww w, 0, 0)
  | 0, _, _, _, _, _, H => by cases H
  | n + 1, a1, a2, a3, a4, w, H => T_Rail_canGo_5 (TL_Rail_canGo_5 n) a1 a2 a3 a4 w H
theorem T_Rail_canGo {D : Nat} {o : Int32 × am_W} (a1 : Int32) (a2 : Int32) (w : am_W) (H : F_Rail_canGo a1 a2 w = some o) : am_gi (D + 1) 45 o (0, [(0, .ref 1), (1, .int a1), (2, .int a2)], [], ww w, 0, 0) := by
  unfold F_Rail_canGo at H
  exact am_go_blk 4 (TL_Rail_canGo_5 am_NF a1 a2 (nI 0) (nI 0) w H)
theorem M_Rail_canGo {D : Nat} {o : Int32 × am_W} {a1 : Int32} {a2 : Int32} {w : am_W} (H : F_Rail_canGo a1 a2 w = some o) : am_run (D + 2) 45 [.ref 1, .int a1, .int a2] (ww w) (some (.int o.1)) (ww o.2) 0 0 :=
  am_run_of rfl (T_Rail_canGo a1 a2 w H)
def F_Loc_free (w : am_W) : Option (Int32 × am_W) :=
  (F_Rail_canGo (w.1 1 1) (w.1 1 3) w).bind fun q1 => some (q1.1, q1.2)
theorem T_Loc_free {D : Nat} {o : Int32 × am_W} (w : am_W) (H : F_Loc_free w = some o) : am_gi (D + 2) 81 o (0, [(0, .ref 0)], [], ww w, 0, 0) := by
  unfold F_Loc_free at H
  obtain ⟨q1, hqq1, H⟩ := am_bnE H
  refine am_go_blk 8 (?_ : am_gi (D + 2) 81 o (18, [(0, .ref 0)], [.int (w.1 1 3), .int (w.1 1 1), .ref 1], ww w, 0, 0))
  refine am_invd rfl rfl rfl rfl (am_calli rfl (M_Rail_canGo (D := D) hqq1) (?_ : am_gi (D + 2) 81 o (21, [(0, .ref 0)], [.int q1.1], ww q1.2, 0, 0)))
  exact am_go_blk 1 ⟨rfl, am_fi H⟩
theorem M_Loc_free {D : Nat} {o : Int32 × am_W} {w : am_W} (H : F_Loc_free w = some o) : am_run (D + 3) 81 [.ref 0] (ww w) (some (.int o.1)) (ww o.2) 0 0 :=
  am_run_of rfl (T_Loc_free w H)
def F_Loc_go (a1 : Int32) (w : am_W) : Option (Int32 × am_W) :=
  (F_Rail_isThing a1 w).bind fun q1 => if q1.1 = 0 then (some ((-nI 5), q1.2)) else ((F_Rail_canGo (q1.2.1 1 1) (q1.2.1 1 3) q1.2).bind fun q2 => (F_Loc_has q2.1 a1 q2.2).bind fun q3 => if q3.1 = 0 then (some ((-nI 3), q3.2)) else (am_lt (wsf q3.2 1 1 ((q3.2.1 1 1) ||| ((nI 1) <<< (a1 &&& 31)))) fun w4 => (F_Jint_bitCount_0f7a4 (w4.1 1 1) w4).bind fun q5 => some (((w4.1 1 0) - q5.1), q5.2)))
theorem T_Loc_go {D : Nat} {o : Int32 × am_W} (a1 : Int32) (w : am_W) (H : F_Loc_go a1 w = some o) : am_gi (D + 2) 82 o (0, [(0, .ref 0), (1, .int a1)], [], ww w, 0, 0) := by
  unfold F_Loc_go at H
  obtain ⟨q1, hqq1, H⟩ := am_bnE H
  refine am_go_blk 3 (?_ : am_gi (D + 2) 82 o (5, [(0, .ref 0), (1, .int a1)], [.int a1, .ref 1], ww w, 0, 0))
  refine am_invd rfl rfl rfl rfl (am_calli rfl (M_Rail_isThing (D := D + 1) hqq1) (?_ : am_gi (D + 2) 82 o (8, [(0, .ref 0), (1, .int a1)], [.int q1.1], ww q1.2, 0, 0)))
  refine am_go_blk 1 ⟨fun hc => ?_, fun hc => ?_⟩
  · have H := am_ie hc H
    show am_gi (D + 2) 82 o (14, [(0, .ref 0), (1, .int a1)], [], ww q1.2, 0, 0)
    obtain ⟨q2, hqq2, H⟩ := am_bnE H
    refine am_go_blk 8 (?_ : am_gi (D + 2) 82 o (32, [(0, .ref 0), (1, .int a1)], [.int (q1.2.1 1 3), .int (q1.2.1 1 1), .ref 1], ww q1.2, 0, 0))
    refine am_invd rfl rfl rfl rfl (am_calli rfl (M_Rail_canGo (D := D) hqq2) (?_ : am_gi (D + 2) 82 o (35, [(0, .ref 0), (1, .int a1)], [.int q2.1], ww q2.2, 0, 0)))
    obtain ⟨q3, hqq3, H⟩ := am_bnE H
    refine am_go_blk 1 (?_ : am_gi (D + 2) 82 o (36, [(0, .ref 0), (1, .int a1)], [.int a1, .int q2.1], ww q2.2, 0, 0))
    refine am_cls rfl rfl rfl (am_calli rfl (M_Loc_has (D := D + 1) hqq3) (?_ : am_gi (D + 2) 82 o (39, [(0, .ref 0), (1, .int a1)], [.int q3.1], ww q3.2, 0, 0)))
    refine am_go_blk 1 ⟨fun hc => ?_, fun hc => ?_⟩
    · have H := am_ie hc H
      show am_gi (D + 2) 82 o (45, [(0, .ref 0), (1, .int a1)], [], ww q3.2, 0, 0)
      obtain ⟨w4, ew4, H⟩ := am_ltE H
      refine am_go_blk 9 ⟨rfl, rfl, am_hp (ww_f1_1 ew4) (?_ : am_gi (D + 2) 82 o (60, [(0, .ref 0), (1, .int a1)], [], ww w4, 0, 0))⟩
      obtain ⟨q5, hqq5, H⟩ := am_bnE H
      refine am_go_blk 6 (?_ : am_gi (D + 2) 82 o (74, [(0, .ref 0), (1, .int a1)], [.int (w4.1 1 1), .int (w4.1 1 0)], ww w4, 0, 0))
      refine am_cls rfl rfl rfl (am_calli rfl (M_Jint_bitCount_0f7a4 (D := D + 1) hqq5) (?_ : am_gi (D + 2) 82 o (77, [(0, .ref 0), (1, .int a1)], [.int q5.1, .int (w4.1 1 0)], ww q5.2, 0, 0)))
      exact am_go_blk 2 ⟨rfl, am_fi H⟩
    · have H := am_it hc H
      show am_gi (D + 2) 82 o (42, [(0, .ref 0), (1, .int a1)], [], ww q3.2, 0, 0)
      exact am_go_blk 2 ⟨rfl, am_fi H⟩
  · have H := am_it hc H
    show am_gi (D + 2) 82 o (11, [(0, .ref 0), (1, .int a1)], [], ww q1.2, 0, 0)
    exact am_go_blk 2 ⟨rfl, am_fi H⟩
theorem M_Loc_go {D : Nat} {o : Int32 × am_W} {a1 : Int32} {w : am_W} (H : F_Loc_go a1 w = some o) : am_run (D + 3) 82 [.ref 0, .int a1] (ww w) (some (.int o.1)) (ww o.2) 0 0 :=
  am_run_of rfl (T_Loc_go a1 w H)
def F_Law_sawing (a1 : Int32) (a2 : Int32) (w : am_W) : Option (Int32 × am_W) :=
  am_ck (am_in a2 10) ((F_Law_says a1 (nI 1) (w.1 5 a2.toNatClampNeg) a2 (nI 0) w).bind fun q1 => some (q1.1, q1.2))
theorem T_Law_sawing {D : Nat} {o : Int32 × am_W} (a1 : Int32) (a2 : Int32) (w : am_W) (H : F_Law_sawing a1 a2 w = some o) : am_gi (D + 4) 13 o (0, [(0, .ref 17), (1, .int a1), (2, .int a2)], [], ww w, 0, 0) := by
  unfold F_Law_sawing at H
  obtain ⟨hc, H⟩ := am_ckE H
  refine am_go_blk 8 ⟨am_inv hc, (?_ : am_gi (D + 4) 13 o (12, [(0, .ref 17), (1, .int a1), (2, .int a2)], [.int (w.1 5 a2.toNatClampNeg), .int (nI 1), .int a1, .ref 17], ww w, 0, 0))⟩
  obtain ⟨q1, hqq1, H⟩ := am_bnE H
  refine am_go_blk 2 (?_ : am_gi (D + 4) 13 o (14, [(0, .ref 17), (1, .int a1), (2, .int a2)], [.int (nI 0), .int a2, .int (w.1 5 a2.toNatClampNeg), .int (nI 1), .int a1, .ref 17], ww w, 0, 0))
  refine am_invd rfl rfl rfl rfl (am_calli rfl (M_Law_says (D := D) hqq1) (?_ : am_gi (D + 4) 13 o (17, [(0, .ref 17), (1, .int a1), (2, .int a2)], [.int q1.1], ww q1.2, 0, 0)))
  exact am_go_blk 1 ⟨rfl, am_fi H⟩
theorem M_Law_sawing {D : Nat} {o : Int32 × am_W} {a1 : Int32} {a2 : Int32} {w : am_W} (H : F_Law_sawing a1 a2 w = some o) : am_run (D + 5) 13 [.ref 17, .int a1, .int a2] (ww w) (some (.int o.1)) (ww o.2) 0 0 :=
  am_run_of rfl (T_Law_sawing a1 a2 w H)
def F_Loc_saw (a1 : Int32) (w : am_W) : Option (Int32 × am_W) :=
  (F_Rail_isLock a1 w).bind fun q1 => if q1.1 = 0 then (some ((-nI 5), q1.2)) else ((F_Rail_isShut a1 q1.2).bind fun q2 => if q2.1 = 0 then (some ((-nI 3), q2.2)) else (am_lt (wsf q2.2 1 3 ((q2.2.1 1 3) ||| ((nI 1) <<< (a1 &&& 31)))) fun w3 => (F_Law_sawing (w3.1 17 2) a1 w3).bind fun q4 => some (q4.1, q4.2)))
theorem T_Loc_saw {D : Nat} {o : Int32 × am_W} (a1 : Int32) (w : am_W) (H : F_Loc_saw a1 w = some o) : am_gi (D + 5) 83 o (0, [(0, .ref 0), (1, .int a1)], [], ww w, 0, 0) := by
  unfold F_Loc_saw at H
  obtain ⟨q1, hqq1, H⟩ := am_bnE H
  refine am_go_blk 3 (?_ : am_gi (D + 5) 83 o (5, [(0, .ref 0), (1, .int a1)], [.int a1, .ref 1], ww w, 0, 0))
  refine am_invd rfl rfl rfl rfl (am_calli rfl (M_Rail_isLock (D := D + 4) hqq1) (?_ : am_gi (D + 5) 83 o (8, [(0, .ref 0), (1, .int a1)], [.int q1.1], ww q1.2, 0, 0)))
  refine am_go_blk 1 ⟨fun hc => ?_, fun hc => ?_⟩
  · have H := am_ie hc H
    show am_gi (D + 5) 83 o (14, [(0, .ref 0), (1, .int a1)], [], ww q1.2, 0, 0)
    obtain ⟨q2, hqq2, H⟩ := am_bnE H
    refine am_go_blk 3 (?_ : am_gi (D + 5) 83 o (19, [(0, .ref 0), (1, .int a1)], [.int a1, .ref 1], ww q1.2, 0, 0))
    refine am_invd rfl rfl rfl rfl (am_calli rfl (M_Rail_isShut (D := D + 3) hqq2) (?_ : am_gi (D + 5) 83 o (22, [(0, .ref 0), (1, .int a1)], [.int q2.1], ww q2.2, 0, 0)))
    refine am_go_blk 1 ⟨fun hc => ?_, fun hc => ?_⟩
    · have H := am_ie hc H
      show am_gi (D + 5) 83 o (28, [(0, .ref 0), (1, .int a1)], [], ww q2.2, 0, 0)
      obtain ⟨w3, ew3, H⟩ := am_ltE H
      refine am_go_blk 9 ⟨rfl, rfl, am_hp (ww_f1_3 ew3) (?_ : am_gi (D + 5) 83 o (43, [(0, .ref 0), (1, .int a1)], [], ww w3, 0, 0))⟩
      obtain ⟨q4, hqq4, H⟩ := am_bnE H
      refine am_go_blk 6 (?_ : am_gi (D + 5) 83 o (55, [(0, .ref 0), (1, .int a1)], [.int a1, .int (w3.1 17 2), .ref 17], ww w3, 0, 0))
      refine am_invd rfl rfl rfl rfl (am_calli rfl (M_Law_sawing (D := D) hqq4) (?_ : am_gi (D + 5) 83 o (58, [(0, .ref 0), (1, .int a1)], [.int q4.1], ww q4.2, 0, 0)))
      exact am_go_blk 1 ⟨rfl, am_fi H⟩
    · have H := am_it hc H
      show am_gi (D + 5) 83 o (25, [(0, .ref 0), (1, .int a1)], [], ww q2.2, 0, 0)
      exact am_go_blk 2 ⟨rfl, am_fi H⟩
  · have H := am_it hc H
    show am_gi (D + 5) 83 o (11, [(0, .ref 0), (1, .int a1)], [], ww q1.2, 0, 0)
    exact am_go_blk 2 ⟨rfl, am_fi H⟩
theorem M_Loc_saw {D : Nat} {o : Int32 × am_W} {a1 : Int32} {w : am_W} (H : F_Loc_saw a1 w = some o) : am_run (D + 6) 83 [.ref 0, .int a1] (ww w) (some (.int o.1)) (ww o.2) 0 0 :=
  am_run_of rfl (T_Loc_saw a1 w H)
def F_Rail_awaited_43 (r11 : Int32 → Int32 → Int32 → am_W → Option (Int32 × am_W)) (a2 : Int32) (a4 : Int32) (s0 : Int32) (s1 : Int32) (w : am_W) : Option (Int32 × am_W) :=
  r11 a2 (s1 ||| s0) (a4 + (nI 1)) w
def F_Rail_awaited_11 (r11 : Int32 → Int32 → Int32 → am_W → Option (Int32 × am_W)) (a2 : Int32) (a3 : Int32) (a4 : Int32) (w : am_W) : Option (Int32 × am_W) :=
  if (w.1 1 2) ≤ a4 then (some (a3, w)) else ((F_Loc_has a2 a4 w).bind fun q2 => if q2.1 = 0 then (F_Rail_awaited_43 r11 a2 a4 (nI 0) a3 q2.2) else (am_ck (am_in a4 10) (F_Rail_awaited_43 r11 a2 a4 ((nI 1) <<< ((q2.2.1 5 a4.toNatClampNeg) &&& 31)) a3 q2.2)))
def L_Rail_awaited_11 : Nat → Int32 → Int32 → Int32 → am_W → Option (Int32 × am_W)
  | 0, _, _, _, _ => none
  | n + 1, a2, a3, a4, w => F_Rail_awaited_11 (L_Rail_awaited_11 n) a2 a3 a4 w
def F_Rail_awaited (a1 : Int32) (w : am_W) : Option (Int32 × am_W) :=
  (F_Rail_holders a1 w).bind fun q1 => L_Rail_awaited_11 am_NF q1.1 (nI 0) (nI 0) q1.2
theorem T_Rail_awaited_43 {D : Nat} {o : Int32 × am_W} {r11 : Int32 → Int32 → Int32 → am_W → Option (Int32 × am_W)} (Hr11 : ∀ (a2 : Int32) (a3 : Int32) (a4 : Int32) (w : am_W) , r11 a2 a3 a4 w = some o → am_gi (D + 4) 44 o (11, [(0, .ref 1), (2, .int a2), (3, .int a3), (4, .int a4)], [], ww w, 0, 0)) (a2 : Int32) (a4 : Int32) (s0 : Int32) (s1 : Int32) (w : am_W) (H : F_Rail_awaited_43 r11 a2 a4 s0 s1 w = some o) : am_gi (D + 4) 44 o (43, [(0, .ref 1), (2, .int a2), (4, .int a4)], [.int s0, .int s1], ww w, 0, 0) := by
  unfold F_Rail_awaited_43 at H
  exact am_go_blk 4 (Hr11 a2 (s1 ||| s0) (a4 + (nI 1)) w H)
theorem T_Rail_awaited_11 {D : Nat} {o : Int32 × am_W} {r11 : Int32 → Int32 → Int32 → am_W → Option (Int32 × am_W)} (Hr11 : ∀ (a2 : Int32) (a3 : Int32) (a4 : Int32) (w : am_W) , r11 a2 a3 a4 w = some o → am_gi (D + 4) 44 o (11, [(0, .ref 1), (2, .int a2), (3, .int a3), (4, .int a4)], [], ww w, 0, 0)) (a2 : Int32) (a3 : Int32) (a4 : Int32) (w : am_W) (H : F_Rail_awaited_11 r11 a2 a3 a4 w = some o) : am_gi (D + 4) 44 o (11, [(0, .ref 1), (2, .int a2), (3, .int a3), (4, .int a4)], [], ww w, 0, 0) := by
  unfold F_Rail_awaited_11 at H
  refine am_go_blk 4 ⟨fun hc => ?_, fun hc => ?_⟩
  · have H := am_it hc H
    show am_gi (D + 4) 44 o (51, [(3, .int a3)], [], ww w, 0, 0)
    exact am_go_blk 2 ⟨rfl, am_fi H⟩
  · have H := am_ie hc H
    show am_gi (D + 4) 44 o (20, [(0, .ref 1), (2, .int a2), (3, .int a3), (4, .int a4)], [], ww w, 0, 0)
    obtain ⟨q2, hqq2, H⟩ := am_bnE H
    refine am_go_blk 3 (?_ : am_gi (D + 4) 44 o (24, [(0, .ref 1), (2, .int a2), (3, .int a3), (4, .int a4)], [.int a4, .int a2, .int a3], ww w, 0, 0))
    refine am_cls rfl rfl rfl (am_calli rfl (M_Loc_has (D := D + 3) hqq2) (?_ : am_gi (D + 4) 44 o (27, [(0, .ref 1), (2, .int a2), (3, .int a3), (4, .int a4)], [.int q2.1, .int a3], ww q2.2, 0, 0)))
    refine am_go_blk 1 ⟨fun hc => ?_, fun hc => ?_⟩
    · have H := am_it hc H
      show am_gi (D + 4) 44 o (42, [(0, .ref 1), (2, .int a2), (4, .int a4)], [.int a3], ww q2.2, 0, 0)
      exact am_go_blk 1 (T_Rail_awaited_43 Hr11 a2 a4 (nI 0) a3 q2.2 H)
    · have H := am_ie hc H
      show am_gi (D + 4) 44 o (30, [(0, .ref 1), (2, .int a2), (3, .int a3), (4, .int a4)], [.int a3], ww q2.2, 0, 0)
      obtain ⟨hc, H⟩ := am_ckE H
      refine am_go_blk 5 ⟨am_inv hc, (?_ : am_gi (D + 4) 44 o (38, [(0, .ref 1), (2, .int a2), (3, .int a3), (4, .int a4)], [.int (q2.2.1 5 a4.toNatClampNeg), .int (nI 1), .int a3], ww q2.2, 0, 0))⟩
      exact am_go_blk 2 (T_Rail_awaited_43 Hr11 a2 a4 ((nI 1) <<< ((q2.2.1 5 a4.toNatClampNeg) &&& 31)) a3 q2.2 H)
theorem TL_Rail_awaited_11 {D : Nat} {o : Int32 × am_W} : ∀ (n : Nat) (a2 : Int32) (a3 : Int32) (a4 : Int32) (w : am_W) , L_Rail_awaited_11 n a2 a3 a4 w = some o → am_gi (D + 4) 44 o (11, [(0, .ref 1), (2, .int a2), (3, .int a3), (4, .int a4)], [], ww w, 0, 0)
  | 0, _, _, _, _, H => by cases H
  | n + 1, a2, a3, a4, w, H => T_Rail_awaited_11 (TL_Rail_awaited_11 n) a2 a3 a4 w H
theorem T_Rail_awaited {D : Nat} {o : Int32 × am_W} (a1 : Int32) (w : am_W) (H : F_Rail_awaited a1 w = some o) : am_gi (D + 4) 44 o (0, [(0, .ref 1), (1, .int a1)], [], ww w, 0, 0) := by
  unfold F_Rail_awaited at H
  obtain ⟨q1, hqq1, H⟩ := am_bnE H
  refine am_go_blk 2 (?_ : am_gi (D + 4) 44 o (2, [(0, .ref 1), (1, .int a1)], [.int a1, .ref 1], ww w, 0, 0))
  refine am_invd rfl rfl rfl rfl (am_calli rfl (M_Rail_holders (D := D) hqq1) (?_ : am_gi (D + 4) 44 o (5, [(0, .ref 1), (1, .int a1)], [.int q1.1], ww q1.2, 0, 0)))
  exact am_go_blk 5 (TL_Rail_awaited_11 am_NF q1.1 (nI 0) (nI 0) q1.2 H)
theorem M_Rail_awaited {D : Nat} {o : Int32 × am_W} {a1 : Int32} {w : am_W} (H : F_Rail_awaited a1 w = some o) : am_run (D + 5) 44 [.ref 1, .int a1] (ww w) (some (.int o.1)) (ww o.2) 0 0 :=
  am_run_of rfl (T_Rail_awaited a1 w H)
def F_Loc_waits_24 (s0 : Int32) (w : am_W) : Option (Int32 × am_W) :=
  some (s0, w)
def F_Loc_waits (a1 : Int32) (w : am_W) : Option (Int32 × am_W) :=
  (F_Rail_isThing a1 w).bind fun q1 => if q1.1 = 0 then (F_Loc_waits_24 (-nI 5) q1.2) else ((F_Rail_awaited a1 q1.2).bind fun q2 => F_Loc_waits_24 q2.1 q2.2)
theorem T_Loc_waits_24 {D : Nat} {o : Int32 × am_W} (s0 : Int32) (w : am_W) (H : F_Loc_waits_24 s0 w = some o) : am_gi (D + 5) 84 o (24, [], [.int s0], ww w, 0, 0) := by
  unfold F_Loc_waits_24 at H
  exact am_go_blk 1 ⟨rfl, am_fi H⟩
theorem T_Loc_waits {D : Nat} {o : Int32 × am_W} (a1 : Int32) (w : am_W) (H : F_Loc_waits a1 w = some o) : am_gi (D + 5) 84 o (0, [(0, .ref 0), (1, .int a1)], [], ww w, 0, 0) := by
  unfold F_Loc_waits at H
  obtain ⟨q1, hqq1, H⟩ := am_bnE H
  refine am_go_blk 3 (?_ : am_gi (D + 5) 84 o (5, [(0, .ref 0), (1, .int a1)], [.int a1, .ref 1], ww w, 0, 0))
  refine am_invd rfl rfl rfl rfl (am_calli rfl (M_Rail_isThing (D := D + 4) hqq1) (?_ : am_gi (D + 5) 84 o (8, [(0, .ref 0), (1, .int a1)], [.int q1.1], ww q1.2, 0, 0)))
  refine am_go_blk 1 ⟨fun hc => ?_, fun hc => ?_⟩
  · have H := am_it hc H
    show am_gi (D + 5) 84 o (22, [], [], ww q1.2, 0, 0)
    exact am_go_blk 1 (T_Loc_waits_24 (-nI 5) q1.2 H)
  · have H := am_ie hc H
    show am_gi (D + 5) 84 o (11, [(0, .ref 0), (1, .int a1)], [], ww q1.2, 0, 0)
    obtain ⟨q2, hqq2, H⟩ := am_bnE H
    refine am_go_blk 3 (?_ : am_gi (D + 5) 84 o (16, [(0, .ref 0), (1, .int a1)], [.int a1, .ref 1], ww q1.2, 0, 0))
    refine am_invd rfl rfl rfl rfl (am_calli rfl (M_Rail_awaited (D := D) hqq2) (?_ : am_gi (D + 5) 84 o (19, [(0, .ref 0), (1, .int a1)], [.int q2.1], ww q2.2, 0, 0)))
    exact am_go_blk 1 (T_Loc_waits_24 q2.1 q2.2 H)
theorem M_Loc_waits {D : Nat} {o : Int32 × am_W} {a1 : Int32} {w : am_W} (H : F_Loc_waits a1 w = some o) : am_run (D + 6) 84 [.ref 0, .int a1] (ww w) (some (.int o.1)) (ww o.2) 0 0 :=
  am_run_of rfl (T_Loc_waits a1 w H)
def F_Rail_goneAtLast_45 (a2 : Int32) (w : am_W) : Option (Int32 × am_W) :=
  some (a2, w)
def F_Rail_goneAtLast_7 (r7 : Int32 → Int32 → Int32 → am_W → Option (Int32 × am_W)) (a1 : Int32) (a2 : Int32) (a3 : Int32) (w : am_W) : Option (Int32 × am_W) :=
  if (nI 8) ≤ a3 then (F_Rail_goneAtLast_45 a2 w) else ((F_Rail_canGo a2 a1 w).bind fun q1 => if (q1.1 &&& (q1.2.1 1 4)) = 0 then (F_Rail_goneAtLast_45 a2 q1.2) else (r7 a1 (a2 ||| (q1.1 &&& (q1.2.1 1 4))) (a3 + (nI 1)) q1.2))
def L_Rail_goneAtLast_7 : Nat → Int32 → Int32 → Int32 → am_W → Option (Int32 × am_W)
  | 0, _, _, _, _ => none
  | n + 1, a1, a2, a3, w => F_Rail_goneAtLast_7 (L_Rail_goneAtLast_7 n) a1 a2 a3 w
def F_Rail_goneAtLast (a1 : Int32) (w : am_W) : Option (Int32 × am_W) :=
  L_Rail_goneAtLast_7 am_NF a1 (w.1 1 1) (nI 0) w
theorem T_Rail_goneAtLast_45 {D : Nat} {o : Int32 × am_W} (a2 : Int32) (w : am_W) (H : F_Rail_goneAtLast_45 a2 w = some o) : am_gi (D + 2) 46 o (45, [(2, .int a2)], [], ww w, 0, 0) := by
  unfold F_Rail_goneAtLast_45 at H
  exact am_go_blk 2 ⟨rfl, am_fi H⟩
theorem T_Rail_goneAtLast_7 {D : Nat} {o : Int32 × am_W} {r7 : Int32 → Int32 → Int32 → am_W → Option (Int32 × am_W)} (Hr7 : ∀ (a1 : Int32) (a2 : Int32) (a3 : Int32) (w : am_W) , r7 a1 a2 a3 w = some o → am_gi (D + 2) 46 o (7, [(0, .ref 1), (1, .int a1), (2, .int a2), (3, .int a3)], [], ww w, 0, 0)) (a1 : Int32) (a2 : Int32) (a3 : Int32) (w : am_W) (H : F_Rail_goneAtLast_7 r7 a1 a2 a3 w = some o) : am_gi (D + 2) 46 o (7, [(0, .ref 1), (1, .int a1), (2, .int a2), (3, .int a3)], [], ww w, 0, 0) := by
  unfold F_Rail_goneAtLast_7 at H
  refine am_go_blk 3 ⟨fun hc => ?_, fun hc => ?_⟩
  · have H := am_it hc H
    exact T_Rail_goneAtLast_45 a2 w H
  · have H := am_ie hc H
    show am_gi (D + 2) 46 o (13, [(0, .ref 1), (1, .int a1), (2, .int a2), (3, .int a3)], [], ww w, 0, 0)
    obtain ⟨q1, hqq1, H⟩ := am_bnE H
    refine am_go_blk 3 (?_ : am_gi (D + 2) 46 o (16, [(0, .ref 1), (1, .int a1), (2, .int a2), (3, .int a3)], [.int a1, .int a2, .ref 1], ww w, 0, 0))
    refine am_invd rfl rfl rfl rfl (am_calli rfl (M_Rail_canGo (D := D) hqq1) (?_ : am_gi (D + 2) 46 o (19, [(0, .ref 1), (1, .int a1), (2, .int a2), (3, .int a3)], [.int q1.1], ww q1.2, 0, 0)))
    refine am_go_blk 6 ⟨fun hc => ?_, fun hc => ?_⟩
    · have H := am_ie hc H
      show am_gi (D + 2) 46 o (34, [(0, .ref 1), (1, .int a1), (2, .int a2), (3, .int a3), (4, .int (q1.1 &&& (q1.2.1 1 4)))], [], ww q1.2, 0, 0)
      exact am_go_blk 6 (Hr7 a1 (a2 ||| (q1.1 &&& (q1.2.1 1 4))) (a3 + (nI 1)) q1.2 H)
    · have H := am_it hc H
      show am_gi (D + 2) 46 o (31, [(4, .int (q1.1 &&& (q1.2.1 1 4))), (0, .ref 1), (1, .int a1), (2, .int a2), (3, .int a3)], [], ww q1.2, 0, 0)
      exact am_go_blk 1 (T_Rail_goneAtLast_45 a2 q1.2 H)
theorem TL_Rail_goneAtLast_7 {D : Nat} {o : Int32 × am_W} : ∀ (n : Nat) (a1 : Int32) (a2 : Int32) (a3 : Int32) (w : am_W) , L_Rail_goneAtLast_7 n a1 a2 a3 w = some o → am_gi (D + 2) 46 o (7, [(0, .ref 1), (1, .int a1), (2, .int a2), (3, .int a3)], [], ww w, 0, 0)
  | 0, _, _, _, _, H => by cases H
  | n + 1, a1, a2, a3, w, H => T_Rail_goneAtLast_7 (TL_Rail_goneAtLast_7 n) a1 a2 a3 w H
theorem T_Rail_goneAtLast {D : Nat} {o : Int32 × am_W} (a1 : Int32) (w : am_W) (H : F_Rail_goneAtLast a1 w = some o) : am_gi (D + 2) 46 o (0, [(0, .ref 1), (1, .int a1)], [], ww w, 0, 0) := by
  unfold F_Rail_goneAtLast at H
  exact am_go_blk 5 (TL_Rail_goneAtLast_7 am_NF a1 (w.1 1 1) (nI 0) w H)
theorem M_Rail_goneAtLast {D : Nat} {o : Int32 × am_W} {a1 : Int32} {w : am_W} (H : F_Rail_goneAtLast a1 w = some o) : am_run (D + 3) 46 [.ref 1, .int a1] (ww w) (some (.int o.1)) (ww o.2) 0 0 :=
  am_run_of rfl (T_Rail_goneAtLast a1 w H)
def F_Loc_never (w : am_W) : Option (Int32 × am_W) :=
  (F_Rail_allThings w).bind fun q1 => (F_Rail_goneAtLast (q1.2.1 1 3) q1.2).bind fun q2 => some ((q1.1 &&& (q2.1 ^^^ (-nI 1))), q2.2)
theorem T_Loc_never {D : Nat} {o : Int32 × am_W} (w : am_W) (H : F_Loc_never w = some o) : am_gi (D + 3) 85 o (0, [(0, .ref 0)], [], ww w, 0, 0) := by
  unfold F_Loc_never at H
  obtain ⟨q1, hqq1, H⟩ := am_bnE H
  refine am_go_blk 2 (?_ : am_gi (D + 3) 85 o (4, [(0, .ref 0)], [.ref 1], ww w, 0, 0))
  refine am_invd rfl rfl rfl rfl (am_calli rfl (M_Rail_allThings (D := D + 2) hqq1) (?_ : am_gi (D + 3) 85 o (7, [(0, .ref 0)], [.int q1.1], ww q1.2, 0, 0)))
  obtain ⟨q2, hqq2, H⟩ := am_bnE H
  refine am_go_blk 5 (?_ : am_gi (D + 3) 85 o (18, [(0, .ref 0)], [.int (q1.2.1 1 3), .ref 1, .int q1.1], ww q1.2, 0, 0))
  refine am_invd rfl rfl rfl rfl (am_calli rfl (M_Rail_goneAtLast (D := D) hqq2) (?_ : am_gi (D + 3) 85 o (21, [(0, .ref 0)], [.int q2.1, .int q1.1], ww q2.2, 0, 0)))
  exact am_go_blk 4 ⟨rfl, am_fi H⟩
theorem M_Loc_never {D : Nat} {o : Int32 × am_W} {w : am_W} (H : F_Loc_never w = some o) : am_run (D + 4) 85 [.ref 0] (ww w) (some (.int o.1)) (ww o.2) 0 0 :=
  am_run_of rfl (T_Loc_never w H)
def F_Loc_isEither_14 (s0 : Int32) (w : am_W) : Option (Int32 × am_W) :=
  am_ck (am_bo s0) (some (s0, w))
def F_Loc_isEither_9 (w : am_W) : Option (Int32 × am_W) :=
  F_Loc_isEither_14 (nI 1) w
def F_Loc_isEither (a0 : Int32) (w : am_W) : Option (Int32 × am_W) :=
  if a0 = 0 then (F_Loc_isEither_9 w) else (if a0 = (nI 1) then (F_Loc_isEither_9 w) else (F_Loc_isEither_14 (nI 0) w))
theorem T_Loc_isEither_14 {D : Nat} {o : Int32 × am_W} (s0 : Int32) (w : am_W) (H : F_Loc_isEither_14 s0 w = some o) : am_gi D 121 o (14, [], [.int s0], ww w, 0, 0) := by
  unfold F_Loc_isEither_14 at H
  obtain ⟨hc, H⟩ := am_ckE H
  exact am_go_blk 1 ⟨am_boE hc, am_fi H⟩
theorem T_Loc_isEither_9 {D : Nat} {o : Int32 × am_W} (w : am_W) (H : F_Loc_isEither_9 w = some o) : am_gi D 121 o (9, [], [], ww w, 0, 0) := by
  unfold F_Loc_isEither_9 at H
  exact am_go_blk 2 (T_Loc_isEither_14 (nI 1) w H)
theorem T_Loc_isEither {D : Nat} {o : Int32 × am_W} (a0 : Int32) (w : am_W) (H : F_Loc_isEither a0 w = some o) : am_gi D 121 o (0, [(0, .int a0)], [], ww w, 0, 0) := by
  unfold F_Loc_isEither at H
  refine am_go_blk 2 ⟨fun hc => ?_, fun hc => ?_⟩
  · have H := am_it hc H
    exact T_Loc_isEither_9 w H
  · have H := am_ie hc H
    show am_gi D 121 o (4, [(0, .int a0)], [], ww w, 0, 0)
    refine am_go_blk 3 ⟨fun hc => ?_, fun hc => ?_⟩
    · have H := am_ie hc H
      show am_gi D 121 o (13, [], [], ww w, 0, 0)
      exact am_go_blk 1 (T_Loc_isEither_14 (nI 0) w H)
    · have H := am_it hc H
      exact T_Loc_isEither_9 w H
theorem M_Loc_isEither {D : Nat} {o : Int32 × am_W} {a0 : Int32} {w : am_W} (H : F_Loc_isEither a0 w = some o) : am_run (D + 1) 121 [.int a0] (ww w) (some (.int o.1)) (ww o.2) 0 0 :=
  am_run_of rfl (T_Loc_isEither a0 w H)
def F_Ord_countAll_136 (r43 : Int32 → am_W → Option (am_W)) (a1 : Int32) (w : am_W) : Option (am_W) :=
  r43 (a1 + (nI 1)) w
def F_Ord_countAll_130 (r43 : Int32 → am_W → Option (am_W)) (r92 : Int32 → Int32 → Int32 → am_W → Option (am_W)) (a1 : Int32) (a2 : Int32) (a3 : Int32) (w : am_W) : Option (am_W) :=
  r92 a1 a2 (a3 + (nI 1)) w
def F_Ord_countAll_92 (r43 : Int32 → am_W → Option (am_W)) (r92 : Int32 → Int32 → Int32 → am_W → Option (am_W)) (a1 : Int32) (a2 : Int32) (a3 : Int32) (w : am_W) : Option (am_W) :=
  if (w.1 1 0) ≤ a3 then (F_Ord_countAll_136 r43 a1 w) else ((F_Loc_has a2 a3 w).bind fun q4 => if q4.1 = 0 then (F_Ord_countAll_130 r43 r92 a1 a2 a3 q4.2) else (am_ck (am_in (a1 ||| ((nI 1) <<< (a3 &&& 31))) 256) (am_ck (am_in a1 256) (am_ck (am_in (a1 ||| ((nI 1) <<< (a3 &&& 31))) 256) (am_lt (wst q4.2 37 (a1 ||| ((nI 1) <<< (a3 &&& 31))) ((q4.2.1 37 (a1 ||| ((nI 1) <<< (a3 &&& 31))).toNatClampNeg) + (q4.2.1 37 a1.toNatClampNeg))) fun w5 => F_Ord_countAll_130 r43 r92 a1 a2 a3 w5)))))
def L_Ord_countAll_92 (r43 : Int32 → am_W → Option (am_W)) : Nat → Int32 → Int32 → Int32 → am_W → Option (am_W)
  | 0, _, _, _, _ => none
  | n + 1, a1, a2, a3, w => F_Ord_countAll_92 r43 (L_Ord_countAll_92 r43 n) a1 a2 a3 w
def F_Ord_countAll_43 (r43 : Int32 → am_W → Option (am_W)) (a1 : Int32) (w : am_W) : Option (am_W) :=
  (F_Rail_allThings w).bind fun q2 => if q2.1 < a1 then (some q2.2) else (am_ck (am_in a1 256) (if (q2.2.1 37 a1.toNatClampNeg) = 0 then (F_Ord_countAll_136 r43 a1 q2.2) else ((F_Rail_canGo a1 (q2.2.1 1 3) q2.2).bind fun q3 => L_Ord_countAll_92 r43 am_NF a1 (q3.1 &&& (q3.2.1 1 4)) (nI 0) q3.2)))
def L_Ord_countAll_43 : Nat → Int32 → am_W → Option (am_W)
  | 0, _, _ => none
  | n + 1, a1, w => F_Ord_countAll_43 (L_Ord_countAll_43 n) a1 w
def F_Ord_countAll_2 (r2 : Int32 → am_W → Option (am_W)) (a1 : Int32) (w : am_W) : Option (am_W) :=
  if (nI 256) ≤ a1 then (am_ck (am_in (w.1 1 1) 256) (am_lt (wst w 37 (w.1 1 1) (nI 1)) fun w1 => L_Ord_countAll_43 am_NF (w1.1 1 1) w1)) else (am_ck (am_in a1 256) (am_lt (wst w 37 a1 (nI 0)) fun w6 => r2 (a1 + (nI 1)) w6))
def L_Ord_countAll_2 : Nat → Int32 → am_W → Option (am_W)
  | 0, _, _ => none
  | n + 1, a1, w => F_Ord_countAll_2 (L_Ord_countAll_2 n) a1 w
def F_Ord_countAll (w : am_W) : Option (am_W) :=
  L_Ord_countAll_2 am_NF (nI 0) w
theorem T_Ord_countAll_136 {D : Nat} {o : am_W} {r43 : Int32 → am_W → Option (am_W)} (Hr43 : ∀ (a1 : Int32) (w : am_W) , r43 a1 w = some o → am_gv (D + 2) 21 o (43, [(0, .ref 36), (1, .int a1)], [], ww w, 0, 0)) (a1 : Int32) (w : am_W) (H : F_Ord_countAll_136 r43 a1 w = some o) : am_gv (D + 2) 21 o (136, [(0, .ref 36), (1, .int a1)], [], ww w, 0, 0) := by
  unfold F_Ord_countAll_136 at H
  exact am_go_blk 2 (Hr43 (a1 + (nI 1)) w H)
theorem T_Ord_countAll_130 {D : Nat} {o : am_W} {r43 : Int32 → am_W → Option (am_W)} {r92 : Int32 → Int32 → Int32 → am_W → Option (am_W)} (Hr43 : ∀ (a1 : Int32) (w : am_W) , r43 a1 w = some o → am_gv (D + 2) 21 o (43, [(0, .ref 36), (1, .int a1)], [], ww w, 0, 0)) (Hr92 : ∀ (a1 : Int32) (a2 : Int32) (a3 : Int32) (w : am_W) , r92 a1 a2 a3 w = some o → am_gv (D + 2) 21 o (92, [(0, .ref 36), (1, .int a1), (2, .int a2), (3, .int a3)], [], ww w, 0, 0)) (a1 : Int32) (a2 : Int32) (a3 : Int32) (w : am_W) (H : F_Ord_countAll_130 r43 r92 a1 a2 a3 w = some o) : am_gv (D + 2) 21 o (130, [(0, .ref 36), (1, .int a1), (2, .int a2), (3, .int a3)], [], ww w, 0, 0) := by
  unfold F_Ord_countAll_130 at H
  exact am_go_blk 2 (Hr92 a1 a2 (a3 + (nI 1)) w H)
theorem T_Ord_countAll_92 {D : Nat} {o : am_W} {r43 : Int32 → am_W → Option (am_W)} {r92 : Int32 → Int32 → Int32 → am_W → Option (am_W)} (Hr43 : ∀ (a1 : Int32) (w : am_W) , r43 a1 w = some o → am_gv (D + 2) 21 o (43, [(0, .ref 36), (1, .int a1)], [], ww w, 0, 0)) (Hr92 : ∀ (a1 : Int32) (a2 : Int32) (a3 : Int32) (w : am_W) , r92 a1 a2 a3 w = some o → am_gv (D + 2) 21 o (92, [(0, .ref 36), (1, .int a1), (2, .int a2), (3, .int a3)], [], ww w, 0, 0)) (a1 : Int32) (a2 : Int32) (a3 : Int32) (w : am_W) (H : F_Ord_countAll_92 r43 r92 a1 a2 a3 w = some o) : am_gv (D + 2) 21 o (92, [(0, .ref 36), (1, .int a1), (2, .int a2), (3, .int a3)], [], ww w, 0, 0) := by
  unfold F_Ord_countAll_92 at H
  refine am_go_blk 5 ⟨fun hc => ?_, fun hc => ?_⟩
  · have H := am_it hc H
    exact T_Ord_countAll_136 Hr43 a1 w H
  · have H := am_ie hc H
    show am_gv (D + 2) 21 o (103, [(0, .ref 36), (1, .int a1), (2, .int a2), (3, .int a3)], [], ww w, 0, 0)
    obtain ⟨q4, hqq4, H⟩ := am_bnE H
    refine am_go_blk 2 (?_ : am_gv (D + 2) 21 o (105, [(0, .ref 36), (1, .int a1), (2, .int a2), (3, .int a3)], [.int a3, .int a2], ww w, 0, 0))
    refine am_cls rfl rfl rfl (am_calli rfl (M_Loc_has (D := D + 1) hqq4) (?_ : am_gv (D + 2) 21 o (108, [(0, .ref 36), (1, .int a1), (2, .int a2), (3, .int a3)], [.int q4.1], ww q4.2, 0, 0)))
    refine am_go_blk 1 ⟨fun hc => ?_, fun hc => ?_⟩
    · have H := am_it hc H
      exact T_Ord_countAll_130 Hr43 Hr92 a1 a2 a3 q4.2 H
    · have H := am_ie hc H
      show am_gv (D + 2) 21 o (111, [(0, .ref 36), (1, .int a1), (2, .int a2), (3, .int a3)], [], ww q4.2, 0, 0)
      obtain ⟨hc, H⟩ := am_ckE H
      refine am_go_blk 9 ⟨am_inv hc, (?_ : am_gv (D + 2) 21 o (122, [(0, .ref 36), (1, .int a1), (2, .int a2), (3, .int a3)], [.int (q4.2.1 37 (a1 ||| ((nI 1) <<< (a3 &&& 31))).toNatClampNeg), .int (a1 ||| ((nI 1) <<< (a3 &&& 31))), .ref 37], ww q4.2, 0, 0))⟩
      obtain ⟨hc, H⟩ := am_ckE H
      refine am_go_blk 4 ⟨am_inv hc, (?_ : am_gv (D + 2) 21 o (128, [(0, .ref 36), (1, .int a1), (2, .int a2), (3, .int a3)], [.int (q4.2.1 37 a1.toNatClampNeg), .int (q4.2.1 37 (a1 ||| ((nI 1) <<< (a3 &&& 31))).toNatClampNeg), .int (a1 ||| ((nI 1) <<< (a3 &&& 31))), .ref 37], ww q4.2, 0, 0))⟩
      obtain ⟨hc, H⟩ := am_ckE H
      obtain ⟨w5, ew5, H⟩ := am_ltE H
      refine am_go_blk 2 ⟨am_inv hc, am_hp (ww_s37 ew5) (?_ : am_gv (D + 2) 21 o (130, [(0, .ref 36), (1, .int a1), (2, .int a2), (3, .int a3)], [], ww w5, 0, 0))⟩
      exact T_Ord_countAll_130 Hr43 Hr92 a1 a2 a3 w5 H
theorem TL_Ord_countAll_92 {D : Nat} {o : am_W} {r43 : Int32 → am_W → Option (am_W)} (Hr43 : ∀ (a1 : Int32) (w : am_W) , r43 a1 w = some o → am_gv (D + 2) 21 o (43, [(0, .ref 36), (1, .int a1)], [], ww w, 0, 0)) : ∀ (n : Nat) (a1 : Int32) (a2 : Int32) (a3 : Int32) (w : am_W) , L_Ord_countAll_92 r43 n a1 a2 a3 w = some o → am_gv (D + 2) 21 o (92, [(0, .ref 36), (1, .int a1), (2, .int a2), (3, .int a3)], [], ww w, 0, 0)
  | 0, _, _, _, _, H => by cases H
  | n + 1, a1, a2, a3, w, H => T_Ord_countAll_92 Hr43 (TL_Ord_countAll_92 Hr43 n) a1 a2 a3 w H
theorem T_Ord_countAll_43 {D : Nat} {o : am_W} {r43 : Int32 → am_W → Option (am_W)} (Hr43 : ∀ (a1 : Int32) (w : am_W) , r43 a1 w = some o → am_gv (D + 2) 21 o (43, [(0, .ref 36), (1, .int a1)], [], ww w, 0, 0)) (a1 : Int32) (w : am_W) (H : F_Ord_countAll_43 r43 a1 w = some o) : am_gv (D + 2) 21 o (43, [(0, .ref 36), (1, .int a1)], [], ww w, 0, 0) := by
  unfold F_Ord_countAll_43 at H
  obtain ⟨q2, hqq2, H⟩ := am_bnE H
  refine am_go_blk 3 (?_ : am_gv (D + 2) 21 o (48, [(0, .ref 36), (1, .int a1)], [.ref 1, .int a1], ww w, 0, 0))
  refine am_invd rfl rfl rfl rfl (am_calli rfl (M_Rail_allThings (D := D + 1) hqq2) (?_ : am_gv (D + 2) 21 o (51, [(0, .ref 36), (1, .int a1)], [.int q2.1, .int a1], ww q2.2, 0, 0)))
  refine am_go_blk 1 ⟨fun hc => ?_, fun hc => ?_⟩
  · have H := am_it hc H
    show am_gv (D + 2) 21 o (142, [], [], ww q2.2, 0, 0)
    exact am_go_blk 1 (am_fv H)
  · have H := am_ie hc H
    show am_gv (D + 2) 21 o (54, [(0, .ref 36), (1, .int a1)], [], ww q2.2, 0, 0)
    obtain ⟨hc, H⟩ := am_ckE H
    refine am_go_blk 4 ⟨am_inv hc, (?_ : am_gv (D + 2) 21 o (60, [(0, .ref 36), (1, .int a1)], [.int (q2.2.1 37 a1.toNatClampNeg)], ww q2.2, 0, 0))⟩
    refine am_go_blk 1 ⟨fun hc => ?_, fun hc => ?_⟩
    · have H := am_ie hc H
      show am_gv (D + 2) 21 o (66, [(0, .ref 36), (1, .int a1)], [], ww q2.2, 0, 0)
      obtain ⟨q3, hqq3, H⟩ := am_bnE H
      refine am_go_blk 6 (?_ : am_gv (D + 2) 21 o (78, [(0, .ref 36), (1, .int a1)], [.int (q2.2.1 1 3), .int a1, .ref 1], ww q2.2, 0, 0))
      refine am_invd rfl rfl rfl rfl (am_calli rfl (M_Rail_canGo (D := D) hqq3) (?_ : am_gv (D + 2) 21 o (81, [(0, .ref 36), (1, .int a1)], [.int q3.1], ww q3.2, 0, 0)))
      exact am_go_blk 7 (TL_Ord_countAll_92 Hr43 am_NF a1 (q3.1 &&& (q3.2.1 1 4)) (nI 0) q3.2 H)
    · have H := am_it hc H
      show am_gv (D + 2) 21 o (63, [(0, .ref 36), (1, .int a1)], [], ww q2.2, 0, 0)
      exact am_go_blk 1 (T_Ord_countAll_136 Hr43 a1 q2.2 H)
theorem TL_Ord_countAll_43 {D : Nat} {o : am_W} : ∀ (n : Nat) (a1 : Int32) (w : am_W) , L_Ord_countAll_43 n a1 w = some o → am_gv (D + 2) 21 o (43, [(0, .ref 36), (1, .int a1)], [], ww w, 0, 0)
  | 0, _, _, H => by cases H
  | n + 1, a1, w, H => T_Ord_countAll_43 (TL_Ord_countAll_43 n) a1 w H
theorem T_Ord_countAll_2 {D : Nat} {o : am_W} {r2 : Int32 → am_W → Option (am_W)} (Hr2 : ∀ (a1 : Int32) (w : am_W) , r2 a1 w = some o → am_gv (D + 2) 21 o (2, [(0, .ref 36), (1, .int a1)], [], ww w, 0, 0)) (a1 : Int32) (w : am_W) (H : F_Ord_countAll_2 r2 a1 w = some o) : am_gv (D + 2) 21 o (2, [(0, .ref 36), (1, .int a1)], [], ww w, 0, 0) := by
  unfold F_Ord_countAll_2 at H
  refine am_go_blk 3 ⟨fun hc => ?_, fun hc => ?_⟩
  · have H := am_it hc H
    show am_gv (D + 2) 21 o (22, [(0, .ref 36)], [], ww w, 0, 0)
    obtain ⟨hc, H⟩ := am_ckE H
    obtain ⟨w1, ew1, H⟩ := am_ltE H
    refine am_go_blk 7 ⟨am_inv hc, am_hp (ww_s37 ew1) (?_ : am_gv (D + 2) 21 o (35, [(0, .ref 36)], [], ww w1, 0, 0))⟩
    exact am_go_blk 4 (TL_Ord_countAll_43 am_NF (w1.1 1 1) w1 H)
  · have H := am_ie hc H
    show am_gv (D + 2) 21 o (9, [(0, .ref 36), (1, .int a1)], [], ww w, 0, 0)
    obtain ⟨hc, H⟩ := am_ckE H
    obtain ⟨w6, ew6, H⟩ := am_ltE H
    refine am_go_blk 5 ⟨am_inv hc, am_hp (ww_s37 ew6) (?_ : am_gv (D + 2) 21 o (16, [(0, .ref 36), (1, .int a1)], [], ww w6, 0, 0))⟩
    exact am_go_blk 2 (Hr2 (a1 + (nI 1)) w6 H)
theorem TL_Ord_countAll_2 {D : Nat} {o : am_W} : ∀ (n : Nat) (a1 : Int32) (w : am_W) , L_Ord_countAll_2 n a1 w = some o → am_gv (D + 2) 21 o (2, [(0, .ref 36), (1, .int a1)], [], ww w, 0, 0)
  | 0, _, _, H => by cases H
  | n + 1, a1, w, H => T_Ord_countAll_2 (TL_Ord_countAll_2 n) a1 w H
theorem T_Ord_countAll {D : Nat} {o : am_W} (w : am_W) (H : F_Ord_countAll w = some o) : am_gv (D + 2) 21 o (0, [(0, .ref 36)], [], ww w, 0, 0) := by
  unfold F_Ord_countAll at H
  exact am_go_blk 2 (TL_Ord_countAll_2 am_NF (nI 0) w H)
theorem M_Ord_countAll {D : Nat} {o : am_W} {w : am_W} (H : F_Ord_countAll w = some o) : am_run (D + 3) 21 [.ref 36] (ww w) none (ww o) 0 0 :=
  am_run_of rfl (T_Ord_countAll w H)
def F_Ord_fewestAhead_82 (r8 : Int32 → Int32 → Int32 → am_W → Option (Int32 × am_W)) (a1 : Int32) (a2 : Int32) (a3 : Int32) (w : am_W) : Option (Int32 × am_W) :=
  r8 a1 a2 (a3 + (nI 1)) w
def F_Ord_fewestAhead_81 (r8 : Int32 → Int32 → Int32 → am_W → Option (Int32 × am_W)) (a1 : Int32) (a3 : Int32) (s0 : Int32) (w : am_W) : Option (Int32 × am_W) :=
  F_Ord_fewestAhead_82 r8 a1 s0 a3 w
def F_Ord_fewestAhead_8 (r8 : Int32 → Int32 → Int32 → am_W → Option (Int32 × am_W)) (a1 : Int32) (a2 : Int32) (a3 : Int32) (w : am_W) : Option (Int32 × am_W) :=
  (F_Rail_allThings w).bind fun q2 => if q2.1 < a3 then (some (a2, q2.2)) else (am_ck (am_in a3 256) (if (q2.2.1 37 a3.toNatClampNeg) ≤ 0 then (F_Ord_fewestAhead_82 r8 a1 a2 a3 q2.2) else ((F_Rail_canGo a3 (q2.2.1 1 3) q2.2).bind fun q3 => (F_Loc_has q3.1 a1 q3.2).bind fun q4 => if q4.1 = 0 then (F_Ord_fewestAhead_82 r8 a1 a2 a3 q4.2) else ((F_Jint_bitCount_0f7a4 (a3 &&& ((q4.2.1 1 1) ^^^ (-nI 1))) q4.2).bind fun q5 => if 0 ≤ a2 then (F_Ord_fewestAhead_81 r8 a1 a3 (if q5.1 < a2 then q5.1 else a2) q5.2) else (F_Ord_fewestAhead_81 r8 a1 a3 q5.1 q5.2)))))
def L_Ord_fewestAhead_8 : Nat → Int32 → Int32 → Int32 → am_W → Option (Int32 × am_W)
  | 0, _, _, _, _ => none
  | n + 1, a1, a2, a3, w => F_Ord_fewestAhead_8 (L_Ord_fewestAhead_8 n) a1 a2 a3 w
def F_Ord_fewestAhead (a1 : Int32) (w : am_W) : Option (Int32 × am_W) :=
  (F_Ord_countAll w).bind fun w1 => L_Ord_fewestAhead_8 am_NF a1 (-nI 1) (nI 0) w1
theorem T_Ord_fewestAhead_82 {D : Nat} {o : Int32 × am_W} {r8 : Int32 → Int32 → Int32 → am_W → Option (Int32 × am_W)} (Hr8 : ∀ (a1 : Int32) (a2 : Int32) (a3 : Int32) (w : am_W) , r8 a1 a2 a3 w = some o → am_gi (D + 3) 23 o (8, [(0, .ref 36), (1, .int a1), (2, .int a2), (3, .int a3)], [], ww w, 0, 0)) (a1 : Int32) (a2 : Int32) (a3 : Int32) (w : am_W) (H : F_Ord_fewestAhead_82 r8 a1 a2 a3 w = some o) : am_gi (D + 3) 23 o (82, [(0, .ref 36), (1, .int a1), (2, .int a2), (3, .int a3)], [], ww w, 0, 0) := by
  unfold F_Ord_fewestAhead_82 at H
  exact am_go_blk 2 (Hr8 a1 a2 (a3 + (nI 1)) w H)
theorem T_Ord_fewestAhead_81 {D : Nat} {o : Int32 × am_W} {r8 : Int32 → Int32 → Int32 → am_W → Option (Int32 × am_W)} (Hr8 : ∀ (a1 : Int32) (a2 : Int32) (a3 : Int32) (w : am_W) , r8 a1 a2 a3 w = some o → am_gi (D + 3) 23 o (8, [(0, .ref 36), (1, .int a1), (2, .int a2), (3, .int a3)], [], ww w, 0, 0)) (a1 : Int32) (a3 : Int32) (s0 : Int32) (w : am_W) (H : F_Ord_fewestAhead_81 r8 a1 a3 s0 w = some o) : am_gi (D + 3) 23 o (81, [(0, .ref 36), (1, .int a1), (3, .int a3)], [.int s0], ww w, 0, 0) := by
  unfold F_Ord_fewestAhead_81 at H
  exact am_go_blk 1 (T_Ord_fewestAhead_82 Hr8 a1 s0 a3 w H)
theorem T_Ord_fewestAhead_8 {D : Nat} {o : Int32 × am_W} {r8 : Int32 → Int32 → Int32 → am_W → Option (Int32 × am_W)} (Hr8 : ∀ (a1 : Int32) (a2 : Int32) (a3 : Int32) (w : am_W) , r8 a1 a2 a3 w = some o → am_gi (D + 3) 23 o (8, [(0, .ref 36), (1, .int a1), (2, .int a2), (3, .int a3)], [], ww w, 0, 0)) (a1 : Int32) (a2 : Int32) (a3 : Int32) (w : am_W) (H : F_Ord_fewestAhead_8 r8 a1 a2 a3 w = some o) : am_gi (D + 3) 23 o (8, [(0, .ref 36), (1, .int a1), (2, .int a2), (3, .int a3)], [], ww w, 0, 0) := by
  unfold F_Ord_fewestAhead_8 at H
  obtain ⟨q2, hqq2, H⟩ := am_bnE H
  refine am_go_blk 3 (?_ : am_gi (D + 3) 23 o (13, [(0, .ref 36), (1, .int a1), (2, .int a2), (3, .int a3)], [.ref 1, .int a3], ww w, 0, 0))
  refine am_invd rfl rfl rfl rfl (am_calli rfl (M_Rail_allThings (D := D + 2) hqq2) (?_ : am_gi (D + 3) 23 o (16, [(0, .ref 36), (1, .int a1), (2, .int a2), (3, .int a3)], [.int q2.1, .int a3], ww q2.2, 0, 0)))
  refine am_go_blk 1 ⟨fun hc => ?_, fun hc => ?_⟩
  · have H := am_it hc H
    show am_gi (D + 3) 23 o (88, [(2, .int a2)], [], ww q2.2, 0, 0)
    exact am_go_blk 2 ⟨rfl, am_fi H⟩
  · have H := am_ie hc H
    show am_gi (D + 3) 23 o (19, [(0, .ref 36), (1, .int a1), (2, .int a2), (3, .int a3)], [], ww q2.2, 0, 0)
    obtain ⟨hc, H⟩ := am_ckE H
    refine am_go_blk 4 ⟨am_inv hc, (?_ : am_gi (D + 3) 23 o (25, [(0, .ref 36), (1, .int a1), (2, .int a2), (3, .int a3)], [.int (q2.2.1 37 a3.toNatClampNeg)], ww q2.2, 0, 0))⟩
    refine am_go_blk 1 ⟨fun hc => ?_, fun hc => ?_⟩
    · have H := am_it hc H
      exact T_Ord_fewestAhead_82 Hr8 a1 a2 a3 q2.2 H
    · have H := am_ie hc H
      show am_gi (D + 3) 23 o (28, [(0, .ref 36), (1, .int a1), (2, .int a2), (3, .int a3)], [], ww q2.2, 0, 0)
      obtain ⟨q3, hqq3, H⟩ := am_bnE H
      refine am_go_blk 6 (?_ : am_gi (D + 3) 23 o (40, [(0, .ref 36), (1, .int a1), (2, .int a2), (3, .int a3)], [.int (q2.2.1 1 3), .int a3, .ref 1], ww q2.2, 0, 0))
      refine am_invd rfl rfl rfl rfl (am_calli rfl (M_Rail_canGo (D := D + 1) hqq3) (?_ : am_gi (D + 3) 23 o (43, [(0, .ref 36), (1, .int a1), (2, .int a2), (3, .int a3)], [.int q3.1], ww q3.2, 0, 0)))
      obtain ⟨q4, hqq4, H⟩ := am_bnE H
      refine am_go_blk 1 (?_ : am_gi (D + 3) 23 o (44, [(0, .ref 36), (1, .int a1), (2, .int a2), (3, .int a3)], [.int a1, .int q3.1], ww q3.2, 0, 0))
      refine am_cls rfl rfl rfl (am_calli rfl (M_Loc_has (D := D + 2) hqq4) (?_ : am_gi (D + 3) 23 o (47, [(0, .ref 36), (1, .int a1), (2, .int a2), (3, .int a3)], [.int q4.1], ww q4.2, 0, 0)))
      refine am_go_blk 1 ⟨fun hc => ?_, fun hc => ?_⟩
      · have H := am_it hc H
        exact T_Ord_fewestAhead_82 Hr8 a1 a2 a3 q4.2 H
      · have H := am_ie hc H
        show am_gi (D + 3) 23 o (50, [(0, .ref 36), (1, .int a1), (2, .int a2), (3, .int a3)], [], ww q4.2, 0, 0)
        obtain ⟨q5, hqq5, H⟩ := am_bnE H
        refine am_go_blk 7 (?_ : am_gi (D + 3) 23 o (61, [(0, .ref 36), (1, .int a1), (2, .int a2), (3, .int a3)], [.int (a3 &&& ((q4.2.1 1 1) ^^^ (-nI 1)))], ww q4.2, 0, 0))
        refine am_cls rfl rfl rfl (am_calli rfl (M_Jint_bitCount_0f7a4 (D := D + 2) hqq5) (?_ : am_gi (D + 3) 23 o (64, [(0, .ref 36), (1, .int a1), (2, .int a2), (3, .int a3)], [.int q5.1], ww q5.2, 0, 0)))
        refine am_go_blk 3 ⟨fun hc => ?_, fun hc => ?_⟩
        · have H := am_it hc H
          show am_gi (D + 3) 23 o (75, [(0, .ref 36), (1, .int a1), (2, .int a2), (3, .int a3), (4, .int q5.1)], [], ww q5.2, 0, 0)
          refine am_go_blk 3 (?_ : am_gi (D + 3) 23 o (81, [(0, .ref 36), (1, .int a1), (3, .int a3)], [.int (if q5.1 < a2 then q5.1 else a2)], ww q5.2, 0, 0))
          exact T_Ord_fewestAhead_81 Hr8 a1 a3 (if q5.1 < a2 then q5.1 else a2) q5.2 H
        · have H := am_ie hc H
          show am_gi (D + 3) 23 o (70, [(4, .int q5.1), (0, .ref 36), (1, .int a1), (2, .int a2), (3, .int a3)], [], ww q5.2, 0, 0)
          exact am_go_blk 2 (T_Ord_fewestAhead_81 Hr8 a1 a3 q5.1 q5.2 H)
theorem TL_Ord_fewestAhead_8 {D : Nat} {o : Int32 × am_W} : ∀ (n : Nat) (a1 : Int32) (a2 : Int32) (a3 : Int32) (w : am_W) , L_Ord_fewestAhead_8 n a1 a2 a3 w = some o → am_gi (D + 3) 23 o (8, [(0, .ref 36), (1, .int a1), (2, .int a2), (3, .int a3)], [], ww w, 0, 0)
  | 0, _, _, _, _, H => by cases H
  | n + 1, a1, a2, a3, w, H => T_Ord_fewestAhead_8 (TL_Ord_fewestAhead_8 n) a1 a2 a3 w H
theorem T_Ord_fewestAhead {D : Nat} {o : Int32 × am_W} (a1 : Int32) (w : am_W) (H : F_Ord_fewestAhead a1 w = some o) : am_gi (D + 3) 23 o (0, [(0, .ref 36), (1, .int a1)], [], ww w, 0, 0) := by
  unfold F_Ord_fewestAhead at H
  obtain ⟨w1, hqw1, H⟩ := am_bnE H
  refine am_go_blk 1 (?_ : am_gi (D + 3) 23 o (1, [(0, .ref 36), (1, .int a1)], [.ref 36], ww w, 0, 0))
  refine am_invd rfl rfl rfl rfl (am_callv rfl (M_Ord_countAll (D := D) hqw1) (?_ : am_gi (D + 3) 23 o (4, [(0, .ref 36), (1, .int a1)], [], ww w1, 0, 0)))
  exact am_go_blk 4 (TL_Ord_fewestAhead_8 am_NF a1 (-nI 1) (nI 0) w1 H)
theorem M_Ord_fewestAhead {D : Nat} {o : Int32 × am_W} {a1 : Int32} {w : am_W} (H : F_Ord_fewestAhead a1 w = some o) : am_run (D + 4) 23 [.ref 36, .int a1] (ww w) (some (.int o.1)) (ww o.2) 0 0 :=
  am_run_of rfl (T_Ord_fewestAhead a1 w H)
def F_Ord_goneAhead_79 (s0 : Int32) (w : am_W) : Option (Int32 × am_W) :=
  some (s0, w)
def F_Ord_goneAhead_54 (r8 : Int32 → Int32 → Int32 → am_W → Option (Int32 × am_W)) (a1 : Int32) (a2 : Int32) (a3 : Int32) (w : am_W) : Option (Int32 × am_W) :=
  r8 a1 a2 (a3 + (nI 1)) w
def F_Ord_goneAhead_8 (r8 : Int32 → Int32 → Int32 → am_W → Option (Int32 × am_W)) (a1 : Int32) (a2 : Int32) (a3 : Int32) (w : am_W) : Option (Int32 × am_W) :=
  (F_Rail_allThings w).bind fun q2 => if q2.1 < a3 then (if 0 ≤ a2 then (F_Ord_goneAhead_79 (a2 &&& ((q2.2.1 1 1) ^^^ (-nI 1))) q2.2) else (F_Ord_goneAhead_79 (-nI 1) q2.2)) else (am_ck (am_in a3 256) (if (q2.2.1 37 a3.toNatClampNeg) ≤ 0 then (F_Ord_goneAhead_54 r8 a1 a2 a3 q2.2) else ((F_Rail_canGo a3 (q2.2.1 1 3) q2.2).bind fun q3 => (F_Loc_has q3.1 a1 q3.2).bind fun q4 => if q4.1 = 0 then (F_Ord_goneAhead_54 r8 a1 a2 a3 q4.2) else (F_Ord_goneAhead_54 r8 a1 (a2 &&& a3) a3 q4.2))))
def L_Ord_goneAhead_8 : Nat → Int32 → Int32 → Int32 → am_W → Option (Int32 × am_W)
  | 0, _, _, _, _ => none
  | n + 1, a1, a2, a3, w => F_Ord_goneAhead_8 (L_Ord_goneAhead_8 n) a1 a2 a3 w
def F_Ord_goneAhead (a1 : Int32) (w : am_W) : Option (Int32 × am_W) :=
  (F_Ord_countAll w).bind fun w1 => L_Ord_goneAhead_8 am_NF a1 (-nI 1) (nI 0) w1
theorem T_Ord_goneAhead_79 {D : Nat} {o : Int32 × am_W} (s0 : Int32) (w : am_W) (H : F_Ord_goneAhead_79 s0 w = some o) : am_gi (D + 3) 22 o (79, [], [.int s0], ww w, 0, 0) := by
  unfold F_Ord_goneAhead_79 at H
  exact am_go_blk 1 ⟨rfl, am_fi H⟩
theorem T_Ord_goneAhead_54 {D : Nat} {o : Int32 × am_W} {r8 : Int32 → Int32 → Int32 → am_W → Option (Int32 × am_W)} (Hr8 : ∀ (a1 : Int32) (a2 : Int32) (a3 : Int32) (w : am_W) , r8 a1 a2 a3 w = some o → am_gi (D + 3) 22 o (8, [(0, .ref 36), (1, .int a1), (2, .int a2), (3, .int a3)], [], ww w, 0, 0)) (a1 : Int32) (a2 : Int32) (a3 : Int32) (w : am_W) (H : F_Ord_goneAhead_54 r8 a1 a2 a3 w = some o) : am_gi (D + 3) 22 o (54, [(0, .ref 36), (1, .int a1), (2, .int a2), (3, .int a3)], [], ww w, 0, 0) := by
  unfold F_Ord_goneAhead_54 at H
  exact am_go_blk 2 (Hr8 a1 a2 (a3 + (nI 1)) w H)
theorem T_Ord_goneAhead_8 {D : Nat} {o : Int32 × am_W} {r8 : Int32 → Int32 → Int32 → am_W → Option (Int32 × am_W)} (Hr8 : ∀ (a1 : Int32) (a2 : Int32) (a3 : Int32) (w : am_W) , r8 a1 a2 a3 w = some o → am_gi (D + 3) 22 o (8, [(0, .ref 36), (1, .int a1), (2, .int a2), (3, .int a3)], [], ww w, 0, 0)) (a1 : Int32) (a2 : Int32) (a3 : Int32) (w : am_W) (H : F_Ord_goneAhead_8 r8 a1 a2 a3 w = some o) : am_gi (D + 3) 22 o (8, [(0, .ref 36), (1, .int a1), (2, .int a2), (3, .int a3)], [], ww w, 0, 0) := by
  unfold F_Ord_goneAhead_8 at H
  obtain ⟨q2, hqq2, H⟩ := am_bnE H
  refine am_go_blk 3 (?_ : am_gi (D + 3) 22 o (13, [(0, .ref 36), (1, .int a1), (2, .int a2), (3, .int a3)], [.ref 1, .int a3], ww w, 0, 0))
  refine am_invd rfl rfl rfl rfl (am_calli rfl (M_Rail_allThings (D := D + 2) hqq2) (?_ : am_gi (D + 3) 22 o (16, [(0, .ref 36), (1, .int a1), (2, .int a2), (3, .int a3)], [.int q2.1, .int a3], ww q2.2, 0, 0)))
  refine am_go_blk 1 ⟨fun hc => ?_, fun hc => ?_⟩
  · have H := am_it hc H
    show am_gi (D + 3) 22 o (60, [(0, .ref 36), (2, .int a2)], [], ww q2.2, 0, 0)
    refine am_go_blk 2 ⟨fun hc => ?_, fun hc => ?_⟩
    · have H := am_it hc H
      show am_gi (D + 3) 22 o (68, [(0, .ref 36), (2, .int a2)], [], ww q2.2, 0, 0)
      exact am_go_blk 7 (T_Ord_goneAhead_79 (a2 &&& ((q2.2.1 1 1) ^^^ (-nI 1))) q2.2 H)
    · have H := am_ie hc H
      show am_gi (D + 3) 22 o (64, [(0, .ref 36), (2, .int a2)], [], ww q2.2, 0, 0)
      exact am_go_blk 2 (T_Ord_goneAhead_79 (-nI 1) q2.2 H)
  · have H := am_ie hc H
    show am_gi (D + 3) 22 o (19, [(0, .ref 36), (1, .int a1), (2, .int a2), (3, .int a3)], [], ww q2.2, 0, 0)
    obtain ⟨hc, H⟩ := am_ckE H
    refine am_go_blk 4 ⟨am_inv hc, (?_ : am_gi (D + 3) 22 o (25, [(0, .ref 36), (1, .int a1), (2, .int a2), (3, .int a3)], [.int (q2.2.1 37 a3.toNatClampNeg)], ww q2.2, 0, 0))⟩
    refine am_go_blk 1 ⟨fun hc => ?_, fun hc => ?_⟩
    · have H := am_it hc H
      exact T_Ord_goneAhead_54 Hr8 a1 a2 a3 q2.2 H
    · have H := am_ie hc H
      show am_gi (D + 3) 22 o (28, [(0, .ref 36), (1, .int a1), (2, .int a2), (3, .int a3)], [], ww q2.2, 0, 0)
      obtain ⟨q3, hqq3, H⟩ := am_bnE H
      refine am_go_blk 6 (?_ : am_gi (D + 3) 22 o (40, [(0, .ref 36), (1, .int a1), (2, .int a2), (3, .int a3)], [.int (q2.2.1 1 3), .int a3, .ref 1], ww q2.2, 0, 0))
      refine am_invd rfl rfl rfl rfl (am_calli rfl (M_Rail_canGo (D := D + 1) hqq3) (?_ : am_gi (D + 3) 22 o (43, [(0, .ref 36), (1, .int a1), (2, .int a2), (3, .int a3)], [.int q3.1], ww q3.2, 0, 0)))
      obtain ⟨q4, hqq4, H⟩ := am_bnE H
      refine am_go_blk 1 (?_ : am_gi (D + 3) 22 o (44, [(0, .ref 36), (1, .int a1), (2, .int a2), (3, .int a3)], [.int a1, .int q3.1], ww q3.2, 0, 0))
      refine am_cls rfl rfl rfl (am_calli rfl (M_Loc_has (D := D + 2) hqq4) (?_ : am_gi (D + 3) 22 o (47, [(0, .ref 36), (1, .int a1), (2, .int a2), (3, .int a3)], [.int q4.1], ww q4.2, 0, 0)))
      refine am_go_blk 1 ⟨fun hc => ?_, fun hc => ?_⟩
      · have H := am_it hc H
        exact T_Ord_goneAhead_54 Hr8 a1 a2 a3 q4.2 H
      · have H := am_ie hc H
        show am_gi (D + 3) 22 o (50, [(0, .ref 36), (1, .int a1), (2, .int a2), (3, .int a3)], [], ww q4.2, 0, 0)
        exact am_go_blk 4 (T_Ord_goneAhead_54 Hr8 a1 (a2 &&& a3) a3 q4.2 H)
theorem TL_Ord_goneAhead_8 {D : Nat} {o : Int32 × am_W} : ∀ (n : Nat) (a1 : Int32) (a2 : Int32) (a3 : Int32) (w : am_W) , L_Ord_goneAhead_8 n a1 a2 a3 w = some o → am_gi (D + 3) 22 o (8, [(0, .ref 36), (1, .int a1), (2, .int a2), (3, .int a3)], [], ww w, 0, 0)
  | 0, _, _, _, _, H => by cases H
  | n + 1, a1, a2, a3, w, H => T_Ord_goneAhead_8 (TL_Ord_goneAhead_8 n) a1 a2 a3 w H
theorem T_Ord_goneAhead {D : Nat} {o : Int32 × am_W} (a1 : Int32) (w : am_W) (H : F_Ord_goneAhead a1 w = some o) : am_gi (D + 3) 22 o (0, [(0, .ref 36), (1, .int a1)], [], ww w, 0, 0) := by
  unfold F_Ord_goneAhead at H
  obtain ⟨w1, hqw1, H⟩ := am_bnE H
  refine am_go_blk 1 (?_ : am_gi (D + 3) 22 o (1, [(0, .ref 36), (1, .int a1)], [.ref 36], ww w, 0, 0))
  refine am_invd rfl rfl rfl rfl (am_callv rfl (M_Ord_countAll (D := D) hqw1) (?_ : am_gi (D + 3) 22 o (4, [(0, .ref 36), (1, .int a1)], [], ww w1, 0, 0)))
  exact am_go_blk 4 (TL_Ord_goneAhead_8 am_NF a1 (-nI 1) (nI 0) w1 H)
theorem M_Ord_goneAhead {D : Nat} {o : Int32 × am_W} {a1 : Int32} {w : am_W} (H : F_Ord_goneAhead a1 w = some o) : am_run (D + 4) 22 [.ref 36, .int a1] (ww w) (some (.int o.1)) (ww o.2) 0 0 :=
  am_run_of rfl (T_Ord_goneAhead a1 w H)
def F_Loc_first_61 (s0 : Int32) (w : am_W) : Option (Int32 × am_W) :=
  some (s0, w)
def F_Loc_first (a1 : Int32) (a2 : Int32) (w : am_W) : Option (Int32 × am_W) :=
  (F_Rail_isThing a1 w).bind fun q1 => if q1.1 = 0 then (some ((-nI 5), q1.2)) else ((F_Loc_isEither a2 q1.2).bind fun q2 => if q2.1 = 0 then (some ((-nI 7), q2.2)) else ((F_Rail_isGone a1 q2.2).bind fun q3 => if q3.1 = 0 then (if a2 = 0 then ((F_Ord_goneAhead a1 q3.2).bind fun q5 => F_Loc_first_61 q5.1 q5.2) else ((F_Ord_fewestAhead a1 q3.2).bind fun q4 => F_Loc_first_61 q4.1 q4.2)) else (some ((-nI 3), q3.2))))
theorem T_Loc_first_61 {D : Nat} {o : Int32 × am_W} (s0 : Int32) (w : am_W) (H : F_Loc_first_61 s0 w = some o) : am_gi (D + 4) 86 o (61, [], [.int s0], ww w, 0, 0) := by
  unfold F_Loc_first_61 at H
  exact am_go_blk 1 ⟨rfl, am_fi H⟩
theorem T_Loc_first {D : Nat} {o : Int32 × am_W} (a1 : Int32) (a2 : Int32) (w : am_W) (H : F_Loc_first a1 a2 w = some o) : am_gi (D + 4) 86 o (0, [(0, .ref 0), (1, .int a1), (2, .int a2)], [], ww w, 0, 0) := by
  unfold F_Loc_first at H
  obtain ⟨q1, hqq1, H⟩ := am_bnE H
  refine am_go_blk 3 (?_ : am_gi (D + 4) 86 o (5, [(0, .ref 0), (1, .int a1), (2, .int a2)], [.int a1, .ref 1], ww w, 0, 0))
  refine am_invd rfl rfl rfl rfl (am_calli rfl (M_Rail_isThing (D := D + 3) hqq1) (?_ : am_gi (D + 4) 86 o (8, [(0, .ref 0), (1, .int a1), (2, .int a2)], [.int q1.1], ww q1.2, 0, 0)))
  refine am_go_blk 1 ⟨fun hc => ?_, fun hc => ?_⟩
  · have H := am_ie hc H
    show am_gi (D + 4) 86 o (14, [(0, .ref 0), (1, .int a1), (2, .int a2)], [], ww q1.2, 0, 0)
    obtain ⟨q2, hqq2, H⟩ := am_bnE H
    refine am_go_blk 1 (?_ : am_gi (D + 4) 86 o (15, [(0, .ref 0), (1, .int a1), (2, .int a2)], [.int a2], ww q1.2, 0, 0))
    refine am_cls rfl rfl rfl (am_calli rfl (M_Loc_isEither (D := D + 3) hqq2) (?_ : am_gi (D + 4) 86 o (18, [(0, .ref 0), (1, .int a1), (2, .int a2)], [.int q2.1], ww q2.2, 0, 0)))
    refine am_go_blk 1 ⟨fun hc => ?_, fun hc => ?_⟩
    · have H := am_ie hc H
      show am_gi (D + 4) 86 o (24, [(0, .ref 0), (1, .int a1), (2, .int a2)], [], ww q2.2, 0, 0)
      obtain ⟨q3, hqq3, H⟩ := am_bnE H
      refine am_go_blk 3 (?_ : am_gi (D + 4) 86 o (29, [(0, .ref 0), (1, .int a1), (2, .int a2)], [.int a1, .ref 1], ww q2.2, 0, 0))
      refine am_invd rfl rfl rfl rfl (am_calli rfl (M_Rail_isGone (D := D + 2) hqq3) (?_ : am_gi (D + 4) 86 o (32, [(0, .ref 0), (1, .int a1), (2, .int a2)], [.int q3.1], ww q3.2, 0, 0)))
      refine am_go_blk 1 ⟨fun hc => ?_, fun hc => ?_⟩
      · have H := am_it hc H
        show am_gi (D + 4) 86 o (38, [(0, .ref 0), (1, .int a1), (2, .int a2)], [], ww q3.2, 0, 0)
        refine am_go_blk 2 ⟨fun hc => ?_, fun hc => ?_⟩
        · have H := am_ie hc H
          show am_gi (D + 4) 86 o (53, [(0, .ref 0), (1, .int a1)], [], ww q3.2, 0, 0)
          obtain ⟨q4, hqq4, H⟩ := am_bnE H
          refine am_go_blk 3 (?_ : am_gi (D + 4) 86 o (58, [(0, .ref 0), (1, .int a1)], [.int a1, .ref 36], ww q3.2, 0, 0))
          refine am_invd rfl rfl rfl rfl (am_calli rfl (M_Ord_fewestAhead (D := D) hqq4) (?_ : am_gi (D + 4) 86 o (61, [], [.int q4.1], ww q4.2, 0, 0)))
          exact T_Loc_first_61 q4.1 q4.2 H
        · have H := am_it hc H
          show am_gi (D + 4) 86 o (42, [(0, .ref 0), (1, .int a1), (2, .int a2)], [], ww q3.2, 0, 0)
          obtain ⟨q5, hqq5, H⟩ := am_bnE H
          refine am_go_blk 3 (?_ : am_gi (D + 4) 86 o (47, [(0, .ref 0), (1, .int a1), (2, .int a2)], [.int a1, .ref 36], ww q3.2, 0, 0))
          refine am_invd rfl rfl rfl rfl (am_calli rfl (M_Ord_goneAhead (D := D) hqq5) (?_ : am_gi (D + 4) 86 o (50, [(0, .ref 0), (1, .int a1), (2, .int a2)], [.int q5.1], ww q5.2, 0, 0)))
          exact am_go_blk 1 (T_Loc_first_61 q5.1 q5.2 H)
      · have H := am_ie hc H
        show am_gi (D + 4) 86 o (35, [(0, .ref 0), (1, .int a1), (2, .int a2)], [], ww q3.2, 0, 0)
        exact am_go_blk 2 ⟨rfl, am_fi H⟩
    · have H := am_it hc H
      show am_gi (D + 4) 86 o (21, [(0, .ref 0), (1, .int a1), (2, .int a2)], [], ww q2.2, 0, 0)
      exact am_go_blk 2 ⟨rfl, am_fi H⟩
  · have H := am_it hc H
    show am_gi (D + 4) 86 o (11, [(0, .ref 0), (1, .int a1), (2, .int a2)], [], ww q1.2, 0, 0)
    exact am_go_blk 2 ⟨rfl, am_fi H⟩
theorem M_Loc_first {D : Nat} {o : Int32 × am_W} {a1 : Int32} {a2 : Int32} {w : am_W} (H : F_Loc_first a1 a2 w = some o) : am_run (D + 5) 86 [.ref 0, .int a1, .int a2] (ww w) (some (.int o.1)) (ww o.2) 0 0 :=
  am_run_of rfl (T_Loc_first a1 a2 w H)
def F_Ord_lengthenRows_97 (r54 : Int32 → Int32 → Int32 → Int32 → am_W → Option (Int32 × am_W)) (a1 : Int32) (a2 : Int32) (a3 : Int32) (a4 : Int32) (w : am_W) : Option (Int32 × am_W) :=
  r54 a1 a2 a3 (a4 + (nI 1)) w
def F_Ord_lengthenRows_54 (r54 : Int32 → Int32 → Int32 → Int32 → am_W → Option (Int32 × am_W)) (a1 : Int32) (a2 : Int32) (a3 : Int32) (a4 : Int32) (w : am_W) : Option (Int32 × am_W) :=
  if (w.1 1 0) ≤ a4 then ((F_Loc_has a3 a2 w).bind fun q1 => am_ck (am_bo q1.1) (some (q1.1, q1.2))) else ((F_Loc_has (a3 &&& (a1 ^^^ (-nI 1))) a4 w).bind fun q2 => if q2.1 = 0 then (F_Ord_lengthenRows_97 r54 a1 a2 a3 a4 q2.2) else (am_ck (am_in (a1 ||| ((nI 1) <<< (a4 &&& 31))) 256) (am_ck (am_in (a1 ||| ((nI 1) <<< (a4 &&& 31))) 256) (am_lt (wst q2.2 38 (a1 ||| ((nI 1) <<< (a4 &&& 31))) ((q2.2.1 38 (a1 ||| ((nI 1) <<< (a4 &&& 31))).toNatClampNeg) ||| ((nI 1) <<< (a4 &&& 31)))) fun w3 => F_Ord_lengthenRows_97 r54 a1 a2 a3 a4 w3))))
def L_Ord_lengthenRows_54 : Nat → Int32 → Int32 → Int32 → Int32 → am_W → Option (Int32 × am_W)
  | 0, _, _, _, _, _ => none
  | n + 1, a1, a2, a3, a4, w => F_Ord_lengthenRows_54 (L_Ord_lengthenRows_54 n) a1 a2 a3 a4 w
def F_Ord_lengthenRows_43 (r5 : Int32 → Int32 → Int32 → Int32 → am_W → Option (Int32 × am_W)) (a1 : Int32) (a2 : Int32) (a4 : Int32) (s0 : Int32) (s1 : Int32) (w : am_W) : Option (Int32 × am_W) :=
  r5 a1 a2 (s1 ||| s0) (a4 + (nI 1)) w
def F_Ord_lengthenRows_5 (r5 : Int32 → Int32 → Int32 → Int32 → am_W → Option (Int32 × am_W)) (a1 : Int32) (a2 : Int32) (a3 : Int32) (a4 : Int32) (w : am_W) : Option (Int32 × am_W) :=
  if (w.1 1 0) ≤ a4 then (L_Ord_lengthenRows_54 am_NF a1 a2 a3 (nI 0) w) else (am_ck (am_in a1 256) ((F_Loc_has (w.1 38 a1.toNatClampNeg) a4 w).bind fun q4 => if q4.1 = 0 then (F_Ord_lengthenRows_43 r5 a1 a2 a4 (nI 0) a3 q4.2) else (am_ck (am_in a4 8) (F_Ord_lengthenRows_43 r5 a1 a2 a4 (q4.2.1 39 a4.toNatClampNeg) a3 q4.2))))
def L_Ord_lengthenRows_5 : Nat → Int32 → Int32 → Int32 → Int32 → am_W → Option (Int32 × am_W)
  | 0, _, _, _, _, _ => none
  | n + 1, a1, a2, a3, a4, w => F_Ord_lengthenRows_5 (L_Ord_lengthenRows_5 n) a1 a2 a3 a4 w
def F_Ord_lengthenRows (a1 : Int32) (a2 : Int32) (w : am_W) : Option (Int32 × am_W) :=
  L_Ord_lengthenRows_5 am_NF a1 a2 (nI 0) (nI 0) w
theorem T_Ord_lengthenRows_97 {D : Nat} {o : Int32 × am_W} {r54 : Int32 → Int32 → Int32 → Int32 → am_W → Option (Int32 × am_W)} (Hr54 : ∀ (a1 : Int32) (a2 : Int32) (a3 : Int32) (a4 : Int32) (w : am_W) , r54 a1 a2 a3 a4 w = some o → am_gi (D + 1) 25 o (54, [(0, .ref 36), (1, .int a1), (2, .int a2), (3, .int a3), (4, .int a4)], [], ww w, 0, 0)) (a1 : Int32) (a2 : Int32) (a3 : Int32) (a4 : Int32) (w : am_W) (H : F_Ord_lengthenRows_97 r54 a1 a2 a3 a4 w = some o) : am_gi (D + 1) 25 o (97, [(0, .ref 36), (1, .int a1), (2, .int a2), (3, .int a3), (4, .int a4)], [], ww w, 0, 0) := by
  unfold F_Ord_lengthenRows_97 at H
  exact am_go_blk 2 (Hr54 a1 a2 a3 (a4 + (nI 1)) w H)
theorem T_Ord_lengthenRows_54 {D : Nat} {o : Int32 × am_W} {r54 : Int32 → Int32 → Int32 → Int32 → am_W → Option (Int32 × am_W)} (Hr54 : ∀ (a1 : Int32) (a2 : Int32) (a3 : Int32) (a4 : Int32) (w : am_W) , r54 a1 a2 a3 a4 w = some o → am_gi (D + 1) 25 o (54, [(0, .ref 36), (1, .int a1), (2, .int a2), (3, .int a3), (4, .int a4)], [], ww w, 0, 0)) (a1 : Int32) (a2 : Int32) (a3 : Int32) (a4 : Int32) (w : am_W) (H : F_Ord_lengthenRows_54 r54 a1 a2 a3 a4 w = some o) : am_gi (D + 1) 25 o (54, [(0, .ref 36), (1, .int a1), (2, .int a2), (3, .int a3), (4, .int a4)], [], ww w, 0, 0) := by
  unfold F_Ord_lengthenRows_54 at H
  refine am_go_blk 5 ⟨fun hc => ?_, fun hc => ?_⟩
  · have H := am_it hc H
    show am_gi (D + 1) 25 o (103, [(2, .int a2), (3, .int a3)], [], ww w, 0, 0)
    obtain ⟨q1, hqq1, H⟩ := am_bnE H
    refine am_go_blk 2 (?_ : am_gi (D + 1) 25 o (105, [(2, .int a2), (3, .int a3)], [.int a2, .int a3], ww w, 0, 0))
    refine am_cls rfl rfl rfl (am_calli rfl (M_Loc_has (D := D) hqq1) (?_ : am_gi (D + 1) 25 o (108, [(2, .int a2), (3, .int a3)], [.int q1.1], ww q1.2, 0, 0)))
    obtain ⟨hc, H⟩ := am_ckE H
    exact am_go_blk 1 ⟨am_boE hc, am_fi H⟩
  · have H := am_ie hc H
    show am_gi (D + 1) 25 o (66, [(0, .ref 36), (1, .int a1), (2, .int a2), (3, .int a3), (4, .int a4)], [], ww w, 0, 0)
    obtain ⟨q2, hqq2, H⟩ := am_bnE H
    refine am_go_blk 6 (?_ : am_gi (D + 1) 25 o (73, [(0, .ref 36), (1, .int a1), (2, .int a2), (3, .int a3), (4, .int a4)], [.int a4, .int (a3 &&& (a1 ^^^ (-nI 1)))], ww w, 0, 0))
    refine am_cls rfl rfl rfl (am_calli rfl (M_Loc_has (D := D) hqq2) (?_ : am_gi (D + 1) 25 o (76, [(0, .ref 36), (1, .int a1), (2, .int a2), (3, .int a3), (4, .int a4)], [.int q2.1], ww q2.2, 0, 0)))
    refine am_go_blk 1 ⟨fun hc => ?_, fun hc => ?_⟩
    · have H := am_it hc H
      exact T_Ord_lengthenRows_97 Hr54 a1 a2 a3 a4 q2.2 H
    · have H := am_ie hc H
      show am_gi (D + 1) 25 o (79, [(0, .ref 36), (1, .int a1), (2, .int a2), (3, .int a3), (4, .int a4)], [], ww q2.2, 0, 0)
      obtain ⟨hc, H⟩ := am_ckE H
      refine am_go_blk 9 ⟨am_inv hc, (?_ : am_gi (D + 1) 25 o (91, [(0, .ref 36), (1, .int a1), (2, .int a2), (3, .int a3), (4, .int a4)], [.int (q2.2.1 38 (a1 ||| ((nI 1) <<< (a4 &&& 31))).toNatClampNeg), .int (a1 ||| ((nI 1) <<< (a4 &&& 31))), .ref 38], ww q2.2, 0, 0))⟩
      obtain ⟨hc, H⟩ := am_ckE H
      obtain ⟨w3, ew3, H⟩ := am_ltE H
      refine am_go_blk 5 ⟨am_inv hc, am_hp (ww_s38 ew3) (?_ : am_gi (D + 1) 25 o (97, [(0, .ref 36), (1, .int a1), (2, .int a2), (3, .int a3), (4, .int a4)], [], ww w3, 0, 0))⟩
      exact T_Ord_lengthenRows_97 Hr54 a1 a2 a3 a4 w3 H
theorem TL_Ord_lengthenRows_54 {D : Nat} {o : Int32 × am_W} : ∀ (n : Nat) (a1 : Int32) (a2 : Int32) (a3 : Int32) (a4 : Int32) (w : am_W) , L_Ord_lengthenRows_54 n a1 a2 a3 a4 w = some o → am_gi (D + 1) 25 o (54, [(0, .ref 36), (1, .int a1), (2, .int a2), (3, .int a3), (4, .int a4)], [], ww w, 0, 0)
  | 0, _, _, _, _, _, H => by cases H
  | n + 1, a1, a2, a3, a4, w, H => T_Ord_lengthenRows_54 (TL_Ord_lengthenRows_54 n) a1 a2 a3 a4 w H
theorem T_Ord_lengthenRows_43 {D : Nat} {o : Int32 × am_W} {r5 : Int32 → Int32 → Int32 → Int32 → am_W → Option (Int32 × am_W)} (Hr5 : ∀ (a1 : Int32) (a2 : Int32) (a3 : Int32) (a4 : Int32) (w : am_W) , r5 a1 a2 a3 a4 w = some o → am_gi (D + 1) 25 o (5, [(0, .ref 36), (1, .int a1), (2, .int a2), (3, .int a3), (4, .int a4)], [], ww w, 0, 0)) (a1 : Int32) (a2 : Int32) (a4 : Int32) (s0 : Int32) (s1 : Int32) (w : am_W) (H : F_Ord_lengthenRows_43 r5 a1 a2 a4 s0 s1 w = some o) : am_gi (D + 1) 25 o (43, [(0, .ref 36), (1, .int a1), (2, .int a2), (4, .int a4)], [.int s0, .int s1], ww w, 0, 0) := by
  unfold F_Ord_lengthenRows_43 at H
  exact am_go_blk 4 (Hr5 a1 a2 (s1 ||| s0) (a4 + (nI 1)) w H)
theorem T_Ord_lengthenRows_5 {D : Nat} {o : Int32 × am_W} {r5 : Int32 → Int32 → Int32 → Int32 → am_W → Option (Int32 × am_W)} (Hr5 : ∀ (a1 : Int32) (a2 : Int32) (a3 : Int32) (a4 : Int32) (w : am_W) , r5 a1 a2 a3 a4 w = some o → am_gi (D + 1) 25 o (5, [(0, .ref 36), (1, .int a1), (2, .int a2), (3, .int a3), (4, .int a4)], [], ww w, 0, 0)) (a1 : Int32) (a2 : Int32) (a3 : Int32) (a4 : Int32) (w : am_W) (H : F_Ord_lengthenRows_5 r5 a1 a2 a3 a4 w = some o) : am_gi (D + 1) 25 o (5, [(0, .ref 36), (1, .int a1), (2, .int a2), (3, .int a3), (4, .int a4)], [], ww w, 0, 0) := by
  unfold F_Ord_lengthenRows_5 at H
  refine am_go_blk 5 ⟨fun hc => ?_, fun hc => ?_⟩
  · have H := am_it hc H
    show am_gi (D + 1) 25 o (51, [(0, .ref 36), (1, .int a1), (2, .int a2), (3, .int a3)], [], ww w, 0, 0)
    exact am_go_blk 2 (TL_Ord_lengthenRows_54 am_NF a1 a2 a3 (nI 0) w H)
  · have H := am_ie hc H
    show am_gi (D + 1) 25 o (17, [(0, .ref 36), (1, .int a1), (2, .int a2), (3, .int a3), (4, .int a4)], [], ww w, 0, 0)
    obtain ⟨hc, H⟩ := am_ckE H
    refine am_go_blk 5 ⟨am_inv hc, (?_ : am_gi (D + 1) 25 o (24, [(0, .ref 36), (1, .int a1), (2, .int a2), (3, .int a3), (4, .int a4)], [.int (w.1 38 a1.toNatClampNeg), .int a3], ww w, 0, 0))⟩
    obtain ⟨q4, hqq4, H⟩ := am_bnE H
    refine am_go_blk 1 (?_ : am_gi (D + 1) 25 o (26, [(0, .ref 36), (1, .int a1), (2, .int a2), (3, .int a3), (4, .int a4)], [.int a4, .int (w.1 38 a1.toNatClampNeg), .int a3], ww w, 0, 0))
    refine am_cls rfl rfl rfl (am_calli rfl (M_Loc_has (D := D) hqq4) (?_ : am_gi (D + 1) 25 o (29, [(0, .ref 36), (1, .int a1), (2, .int a2), (3, .int a3), (4, .int a4)], [.int q4.1, .int a3], ww q4.2, 0, 0)))
    refine am_go_blk 1 ⟨fun hc => ?_, fun hc => ?_⟩
    · have H := am_it hc H
      show am_gi (D + 1) 25 o (42, [(0, .ref 36), (1, .int a1), (2, .int a2), (4, .int a4)], [.int a3], ww q4.2, 0, 0)
      exact am_go_blk 1 (T_Ord_lengthenRows_43 Hr5 a1 a2 a4 (nI 0) a3 q4.2 H)
    · have H := am_ie hc H
      show am_gi (D + 1) 25 o (32, [(0, .ref 36), (1, .int a1), (2, .int a2), (3, .int a3), (4, .int a4)], [.int a3], ww q4.2, 0, 0)
      obtain ⟨hc, H⟩ := am_ckE H
      refine am_go_blk 4 ⟨am_inv hc, (?_ : am_gi (D + 1) 25 o (39, [(0, .ref 36), (1, .int a1), (2, .int a2), (3, .int a3), (4, .int a4)], [.int (q4.2.1 39 a4.toNatClampNeg), .int a3], ww q4.2, 0, 0))⟩
      exact am_go_blk 1 (T_Ord_lengthenRows_43 Hr5 a1 a2 a4 (q4.2.1 39 a4.toNatClampNeg) a3 q4.2 H)
theorem TL_Ord_lengthenRows_5 {D : Nat} {o : Int32 × am_W} : ∀ (n : Nat) (a1 : Int32) (a2 : Int32) (a3 : Int32) (a4 : Int32) (w : am_W) , L_Ord_lengthenRows_5 n a1 a2 a3 a4 w = some o → am_gi (D + 1) 25 o (5, [(0, .ref 36), (1, .int a1), (2, .int a2), (3, .int a3), (4, .int a4)], [], ww w, 0, 0)
  | 0, _, _, _, _, _, H => by cases H
  | n + 1, a1, a2, a3, a4, w, H => T_Ord_lengthenRows_5 (TL_Ord_lengthenRows_5 n) a1 a2 a3 a4 w H
theorem T_Ord_lengthenRows {D : Nat} {o : Int32 × am_W} (a1 : Int32) (a2 : Int32) (w : am_W) (H : F_Ord_lengthenRows a1 a2 w = some o) : am_gi (D + 1) 25 o (0, [(0, .ref 36), (1, .int a1), (2, .int a2)], [], ww w, 0, 0) := by
  unfold F_Ord_lengthenRows at H
  exact am_go_blk 4 (TL_Ord_lengthenRows_5 am_NF a1 a2 (nI 0) (nI 0) w H)
theorem M_Ord_lengthenRows {D : Nat} {o : Int32 × am_W} {a1 : Int32} {a2 : Int32} {w : am_W} (H : F_Ord_lengthenRows a1 a2 w = some o) : am_run (D + 2) 25 [.ref 36, .int a1, .int a2] (ww w) (some (.int o.1)) (ww o.2) 0 0 :=
  am_run_of rfl (T_Ord_lengthenRows a1 a2 w H)
def F_Ord_smallestRing_158 (r100 : Int32 → Int32 → Int32 → am_W → Option (Int32 × am_W)) (a1 : Int32) (a2 : Int32) (a3 : Int32) (w : am_W) : Option (Int32 × am_W) :=
  r100 a1 a2 (a3 + (nI 1)) w
def F_Ord_smallestRing_156 (r100 : Int32 → Int32 → Int32 → am_W → Option (Int32 × am_W)) (a1 : Int32) (a3 : Int32) (w : am_W) : Option (Int32 × am_W) :=
  F_Ord_smallestRing_158 r100 a1 a3 a3 w
def F_Ord_smallestRing_134 (r100 : Int32 → Int32 → Int32 → am_W → Option (Int32 × am_W)) (a1 : Int32) (a2 : Int32) (a3 : Int32) (s0 : Int32) (w : am_W) : Option (Int32 × am_W) :=
  if s0 = 0 then (F_Ord_smallestRing_158 r100 a1 a2 a3 w) else (if a2 = 0 then (F_Ord_smallestRing_156 r100 a1 a3 w) else ((F_Jint_bitCount_0f7a4 a3 w).bind fun q4 => (F_Jint_bitCount_0f7a4 a2 q4.2).bind fun q5 => if q5.1 ≤ q4.1 then (F_Ord_smallestRing_158 r100 a1 a2 a3 q5.2) else (F_Ord_smallestRing_156 r100 a1 a3 q5.2)))
def F_Ord_smallestRing_133 (r100 : Int32 → Int32 → Int32 → am_W → Option (Int32 × am_W)) (a1 : Int32) (a2 : Int32) (a3 : Int32) (w : am_W) : Option (Int32 × am_W) :=
  F_Ord_smallestRing_134 r100 a1 a2 a3 (nI 0) w
def F_Ord_smallestRing_100 (r100 : Int32 → Int32 → Int32 → am_W → Option (Int32 × am_W)) (a1 : Int32) (a2 : Int32) (a3 : Int32) (w : am_W) : Option (Int32 × am_W) :=
  (F_Rail_allThings w).bind fun q3 => if q3.1 < a3 then (some (a2, q3.2)) else (am_ck (am_in a3 256) (if (q3.2.1 38 a3.toNatClampNeg) = 0 then (F_Ord_smallestRing_133 r100 a1 a2 a3 q3.2) else ((F_Ord_lengthenRows a3 a1 q3.2).bind fun q6 => if q6.1 = 0 then (F_Ord_smallestRing_133 r100 a1 a2 a3 q6.2) else (F_Ord_smallestRing_134 r100 a1 a2 a3 (nI 1) q6.2))))
def L_Ord_smallestRing_100 : Nat → Int32 → Int32 → Int32 → am_W → Option (Int32 × am_W)
  | 0, _, _, _, _ => none
  | n + 1, a1, a2, a3, w => F_Ord_smallestRing_100 (L_Ord_smallestRing_100 n) a1 a2 a3 w
def F_Ord_smallestRing_65 (r65 : Int32 → Int32 → Int32 → am_W → Option (Int32 × am_W)) (a1 : Int32) (a2 : Int32) (a3 : Int32) (w : am_W) : Option (Int32 × am_W) :=
  if (nI 256) ≤ a3 then (am_ck (am_in ((nI 1) <<< (a1 &&& 31)) 256) (am_lt (wst w 38 ((nI 1) <<< (a1 &&& 31)) ((nI 1) <<< (a1 &&& 31))) fun w2 => L_Ord_smallestRing_100 am_NF a1 a2 ((nI 1) <<< (a1 &&& 31)) w2)) else (am_ck (am_in a3 256) (am_lt (wst w 38 a3 (nI 0)) fun w7 => r65 a1 a2 (a3 + (nI 1)) w7))
def L_Ord_smallestRing_65 : Nat → Int32 → Int32 → Int32 → am_W → Option (Int32 × am_W)
  | 0, _, _, _, _ => none
  | n + 1, a1, a2, a3, w => F_Ord_smallestRing_65 (L_Ord_smallestRing_65 n) a1 a2 a3 w
def F_Ord_smallestRing_56 (r17 : Int32 → Int32 → Int32 → am_W → Option (Int32 × am_W)) (a1 : Int32) (a2 : Int32) (a3 : Int32) (s0 : Int32) (s1 : Int32) (w : am_W) : Option (Int32 × am_W) :=
  am_ck (am_in s1 8) (am_lt (wst w 39 s1 s0) fun w10 => r17 a1 a2 (a3 + (nI 1)) w10)
def F_Ord_smallestRing_17 (r17 : Int32 → Int32 → Int32 → am_W → Option (Int32 × am_W)) (a1 : Int32) (a2 : Int32) (a3 : Int32) (w : am_W) : Option (Int32 × am_W) :=
  if (w.1 1 0) ≤ a3 then (L_Ord_smallestRing_65 am_NF a1 a2 (nI 0) w) else ((F_Rail_isGone a3 w).bind fun q8 => if q8.1 = 0 then ((F_Rail_awaited a3 q8.2).bind fun q9 => F_Ord_smallestRing_56 r17 a1 a2 a3 q9.1 a3 q9.2) else (F_Ord_smallestRing_56 r17 a1 a2 a3 (nI 0) a3 q8.2))
def L_Ord_smallestRing_17 : Nat → Int32 → Int32 → Int32 → am_W → Option (Int32 × am_W)
  | 0, _, _, _, _ => none
  | n + 1, a1, a2, a3, w => F_Ord_smallestRing_17 (L_Ord_smallestRing_17 n) a1 a2 a3 w
def F_Ord_smallestRing (a1 : Int32) (w : am_W) : Option (Int32 × am_W) :=
  (F_Rail_isGone a1 w).bind fun q1 => if q1.1 = 0 then (L_Ord_smallestRing_17 am_NF a1 (nI 0) (nI 0) q1.2) else (some ((nI 0), q1.2))
theorem T_Ord_smallestRing_158 {D : Nat} {o : Int32 × am_W} {r100 : Int32 → Int32 → Int32 → am_W → Option (Int32 × am_W)} (Hr100 : ∀ (a1 : Int32) (a2 : Int32) (a3 : Int32) (w : am_W) , r100 a1 a2 a3 w = some o → am_gi (D + 5) 24 o (100, [(0, .ref 36), (1, .int a1), (2, .int a2), (3, .int a3)], [], ww w, 0, 0)) (a1 : Int32) (a2 : Int32) (a3 : Int32) (w : am_W) (H : F_Ord_smallestRing_158 r100 a1 a2 a3 w = some o) : am_gi (D + 5) 24 o (158, [(0, .ref 36), (1, .int a1), (2, .int a2), (3, .int a3)], [], ww w, 0, 0) := by
  unfold F_Ord_smallestRing_158 at H
  exact am_go_blk 2 (Hr100 a1 a2 (a3 + (nI 1)) w H)
theorem T_Ord_smallestRing_156 {D : Nat} {o : Int32 × am_W} {r100 : Int32 → Int32 → Int32 → am_W → Option (Int32 × am_W)} (Hr100 : ∀ (a1 : Int32) (a2 : Int32) (a3 : Int32) (w : am_W) , r100 a1 a2 a3 w = some o → am_gi (D + 5) 24 o (100, [(0, .ref 36), (1, .int a1), (2, .int a2), (3, .int a3)], [], ww w, 0, 0)) (a1 : Int32) (a3 : Int32) (w : am_W) (H : F_Ord_smallestRing_156 r100 a1 a3 w = some o) : am_gi (D + 5) 24 o (156, [(0, .ref 36), (1, .int a1), (3, .int a3)], [], ww w, 0, 0) := by
  unfold F_Ord_smallestRing_156 at H
  exact am_go_blk 2 (T_Ord_smallestRing_158 Hr100 a1 a3 a3 w H)
theorem T_Ord_smallestRing_134 {D : Nat} {o : Int32 × am_W} {r100 : Int32 → Int32 → Int32 → am_W → Option (Int32 × am_W)} (Hr100 : ∀ (a1 : Int32) (a2 : Int32) (a3 : Int32) (w : am_W) , r100 a1 a2 a3 w = some o → am_gi (D + 5) 24 o (100, [(0, .ref 36), (1, .int a1), (2, .int a2), (3, .int a3)], [], ww w, 0, 0)) (a1 : Int32) (a2 : Int32) (a3 : Int32) (s0 : Int32) (w : am_W) (H : F_Ord_smallestRing_134 r100 a1 a2 a3 s0 w = some o) : am_gi (D + 5) 24 o (134, [(0, .ref 36), (1, .int a1), (2, .int a2), (3, .int a3)], [.int s0], ww w, 0, 0) := by
  unfold F_Ord_smallestRing_134 at H
  refine am_go_blk 3 ⟨fun hc => ?_, fun hc => ?_⟩
  · have H := am_it hc H
    exact T_Ord_smallestRing_158 Hr100 a1 a2 a3 w H
  · have H := am_ie hc H
    show am_gi (D + 5) 24 o (141, [(4, .int s0), (0, .ref 36), (1, .int a1), (2, .int a2), (3, .int a3)], [], ww w, 0, 0)
    refine am_go_blk 2 ⟨fun hc => ?_, fun hc => ?_⟩
    · have H := am_it hc H
      exact T_Ord_smallestRing_156 Hr100 a1 a3 w H
    · have H := am_ie hc H
      show am_gi (D + 5) 24 o (145, [(4, .int s0), (0, .ref 36), (1, .int a1), (2, .int a2), (3, .int a3)], [], ww w, 0, 0)
      obtain ⟨q4, hqq4, H⟩ := am_bnE H
      refine am_go_blk 1 (?_ : am_gi (D + 5) 24 o (146, [(4, .int s0), (0, .ref 36), (1, .int a1), (2, .int a2), (3, .int a3)], [.int a3], ww w, 0, 0))
      refine am_cls rfl rfl rfl (am_calli rfl (M_Jint_bitCount_0f7a4 (D := D + 4) hqq4) (?_ : am_gi (D + 5) 24 o (149, [(4, .int s0), (0, .ref 36), (1, .int a1), (2, .int a2), (3, .int a3)], [.int q4.1], ww q4.2, 0, 0)))
      obtain ⟨q5, hqq5, H⟩ := am_bnE H
      refine am_go_blk 1 (?_ : am_gi (D + 5) 24 o (150, [(4, .int s0), (0, .ref 36), (1, .int a1), (2, .int a2), (3, .int a3)], [.int a2, .int q4.1], ww q4.2, 0, 0))
      refine am_cls rfl rfl rfl (am_calli rfl (M_Jint_bitCount_0f7a4 (D := D + 4) hqq5) (?_ : am_gi (D + 5) 24 o (153, [(4, .int s0), (0, .ref 36), (1, .int a1), (2, .int a2), (3, .int a3)], [.int q5.1, .int q4.1], ww q5.2, 0, 0)))
      refine am_go_blk 1 ⟨fun hc => ?_, fun hc => ?_⟩
      · have H := am_it hc H
        exact T_Ord_smallestRing_158 Hr100 a1 a2 a3 q5.2 H
      · have H := am_ie hc H
        exact T_Ord_smallestRing_156 Hr100 a1 a3 q5.2 H
theorem T_Ord_smallestRing_133 {D : Nat} {o : Int32 × am_W} {r100 : Int32 → Int32 → Int32 → am_W → Option (Int32 × am_W)} (Hr100 : ∀ (a1 : Int32) (a2 : Int32) (a3 : Int32) (w : am_W) , r100 a1 a2 a3 w = some o → am_gi (D + 5) 24 o (100, [(0, .ref 36), (1, .int a1), (2, .int a2), (3, .int a3)], [], ww w, 0, 0)) (a1 : Int32) (a2 : Int32) (a3 : Int32) (w : am_W) (H : F_Ord_smallestRing_133 r100 a1 a2 a3 w = some o) : am_gi (D + 5) 24 o (133, [(0, .ref 36), (1, .int a1), (2, .int a2), (3, .int a3)], [], ww w, 0, 0) := by
  unfold F_Ord_smallestRing_133 at H
  exact am_go_blk 1 (T_Ord_smallestRing_134 Hr100 a1 a2 a3 (nI 0) w H)
theorem T_Ord_smallestRing_100 {D : Nat} {o : Int32 × am_W} {r100 : Int32 → Int32 → Int32 → am_W → Option (Int32 × am_W)} (Hr100 : ∀ (a1 : Int32) (a2 : Int32) (a3 : Int32) (w : am_W) , r100 a1 a2 a3 w = some o → am_gi (D + 5) 24 o (100, [(0, .ref 36), (1, .int a1), (2, .int a2), (3, .int a3)], [], ww w, 0, 0)) (a1 : Int32) (a2 : Int32) (a3 : Int32) (w : am_W) (H : F_Ord_smallestRing_100 r100 a1 a2 a3 w = some o) : am_gi (D + 5) 24 o (100, [(0, .ref 36), (1, .int a1), (2, .int a2), (3, .int a3)], [], ww w, 0, 0) := by
  unfold F_Ord_smallestRing_100 at H
  obtain ⟨q3, hqq3, H⟩ := am_bnE H
  refine am_go_blk 3 (?_ : am_gi (D + 5) 24 o (105, [(0, .ref 36), (1, .int a1), (2, .int a2), (3, .int a3)], [.ref 1, .int a3], ww w, 0, 0))
  refine am_invd rfl rfl rfl rfl (am_calli rfl (M_Rail_allThings (D := D + 4) hqq3) (?_ : am_gi (D + 5) 24 o (108, [(0, .ref 36), (1, .int a1), (2, .int a2), (3, .int a3)], [.int q3.1, .int a3], ww q3.2, 0, 0)))
  refine am_go_blk 1 ⟨fun hc => ?_, fun hc => ?_⟩
  · have H := am_it hc H
    show am_gi (D + 5) 24 o (164, [(2, .int a2)], [], ww q3.2, 0, 0)
    exact am_go_blk 2 ⟨rfl, am_fi H⟩
  · have H := am_ie hc H
    show am_gi (D + 5) 24 o (111, [(0, .ref 36), (1, .int a1), (2, .int a2), (3, .int a3)], [], ww q3.2, 0, 0)
    obtain ⟨hc, H⟩ := am_ckE H
    refine am_go_blk 4 ⟨am_inv hc, (?_ : am_gi (D + 5) 24 o (117, [(0, .ref 36), (1, .int a1), (2, .int a2), (3, .int a3)], [.int (q3.2.1 38 a3.toNatClampNeg)], ww q3.2, 0, 0))⟩
    refine am_go_blk 1 ⟨fun hc => ?_, fun hc => ?_⟩
    · have H := am_it hc H
      exact T_Ord_smallestRing_133 Hr100 a1 a2 a3 q3.2 H
    · have H := am_ie hc H
      show am_gi (D + 5) 24 o (120, [(0, .ref 36), (1, .int a1), (2, .int a2), (3, .int a3)], [], ww q3.2, 0, 0)
      obtain ⟨q6, hqq6, H⟩ := am_bnE H
      refine am_go_blk 3 (?_ : am_gi (D + 5) 24 o (123, [(0, .ref 36), (1, .int a1), (2, .int a2), (3, .int a3)], [.int a1, .int a3, .ref 36], ww q3.2, 0, 0))
      refine am_invd rfl rfl rfl rfl (am_calli rfl (M_Ord_lengthenRows (D := D + 3) hqq6) (?_ : am_gi (D + 5) 24 o (126, [(0, .ref 36), (1, .int a1), (2, .int a2), (3, .int a3)], [.int q6.1], ww q6.2, 0, 0)))
      refine am_go_blk 1 ⟨fun hc => ?_, fun hc => ?_⟩
      · have H := am_it hc H
        exact T_Ord_smallestRing_133 Hr100 a1 a2 a3 q6.2 H
      · have H := am_ie hc H
        show am_gi (D + 5) 24 o (129, [(0, .ref 36), (1, .int a1), (2, .int a2), (3, .int a3)], [], ww q6.2, 0, 0)
        exact am_go_blk 2 (T_Ord_smallestRing_134 Hr100 a1 a2 a3 (nI 1) q6.2 H)
theorem TL_Ord_smallestRing_100 {D : Nat} {o : Int32 × am_W} : ∀ (n : Nat) (a1 : Int32) (a2 : Int32) (a3 : Int32) (w : am_W) , L_Ord_smallestRing_100 n a1 a2 a3 w = some o → am_gi (D + 5) 24 o (100, [(0, .ref 36), (1, .int a1), (2, .int a2), (3, .int a3)], [], ww w, 0, 0)
  | 0, _, _, _, _, H => by cases H
  | n + 1, a1, a2, a3, w, H => T_Ord_smallestRing_100 (TL_Ord_smallestRing_100 n) a1 a2 a3 w H
theorem T_Ord_smallestRing_65 {D : Nat} {o : Int32 × am_W} {r65 : Int32 → Int32 → Int32 → am_W → Option (Int32 × am_W)} (Hr65 : ∀ (a1 : Int32) (a2 : Int32) (a3 : Int32) (w : am_W) , r65 a1 a2 a3 w = some o → am_gi (D + 5) 24 o (65, [(0, .ref 36), (1, .int a1), (2, .int a2), (3, .int a3)], [], ww w, 0, 0)) (a1 : Int32) (a2 : Int32) (a3 : Int32) (w : am_W) (H : F_Ord_smallestRing_65 r65 a1 a2 a3 w = some o) : am_gi (D + 5) 24 o (65, [(0, .ref 36), (1, .int a1), (2, .int a2), (3, .int a3)], [], ww w, 0, 0) := by
  unfold F_Ord_smallestRing_65 at H
  refine am_go_blk 3 ⟨fun hc => ?_, fun hc => ?_⟩
  · have H := am_it hc H
    show am_gi (D + 5) 24 o (85, [(0, .ref 36), (1, .int a1), (2, .int a2)], [], ww w, 0, 0)
    obtain ⟨hc, H⟩ := am_ckE H
    obtain ⟨w2, ew2, H⟩ := am_ltE H
    refine am_go_blk 9 ⟨am_inv hc, am_hp (ww_s38 ew2) (?_ : am_gi (D + 5) 24 o (96, [(0, .ref 36), (1, .int a1), (2, .int a2)], [], ww w2, 0, 0))⟩
    exact am_go_blk 4 (TL_Ord_smallestRing_100 am_NF a1 a2 ((nI 1) <<< (a1 &&& 31)) w2 H)
  · have H := am_ie hc H
    show am_gi (D + 5) 24 o (72, [(0, .ref 36), (1, .int a1), (2, .int a2), (3, .int a3)], [], ww w, 0, 0)
    obtain ⟨hc, H⟩ := am_ckE H
    obtain ⟨w7, ew7, H⟩ := am_ltE H
    refine am_go_blk 5 ⟨am_inv hc, am_hp (ww_s38 ew7) (?_ : am_gi (D + 5) 24 o (79, [(0, .ref 36), (1, .int a1), (2, .int a2), (3, .int a3)], [], ww w7, 0, 0))⟩
    exact am_go_blk 2 (Hr65 a1 a2 (a3 + (nI 1)) w7 H)
theorem TL_Ord_smallestRing_65 {D : Nat} {o : Int32 × am_W} : ∀ (n : Nat) (a1 : Int32) (a2 : Int32) (a3 : Int32) (w : am_W) , L_Ord_smallestRing_65 n a1 a2 a3 w = some o → am_gi (D + 5) 24 o (65, [(0, .ref 36), (1, .int a1), (2, .int a2), (3, .int a3)], [], ww w, 0, 0)
  | 0, _, _, _, _, H => by cases H
  | n + 1, a1, a2, a3, w, H => T_Ord_smallestRing_65 (TL_Ord_smallestRing_65 n) a1 a2 a3 w H
theorem T_Ord_smallestRing_56 {D : Nat} {o : Int32 × am_W} {r17 : Int32 → Int32 → Int32 → am_W → Option (Int32 × am_W)} (Hr17 : ∀ (a1 : Int32) (a2 : Int32) (a3 : Int32) (w : am_W) , r17 a1 a2 a3 w = some o → am_gi (D + 5) 24 o (17, [(0, .ref 36), (1, .int a1), (2, .int a2), (3, .int a3)], [], ww w, 0, 0)) (a1 : Int32) (a2 : Int32) (a3 : Int32) (s0 : Int32) (s1 : Int32) (w : am_W) (H : F_Ord_smallestRing_56 r17 a1 a2 a3 s0 s1 w = some o) : am_gi (D + 5) 24 o (56, [(0, .ref 36), (1, .int a1), (2, .int a2), (3, .int a3)], [.int s0, .int s1, .ref 39], ww w, 0, 0) := by
  unfold F_Ord_smallestRing_56 at H
  obtain ⟨hc, H⟩ := am_ckE H
  obtain ⟨w10, ew10, H⟩ := am_ltE H
  refine am_go_blk 1 ⟨am_inv hc, am_hp (ww_s39 ew10) (?_ : am_gi (D + 5) 24 o (57, [(0, .ref 36), (1, .int a1), (2, .int a2), (3, .int a3)], [], ww w10, 0, 0))⟩
  exact am_go_blk 2 (Hr17 a1 a2 (a3 + (nI 1)) w10 H)
theorem T_Ord_smallestRing_17 {D : Nat} {o : Int32 × am_W} {r17 : Int32 → Int32 → Int32 → am_W → Option (Int32 × am_W)} (Hr17 : ∀ (a1 : Int32) (a2 : Int32) (a3 : Int32) (w : am_W) , r17 a1 a2 a3 w = some o → am_gi (D + 5) 24 o (17, [(0, .ref 36), (1, .int a1), (2, .int a2), (3, .int a3)], [], ww w, 0, 0)) (a1 : Int32) (a2 : Int32) (a3 : Int32) (w : am_W) (H : F_Ord_smallestRing_17 r17 a1 a2 a3 w = some o) : am_gi (D + 5) 24 o (17, [(0, .ref 36), (1, .int a1), (2, .int a2), (3, .int a3)], [], ww w, 0, 0) := by
  unfold F_Ord_smallestRing_17 at H
  refine am_go_blk 5 ⟨fun hc => ?_, fun hc => ?_⟩
  · have H := am_it hc H
    show am_gi (D + 5) 24 o (63, [(0, .ref 36), (1, .int a1), (2, .int a2)], [], ww w, 0, 0)
    exact am_go_blk 2 (TL_Ord_smallestRing_65 am_NF a1 a2 (nI 0) w H)
  · have H := am_ie hc H
    show am_gi (D + 5) 24 o (28, [(0, .ref 36), (1, .int a1), (2, .int a2), (3, .int a3)], [], ww w, 0, 0)
    obtain ⟨q8, hqq8, H⟩ := am_bnE H
    refine am_go_blk 6 (?_ : am_gi (D + 5) 24 o (38, [(0, .ref 36), (1, .int a1), (2, .int a2), (3, .int a3)], [.int a3, .ref 1, .int a3, .ref 39], ww w, 0, 0))
    refine am_invd rfl rfl rfl rfl (am_calli rfl (M_Rail_isGone (D := D + 3) hqq8) (?_ : am_gi (D + 5) 24 o (41, [(0, .ref 36), (1, .int a1), (2, .int a2), (3, .int a3)], [.int q8.1, .int a3, .ref 39], ww q8.2, 0, 0)))
    refine am_go_blk 1 ⟨fun hc => ?_, fun hc => ?_⟩
    · have H := am_it hc H
      show am_gi (D + 5) 24 o (48, [(0, .ref 36), (1, .int a1), (2, .int a2), (3, .int a3)], [.int a3, .ref 39], ww q8.2, 0, 0)
      obtain ⟨q9, hqq9, H⟩ := am_bnE H
      refine am_go_blk 3 (?_ : am_gi (D + 5) 24 o (53, [(0, .ref 36), (1, .int a1), (2, .int a2), (3, .int a3)], [.int a3, .ref 1, .int a3, .ref 39], ww q8.2, 0, 0))
      refine am_invd rfl rfl rfl rfl (am_calli rfl (M_Rail_awaited (D := D) hqq9) (?_ : am_gi (D + 5) 24 o (56, [(0, .ref 36), (1, .int a1), (2, .int a2), (3, .int a3)], [.int q9.1, .int a3, .ref 39], ww q9.2, 0, 0)))
      exact T_Ord_smallestRing_56 Hr17 a1 a2 a3 q9.1 a3 q9.2 H
    · have H := am_ie hc H
      show am_gi (D + 5) 24 o (44, [(0, .ref 36), (1, .int a1), (2, .int a2), (3, .int a3)], [.int a3, .ref 39], ww q8.2, 0, 0)
      exact am_go_blk 2 (T_Ord_smallestRing_56 Hr17 a1 a2 a3 (nI 0) a3 q8.2 H)
theorem TL_Ord_smallestRing_17 {D : Nat} {o : Int32 × am_W} : ∀ (n : Nat) (a1 : Int32) (a2 : Int32) (a3 : Int32) (w : am_W) , L_Ord_smallestRing_17 n a1 a2 a3 w = some o → am_gi (D + 5) 24 o (17, [(0, .ref 36), (1, .int a1), (2, .int a2), (3, .int a3)], [], ww w, 0, 0)
  | 0, _, _, _, _, H => by cases H
  | n + 1, a1, a2, a3, w, H => T_Ord_smallestRing_17 (TL_Ord_smallestRing_17 n) a1 a2 a3 w H
theorem T_Ord_smallestRing {D : Nat} {o : Int32 × am_W} (a1 : Int32) (w : am_W) (H : F_Ord_smallestRing a1 w = some o) : am_gi (D + 5) 24 o (0, [(0, .ref 36), (1, .int a1)], [], ww w, 0, 0) := by
  unfold F_Ord_smallestRing at H
  obtain ⟨q1, hqq1, H⟩ := am_bnE H
  refine am_go_blk 5 (?_ : am_gi (D + 5) 24 o (7, [(2, .int (nI 0)), (0, .ref 36), (1, .int a1)], [.int a1, .ref 1], ww w, 0, 0))
  refine am_invd rfl rfl rfl rfl (am_calli rfl (M_Rail_isGone (D := D + 3) hqq1) (?_ : am_gi (D + 5) 24 o (10, [(2, .int (nI 0)), (0, .ref 36), (1, .int a1)], [.int q1.1], ww q1.2, 0, 0)))
  refine am_go_blk 1 ⟨fun hc => ?_, fun hc => ?_⟩
  · have H := am_it hc H
    show am_gi (D + 5) 24 o (15, [(0, .ref 36), (1, .int a1), (2, .int (nI 0))], [], ww q1.2, 0, 0)
    exact am_go_blk 2 (TL_Ord_smallestRing_17 am_NF a1 (nI 0) (nI 0) q1.2 H)
  · have H := am_ie hc H
    show am_gi (D + 5) 24 o (13, [(2, .int (nI 0)), (0, .ref 36), (1, .int a1)], [], ww q1.2, 0, 0)
    exact am_go_blk 2 ⟨rfl, am_fi H⟩
theorem M_Ord_smallestRing {D : Nat} {o : Int32 × am_W} {a1 : Int32} {w : am_W} (H : F_Ord_smallestRing a1 w = some o) : am_run (D + 6) 24 [.ref 36, .int a1] (ww w) (some (.int o.1)) (ww o.2) 0 0 :=
  am_run_of rfl (T_Ord_smallestRing a1 w H)
def F_Loc_ring_51 (s0 : Int32) (w : am_W) : Option (Int32 × am_W) :=
  some (s0, w)
def F_Loc_ring (a1 : Int32) (a2 : Int32) (w : am_W) : Option (Int32 × am_W) :=
  (F_Rail_isThing a1 w).bind fun q1 => if q1.1 = 0 then (some ((-nI 5), q1.2)) else ((F_Loc_isEither a2 q1.2).bind fun q2 => if q2.1 = 0 then (some ((-nI 7), q2.2)) else ((F_Ord_smallestRing a1 q2.2).bind fun q3 => if q3.1 = 0 then (some ((-nI 1), q3.2)) else (if a2 = 0 then ((F_Jint_bitCount_0f7a4 q3.1 q3.2).bind fun q4 => F_Loc_ring_51 q4.1 q4.2) else (F_Loc_ring_51 q3.1 q3.2))))
theorem T_Loc_ring_51 {D : Nat} {o : Int32 × am_W} (s0 : Int32) (w : am_W) (H : F_Loc_ring_51 s0 w = some o) : am_gi (D + 6) 87 o (51, [], [.int s0], ww w, 0, 0) := by
  unfold F_Loc_ring_51 at H
  exact am_go_blk 1 ⟨rfl, am_fi H⟩
theorem T_Loc_ring {D : Nat} {o : Int32 × am_W} (a1 : Int32) (a2 : Int32) (w : am_W) (H : F_Loc_ring a1 a2 w = some o) : am_gi (D + 6) 87 o (0, [(0, .ref 0), (1, .int a1), (2, .int a2)], [], ww w, 0, 0) := by
  unfold F_Loc_ring at H
  obtain ⟨q1, hqq1, H⟩ := am_bnE H
  refine am_go_blk 3 (?_ : am_gi (D + 6) 87 o (5, [(0, .ref 0), (1, .int a1), (2, .int a2)], [.int a1, .ref 1], ww w, 0, 0))
  refine am_invd rfl rfl rfl rfl (am_calli rfl (M_Rail_isThing (D := D + 5) hqq1) (?_ : am_gi (D + 6) 87 o (8, [(0, .ref 0), (1, .int a1), (2, .int a2)], [.int q1.1], ww q1.2, 0, 0)))
  refine am_go_blk 1 ⟨fun hc => ?_, fun hc => ?_⟩
  · have H := am_ie hc H
    show am_gi (D + 6) 87 o (14, [(0, .ref 0), (1, .int a1), (2, .int a2)], [], ww q1.2, 0, 0)
    obtain ⟨q2, hqq2, H⟩ := am_bnE H
    refine am_go_blk 1 (?_ : am_gi (D + 6) 87 o (15, [(0, .ref 0), (1, .int a1), (2, .int a2)], [.int a2], ww q1.2, 0, 0))
    refine am_cls rfl rfl rfl (am_calli rfl (M_Loc_isEither (D := D + 5) hqq2) (?_ : am_gi (D + 6) 87 o (18, [(0, .ref 0), (1, .int a1), (2, .int a2)], [.int q2.1], ww q2.2, 0, 0)))
    refine am_go_blk 1 ⟨fun hc => ?_, fun hc => ?_⟩
    · have H := am_ie hc H
      show am_gi (D + 6) 87 o (24, [(0, .ref 0), (1, .int a1), (2, .int a2)], [], ww q2.2, 0, 0)
      obtain ⟨q3, hqq3, H⟩ := am_bnE H
      refine am_go_blk 3 (?_ : am_gi (D + 6) 87 o (29, [(0, .ref 0), (1, .int a1), (2, .int a2)], [.int a1, .ref 36], ww q2.2, 0, 0))
      refine am_invd rfl rfl rfl rfl (am_calli rfl (M_Ord_smallestRing (D := D) hqq3) (?_ : am_gi (D + 6) 87 o (32, [(0, .ref 0), (1, .int a1), (2, .int a2)], [.int q3.1], ww q3.2, 0, 0)))
      refine am_go_blk 3 ⟨fun hc => ?_, fun hc => ?_⟩
      · have H := am_ie hc H
        show am_gi (D + 6) 87 o (39, [(2, .int a2), (3, .int q3.1)], [], ww q3.2, 0, 0)
        refine am_go_blk 2 ⟨fun hc => ?_, fun hc => ?_⟩
        · have H := am_ie hc H
          show am_gi (D + 6) 87 o (50, [(3, .int q3.1)], [], ww q3.2, 0, 0)
          exact am_go_blk 1 (T_Loc_ring_51 q3.1 q3.2 H)
        · have H := am_it hc H
          show am_gi (D + 6) 87 o (43, [(2, .int a2), (3, .int q3.1)], [], ww q3.2, 0, 0)
          obtain ⟨q4, hqq4, H⟩ := am_bnE H
          refine am_go_blk 1 (?_ : am_gi (D + 6) 87 o (44, [(2, .int a2), (3, .int q3.1)], [.int q3.1], ww q3.2, 0, 0))
          refine am_cls rfl rfl rfl (am_calli rfl (M_Jint_bitCount_0f7a4 (D := D + 5) hqq4) (?_ : am_gi (D + 6) 87 o (47, [(2, .int a2), (3, .int q3.1)], [.int q4.1], ww q4.2, 0, 0)))
          exact am_go_blk 1 (T_Loc_ring_51 q4.1 q4.2 H)
      · have H := am_it hc H
        show am_gi (D + 6) 87 o (37, [(3, .int q3.1), (0, .ref 0), (1, .int a1), (2, .int a2)], [], ww q3.2, 0, 0)
        exact am_go_blk 2 ⟨rfl, am_fi H⟩
    · have H := am_it hc H
      show am_gi (D + 6) 87 o (21, [(0, .ref 0), (1, .int a1), (2, .int a2)], [], ww q2.2, 0, 0)
      exact am_go_blk 2 ⟨rfl, am_fi H⟩
  · have H := am_it hc H
    show am_gi (D + 6) 87 o (11, [(0, .ref 0), (1, .int a1), (2, .int a2)], [], ww q1.2, 0, 0)
    exact am_go_blk 2 ⟨rfl, am_fi H⟩
theorem M_Loc_ring {D : Nat} {o : Int32 × am_W} {a1 : Int32} {a2 : Int32} {w : am_W} (H : F_Loc_ring a1 a2 w = some o) : am_run (D + 7) 87 [.ref 0, .int a1, .int a2] (ww w) (some (.int o.1)) (ww o.2) 0 0 :=
  am_run_of rfl (T_Loc_ring a1 a2 w H)
def F_Ord_leadingTo (a1 : Int32) (w : am_W) : Option (Int32 × am_W) :=
  (F_Ord_countAll w).bind fun w1 => am_ck (am_in a1 256) (some ((w1.1 37 a1.toNatClampNeg), w1))
theorem T_Ord_leadingTo {D : Nat} {o : Int32 × am_W} (a1 : Int32) (w : am_W) (H : F_Ord_leadingTo a1 w = some o) : am_gi (D + 3) 20 o (0, [(0, .ref 36), (1, .int a1)], [], ww w, 0, 0) := by
  unfold F_Ord_leadingTo at H
  obtain ⟨w1, hqw1, H⟩ := am_bnE H
  refine am_go_blk 1 (?_ : am_gi (D + 3) 20 o (1, [(0, .ref 36), (1, .int a1)], [.ref 36], ww w, 0, 0))
  refine am_invd rfl rfl rfl rfl (am_callv rfl (M_Ord_countAll (D := D) hqw1) (?_ : am_gi (D + 3) 20 o (4, [(0, .ref 36), (1, .int a1)], [], ww w1, 0, 0)))
  obtain ⟨hc, H⟩ := am_ckE H
  refine am_go_blk 4 ⟨am_inv hc, (?_ : am_gi (D + 3) 20 o (10, [(0, .ref 36), (1, .int a1)], [.int (w1.1 37 a1.toNatClampNeg)], ww w1, 0, 0))⟩
  exact am_go_blk 1 ⟨rfl, am_fi H⟩
theorem M_Ord_leadingTo {D : Nat} {o : Int32 × am_W} {a1 : Int32} {w : am_W} (H : F_Ord_leadingTo a1 w = some o) : am_run (D + 4) 20 [.ref 36, .int a1] (ww w) (some (.int o.1)) (ww o.2) 0 0 :=
  am_run_of rfl (T_Ord_leadingTo a1 w H)
def F_Loc_rows (a1 : Int32) (w : am_W) : Option (Int64 × am_W) :=
  (F_Rail_allThings w).bind fun q1 => if (a1 &&& (q1.1 ^^^ (-nI 1))) = 0 then ((F_Ord_leadingTo a1 q1.2).bind fun q2 => some (q2.1.toInt64, q2.2)) else (some ((-lN 4611686018427387904), q1.2))
theorem T_Loc_rows {D : Nat} {o : Int64 × am_W} (a1 : Int32) (w : am_W) (H : F_Loc_rows a1 w = some o) : am_gj (D + 4) 88 o (0, [(0, .ref 0), (1, .int a1)], [], ww w, 0, 0) := by
  unfold F_Loc_rows at H
  obtain ⟨q1, hqq1, H⟩ := am_bnE H
  refine am_go_blk 3 (?_ : am_gj (D + 4) 88 o (5, [(0, .ref 0), (1, .int a1)], [.ref 1, .int a1], ww w, 0, 0))
  refine am_invd rfl rfl rfl rfl (am_calli rfl (M_Rail_allThings (D := D + 3) hqq1) (?_ : am_gj (D + 4) 88 o (8, [(0, .ref 0), (1, .int a1)], [.int q1.1, .int a1], ww q1.2, 0, 0)))
  refine am_go_blk 4 ⟨fun hc => ?_, fun hc => ?_⟩
  · have H := am_it hc H
    show am_gj (D + 4) 88 o (18, [(0, .ref 0), (1, .int a1)], [], ww q1.2, 0, 0)
    obtain ⟨q2, hqq2, H⟩ := am_bnE H
    refine am_go_blk 3 (?_ : am_gj (D + 4) 88 o (23, [(0, .ref 0), (1, .int a1)], [.int a1, .ref 36], ww q1.2, 0, 0))
    refine am_invd rfl rfl rfl rfl (am_calli rfl (M_Ord_leadingTo (D := D) hqq2) (?_ : am_gj (D + 4) 88 o (26, [(0, .ref 0), (1, .int a1)], [.int q2.1], ww q2.2, 0, 0)))
    exact am_go_blk 2 (am_fj H)
  · have H := am_ie hc H
    show am_gj (D + 4) 88 o (14, [(0, .ref 0), (1, .int a1)], [], ww q1.2, 0, 0)
    exact am_go_blk 2 (am_fj H)
theorem M_Loc_rows {D : Nat} {o : Int64 × am_W} {a1 : Int32} {w : am_W} (H : F_Loc_rows a1 w = some o) : am_run (D + 5) 88 [.ref 0, .int a1] (ww w) (some (.long o.1)) (ww o.2) 0 0 :=
  am_run_of rfl (T_Loc_rows a1 w H)
def F_Loc_ways (w : am_W) : Option (Int64 × am_W) :=
  (F_Rail_goneAtLast (w.1 1 3) w).bind fun q1 => (F_Ord_leadingTo q1.1 q1.2).bind fun q2 => some (q2.1.toInt64, q2.2)
theorem T_Loc_ways {D : Nat} {o : Int64 × am_W} (w : am_W) (H : F_Loc_ways w = some o) : am_gj (D + 4) 89 o (0, [(0, .ref 0)], [], ww w, 0, 0) := by
  unfold F_Loc_ways at H
  obtain ⟨q1, hqq1, H⟩ := am_bnE H
  refine am_go_blk 7 (?_ : am_gj (D + 4) 89 o (15, [(0, .ref 0)], [.int (w.1 1 3), .ref 1, .ref 36], ww w, 0, 0))
  refine am_invd rfl rfl rfl rfl (am_calli rfl (M_Rail_goneAtLast (D := D + 1) hqq1) (?_ : am_gj (D + 4) 89 o (18, [(0, .ref 0)], [.int q1.1, .ref 36], ww q1.2, 0, 0)))
  obtain ⟨q2, hqq2, H⟩ := am_bnE H
  refine am_invd rfl rfl rfl rfl (am_calli rfl (M_Ord_leadingTo (D := D) hqq2) (?_ : am_gj (D + 4) 89 o (21, [(0, .ref 0)], [.int q2.1], ww q2.2, 0, 0)))
  exact am_go_blk 2 (am_fj H)
theorem M_Loc_ways {D : Nat} {o : Int64 × am_W} {w : am_W} (H : F_Loc_ways w = some o) : am_run (D + 5) 89 [.ref 0] (ww w) (some (.long o.1)) (ww o.2) 0 0 :=
  am_run_of rfl (T_Loc_ways w H)
def F_Loc_leastOf_2 (r2 : Int32 → Int32 → am_W → Option (Int32 × am_W)) (a0 : Int32) (a1 : Int32) (w : am_W) : Option (Int32 × am_W) :=
  if (nI 8) ≤ a1 then (some ((nI 0), w)) else ((F_Loc_has a0 a1 w).bind fun q1 => if q1.1 = 0 then (r2 a0 (a1 + (nI 1)) q1.2) else (some (a1, q1.2)))
def L_Loc_leastOf_2 : Nat → Int32 → Int32 → am_W → Option (Int32 × am_W)
  | 0, _, _, _ => none
  | n + 1, a0, a1, w => F_Loc_leastOf_2 (L_Loc_leastOf_2 n) a0 a1 w
def F_Loc_leastOf (a0 : Int32) (w : am_W) : Option (Int32 × am_W) :=
  L_Loc_leastOf_2 am_NF a0 (nI 0) w
theorem T_Loc_leastOf_2 {D : Nat} {o : Int32 × am_W} {r2 : Int32 → Int32 → am_W → Option (Int32 × am_W)} (Hr2 : ∀ (a0 : Int32) (a1 : Int32) (w : am_W) , r2 a0 a1 w = some o → am_gi (D + 1) 119 o (2, [(0, .int a0), (1, .int a1)], [], ww w, 0, 0)) (a0 : Int32) (a1 : Int32) (w : am_W) (H : F_Loc_leastOf_2 r2 a0 a1 w = some o) : am_gi (D + 1) 119 o (2, [(0, .int a0), (1, .int a1)], [], ww w, 0, 0) := by
  unfold F_Loc_leastOf_2 at H
  refine am_go_blk 3 ⟨fun hc => ?_, fun hc => ?_⟩
  · have H := am_it hc H
    show am_gi (D + 1) 119 o (24, [], [], ww w, 0, 0)
    exact am_go_blk 2 ⟨rfl, am_fi H⟩
  · have H := am_ie hc H
    show am_gi (D + 1) 119 o (8, [(0, .int a0), (1, .int a1)], [], ww w, 0, 0)
    obtain ⟨q1, hqq1, H⟩ := am_bnE H
    refine am_go_blk 2 (?_ : am_gi (D + 1) 119 o (10, [(0, .int a0), (1, .int a1)], [.int a1, .int a0], ww w, 0, 0))
    refine am_cls rfl rfl rfl (am_calli rfl (M_Loc_has (D := D) hqq1) (?_ : am_gi (D + 1) 119 o (13, [(0, .int a0), (1, .int a1)], [.int q1.1], ww q1.2, 0, 0)))
    refine am_go_blk 1 ⟨fun hc => ?_, fun hc => ?_⟩
    · have H := am_it hc H
      show am_gi (D + 1) 119 o (18, [(0, .int a0), (1, .int a1)], [], ww q1.2, 0, 0)
      exact am_go_blk 2 (Hr2 a0 (a1 + (nI 1)) q1.2 H)
    · have H := am_ie hc H
      show am_gi (D + 1) 119 o (16, [(0, .int a0), (1, .int a1)], [], ww q1.2, 0, 0)
      exact am_go_blk 2 ⟨rfl, am_fi H⟩
theorem TL_Loc_leastOf_2 {D : Nat} {o : Int32 × am_W} : ∀ (n : Nat) (a0 : Int32) (a1 : Int32) (w : am_W) , L_Loc_leastOf_2 n a0 a1 w = some o → am_gi (D + 1) 119 o (2, [(0, .int a0), (1, .int a1)], [], ww w, 0, 0)
  | 0, _, _, _, H => by cases H
  | n + 1, a0, a1, w, H => T_Loc_leastOf_2 (TL_Loc_leastOf_2 n) a0 a1 w H
theorem T_Loc_leastOf {D : Nat} {o : Int32 × am_W} (a0 : Int32) (w : am_W) (H : F_Loc_leastOf a0 w = some o) : am_gi (D + 1) 119 o (0, [(0, .int a0)], [], ww w, 0, 0) := by
  unfold F_Loc_leastOf at H
  exact am_go_blk 2 (TL_Loc_leastOf_2 am_NF a0 (nI 0) w H)
theorem M_Loc_leastOf {D : Nat} {o : Int32 × am_W} {a0 : Int32} {w : am_W} (H : F_Loc_leastOf a0 w = some o) : am_run (D + 2) 119 [.int a0] (ww w) (some (.int o.1)) (ww o.2) 0 0 :=
  am_run_of rfl (T_Loc_leastOf a0 w H)
def F_Loc_row_86 (a1 : Int32) (w : am_W) : Option (Int32 × am_W) :=
  some (a1, w)
def F_Loc_row_12 (r12 : Int32 → Int32 → Int32 → am_W → Option (Int32 × am_W)) (a1 : Int32) (a2 : Int32) (a3 : Int32) (w : am_W) : Option (Int32 × am_W) :=
  if (w.1 1 0) ≤ a3 then (F_Loc_row_86 a1 w) else ((F_Rail_canGo a2 (w.1 1 3) w).bind fun q1 => if (q1.1 &&& (q1.2.1 1 4)) = 0 then (F_Loc_row_86 a1 q1.2) else ((F_Loc_leastOf (q1.1 &&& (q1.2.1 1 4)) q1.2).bind fun q2 => r12 (((a1 * (nI 10)) + q2.1) + (nI 1)) (a2 ||| ((nI 1) <<< (q2.1 &&& 31))) (a3 + (nI 1)) q2.2))
def L_Loc_row_12 : Nat → Int32 → Int32 → Int32 → am_W → Option (Int32 × am_W)
  | 0, _, _, _, _ => none
  | n + 1, a1, a2, a3, w => F_Loc_row_12 (L_Loc_row_12 n) a1 a2 a3 w
def F_Loc_row (w : am_W) : Option (Int32 × am_W) :=
  L_Loc_row_12 am_NF (nI 0) (w.1 1 1) (nI 0) w
theorem T_Loc_row_86 {D : Nat} {o : Int32 × am_W} (a1 : Int32) (w : am_W) (H : F_Loc_row_86 a1 w = some o) : am_gi (D + 2) 90 o (86, [(1, .int a1)], [], ww w, 0, 0) := by
  unfold F_Loc_row_86 at H
  exact am_go_blk 2 ⟨rfl, am_fi H⟩
theorem T_Loc_row_12 {D : Nat} {o : Int32 × am_W} {r12 : Int32 → Int32 → Int32 → am_W → Option (Int32 × am_W)} (Hr12 : ∀ (a1 : Int32) (a2 : Int32) (a3 : Int32) (w : am_W) , r12 a1 a2 a3 w = some o → am_gi (D + 2) 90 o (12, [(0, .ref 0), (1, .int a1), (2, .int a2), (3, .int a3)], [], ww w, 0, 0)) (a1 : Int32) (a2 : Int32) (a3 : Int32) (w : am_W) (H : F_Loc_row_12 r12 a1 a2 a3 w = some o) : am_gi (D + 2) 90 o (12, [(0, .ref 0), (1, .int a1), (2, .int a2), (3, .int a3)], [], ww w, 0, 0) := by
  unfold F_Loc_row_12 at H
  refine am_go_blk 5 ⟨fun hc => ?_, fun hc => ?_⟩
  · have H := am_it hc H
    exact T_Loc_row_86 a1 w H
  · have H := am_ie hc H
    show am_gi (D + 2) 90 o (23, [(0, .ref 0), (1, .int a1), (2, .int a2), (3, .int a3)], [], ww w, 0, 0)
    obtain ⟨q1, hqq1, H⟩ := am_bnE H
    refine am_go_blk 6 (?_ : am_gi (D + 2) 90 o (35, [(0, .ref 0), (1, .int a1), (2, .int a2), (3, .int a3)], [.int (w.1 1 3), .int a2, .ref 1], ww w, 0, 0))
    refine am_invd rfl rfl rfl rfl (am_calli rfl (M_Rail_canGo (D := D) hqq1) (?_ : am_gi (D + 2) 90 o (38, [(0, .ref 0), (1, .int a1), (2, .int a2), (3, .int a3)], [.int q1.1], ww q1.2, 0, 0)))
    refine am_go_blk 7 ⟨fun hc => ?_, fun hc => ?_⟩
    · have H := am_ie hc H
      show am_gi (D + 2) 90 o (56, [(0, .ref 0), (1, .int a1), (2, .int a2), (3, .int a3), (4, .int (q1.1 &&& (q1.2.1 1 4)))], [], ww q1.2, 0, 0)
      obtain ⟨q2, hqq2, H⟩ := am_bnE H
      refine am_go_blk 1 (?_ : am_gi (D + 2) 90 o (58, [(0, .ref 0), (1, .int a1), (2, .int a2), (3, .int a3), (4, .int (q1.1 &&& (q1.2.1 1 4)))], [.int (q1.1 &&& (q1.2.1 1 4))], ww q1.2, 0, 0))
      refine am_cls rfl rfl rfl (am_calli rfl (M_Loc_leastOf (D := D) hqq2) (?_ : am_gi (D + 2) 90 o (61, [(0, .ref 0), (1, .int a1), (2, .int a2), (3, .int a3), (4, .int (q1.1 &&& (q1.2.1 1 4)))], [.int q2.1], ww q2.2, 0, 0)))
      exact am_go_blk 17 (Hr12 (((a1 * (nI 10)) + q2.1) + (nI 1)) (a2 ||| ((nI 1) <<< (q2.1 &&& 31))) (a3 + (nI 1)) q2.2 H)
    · have H := am_it hc H
      show am_gi (D + 2) 90 o (53, [(4, .int (q1.1 &&& (q1.2.1 1 4))), (0, .ref 0), (1, .int a1), (2, .int a2), (3, .int a3)], [], ww q1.2, 0, 0)
      exact am_go_blk 1 (T_Loc_row_86 a1 q1.2 H)
theorem TL_Loc_row_12 {D : Nat} {o : Int32 × am_W} : ∀ (n : Nat) (a1 : Int32) (a2 : Int32) (a3 : Int32) (w : am_W) , L_Loc_row_12 n a1 a2 a3 w = some o → am_gi (D + 2) 90 o (12, [(0, .ref 0), (1, .int a1), (2, .int a2), (3, .int a3)], [], ww w, 0, 0)
  | 0, _, _, _, _, H => by cases H
  | n + 1, a1, a2, a3, w, H => T_Loc_row_12 (TL_Loc_row_12 n) a1 a2 a3 w H
theorem T_Loc_row {D : Nat} {o : Int32 × am_W} (w : am_W) (H : F_Loc_row w = some o) : am_gi (D + 2) 90 o (0, [(0, .ref 0)], [], ww w, 0, 0) := by
  unfold F_Loc_row at H
  exact am_go_blk 8 (TL_Loc_row_12 am_NF (nI 0) (w.1 1 1) (nI 0) w H)
theorem M_Loc_row {D : Nat} {o : Int32 × am_W} {w : am_W} (H : F_Loc_row w = some o) : am_run (D + 3) 90 [.ref 0] (ww w) (some (.int o.1)) (ww o.2) 0 0 :=
  am_run_of rfl (T_Loc_row w H)
def F_Day_willingIn_59 (r5 : Int32 → Nat → Int32 → Int32 → am_W → Option (Int32 × am_W)) (a1 : Int32) (p2 : Nat) (a3 : Int32) (a4 : Int32) (w : am_W) : Option (Int32 × am_W) :=
  r5 a1 p2 a3 (a4 + (nI 1)) w
def F_Day_willingIn_5 (r5 : Int32 → Nat → Int32 → Int32 → am_W → Option (Int32 × am_W)) (a1 : Int32) (p2 : Nat) (a3 : Int32) (a4 : Int32) (w : am_W) : Option (Int32 × am_W) :=
  if (w.1 1 0) ≤ a4 then (some (a3, w)) else (am_ck (am_in a4 8) (if a1 < (w.1 p2 a4.toNatClampNeg) then (F_Day_willingIn_59 r5 a1 p2 a3 a4 w) else (am_ck (am_in a4 8) (am_ck (am_in a4 8) ((F_Kinds_goesIn (w.1 2 a4.toNatClampNeg) (w.1 3 a4.toNatClampNeg) a1 w).bind fun q1 => if q1.1 = 0 then (F_Day_willingIn_59 r5 a1 p2 a3 a4 q1.2) else (F_Day_willingIn_59 r5 a1 p2 (a3 ||| ((nI 1) <<< (a4 &&& 31))) a4 q1.2))))))
def L_Day_willingIn_5 : Nat → Int32 → Nat → Int32 → Int32 → am_W → Option (Int32 × am_W)
  | 0, _, _, _, _, _ => none
  | n + 1, a1, p2, a3, a4, w => F_Day_willingIn_5 (L_Day_willingIn_5 n) a1 p2 a3 a4 w
def F_Day_willingIn (a1 : Int32) (p2 : Nat) (w : am_W) : Option (Int32 × am_W) :=
  L_Day_willingIn_5 am_NF a1 p2 (nI 0) (nI 0) w
theorem T_Day_willingIn_59 {D : Nat} {o : Int32 × am_W} {r5 : Int32 → Nat → Int32 → Int32 → am_W → Option (Int32 × am_W)} (Hr5 : ∀ (a1 : Int32) (p2 : Nat) (a3 : Int32) (a4 : Int32) (w : am_W) (hp2 : (p2 = 4 ∨ p2 = 43)), r5 a1 p2 a3 a4 w = some o → am_gi (D + 1) 2 o (5, [(0, .ref 40), (1, .int a1), (2, .ref p2), (3, .int a3), (4, .int a4)], [], ww w, 0, 0)) (a1 : Int32) (p2 : Nat) (a3 : Int32) (a4 : Int32) (w : am_W) (hp2 : (p2 = 4 ∨ p2 = 43)) (H : F_Day_willingIn_59 r5 a1 p2 a3 a4 w = some o) : am_gi (D + 1) 2 o (59, [(0, .ref 40), (1, .int a1), (2, .ref p2), (3, .int a3), (4, .int a4)], [], ww w, 0, 0) := by
  unfold F_Day_willingIn_59 at H
  exact am_go_blk 2 (Hr5 a1 p2 a3 (a4 + (nI 1)) w hp2 H)
theorem T_Day_willingIn_5 {D : Nat} {o : Int32 × am_W} {r5 : Int32 → Nat → Int32 → Int32 → am_W → Option (Int32 × am_W)} (Hr5 : ∀ (a1 : Int32) (p2 : Nat) (a3 : Int32) (a4 : Int32) (w : am_W) (hp2 : (p2 = 4 ∨ p2 = 43)), r5 a1 p2 a3 a4 w = some o → am_gi (D + 1) 2 o (5, [(0, .ref 40), (1, .int a1), (2, .ref p2), (3, .int a3), (4, .int a4)], [], ww w, 0, 0)) (a1 : Int32) (p2 : Nat) (a3 : Int32) (a4 : Int32) (w : am_W) (hp2 : (p2 = 4 ∨ p2 = 43)) (H : F_Day_willingIn_5 r5 a1 p2 a3 a4 w = some o) : am_gi (D + 1) 2 o (5, [(0, .ref 40), (1, .int a1), (2, .ref p2), (3, .int a3), (4, .int a4)], [], ww w, 0, 0) := by
  unfold F_Day_willingIn_5 at H
  refine am_go_blk 5 ⟨fun hc => ?_, fun hc => ?_⟩
  · have H := am_it hc H
    show am_gi (D + 1) 2 o (65, [(3, .int a3)], [], ww w, 0, 0)
    exact am_go_blk 2 ⟨rfl, am_fi H⟩
  · have H := am_ie hc H
    show am_gi (D + 1) 2 o (17, [(0, .ref 40), (1, .int a1), (2, .ref p2), (3, .int a3), (4, .int a4)], [], ww w, 0, 0)
    refine am_go_blk 2 (?_ : am_gi (D + 1) 2 o (20, [(0, .ref 40), (1, .int a1), (2, .ref p2), (3, .int a3), (4, .int a4)], [.int a4, .ref p2], ww w, 0, 0))
    obtain ⟨hc, H⟩ := am_ckE H
    refine am_iald rfl (ww_hrs hp2) (am_inv hc) (?_ : am_gi (D + 1) 2 o (21, [(0, .ref 40), (1, .int a1), (2, .ref p2), (3, .int a3), (4, .int a4)], [.int (w.1 p2 a4.toNatClampNeg)], ww w, 0, 0))
    refine am_go_blk 2 ⟨fun hc => ?_, fun hc => ?_⟩
    · have H := am_it hc H
      exact T_Day_willingIn_59 Hr5 a1 p2 a3 a4 w hp2 H
    · have H := am_ie hc H
      show am_gi (D + 1) 2 o (25, [(0, .ref 40), (1, .int a1), (2, .ref p2), (3, .int a3), (4, .int a4)], [], ww w, 0, 0)
      obtain ⟨hc, H⟩ := am_ckE H
      refine am_go_blk 5 ⟨am_inv hc, (?_ : am_gi (D + 1) 2 o (35, [(0, .ref 40), (1, .int a1), (2, .ref p2), (3, .int a3), (4, .int a4)], [.int (w.1 2 a4.toNatClampNeg)], ww w, 0, 0))⟩
      obtain ⟨hc, H⟩ := am_ckE H
      refine am_go_blk 5 ⟨am_inv hc, (?_ : am_gi (D + 1) 2 o (45, [(0, .ref 40), (1, .int a1), (2, .ref p2), (3, .int a3), (4, .int a4)], [.int (w.1 3 a4.toNatClampNeg), .int (w.1 2 a4.toNatClampNeg)], ww w, 0, 0))⟩
      obtain ⟨q1, hqq1, H⟩ := am_bnE H
      refine am_go_blk 1 (?_ : am_gi (D + 1) 2 o (46, [(0, .ref 40), (1, .int a1), (2, .ref p2), (3, .int a3), (4, .int a4)], [.int a1, .int (w.1 3 a4.toNatClampNeg), .int (w.1 2 a4.toNatClampNeg)], ww w, 0, 0))
      refine am_cls rfl rfl rfl (am_calli rfl (M_Kinds_goesIn (D := D) hqq1) (?_ : am_gi (D + 1) 2 o (49, [(0, .ref 40), (1, .int a1), (2, .ref p2), (3, .int a3), (4, .int a4)], [.int q1.1], ww q1.2, 0, 0)))
      refine am_go_blk 1 ⟨fun hc => ?_, fun hc => ?_⟩
      · have H := am_it hc H
        exact T_Day_willingIn_59 Hr5 a1 p2 a3 a4 q1.2 hp2 H
      · have H := am_ie hc H
        show am_gi (D + 1) 2 o (52, [(0, .ref 40), (1, .int a1), (2, .ref p2), (3, .int a3), (4, .int a4)], [], ww q1.2, 0, 0)
        exact am_go_blk 6 (T_Day_willingIn_59 Hr5 a1 p2 (a3 ||| ((nI 1) <<< (a4 &&& 31))) a4 q1.2 hp2 H)
theorem TL_Day_willingIn_5 {D : Nat} {o : Int32 × am_W} : ∀ (n : Nat) (a1 : Int32) (p2 : Nat) (a3 : Int32) (a4 : Int32) (w : am_W) (hp2 : (p2 = 4 ∨ p2 = 43)), L_Day_willingIn_5 n a1 p2 a3 a4 w = some o → am_gi (D + 1) 2 o (5, [(0, .ref 40), (1, .int a1), (2, .ref p2), (3, .int a3), (4, .int a4)], [], ww w, 0, 0)
  | 0, _, _, _, _, _, _, H => by cases H
  | n + 1, a1, p2, a3, a4, w, hp2, H => T_Day_willingIn_5 (TL_Day_willingIn_5 n) a1 p2 a3 a4 w hp2 H
theorem T_Day_willingIn {D : Nat} {o : Int32 × am_W} (a1 : Int32) (p2 : Nat) (w : am_W) (hp2 : (p2 = 4 ∨ p2 = 43)) (H : F_Day_willingIn a1 p2 w = some o) : am_gi (D + 1) 2 o (0, [(0, .ref 40), (1, .int a1), (2, .ref p2)], [], ww w, 0, 0) := by
  unfold F_Day_willingIn at H
  exact am_go_blk 4 (TL_Day_willingIn_5 am_NF a1 p2 (nI 0) (nI 0) w hp2 H)
theorem M_Day_willingIn {D : Nat} {o : Int32 × am_W} {a1 : Int32} {p2 : Nat} {w : am_W} (hp2 : (p2 = 4 ∨ p2 = 43)) (H : F_Day_willingIn a1 p2 w = some o) : am_run (D + 2) 2 [.ref 40, .int a1, .ref p2] (ww w) (some (.int o.1)) (ww o.2) 0 0 :=
  am_run_of rfl (T_Day_willingIn a1 p2 w hp2 H)
def F_Day_write_28 (r2 : Int32 → Int32 → Int32 → am_W → Option (am_W)) (a1 : Int32) (a2 : Int32) (a3 : Int32) (w : am_W) : Option (am_W) :=
  r2 a1 a2 (a3 + (nI 1)) w
def F_Day_write_2 (r2 : Int32 → Int32 → Int32 → am_W → Option (am_W)) (a1 : Int32) (a2 : Int32) (a3 : Int32) (w : am_W) : Option (am_W) :=
  if (w.1 1 0) ≤ a3 then (some w) else ((F_Loc_has a1 a3 w).bind fun q1 => if q1.1 = 0 then (F_Day_write_28 r2 a1 a2 a3 q1.2) else (am_ck (am_in a3 8) (am_lt (wst q1.2 41 a3 a2) fun w2 => F_Day_write_28 r2 a1 a2 a3 w2)))
def L_Day_write_2 : Nat → Int32 → Int32 → Int32 → am_W → Option (am_W)
  | 0, _, _, _, _ => none
  | n + 1, a1, a2, a3, w => F_Day_write_2 (L_Day_write_2 n) a1 a2 a3 w
def F_Day_write (a1 : Int32) (a2 : Int32) (w : am_W) : Option (am_W) :=
  L_Day_write_2 am_NF a1 a2 (nI 0) w
theorem T_Day_write_28 {D : Nat} {o : am_W} {r2 : Int32 → Int32 → Int32 → am_W → Option (am_W)} (Hr2 : ∀ (a1 : Int32) (a2 : Int32) (a3 : Int32) (w : am_W) , r2 a1 a2 a3 w = some o → am_gv (D + 1) 3 o (2, [(0, .ref 40), (1, .int a1), (2, .int a2), (3, .int a3)], [], ww w, 0, 0)) (a1 : Int32) (a2 : Int32) (a3 : Int32) (w : am_W) (H : F_Day_write_28 r2 a1 a2 a3 w = some o) : am_gv (D + 1) 3 o (28, [(0, .ref 40), (1, .int a1), (2, .int a2), (3, .int a3)], [], ww w, 0, 0) := by
  unfold F_Day_write_28 at H
  exact am_go_blk 2 (Hr2 a1 a2 (a3 + (nI 1)) w H)
theorem T_Day_write_2 {D : Nat} {o : am_W} {r2 : Int32 → Int32 → Int32 → am_W → Option (am_W)} (Hr2 : ∀ (a1 : Int32) (a2 : Int32) (a3 : Int32) (w : am_W) , r2 a1 a2 a3 w = some o → am_gv (D + 1) 3 o (2, [(0, .ref 40), (1, .int a1), (2, .int a2), (3, .int a3)], [], ww w, 0, 0)) (a1 : Int32) (a2 : Int32) (a3 : Int32) (w : am_W) (H : F_Day_write_2 r2 a1 a2 a3 w = some o) : am_gv (D + 1) 3 o (2, [(0, .ref 40), (1, .int a1), (2, .int a2), (3, .int a3)], [], ww w, 0, 0) := by
  unfold F_Day_write_2 at H
  refine am_go_blk 5 ⟨fun hc => ?_, fun hc => ?_⟩
  · have H := am_it hc H
    show am_gv (D + 1) 3 o (34, [], [], ww w, 0, 0)
    exact am_go_blk 1 (am_fv H)
  · have H := am_ie hc H
    show am_gv (D + 1) 3 o (13, [(0, .ref 40), (1, .int a1), (2, .int a2), (3, .int a3)], [], ww w, 0, 0)
    obtain ⟨q1, hqq1, H⟩ := am_bnE H
    refine am_go_blk 2 (?_ : am_gv (D + 1) 3 o (15, [(0, .ref 40), (1, .int a1), (2, .int a2), (3, .int a3)], [.int a3, .int a1], ww w, 0, 0))
    refine am_cls rfl rfl rfl (am_calli rfl (M_Loc_has (D := D) hqq1) (?_ : am_gv (D + 1) 3 o (18, [(0, .ref 40), (1, .int a1), (2, .int a2), (3, .int a3)], [.int q1.1], ww q1.2, 0, 0)))
    refine am_go_blk 1 ⟨fun hc => ?_, fun hc => ?_⟩
    · have H := am_it hc H
      exact T_Day_write_28 Hr2 a1 a2 a3 q1.2 H
    · have H := am_ie hc H
      show am_gv (D + 1) 3 o (21, [(0, .ref 40), (1, .int a1), (2, .int a2), (3, .int a3)], [], ww q1.2, 0, 0)
      obtain ⟨hc, H⟩ := am_ckE H
      obtain ⟨w2, ew2, H⟩ := am_ltE H
      refine am_go_blk 5 ⟨am_inv hc, am_hp (ww_s41 ew2) (?_ : am_gv (D + 1) 3 o (28, [(0, .ref 40), (1, .int a1), (2, .int a2), (3, .int a3)], [], ww w2, 0, 0))⟩
      exact T_Day_write_28 Hr2 a1 a2 a3 w2 H
theorem TL_Day_write_2 {D : Nat} {o : am_W} : ∀ (n : Nat) (a1 : Int32) (a2 : Int32) (a3 : Int32) (w : am_W) , L_Day_write_2 n a1 a2 a3 w = some o → am_gv (D + 1) 3 o (2, [(0, .ref 40), (1, .int a1), (2, .int a2), (3, .int a3)], [], ww w, 0, 0)
  | 0, _, _, _, _, H => by cases H
  | n + 1, a1, a2, a3, w, H => T_Day_write_2 (TL_Day_write_2 n) a1 a2 a3 w H
theorem T_Day_write {D : Nat} {o : am_W} (a1 : Int32) (a2 : Int32) (w : am_W) (H : F_Day_write a1 a2 w = some o) : am_gv (D + 1) 3 o (0, [(0, .ref 40), (1, .int a1), (2, .int a2)], [], ww w, 0, 0) := by
  unfold F_Day_write at H
  exact am_go_blk 2 (TL_Day_write_2 am_NF a1 a2 (nI 0) w H)
theorem M_Day_write {D : Nat} {o : am_W} {a1 : Int32} {a2 : Int32} {w : am_W} (H : F_Day_write a1 a2 w = some o) : am_run (D + 2) 3 [.ref 40, .int a1, .int a2] (ww w) none (ww o) 0 0 :=
  am_run_of rfl (T_Day_write a1 a2 w H)
def F_Day_run_101 (r31 : Nat → Int32 → Int32 → am_W → Option (am_W)) (p1 : Nat) (a2 : Int32) (a3 : Int32) (w : am_W) : Option (am_W) :=
  r31 p1 a2 (a3 + (nI 1)) w
def F_Day_run_48 (r31 : Nat → Int32 → Int32 → am_W → Option (am_W)) (r48 : Nat → Int32 → Int32 → Int32 → Int32 → am_W → Option (am_W)) (p1 : Nat) (a2 : Int32) (a3 : Int32) (a4 : Int32) (a5 : Int32) (w : am_W) : Option (am_W) :=
  if (nI 8) ≤ a5 then (F_Day_run_101 r31 p1 a2 a3 w) else ((F_Rail_canGo a2 (w.1 1 3) w).bind fun q2 => if (q2.1 &&& a4) = 0 then (F_Day_run_101 r31 p1 a2 a3 q2.2) else ((F_Day_write (q2.1 &&& a4) a3 q2.2).bind fun w3 => r48 p1 (a2 ||| (q2.1 &&& a4)) a3 a4 (a5 + (nI 1)) w3))
def L_Day_run_48 (r31 : Nat → Int32 → Int32 → am_W → Option (am_W)) : Nat → Nat → Int32 → Int32 → Int32 → Int32 → am_W → Option (am_W)
  | 0, _, _, _, _, _, _ => none
  | n + 1, p1, a2, a3, a4, a5, w => F_Day_run_48 r31 (L_Day_run_48 r31 n) p1 a2 a3 a4 a5 w
def F_Day_run_31 (r31 : Nat → Int32 → Int32 → am_W → Option (am_W)) (p1 : Nat) (a2 : Int32) (a3 : Int32) (w : am_W) : Option (am_W) :=
  if (nI 24) ≤ a3 then (some w) else ((F_Day_willingIn a3 p1 w).bind fun q1 => L_Day_run_48 r31 am_NF p1 a2 a3 q1.1 (nI 0) q1.2)
def L_Day_run_31 : Nat → Nat → Int32 → Int32 → am_W → Option (am_W)
  | 0, _, _, _, _ => none
  | n + 1, p1, a2, a3, w => F_Day_run_31 (L_Day_run_31 n) p1 a2 a3 w
def F_Day_run_2 (r2 : Nat → Int32 → am_W → Option (am_W)) (p1 : Nat) (a2 : Int32) (w : am_W) : Option (am_W) :=
  if (nI 8) ≤ a2 then (L_Day_run_31 am_NF p1 (w.1 1 1) (nI 0) w) else (am_ck (am_in a2 8) (am_lt (wst w 41 a2 (-nI 1)) fun w4 => r2 p1 (a2 + (nI 1)) w4))
def L_Day_run_2 : Nat → Nat → Int32 → am_W → Option (am_W)
  | 0, _, _, _ => none
  | n + 1, p1, a2, w => F_Day_run_2 (L_Day_run_2 n) p1 a2 w
def F_Day_run (p1 : Nat) (w : am_W) : Option (am_W) :=
  L_Day_run_2 am_NF p1 (nI 0) w
theorem T_Day_run_101 {D : Nat} {o : am_W} {r31 : Nat → Int32 → Int32 → am_W → Option (am_W)} (Hr31 : ∀ (p1 : Nat) (a2 : Int32) (a3 : Int32) (w : am_W) (hp1 : (p1 = 4 ∨ p1 = 43)), r31 p1 a2 a3 w = some o → am_gv (D + 2) 1 o (31, [(0, .ref 40), (1, .ref p1), (2, .int a2), (3, .int a3)], [], ww w, 0, 0)) (p1 : Nat) (a2 : Int32) (a3 : Int32) (w : am_W) (hp1 : (p1 = 4 ∨ p1 = 43)) (H : F_Day_run_101 r31 p1 a2 a3 w = some o) : am_gv (D + 2) 1 o (101, [(0, .ref 40), (1, .ref p1), (2, .int a2), (3, .int a3)], [], ww w, 0, 0) := by
  unfold F_Day_run_101 at H
  exact am_go_blk 2 (Hr31 p1 a2 (a3 + (nI 1)) w hp1 H)
theorem T_Day_run_48 {D : Nat} {o : am_W} {r31 : Nat → Int32 → Int32 → am_W → Option (am_W)} {r48 : Nat → Int32 → Int32 → Int32 → Int32 → am_W → Option (am_W)} (Hr31 : ∀ (p1 : Nat) (a2 : Int32) (a3 : Int32) (w : am_W) (hp1 : (p1 = 4 ∨ p1 = 43)), r31 p1 a2 a3 w = some o → am_gv (D + 2) 1 o (31, [(0, .ref 40), (1, .ref p1), (2, .int a2), (3, .int a3)], [], ww w, 0, 0)) (Hr48 : ∀ (p1 : Nat) (a2 : Int32) (a3 : Int32) (a4 : Int32) (a5 : Int32) (w : am_W) (hp1 : (p1 = 4 ∨ p1 = 43)), r48 p1 a2 a3 a4 a5 w = some o → am_gv (D + 2) 1 o (48, [(0, .ref 40), (1, .ref p1), (2, .int a2), (3, .int a3), (4, .int a4), (5, .int a5)], [], ww w, 0, 0)) (p1 : Nat) (a2 : Int32) (a3 : Int32) (a4 : Int32) (a5 : Int32) (w : am_W) (hp1 : (p1 = 4 ∨ p1 = 43)) (H : F_Day_run_48 r31 r48 p1 a2 a3 a4 a5 w = some o) : am_gv (D + 2) 1 o (48, [(0, .ref 40), (1, .ref p1), (2, .int a2), (3, .int a3), (4, .int a4), (5, .int a5)], [], ww w, 0, 0) := by
  unfold F_Day_run_48 at H
  refine am_go_blk 3 ⟨fun hc => ?_, fun hc => ?_⟩
  · have H := am_it hc H
    exact T_Day_run_101 Hr31 p1 a2 a3 w hp1 H
  · have H := am_ie hc H
    show am_gv (D + 2) 1 o (55, [(0, .ref 40), (1, .ref p1), (2, .int a2), (3, .int a3), (4, .int a4), (5, .int a5)], [], ww w, 0, 0)
    obtain ⟨q2, hqq2, H⟩ := am_bnE H
    refine am_go_blk 6 (?_ : am_gv (D + 2) 1 o (67, [(0, .ref 40), (1, .ref p1), (2, .int a2), (3, .int a3), (4, .int a4), (5, .int a5)], [.int (w.1 1 3), .int a2, .ref 1], ww w, 0, 0))
    refine am_invd rfl rfl rfl rfl (am_calli rfl (M_Rail_canGo (D := D) hqq2) (?_ : am_gv (D + 2) 1 o (70, [(0, .ref 40), (1, .ref p1), (2, .int a2), (3, .int a3), (4, .int a4), (5, .int a5)], [.int q2.1], ww q2.2, 0, 0)))
    refine am_go_blk 5 ⟨fun hc => ?_, fun hc => ?_⟩
    · have H := am_ie hc H
      show am_gv (D + 2) 1 o (83, [(0, .ref 40), (1, .ref p1), (2, .int a2), (3, .int a3), (4, .int a4), (5, .int a5), (6, .int (q2.1 &&& a4))], [], ww q2.2, 0, 0)
      obtain ⟨w3, hqw3, H⟩ := am_bnE H
      refine am_go_blk 3 (?_ : am_gv (D + 2) 1 o (87, [(0, .ref 40), (1, .ref p1), (2, .int a2), (3, .int a3), (4, .int a4), (5, .int a5), (6, .int (q2.1 &&& a4))], [.int a3, .int (q2.1 &&& a4), .ref 40], ww q2.2, 0, 0))
      refine am_invd rfl rfl rfl rfl (am_callv rfl (M_Day_write (D := D) hqw3) (?_ : am_gv (D + 2) 1 o (90, [(0, .ref 40), (1, .ref p1), (2, .int a2), (3, .int a3), (4, .int a4), (5, .int a5), (6, .int (q2.1 &&& a4))], [], ww w3, 0, 0)))
      exact am_go_blk 6 (Hr48 p1 (a2 ||| (q2.1 &&& a4)) a3 a4 (a5 + (nI 1)) w3 hp1 H)
    · have H := am_it hc H
      show am_gv (D + 2) 1 o (80, [(6, .int (q2.1 &&& a4)), (0, .ref 40), (1, .ref p1), (2, .int a2), (3, .int a3), (4, .int a4), (5, .int a5)], [], ww q2.2, 0, 0)
      exact am_go_blk 1 (T_Day_run_101 Hr31 p1 a2 a3 q2.2 hp1 H)
theorem TL_Day_run_48 {D : Nat} {o : am_W} {r31 : Nat → Int32 → Int32 → am_W → Option (am_W)} (Hr31 : ∀ (p1 : Nat) (a2 : Int32) (a3 : Int32) (w : am_W) (hp1 : (p1 = 4 ∨ p1 = 43)), r31 p1 a2 a3 w = some o → am_gv (D + 2) 1 o (31, [(0, .ref 40), (1, .ref p1), (2, .int a2), (3, .int a3)], [], ww w, 0, 0)) : ∀ (n : Nat) (p1 : Nat) (a2 : Int32) (a3 : Int32) (a4 : Int32) (a5 : Int32) (w : am_W) (hp1 : (p1 = 4 ∨ p1 = 43)), L_Day_run_48 r31 n p1 a2 a3 a4 a5 w = some o → am_gv (D + 2) 1 o (48, [(0, .ref 40), (1, .ref p1), (2, .int a2), (3, .int a3), (4, .int a4), (5, .int a5)], [], ww w, 0, 0)
  | 0, _, _, _, _, _, _, _, H => by cases H
  | n + 1, p1, a2, a3, a4, a5, w, hp1, H => T_Day_run_48 Hr31 (TL_Day_run_48 Hr31 n) p1 a2 a3 a4 a5 w hp1 H
theorem T_Day_run_31 {D : Nat} {o : am_W} {r31 : Nat → Int32 → Int32 → am_W → Option (am_W)} (Hr31 : ∀ (p1 : Nat) (a2 : Int32) (a3 : Int32) (w : am_W) (hp1 : (p1 = 4 ∨ p1 = 43)), r31 p1 a2 a3 w = some o → am_gv (D + 2) 1 o (31, [(0, .ref 40), (1, .ref p1), (2, .int a2), (3, .int a3)], [], ww w, 0, 0)) (p1 : Nat) (a2 : Int32) (a3 : Int32) (w : am_W) (hp1 : (p1 = 4 ∨ p1 = 43)) (H : F_Day_run_31 r31 p1 a2 a3 w = some o) : am_gv (D + 2) 1 o (31, [(0, .ref 40), (1, .ref p1), (2, .int a2), (3, .int a3)], [], ww w, 0, 0) := by
  unfold F_Day_run_31 at H
  refine am_go_blk 3 ⟨fun hc => ?_, fun hc => ?_⟩
  · have H := am_it hc H
    show am_gv (D + 2) 1 o (107, [], [], ww w, 0, 0)
    exact am_go_blk 1 (am_fv H)
  · have H := am_ie hc H
    show am_gv (D + 2) 1 o (37, [(0, .ref 40), (1, .ref p1), (2, .int a2), (3, .int a3)], [], ww w, 0, 0)
    obtain ⟨q1, hqq1, H⟩ := am_bnE H
    refine am_go_blk 3 (?_ : am_gv (D + 2) 1 o (40, [(0, .ref 40), (1, .ref p1), (2, .int a2), (3, .int a3)], [.ref p1, .int a3, .ref 40], ww w, 0, 0))
    refine am_invd rfl rfl rfl rfl (am_calli rfl (M_Day_willingIn (D := D) hp1 hqq1) (?_ : am_gv (D + 2) 1 o (43, [(0, .ref 40), (1, .ref p1), (2, .int a2), (3, .int a3)], [.int q1.1], ww q1.2, 0, 0)))
    exact am_go_blk 3 (TL_Day_run_48 Hr31 am_NF p1 a2 a3 q1.1 (nI 0) q1.2 hp1 H)
theorem TL_Day_run_31 {D : Nat} {o : am_W} : ∀ (n : Nat) (p1 : Nat) (a2 : Int32) (a3 : Int32) (w : am_W) (hp1 : (p1 = 4 ∨ p1 = 43)), L_Day_run_31 n p1 a2 a3 w = some o → am_gv (D + 2) 1 o (31, [(0, .ref 40), (1, .ref p1), (2, .int a2), (3, .int a3)], [], ww w, 0, 0)
  | 0, _, _, _, _, _, H => by cases H
  | n + 1, p1, a2, a3, w, hp1, H => T_Day_run_31 (TL_Day_run_31 n) p1 a2 a3 w hp1 H
theorem T_Day_run_2 {D : Nat} {o : am_W} {r2 : Nat → Int32 → am_W → Option (am_W)} (Hr2 : ∀ (p1 : Nat) (a2 : Int32) (w : am_W) (hp1 : (p1 = 4 ∨ p1 = 43)), r2 p1 a2 w = some o → am_gv (D + 2) 1 o (2, [(0, .ref 40), (1, .ref p1), (2, .int a2)], [], ww w, 0, 0)) (p1 : Nat) (a2 : Int32) (w : am_W) (hp1 : (p1 = 4 ∨ p1 = 43)) (H : F_Day_run_2 r2 p1 a2 w = some o) : am_gv (D + 2) 1 o (2, [(0, .ref 40), (1, .ref p1), (2, .int a2)], [], ww w, 0, 0) := by
  unfold F_Day_run_2 at H
  refine am_go_blk 3 ⟨fun hc => ?_, fun hc => ?_⟩
  · have H := am_it hc H
    show am_gv (D + 2) 1 o (21, [(0, .ref 40), (1, .ref p1)], [], ww w, 0, 0)
    exact am_go_blk 6 (TL_Day_run_31 am_NF p1 (w.1 1 1) (nI 0) w hp1 H)
  · have H := am_ie hc H
    show am_gv (D + 2) 1 o (8, [(0, .ref 40), (1, .ref p1), (2, .int a2)], [], ww w, 0, 0)
    obtain ⟨hc, H⟩ := am_ckE H
    obtain ⟨w4, ew4, H⟩ := am_ltE H
    refine am_go_blk 5 ⟨am_inv hc, am_hp (ww_s41 ew4) (?_ : am_gv (D + 2) 1 o (15, [(0, .ref 40), (1, .ref p1), (2, .int a2)], [], ww w4, 0, 0))⟩
    exact am_go_blk 2 (Hr2 p1 (a2 + (nI 1)) w4 hp1 H)
theorem TL_Day_run_2 {D : Nat} {o : am_W} : ∀ (n : Nat) (p1 : Nat) (a2 : Int32) (w : am_W) (hp1 : (p1 = 4 ∨ p1 = 43)), L_Day_run_2 n p1 a2 w = some o → am_gv (D + 2) 1 o (2, [(0, .ref 40), (1, .ref p1), (2, .int a2)], [], ww w, 0, 0)
  | 0, _, _, _, _, H => by cases H
  | n + 1, p1, a2, w, hp1, H => T_Day_run_2 (TL_Day_run_2 n) p1 a2 w hp1 H
theorem T_Day_run {D : Nat} {o : am_W} (p1 : Nat) (w : am_W) (hp1 : (p1 = 4 ∨ p1 = 43)) (H : F_Day_run p1 w = some o) : am_gv (D + 2) 1 o (0, [(0, .ref 40), (1, .ref p1)], [], ww w, 0, 0) := by
  unfold F_Day_run at H
  exact am_go_blk 2 (TL_Day_run_2 am_NF p1 (nI 0) w hp1 H)
theorem M_Day_run {D : Nat} {o : am_W} {p1 : Nat} {w : am_W} (hp1 : (p1 = 4 ∨ p1 = 43)) (H : F_Day_run p1 w = some o) : am_run (D + 3) 1 [.ref 40, .ref p1] (ww w) none (ww o) 0 0 :=
  am_run_of rfl (T_Day_run p1 w hp1 H)
def F_Loc_hour (a1 : Int32) (w : am_W) : Option (Int32 × am_W) :=
  (F_Rail_isThing a1 w).bind fun q1 => if q1.1 = 0 then (some ((-nI 5), q1.2)) else ((F_Rail_isGone a1 q1.2).bind fun q2 => if q2.1 = 0 then ((F_Day_run 4 q2.2).bind fun w3 => am_ck (am_in a1 8) (some ((w3.1 41 a1.toNatClampNeg), w3))) else (some ((-nI 3), q2.2)))
theorem T_Loc_hour {D : Nat} {o : Int32 × am_W} (a1 : Int32) (w : am_W) (H : F_Loc_hour a1 w = some o) : am_gi (D + 3) 91 o (0, [(0, .ref 0), (1, .int a1)], [], ww w, 0, 0) := by
  unfold F_Loc_hour at H
  obtain ⟨q1, hqq1, H⟩ := am_bnE H
  refine am_go_blk 3 (?_ : am_gi (D + 3) 91 o (5, [(0, .ref 0), (1, .int a1)], [.int a1, .ref 1], ww w, 0, 0))
  refine am_invd rfl rfl rfl rfl (am_calli rfl (M_Rail_isThing (D := D + 2) hqq1) (?_ : am_gi (D + 3) 91 o (8, [(0, .ref 0), (1, .int a1)], [.int q1.1], ww q1.2, 0, 0)))
  refine am_go_blk 1 ⟨fun hc => ?_, fun hc => ?_⟩
  · have H := am_ie hc H
    show am_gi (D + 3) 91 o (14, [(0, .ref 0), (1, .int a1)], [], ww q1.2, 0, 0)
    obtain ⟨q2, hqq2, H⟩ := am_bnE H
    refine am_go_blk 3 (?_ : am_gi (D + 3) 91 o (19, [(0, .ref 0), (1, .int a1)], [.int a1, .ref 1], ww q1.2, 0, 0))
    refine am_invd rfl rfl rfl rfl (am_calli rfl (M_Rail_isGone (D := D + 1) hqq2) (?_ : am_gi (D + 3) 91 o (22, [(0, .ref 0), (1, .int a1)], [.int q2.1], ww q2.2, 0, 0)))
    refine am_go_blk 1 ⟨fun hc => ?_, fun hc => ?_⟩
    · have H := am_it hc H
      show am_gi (D + 3) 91 o (28, [(0, .ref 0), (1, .int a1)], [], ww q2.2, 0, 0)
      obtain ⟨w3, hqw3, H⟩ := am_bnE H
      refine am_go_blk 5 (?_ : am_gi (D + 3) 91 o (39, [(0, .ref 0), (1, .int a1)], [.ref 4, .ref 40], ww q2.2, 0, 0))
      refine am_invd rfl rfl rfl rfl (am_callv rfl (M_Day_run (D := D) (Or.inl rfl) hqw3) (?_ : am_gi (D + 3) 91 o (42, [(0, .ref 0), (1, .int a1)], [], ww w3, 0, 0)))
      obtain ⟨hc, H⟩ := am_ckE H
      refine am_go_blk 5 ⟨am_inv hc, (?_ : am_gi (D + 3) 91 o (51, [(0, .ref 0), (1, .int a1)], [.int (w3.1 41 a1.toNatClampNeg)], ww w3, 0, 0))⟩
      exact am_go_blk 1 ⟨rfl, am_fi H⟩
    · have H := am_ie hc H
      show am_gi (D + 3) 91 o (25, [(0, .ref 0), (1, .int a1)], [], ww q2.2, 0, 0)
      exact am_go_blk 2 ⟨rfl, am_fi H⟩
  · have H := am_it hc H
    show am_gi (D + 3) 91 o (11, [(0, .ref 0), (1, .int a1)], [], ww q1.2, 0, 0)
    exact am_go_blk 2 ⟨rfl, am_fi H⟩
theorem M_Loc_hour {D : Nat} {o : Int32 × am_W} {a1 : Int32} {w : am_W} (H : F_Loc_hour a1 w = some o) : am_run (D + 4) 91 [.ref 0, .int a1] (ww w) (some (.int o.1)) (ww o.2) 0 0 :=
  am_run_of rfl (T_Loc_hour a1 w H)
