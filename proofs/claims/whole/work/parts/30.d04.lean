/-! ===== the methods as functions, and that each does what its function says: Loc_ownersBy .. Loc_locksBy ===== -/
def F_Loc_ownersBy_56 (r16 : Nat → Int32 → Int32 → Int32 → Int32 → am_W → Option (Int32 × am_W)) (p1 : Nat) (a2 : Int32) (a3 : Int32) (a4 : Int32) (a5 : Int32) (w : am_W) : Option (Int32 × am_W) :=
  r16 p1 a2 a3 a4 (a5 + (nI 1)) w
def F_Loc_ownersBy_16 (r16 : Nat → Int32 → Int32 → Int32 → Int32 → am_W → Option (Int32 × am_W)) (p1 : Nat) (a2 : Int32) (a3 : Int32) (a4 : Int32) (a5 : Int32) (w : am_W) : Option (Int32 × am_W) :=
  if (w.1 1 0) ≤ a5 then (am_ck (am_in a2 10) (am_lt (wst w 5 a2 a3) fun w1 => some (a4, w1))) else (am_ck (am_in a2 10) (am_lt (wst w 5 a2 a5) fun w2 => (F_Loc_firstWrong p1 w2).bind fun q3 => if 0 ≤ q3.1 then (F_Loc_ownersBy_56 r16 p1 a2 a3 a4 a5 q3.2) else (F_Loc_ownersBy_56 r16 p1 a2 a3 (a4 ||| ((nI 1) <<< (a5 &&& 31))) a5 q3.2)))
def L_Loc_ownersBy_16 : Nat → Nat → Int32 → Int32 → Int32 → Int32 → am_W → Option (Int32 × am_W)
  | 0, _, _, _, _, _, _ => none
  | n + 1, p1, a2, a3, a4, a5, w => F_Loc_ownersBy_16 (L_Loc_ownersBy_16 n) p1 a2 a3 a4 a5 w
def F_Loc_ownersBy (p1 : Nat) (a2 : Int32) (w : am_W) : Option (Int32 × am_W) :=
  am_ck (am_in a2 10) (L_Loc_ownersBy_16 am_NF p1 a2 (w.1 5 a2.toNatClampNeg) (nI 0) (nI 0) w)
theorem T_Loc_ownersBy_56 {D : Nat} {o : Int32 × am_W} {r16 : Nat → Int32 → Int32 → Int32 → Int32 → am_W → Option (Int32 × am_W)} (Hr16 : ∀ (p1 : Nat) (a2 : Int32) (a3 : Int32) (a4 : Int32) (a5 : Int32) (w : am_W) (hp1 : p1 < 4), r16 p1 a2 a3 a4 a5 w = some o → am_gi (D + 3) 132 o (16, [(0, .ref 0), (1, .ref (45 + 2 * p1)), (2, .int a2), (3, .int a3), (4, .int a4), (5, .int a5)], [], ww w, 0, 0)) (p1 : Nat) (a2 : Int32) (a3 : Int32) (a4 : Int32) (a5 : Int32) (w : am_W) (hp1 : p1 < 4) (H : F_Loc_ownersBy_56 r16 p1 a2 a3 a4 a5 w = some o) : am_gi (D + 3) 132 o (56, [(0, .ref 0), (1, .ref (45 + 2 * p1)), (2, .int a2), (3, .int a3), (4, .int a4), (5, .int a5)], [], ww w, 0, 0) := by
  unfold F_Loc_ownersBy_56 at H
  exact am_go_blk 2 (Hr16 p1 a2 a3 a4 (a5 + (nI 1)) w hp1 H)
theorem T_Loc_ownersBy_16 {D : Nat} {o : Int32 × am_W} {r16 : Nat → Int32 → Int32 → Int32 → Int32 → am_W → Option (Int32 × am_W)} (Hr16 : ∀ (p1 : Nat) (a2 : Int32) (a3 : Int32) (a4 : Int32) (a5 : Int32) (w : am_W) (hp1 : p1 < 4), r16 p1 a2 a3 a4 a5 w = some o → am_gi (D + 3) 132 o (16, [(0, .ref 0), (1, .ref (45 + 2 * p1)), (2, .int a2), (3, .int a3), (4, .int a4), (5, .int a5)], [], ww w, 0, 0)) (p1 : Nat) (a2 : Int32) (a3 : Int32) (a4 : Int32) (a5 : Int32) (w : am_W) (hp1 : p1 < 4) (H : F_Loc_ownersBy_16 r16 p1 a2 a3 a4 a5 w = some o) : am_gi (D + 3) 132 o (16, [(0, .ref 0), (1, .ref (45 + 2 * p1)), (2, .int a2), (3, .int a3), (4, .int a4), (5, .int a5)], [], ww w, 0, 0) := by
  unfold F_Loc_ownersBy_16 at H
  refine am_go_blk 5 ⟨fun hc => ?_, fun hc => ?_⟩
  · have H := am_it hc H
    show am_gi (D + 3) 132 o (62, [(0, .ref 0), (2, .int a2), (3, .int a3), (4, .int a4)], [], ww w, 0, 0)
    obtain ⟨hc, H⟩ := am_ckE H
    obtain ⟨w1, ew1, H⟩ := am_ltE H
    refine am_go_blk 6 ⟨am_inv hc, am_hp (ww_s5 ew1) (?_ : am_gi (D + 3) 132 o (72, [(0, .ref 0), (2, .int a2), (3, .int a3), (4, .int a4)], [], ww w1, 0, 0))⟩
    exact am_go_blk 2 ⟨rfl, am_fi H⟩
  · have H := am_ie hc H
    show am_gi (D + 3) 132 o (28, [(0, .ref 0), (1, .ref (45 + 2 * p1)), (2, .int a2), (3, .int a3), (4, .int a4), (5, .int a5)], [], ww w, 0, 0)
    obtain ⟨hc, H⟩ := am_ckE H
    obtain ⟨w2, ew2, H⟩ := am_ltE H
    refine am_go_blk 6 ⟨am_inv hc, am_hp (ww_s5 ew2) (?_ : am_gi (D + 3) 132 o (39, [(0, .ref 0), (1, .ref (45 + 2 * p1)), (2, .int a2), (3, .int a3), (4, .int a4), (5, .int a5)], [], ww w2, 0, 0))⟩
    obtain ⟨q3, hqq3, H⟩ := am_bnE H
    refine am_go_blk 2 (?_ : am_gi (D + 3) 132 o (41, [(0, .ref 0), (1, .ref (45 + 2 * p1)), (2, .int a2), (3, .int a3), (4, .int a4), (5, .int a5)], [.ref (45 + 2 * p1), .ref 0], ww w2, 0, 0))
    refine am_invd rfl rfl rfl rfl (am_calli rfl (M_Loc_firstWrong (D := D) hp1 hqq3) (?_ : am_gi (D + 3) 132 o (44, [(0, .ref 0), (1, .ref (45 + 2 * p1)), (2, .int a2), (3, .int a3), (4, .int a4), (5, .int a5)], [.int q3.1], ww q3.2, 0, 0)))
    refine am_go_blk 1 ⟨fun hc => ?_, fun hc => ?_⟩
    · have H := am_it hc H
      exact T_Loc_ownersBy_56 Hr16 p1 a2 a3 a4 a5 q3.2 hp1 H
    · have H := am_ie hc H
      show am_gi (D + 3) 132 o (47, [(0, .ref 0), (1, .ref (45 + 2 * p1)), (2, .int a2), (3, .int a3), (4, .int a4), (5, .int a5)], [], ww q3.2, 0, 0)
      exact am_go_blk 6 (T_Loc_ownersBy_56 Hr16 p1 a2 a3 (a4 ||| ((nI 1) <<< (a5 &&& 31))) a5 q3.2 hp1 H)
theorem TL_Loc_ownersBy_16 {D : Nat} {o : Int32 × am_W} : ∀ (n : Nat) (p1 : Nat) (a2 : Int32) (a3 : Int32) (a4 : Int32) (a5 : Int32) (w : am_W) (hp1 : p1 < 4), L_Loc_ownersBy_16 n p1 a2 a3 a4 a5 w = some o → am_gi (D + 3) 132 o (16, [(0, .ref 0), (1, .ref (45 + 2 * p1)), (2, .int a2), (3, .int a3), (4, .int a4), (5, .int a5)], [], ww w, 0, 0)
  | 0, _, _, _, _, _, _, _, H => by cases H
  | n + 1, p1, a2, a3, a4, a5, w, hp1, H => T_Loc_ownersBy_16 (TL_Loc_ownersBy_16 n) p1 a2 a3 a4 a5 w hp1 H
theorem T_Loc_ownersBy {D : Nat} {o : Int32 × am_W} (p1 : Nat) (a2 : Int32) (w : am_W) (hp1 : p1 < 4) (H : F_Loc_ownersBy p1 a2 w = some o) : am_gi (D + 3) 132 o (0, [(0, .ref 0), (1, .ref (45 + 2 * p1)), (2, .int a2)], [], ww w, 0, 0) := by
  unfold F_Loc_ownersBy at H
  obtain ⟨hc, H⟩ := am_ckE H
  refine am_go_blk 5 ⟨am_inv hc, (?_ : am_gi (D + 3) 132 o (9, [(0, .ref 0), (1, .ref (45 + 2 * p1)), (2, .int a2)], [.int (w.1 5 a2.toNatClampNeg)], ww w, 0, 0))⟩
  exact am_go_blk 5 (TL_Loc_ownersBy_16 am_NF p1 a2 (w.1 5 a2.toNatClampNeg) (nI 0) (nI 0) w hp1 H)
theorem M_Loc_ownersBy {D : Nat} {o : Int32 × am_W} {p1 : Nat} {a2 : Int32} {w : am_W} (hp1 : p1 < 4) (H : F_Loc_ownersBy p1 a2 w = some o) : am_run (D + 4) 132 [.ref 0, .ref (45 + 2 * p1), .int a2] (ww w) (some (.int o.1)) (ww o.2) 0 0 :=
  am_run_of rfl (T_Loc_ownersBy p1 a2 w hp1 H)
def F_Loc_whose_68 (s0 : Int32) (w : am_W) : Option (Int32 × am_W) :=
  some (s0, w)
def F_Loc_whose (a1 : Int32) (a2 : Int32) (a3 : Int32) (w : am_W) : Option (Int32 × am_W) :=
  (F_Loc_refusalOf a1 w).bind fun q1 => if q1.1 = 0 then ((F_Rail_isLock a2 q1.2).bind fun q2 => if q2.1 = 0 then (some ((-nI 5), q2.2)) else ((F_Loc_isEither a3 q2.2).bind fun q3 => if q3.1 = 0 then (some ((-nI 7), q3.2)) else (if a3 = 0 then (am_ck (am_in a1 4) ((F_Loc_ownersBy a1.toNatClampNeg a2 q3.2).bind fun q7 => F_Loc_whose_68 q7.1 q7.2)) else (am_ck (am_in a1 4) ((F_Loc_sortsBy a1.toNatClampNeg a2 q3.2).bind fun q5 => F_Loc_whose_68 q5.1 q5.2))))) else (some (q1.1, q1.2))
theorem T_Loc_whose_68 {D : Nat} {o : Int32 × am_W} (s0 : Int32) (w : am_W) (H : F_Loc_whose_68 s0 w = some o) : am_gi (D + 4) 104 o (68, [], [.int s0], ww w, 0, 0) := by
  unfold F_Loc_whose_68 at H
  exact am_go_blk 1 ⟨rfl, am_fi H⟩
theorem T_Loc_whose {D : Nat} {o : Int32 × am_W} (a1 : Int32) (a2 : Int32) (a3 : Int32) (w : am_W) (H : F_Loc_whose a1 a2 a3 w = some o) : am_gi (D + 4) 104 o (0, [(0, .ref 0), (1, .int a1), (2, .int a2), (3, .int a3)], [], ww w, 0, 0) := by
  unfold F_Loc_whose at H
  obtain ⟨q1, hqq1, H⟩ := am_bnE H
  refine am_go_blk 2 (?_ : am_gi (D + 4) 104 o (2, [(0, .ref 0), (1, .int a1), (2, .int a2), (3, .int a3)], [.int a1, .ref 0], ww w, 0, 0))
  refine am_invd rfl rfl rfl rfl (am_calli rfl (M_Loc_refusalOf (D := D + 2) hqq1) (?_ : am_gi (D + 4) 104 o (5, [(0, .ref 0), (1, .int a1), (2, .int a2), (3, .int a3)], [.int q1.1], ww q1.2, 0, 0)))
  refine am_go_blk 3 ⟨fun hc => ?_, fun hc => ?_⟩
  · have H := am_it hc H
    show am_gi (D + 4) 104 o (15, [(0, .ref 0), (1, .int a1), (2, .int a2), (3, .int a3)], [], ww q1.2, 0, 0)
    obtain ⟨q2, hqq2, H⟩ := am_bnE H
    refine am_go_blk 3 (?_ : am_gi (D + 4) 104 o (20, [(0, .ref 0), (1, .int a1), (2, .int a2), (3, .int a3)], [.int a2, .ref 1], ww q1.2, 0, 0))
    refine am_invd rfl rfl rfl rfl (am_calli rfl (M_Rail_isLock (D := D + 3) hqq2) (?_ : am_gi (D + 4) 104 o (23, [(0, .ref 0), (1, .int a1), (2, .int a2), (3, .int a3)], [.int q2.1], ww q2.2, 0, 0)))
    refine am_go_blk 1 ⟨fun hc => ?_, fun hc => ?_⟩
    · have H := am_ie hc H
      show am_gi (D + 4) 104 o (29, [(0, .ref 0), (1, .int a1), (2, .int a2), (3, .int a3)], [], ww q2.2, 0, 0)
      obtain ⟨q3, hqq3, H⟩ := am_bnE H
      refine am_go_blk 1 (?_ : am_gi (D + 4) 104 o (30, [(0, .ref 0), (1, .int a1), (2, .int a2), (3, .int a3)], [.int a3], ww q2.2, 0, 0))
      refine am_cls rfl rfl rfl (am_calli rfl (M_Loc_isEither (D := D + 3) hqq3) (?_ : am_gi (D + 4) 104 o (33, [(0, .ref 0), (1, .int a1), (2, .int a2), (3, .int a3)], [.int q3.1], ww q3.2, 0, 0)))
      refine am_go_blk 1 ⟨fun hc => ?_, fun hc => ?_⟩
      · have H := am_ie hc H
        show am_gi (D + 4) 104 o (39, [(0, .ref 0), (1, .int a1), (2, .int a2), (3, .int a3)], [], ww q3.2, 0, 0)
        refine am_go_blk 2 ⟨fun hc => ?_, fun hc => ?_⟩
        · have H := am_ie hc H
          show am_gi (D + 4) 104 o (57, [(0, .ref 0), (1, .int a1), (2, .int a2)], [], ww q3.2, 0, 0)
          obtain ⟨hi4, H⟩ := am_ckE H
          refine am_go_blk 5 ⟨am_inv hi4, am_tv (am_shv (am_inl hi4)) (?_ : am_gi (D + 4) 104 o (64, [(0, .ref 0), (1, .int a1), (2, .int a2)], [.ref (45 + 2 * a1.toNatClampNeg), .ref 0], ww q3.2, 0, 0))⟩
          obtain ⟨q5, hqq5, H⟩ := am_bnE H
          refine am_go_blk 1 (?_ : am_gi (D + 4) 104 o (65, [(0, .ref 0), (1, .int a1), (2, .int a2)], [.int a2, .ref (45 + 2 * a1.toNatClampNeg), .ref 0], ww q3.2, 0, 0))
          refine am_invd rfl rfl rfl rfl (am_calli rfl (M_Loc_sortsBy (D := D) (am_inl hi4) hqq5) (?_ : am_gi (D + 4) 104 o (68, [], [.int q5.1], ww q5.2, 0, 0)))
          exact T_Loc_whose_68 q5.1 q5.2 H
        · have H := am_it hc H
          show am_gi (D + 4) 104 o (43, [(0, .ref 0), (1, .int a1), (2, .int a2), (3, .int a3)], [], ww q3.2, 0, 0)
          obtain ⟨hi6, H⟩ := am_ckE H
          refine am_go_blk 5 ⟨am_inv hi6, am_tv (am_shv (am_inl hi6)) (?_ : am_gi (D + 4) 104 o (50, [(0, .ref 0), (1, .int a1), (2, .int a2), (3, .int a3)], [.ref (45 + 2 * a1.toNatClampNeg), .ref 0], ww q3.2, 0, 0))⟩
          obtain ⟨q7, hqq7, H⟩ := am_bnE H
          refine am_go_blk 1 (?_ : am_gi (D + 4) 104 o (51, [(0, .ref 0), (1, .int a1), (2, .int a2), (3, .int a3)], [.int a2, .ref (45 + 2 * a1.toNatClampNeg), .ref 0], ww q3.2, 0, 0))
          refine am_invd rfl rfl rfl rfl (am_calli rfl (M_Loc_ownersBy (D := D) (am_inl hi6) hqq7) (?_ : am_gi (D + 4) 104 o (54, [(0, .ref 0), (1, .int a1), (2, .int a2), (3, .int a3)], [.int q7.1], ww q7.2, 0, 0)))
          exact am_go_blk 1 (T_Loc_whose_68 q7.1 q7.2 H)
      · have H := am_it hc H
        show am_gi (D + 4) 104 o (36, [(0, .ref 0), (1, .int a1), (2, .int a2), (3, .int a3)], [], ww q3.2, 0, 0)
        exact am_go_blk 2 ⟨rfl, am_fi H⟩
    · have H := am_it hc H
      show am_gi (D + 4) 104 o (26, [(0, .ref 0), (1, .int a1), (2, .int a2), (3, .int a3)], [], ww q2.2, 0, 0)
      exact am_go_blk 2 ⟨rfl, am_fi H⟩
  · have H := am_ie hc H
    show am_gi (D + 4) 104 o (12, [(4, .int q1.1), (0, .ref 0), (1, .int a1), (2, .int a2), (3, .int a3)], [], ww q1.2, 0, 0)
    exact am_go_blk 2 ⟨rfl, am_fi H⟩
theorem M_Loc_whose {D : Nat} {o : Int32 × am_W} {a1 : Int32} {a2 : Int32} {a3 : Int32} {w : am_W} (H : F_Loc_whose a1 a2 a3 w = some o) : am_run (D + 5) 104 [.ref 0, .int a1, .int a2, .int a3] (ww w) (some (.int o.1)) (ww o.2) 0 0 :=
  am_run_of rfl (T_Loc_whose a1 a2 a3 w H)
def F_Loc_kinds_82 (r43 : Int32 → Int32 → Int32 → Int32 → Int32 → am_W → Option (Int32 × am_W)) (a1 : Int32) (a2 : Int32) (a4 : Int32) (a5 : Int32) (a6 : Int32) (w : am_W) : Option (Int32 × am_W) :=
  r43 a1 a2 a4 a5 (a6 + (nI 1)) w
def F_Loc_kinds_43 (r43 : Int32 → Int32 → Int32 → Int32 → Int32 → am_W → Option (Int32 × am_W)) (a1 : Int32) (a2 : Int32) (a4 : Int32) (a5 : Int32) (a6 : Int32) (w : am_W) : Option (Int32 × am_W) :=
  if (nI 6) ≤ a6 then ((F_Rail_putKind a2 a4 w).bind fun w3 => some (a5, w3)) else ((F_Rail_putKind a2 a6 w).bind fun w4 => am_ck (am_in a1 4) ((F_Loc_firstWrong a1.toNatClampNeg w4).bind fun q6 => if 0 ≤ q6.1 then (F_Loc_kinds_82 r43 a1 a2 a4 a5 a6 q6.2) else (F_Loc_kinds_82 r43 a1 a2 a4 (a5 ||| ((nI 1) <<< (a6 &&& 31))) a6 q6.2)))
def L_Loc_kinds_43 : Nat → Int32 → Int32 → Int32 → Int32 → Int32 → am_W → Option (Int32 × am_W)
  | 0, _, _, _, _, _, _ => none
  | n + 1, a1, a2, a4, a5, a6, w => F_Loc_kinds_43 (L_Loc_kinds_43 n) a1 a2 a4 a5 a6 w
def F_Loc_kinds (a1 : Int32) (a2 : Int32) (w : am_W) : Option (Int32 × am_W) :=
  (F_Loc_refusalOf a1 w).bind fun q1 => if q1.1 = 0 then ((F_Rail_isThing a2 q1.2).bind fun q2 => if q2.1 = 0 then (some ((-nI 5), q2.2)) else (am_ck (am_in a2 8) (L_Loc_kinds_43 am_NF a1 a2 (q2.2.1 2 a2.toNatClampNeg) (nI 0) (nI 0) q2.2))) else (some (q1.1, q1.2))
theorem T_Loc_kinds_82 {D : Nat} {o : Int32 × am_W} {r43 : Int32 → Int32 → Int32 → Int32 → Int32 → am_W → Option (Int32 × am_W)} (Hr43 : ∀ (a1 : Int32) (a2 : Int32) (a4 : Int32) (a5 : Int32) (a6 : Int32) (w : am_W) , r43 a1 a2 a4 a5 a6 w = some o → am_gi (D + 3) 105 o (43, [(0, .ref 0), (1, .int a1), (2, .int a2), (4, .int a4), (5, .int a5), (6, .int a6)], [], ww w, 0, 0)) (a1 : Int32) (a2 : Int32) (a4 : Int32) (a5 : Int32) (a6 : Int32) (w : am_W) (H : F_Loc_kinds_82 r43 a1 a2 a4 a5 a6 w = some o) : am_gi (D + 3) 105 o (82, [(0, .ref 0), (1, .int a1), (2, .int a2), (4, .int a4), (5, .int a5), (6, .int a6)], [], ww w, 0, 0) := by
  unfold F_Loc_kinds_82 at H
  exact am_go_blk 2 (Hr43 a1 a2 a4 a5 (a6 + (nI 1)) w H)
theorem T_Loc_kinds_43 {D : Nat} {o : Int32 × am_W} {r43 : Int32 → Int32 → Int32 → Int32 → Int32 → am_W → Option (Int32 × am_W)} (Hr43 : ∀ (a1 : Int32) (a2 : Int32) (a4 : Int32) (a5 : Int32) (a6 : Int32) (w : am_W) , r43 a1 a2 a4 a5 a6 w = some o → am_gi (D + 3) 105 o (43, [(0, .ref 0), (1, .int a1), (2, .int a2), (4, .int a4), (5, .int a5), (6, .int a6)], [], ww w, 0, 0)) (a1 : Int32) (a2 : Int32) (a4 : Int32) (a5 : Int32) (a6 : Int32) (w : am_W) (H : F_Loc_kinds_43 r43 a1 a2 a4 a5 a6 w = some o) : am_gi (D + 3) 105 o (43, [(0, .ref 0), (1, .int a1), (2, .int a2), (4, .int a4), (5, .int a5), (6, .int a6)], [], ww w, 0, 0) := by
  unfold F_Loc_kinds_43 at H
  refine am_go_blk 3 ⟨fun hc => ?_, fun hc => ?_⟩
  · have H := am_it hc H
    show am_gi (D + 3) 105 o (88, [(0, .ref 0), (2, .int a2), (4, .int a4), (5, .int a5)], [], ww w, 0, 0)
    obtain ⟨w3, hqw3, H⟩ := am_bnE H
    refine am_go_blk 4 (?_ : am_gi (D + 3) 105 o (95, [(0, .ref 0), (2, .int a2), (4, .int a4), (5, .int a5)], [.int a4, .int a2, .ref 1], ww w, 0, 0))
    refine am_invd rfl rfl rfl rfl (am_callv rfl (M_Rail_putKind (D := D) hqw3) (?_ : am_gi (D + 3) 105 o (98, [(0, .ref 0), (2, .int a2), (4, .int a4), (5, .int a5)], [], ww w3, 0, 0)))
    exact am_go_blk 2 ⟨rfl, am_fi H⟩
  · have H := am_ie hc H
    show am_gi (D + 3) 105 o (50, [(0, .ref 0), (1, .int a1), (2, .int a2), (4, .int a4), (5, .int a5), (6, .int a6)], [], ww w, 0, 0)
    obtain ⟨w4, hqw4, H⟩ := am_bnE H
    refine am_go_blk 4 (?_ : am_gi (D + 3) 105 o (57, [(0, .ref 0), (1, .int a1), (2, .int a2), (4, .int a4), (5, .int a5), (6, .int a6)], [.int a6, .int a2, .ref 1], ww w, 0, 0))
    refine am_invd rfl rfl rfl rfl (am_callv rfl (M_Rail_putKind (D := D) hqw4) (?_ : am_gi (D + 3) 105 o (60, [(0, .ref 0), (1, .int a1), (2, .int a2), (4, .int a4), (5, .int a5), (6, .int a6)], [], ww w4, 0, 0)))
    obtain ⟨hi5, H⟩ := am_ckE H
    refine am_go_blk 5 ⟨am_inv hi5, am_tv (am_shv (am_inl hi5)) (?_ : am_gi (D + 3) 105 o (67, [(0, .ref 0), (1, .int a1), (2, .int a2), (4, .int a4), (5, .int a5), (6, .int a6)], [.ref (45 + 2 * a1.toNatClampNeg), .ref 0], ww w4, 0, 0))⟩
    obtain ⟨q6, hqq6, H⟩ := am_bnE H
    refine am_invd rfl rfl rfl rfl (am_calli rfl (M_Loc_firstWrong (D := D) (am_inl hi5) hqq6) (?_ : am_gi (D + 3) 105 o (70, [(0, .ref 0), (1, .int a1), (2, .int a2), (4, .int a4), (5, .int a5), (6, .int a6)], [.int q6.1], ww q6.2, 0, 0)))
    refine am_go_blk 1 ⟨fun hc => ?_, fun hc => ?_⟩
    · have H := am_it hc H
      exact T_Loc_kinds_82 Hr43 a1 a2 a4 a5 a6 q6.2 H
    · have H := am_ie hc H
      show am_gi (D + 3) 105 o (73, [(0, .ref 0), (1, .int a1), (2, .int a2), (4, .int a4), (5, .int a5), (6, .int a6)], [], ww q6.2, 0, 0)
      exact am_go_blk 6 (T_Loc_kinds_82 Hr43 a1 a2 a4 (a5 ||| ((nI 1) <<< (a6 &&& 31))) a6 q6.2 H)
theorem TL_Loc_kinds_43 {D : Nat} {o : Int32 × am_W} : ∀ (n : Nat) (a1 : Int32) (a2 : Int32) (a4 : Int32) (a5 : Int32) (a6 : Int32) (w : am_W) , L_Loc_kinds_43 n a1 a2 a4 a5 a6 w = some o → am_gi (D + 3) 105 o (43, [(0, .ref 0), (1, .int a1), (2, .int a2), (4, .int a4), (5, .int a5), (6, .int a6)], [], ww w, 0, 0)
  | 0, _, _, _, _, _, _, H => by cases H
  | n + 1, a1, a2, a4, a5, a6, w, H => T_Loc_kinds_43 (TL_Loc_kinds_43 n) a1 a2 a4 a5 a6 w H
theorem T_Loc_kinds {D : Nat} {o : Int32 × am_W} (a1 : Int32) (a2 : Int32) (w : am_W) (H : F_Loc_kinds a1 a2 w = some o) : am_gi (D + 3) 105 o (0, [(0, .ref 0), (1, .int a1), (2, .int a2)], [], ww w, 0, 0) := by
  unfold F_Loc_kinds at H
  obtain ⟨q1, hqq1, H⟩ := am_bnE H
  refine am_go_blk 2 (?_ : am_gi (D + 3) 105 o (2, [(0, .ref 0), (1, .int a1), (2, .int a2)], [.int a1, .ref 0], ww w, 0, 0))
  refine am_invd rfl rfl rfl rfl (am_calli rfl (M_Loc_refusalOf (D := D + 1) hqq1) (?_ : am_gi (D + 3) 105 o (5, [(0, .ref 0), (1, .int a1), (2, .int a2)], [.int q1.1], ww q1.2, 0, 0)))
  refine am_go_blk 3 ⟨fun hc => ?_, fun hc => ?_⟩
  · have H := am_it hc H
    show am_gi (D + 3) 105 o (12, [(0, .ref 0), (1, .int a1), (2, .int a2)], [], ww q1.2, 0, 0)
    obtain ⟨q2, hqq2, H⟩ := am_bnE H
    refine am_go_blk 3 (?_ : am_gi (D + 3) 105 o (17, [(0, .ref 0), (1, .int a1), (2, .int a2)], [.int a2, .ref 1], ww q1.2, 0, 0))
    refine am_invd rfl rfl rfl rfl (am_calli rfl (M_Rail_isThing (D := D + 2) hqq2) (?_ : am_gi (D + 3) 105 o (20, [(0, .ref 0), (1, .int a1), (2, .int a2)], [.int q2.1], ww q2.2, 0, 0)))
    refine am_go_blk 1 ⟨fun hc => ?_, fun hc => ?_⟩
    · have H := am_ie hc H
      show am_gi (D + 3) 105 o (26, [(0, .ref 0), (1, .int a1), (2, .int a2)], [], ww q2.2, 0, 0)
      obtain ⟨hc, H⟩ := am_ckE H
      refine am_go_blk 5 ⟨am_inv hc, (?_ : am_gi (D + 3) 105 o (35, [(0, .ref 0), (1, .int a1), (2, .int a2)], [.int (q2.2.1 2 a2.toNatClampNeg)], ww q2.2, 0, 0))⟩
      exact am_go_blk 5 (TL_Loc_kinds_43 am_NF a1 a2 (q2.2.1 2 a2.toNatClampNeg) (nI 0) (nI 0) q2.2 H)
    · have H := am_it hc H
      show am_gi (D + 3) 105 o (23, [(0, .ref 0), (1, .int a1), (2, .int a2)], [], ww q2.2, 0, 0)
      exact am_go_blk 2 ⟨rfl, am_fi H⟩
  · have H := am_ie hc H
    show am_gi (D + 3) 105 o (10, [(3, .int q1.1), (0, .ref 0), (1, .int a1), (2, .int a2)], [], ww q1.2, 0, 0)
    exact am_go_blk 2 ⟨rfl, am_fi H⟩
theorem M_Loc_kinds {D : Nat} {o : Int32 × am_W} {a1 : Int32} {a2 : Int32} {w : am_W} (H : F_Loc_kinds a1 a2 w = some o) : am_run (D + 4) 105 [.ref 0, .int a1, .int a2] (ww w) (some (.int o.1)) (ww o.2) 0 0 :=
  am_run_of rfl (T_Loc_kinds a1 a2 w H)
def F_Loc_sawsAreSo_2 (r2 : Nat → Int32 → Int32 → am_W → Option (Int32 × am_W)) (p1 : Nat) (a2 : Int32) (a3 : Int32) (w : am_W) : Option (Int32 × am_W) :=
  if (w.1 1 2) ≤ a3 then (some ((nI 1), w)) else (am_ck (am_in a3 40) ((F_Law_sawing a2 a3 w).bind fun q1 => if (w.1 (46 + 2 * p1) a3.toNatClampNeg) = q1.1 then (r2 p1 a2 (a3 + (nI 1)) q1.2) else (some ((nI 0), q1.2))))
def L_Loc_sawsAreSo_2 : Nat → Nat → Int32 → Int32 → am_W → Option (Int32 × am_W)
  | 0, _, _, _, _ => none
  | n + 1, p1, a2, a3, w => F_Loc_sawsAreSo_2 (L_Loc_sawsAreSo_2 n) p1 a2 a3 w
def F_Loc_sawsAreSo (p1 : Nat) (a2 : Int32) (w : am_W) : Option (Int32 × am_W) :=
  L_Loc_sawsAreSo_2 am_NF p1 a2 (nI 0) w
theorem T_Loc_sawsAreSo_2 {D : Nat} {o : Int32 × am_W} {r2 : Nat → Int32 → Int32 → am_W → Option (Int32 × am_W)} (Hr2 : ∀ (p1 : Nat) (a2 : Int32) (a3 : Int32) (w : am_W) (hp1 : p1 < 4), r2 p1 a2 a3 w = some o → am_gi (D + 5) 134 o (2, [(0, .ref 0), (1, .ref (45 + 2 * p1)), (2, .int a2), (3, .int a3)], [], ww w, 0, 0)) (p1 : Nat) (a2 : Int32) (a3 : Int32) (w : am_W) (hp1 : p1 < 4) (H : F_Loc_sawsAreSo_2 r2 p1 a2 a3 w = some o) : am_gi (D + 5) 134 o (2, [(0, .ref 0), (1, .ref (45 + 2 * p1)), (2, .int a2), (3, .int a3)], [], ww w, 0, 0) := by
  unfold F_Loc_sawsAreSo_2 at H
  refine am_go_blk 5 ⟨fun hc => ?_, fun hc => ?_⟩
  · have H := am_it hc H
    show am_gi (D + 5) 134 o (39, [], [], ww w, 0, 0)
    exact am_go_blk 2 ⟨rfl, am_fi H⟩
  · have H := am_ie hc H
    show am_gi (D + 5) 134 o (13, [(0, .ref 0), (1, .ref (45 + 2 * p1)), (2, .int a2), (3, .int a3)], [], ww w, 0, 0)
    refine am_go_blk 1 (?_ : am_gi (D + 5) 134 o (14, [(0, .ref 0), (1, .ref (45 + 2 * p1)), (2, .int a2), (3, .int a3)], [.ref (45 + 2 * p1)], ww w, 0, 0))
    refine am_gfd rfl rfl (ww_sheet hp1) rfl (?_ : am_gi (D + 5) 134 o (17, [(0, .ref 0), (1, .ref (45 + 2 * p1)), (2, .int a2), (3, .int a3)], [.ref (46 + 2 * p1)], ww w, 0, 0))
    refine am_go_blk 1 (?_ : am_gi (D + 5) 134 o (18, [(0, .ref 0), (1, .ref (45 + 2 * p1)), (2, .int a2), (3, .int a3)], [.int a3, .ref (46 + 2 * p1)], ww w, 0, 0))
    obtain ⟨hc, H⟩ := am_ckE H
    refine am_iald rfl (ww_numbers hp1) (am_inv hc) (?_ : am_gi (D + 5) 134 o (19, [(0, .ref 0), (1, .ref (45 + 2 * p1)), (2, .int a2), (3, .int a3)], [.int (w.1 (46 + 2 * p1) a3.toNatClampNeg)], ww w, 0, 0))
    obtain ⟨q1, hqq1, H⟩ := am_bnE H
    refine am_go_blk 4 (?_ : am_gi (D + 5) 134 o (25, [(0, .ref 0), (1, .ref (45 + 2 * p1)), (2, .int a2), (3, .int a3)], [.int a3, .int a2, .ref 17, .int (w.1 (46 + 2 * p1) a3.toNatClampNeg)], ww w, 0, 0))
    refine am_invd rfl rfl rfl rfl (am_calli rfl (M_Law_sawing (D := D) hqq1) (?_ : am_gi (D + 5) 134 o (28, [(0, .ref 0), (1, .ref (45 + 2 * p1)), (2, .int a2), (3, .int a3)], [.int q1.1, .int (w.1 (46 + 2 * p1) a3.toNatClampNeg)], ww q1.2, 0, 0)))
    refine am_go_blk 1 ⟨fun hc => ?_, fun hc => ?_⟩
    · have H := am_it hc H
      show am_gi (D + 5) 134 o (33, [(0, .ref 0), (1, .ref (45 + 2 * p1)), (2, .int a2), (3, .int a3)], [], ww q1.2, 0, 0)
      exact am_go_blk 2 (Hr2 p1 a2 (a3 + (nI 1)) q1.2 hp1 H)
    · have H := am_ie hc H
      show am_gi (D + 5) 134 o (31, [(0, .ref 0), (1, .ref (45 + 2 * p1)), (2, .int a2), (3, .int a3)], [], ww q1.2, 0, 0)
      exact am_go_blk 2 ⟨rfl, am_fi H⟩
theorem TL_Loc_sawsAreSo_2 {D : Nat} {o : Int32 × am_W} : ∀ (n : Nat) (p1 : Nat) (a2 : Int32) (a3 : Int32) (w : am_W) (hp1 : p1 < 4), L_Loc_sawsAreSo_2 n p1 a2 a3 w = some o → am_gi (D + 5) 134 o (2, [(0, .ref 0), (1, .ref (45 + 2 * p1)), (2, .int a2), (3, .int a3)], [], ww w, 0, 0)
  | 0, _, _, _, _, _, H => by cases H
  | n + 1, p1, a2, a3, w, hp1, H => T_Loc_sawsAreSo_2 (TL_Loc_sawsAreSo_2 n) p1 a2 a3 w hp1 H
theorem T_Loc_sawsAreSo {D : Nat} {o : Int32 × am_W} (p1 : Nat) (a2 : Int32) (w : am_W) (hp1 : p1 < 4) (H : F_Loc_sawsAreSo p1 a2 w = some o) : am_gi (D + 5) 134 o (0, [(0, .ref 0), (1, .ref (45 + 2 * p1)), (2, .int a2)], [], ww w, 0, 0) := by
  unfold F_Loc_sawsAreSo at H
  exact am_go_blk 2 (TL_Loc_sawsAreSo_2 am_NF p1 a2 (nI 0) w hp1 H)
theorem M_Loc_sawsAreSo {D : Nat} {o : Int32 × am_W} {p1 : Nat} {a2 : Int32} {w : am_W} (hp1 : p1 < 4) (H : F_Loc_sawsAreSo p1 a2 w = some o) : am_run (D + 6) 134 [.ref 0, .ref (45 + 2 * p1), .int a2] (ww w) (some (.int o.1)) (ww o.2) 0 0 :=
  am_run_of rfl (T_Loc_sawsAreSo p1 a2 w hp1 H)
def F_Loc_laws_73 (r39 : Int32 → Int32 → Int32 → am_W → Option (Int32 × am_W)) (a1 : Int32) (a3 : Int32) (a4 : Int32) (w : am_W) : Option (Int32 × am_W) :=
  r39 a1 a3 (a4 + (nI 1)) w
def F_Loc_laws_39 (r39 : Int32 → Int32 → Int32 → am_W → Option (Int32 × am_W)) (a1 : Int32) (a3 : Int32) (a4 : Int32) (w : am_W) : Option (Int32 × am_W) :=
  if (w.1 17 1) ≤ a4 then (some (a3, w)) else (am_ck (am_in a1 4) ((F_Loc_sawsAreSo a1.toNatClampNeg a4 w).bind fun q4 => if q4.1 = 0 then (F_Loc_laws_73 r39 a1 a3 a4 q4.2) else (F_Loc_laws_73 r39 a1 (a3 ||| ((nI 1) <<< (a4 &&& 31))) a4 q4.2)))
def L_Loc_laws_39 : Nat → Int32 → Int32 → Int32 → am_W → Option (Int32 × am_W)
  | 0, _, _, _, _ => none
  | n + 1, a1, a3, a4, w => F_Loc_laws_39 (L_Loc_laws_39 n) a1 a3 a4 w
def F_Loc_laws (a1 : Int32) (w : am_W) : Option (Int32 × am_W) :=
  (F_Loc_refusalOf a1 w).bind fun q1 => if q1.1 = 0 then (am_ck (am_in a1 4) (if (q1.2.1 (45 + 2 * a1.toNatClampNeg) 1) = (q1.2.1 1 2) then (L_Loc_laws_39 am_NF a1 (nI 0) (nI 0) q1.2) else (some ((-nI 2), q1.2)))) else (some (q1.1, q1.2))
theorem T_Loc_laws_73 {D : Nat} {o : Int32 × am_W} {r39 : Int32 → Int32 → Int32 → am_W → Option (Int32 × am_W)} (Hr39 : ∀ (a1 : Int32) (a3 : Int32) (a4 : Int32) (w : am_W) , r39 a1 a3 a4 w = some o → am_gi (D + 6) 106 o (39, [(0, .ref 0), (1, .int a1), (3, .int a3), (4, .int a4)], [], ww w, 0, 0)) (a1 : Int32) (a3 : Int32) (a4 : Int32) (w : am_W) (H : F_Loc_laws_73 r39 a1 a3 a4 w = some o) : am_gi (D + 6) 106 o (73, [(0, .ref 0), (1, .int a1), (3, .int a3), (4, .int a4)], [], ww w, 0, 0) := by
  unfold F_Loc_laws_73 at H
  exact am_go_blk 2 (Hr39 a1 a3 (a4 + (nI 1)) w H)
theorem T_Loc_laws_39 {D : Nat} {o : Int32 × am_W} {r39 : Int32 → Int32 → Int32 → am_W → Option (Int32 × am_W)} (Hr39 : ∀ (a1 : Int32) (a3 : Int32) (a4 : Int32) (w : am_W) , r39 a1 a3 a4 w = some o → am_gi (D + 6) 106 o (39, [(0, .ref 0), (1, .int a1), (3, .int a3), (4, .int a4)], [], ww w, 0, 0)) (a1 : Int32) (a3 : Int32) (a4 : Int32) (w : am_W) (H : F_Loc_laws_39 r39 a1 a3 a4 w = some o) : am_gi (D + 6) 106 o (39, [(0, .ref 0), (1, .int a1), (3, .int a3), (4, .int a4)], [], ww w, 0, 0) := by
  unfold F_Loc_laws_39 at H
  refine am_go_blk 5 ⟨fun hc => ?_, fun hc => ?_⟩
  · have H := am_it hc H
    show am_gi (D + 6) 106 o (79, [(3, .int a3)], [], ww w, 0, 0)
    exact am_go_blk 2 ⟨rfl, am_fi H⟩
  · have H := am_ie hc H
    show am_gi (D + 6) 106 o (51, [(0, .ref 0), (1, .int a1), (3, .int a3), (4, .int a4)], [], ww w, 0, 0)
    obtain ⟨hi3, H⟩ := am_ckE H
    refine am_go_blk 5 ⟨am_inv hi3, am_tv (am_shv (am_inl hi3)) (?_ : am_gi (D + 6) 106 o (58, [(0, .ref 0), (1, .int a1), (3, .int a3), (4, .int a4)], [.ref (45 + 2 * a1.toNatClampNeg), .ref 0], ww w, 0, 0))⟩
    obtain ⟨q4, hqq4, H⟩ := am_bnE H
    refine am_go_blk 1 (?_ : am_gi (D + 6) 106 o (60, [(0, .ref 0), (1, .int a1), (3, .int a3), (4, .int a4)], [.int a4, .ref (45 + 2 * a1.toNatClampNeg), .ref 0], ww w, 0, 0))
    refine am_invd rfl rfl rfl rfl (am_calli rfl (M_Loc_sawsAreSo (D := D) (am_inl hi3) hqq4) (?_ : am_gi (D + 6) 106 o (63, [(0, .ref 0), (1, .int a1), (3, .int a3), (4, .int a4)], [.int q4.1], ww q4.2, 0, 0)))
    refine am_go_blk 1 ⟨fun hc => ?_, fun hc => ?_⟩
    · have H := am_it hc H
      exact T_Loc_laws_73 Hr39 a1 a3 a4 q4.2 H
    · have H := am_ie hc H
      show am_gi (D + 6) 106 o (66, [(0, .ref 0), (1, .int a1), (3, .int a3), (4, .int a4)], [], ww q4.2, 0, 0)
      exact am_go_blk 6 (T_Loc_laws_73 Hr39 a1 (a3 ||| ((nI 1) <<< (a4 &&& 31))) a4 q4.2 H)
theorem TL_Loc_laws_39 {D : Nat} {o : Int32 × am_W} : ∀ (n : Nat) (a1 : Int32) (a3 : Int32) (a4 : Int32) (w : am_W) , L_Loc_laws_39 n a1 a3 a4 w = some o → am_gi (D + 6) 106 o (39, [(0, .ref 0), (1, .int a1), (3, .int a3), (4, .int a4)], [], ww w, 0, 0)
  | 0, _, _, _, _, H => by cases H
  | n + 1, a1, a3, a4, w, H => T_Loc_laws_39 (TL_Loc_laws_39 n) a1 a3 a4 w H
theorem T_Loc_laws {D : Nat} {o : Int32 × am_W} (a1 : Int32) (w : am_W) (H : F_Loc_laws a1 w = some o) : am_gi (D + 6) 106 o (0, [(0, .ref 0), (1, .int a1)], [], ww w, 0, 0) := by
  unfold F_Loc_laws at H
  obtain ⟨q1, hqq1, H⟩ := am_bnE H
  refine am_go_blk 2 (?_ : am_gi (D + 6) 106 o (2, [(0, .ref 0), (1, .int a1)], [.int a1, .ref 0], ww w, 0, 0))
  refine am_invd rfl rfl rfl rfl (am_calli rfl (M_Loc_refusalOf (D := D + 4) hqq1) (?_ : am_gi (D + 6) 106 o (5, [(0, .ref 0), (1, .int a1)], [.int q1.1], ww q1.2, 0, 0)))
  refine am_go_blk 3 ⟨fun hc => ?_, fun hc => ?_⟩
  · have H := am_it hc H
    show am_gi (D + 6) 106 o (12, [(0, .ref 0), (1, .int a1)], [], ww q1.2, 0, 0)
    obtain ⟨hi2, H⟩ := am_ckE H
    refine am_go_blk 4 ⟨am_inv hi2, am_tv (am_shv (am_inl hi2)) (?_ : am_gi (D + 6) 106 o (18, [(0, .ref 0), (1, .int a1)], [.ref (45 + 2 * a1.toNatClampNeg)], ww q1.2, 0, 0))⟩
    refine am_gfd rfl rfl (ww_sheet (am_inl hi2)) rfl (?_ : am_gi (D + 6) 106 o (21, [(0, .ref 0), (1, .int a1)], [.int (q1.2.1 (45 + 2 * a1.toNatClampNeg) 1)], ww q1.2, 0, 0))
    refine am_go_blk 4 ⟨fun hc => ?_, fun hc => ?_⟩
    · have H := am_it hc H
      show am_gi (D + 6) 106 o (34, [(0, .ref 0), (1, .int a1)], [], ww q1.2, 0, 0)
      exact am_go_blk 4 (TL_Loc_laws_39 am_NF a1 (nI 0) (nI 0) q1.2 H)
    · have H := am_ie hc H
      show am_gi (D + 6) 106 o (31, [(0, .ref 0), (1, .int a1)], [], ww q1.2, 0, 0)
      exact am_go_blk 2 ⟨rfl, am_fi H⟩
  · have H := am_ie hc H
    show am_gi (D + 6) 106 o (10, [(2, .int q1.1), (0, .ref 0), (1, .int a1)], [], ww q1.2, 0, 0)
    exact am_go_blk 2 ⟨rfl, am_fi H⟩
theorem M_Loc_laws {D : Nat} {o : Int32 × am_W} {a1 : Int32} {w : am_W} (H : F_Loc_laws a1 w = some o) : am_run (D + 7) 106 [.ref 0, .int a1] (ww w) (some (.int o.1)) (ww o.2) 0 0 :=
  am_run_of rfl (T_Loc_laws a1 w H)
def F_Sheet_become_12 (r12 : Nat → Int32 → am_W → Option (am_W)) (p0 : Nat) (a3 : Int32) (w : am_W) : Option (am_W) :=
  if (nI 40) ≤ a3 then (some w) else (am_ck (am_in a3 40) (am_lt (wst w (46 + 2 * p0) a3 (nI 0)) fun w3 => r12 p0 (a3 + (nI 1)) w3))
def L_Sheet_become_12 : Nat → Nat → Int32 → am_W → Option (am_W)
  | 0, _, _, _ => none
  | n + 1, p0, a3, w => F_Sheet_become_12 (L_Sheet_become_12 n) p0 a3 w
def F_Sheet_become (p0 : Nat) (a1 : Int32) (a2 : Int32) (w : am_W) : Option (am_W) :=
  am_lt (wsf w (45 + 2 * p0) 0 a1) fun w1 => am_lt (wsf w1 (45 + 2 * p0) 1 a2) fun w2 => L_Sheet_become_12 am_NF p0 (nI 0) w2
theorem T_Sheet_become_12 {D : Nat} {o : am_W} {r12 : Nat → Int32 → am_W → Option (am_W)} (Hr12 : ∀ (p0 : Nat) (a3 : Int32) (w : am_W) (hp0 : p0 < 4), r12 p0 a3 w = some o → am_gv D 66 o (12, [(0, .ref (45 + 2 * p0)), (3, .int a3)], [], ww w, 0, 0)) (p0 : Nat) (a3 : Int32) (w : am_W) (hp0 : p0 < 4) (H : F_Sheet_become_12 r12 p0 a3 w = some o) : am_gv D 66 o (12, [(0, .ref (45 + 2 * p0)), (3, .int a3)], [], ww w, 0, 0) := by
  unfold F_Sheet_become_12 at H
  refine am_go_blk 3 ⟨fun hc => ?_, fun hc => ?_⟩
  · have H := am_it hc H
    show am_gv D 66 o (31, [], [], ww w, 0, 0)
    exact am_go_blk 1 (am_fv H)
  · have H := am_ie hc H
    show am_gv D 66 o (18, [(0, .ref (45 + 2 * p0)), (3, .int a3)], [], ww w, 0, 0)
    refine am_go_blk 1 (?_ : am_gv D 66 o (19, [(0, .ref (45 + 2 * p0)), (3, .int a3)], [.ref (45 + 2 * p0)], ww w, 0, 0))
    refine am_gfd rfl rfl (ww_sheet hp0) rfl (?_ : am_gv D 66 o (22, [(0, .ref (45 + 2 * p0)), (3, .int a3)], [.ref (46 + 2 * p0)], ww w, 0, 0))
    refine am_go_blk 2 (?_ : am_gv D 66 o (24, [(0, .ref (45 + 2 * p0)), (3, .int a3)], [.int (nI 0), .int a3, .ref (46 + 2 * p0)], ww w, 0, 0))
    obtain ⟨hc, H⟩ := am_ckE H
    obtain ⟨w3, ew3, H⟩ := am_ltE H
    refine am_iasd rfl (ww_numbers hp0) (am_inv hc) (ww_numbers_s hp0 ew3) (?_ : am_gv D 66 o (25, [(0, .ref (45 + 2 * p0)), (3, .int a3)], [], ww w3, 0, 0))
    exact am_go_blk 2 (Hr12 p0 (a3 + (nI 1)) w3 hp0 H)
theorem TL_Sheet_become_12 {D : Nat} {o : am_W} : ∀ (n : Nat) (p0 : Nat) (a3 : Int32) (w : am_W) (hp0 : p0 < 4), L_Sheet_become_12 n p0 a3 w = some o → am_gv D 66 o (12, [(0, .ref (45 + 2 * p0)), (3, .int a3)], [], ww w, 0, 0)
  | 0, _, _, _, _, H => by cases H
  | n + 1, p0, a3, w, hp0, H => T_Sheet_become_12 (TL_Sheet_become_12 n) p0 a3 w hp0 H
theorem T_Sheet_become {D : Nat} {o : am_W} (p0 : Nat) (a1 : Int32) (a2 : Int32) (w : am_W) (hp0 : p0 < 4) (H : F_Sheet_become p0 a1 a2 w = some o) : am_gv D 66 o (0, [(0, .ref (45 + 2 * p0)), (1, .int a1), (2, .int a2)], [], ww w, 0, 0) := by
  unfold F_Sheet_become at H
  refine am_go_blk 2 (?_ : am_gv D 66 o (2, [(0, .ref (45 + 2 * p0)), (1, .int a1), (2, .int a2)], [.int a1, .ref (45 + 2 * p0)], ww w, 0, 0))
  obtain ⟨w1, ew1, H⟩ := am_ltE H
  refine am_pfd rfl (ww_sheet hp0) rfl rfl rfl (ww_sheet_f0 hp0 ew1) (?_ : am_gv D 66 o (5, [(0, .ref (45 + 2 * p0)), (1, .int a1), (2, .int a2)], [], ww w1, 0, 0))
  refine am_go_blk 2 (?_ : am_gv D 66 o (7, [(0, .ref (45 + 2 * p0)), (1, .int a1), (2, .int a2)], [.int a2, .ref (45 + 2 * p0)], ww w1, 0, 0))
  obtain ⟨w2, ew2, H⟩ := am_ltE H
  refine am_pfd rfl (ww_sheet hp0) rfl rfl rfl (ww_sheet_f1 hp0 ew2) (?_ : am_gv D 66 o (10, [(0, .ref (45 + 2 * p0)), (1, .int a1), (2, .int a2)], [], ww w2, 0, 0))
  exact am_go_blk 2 (TL_Sheet_become_12 am_NF p0 (nI 0) w2 hp0 H)
theorem M_Sheet_become {D : Nat} {o : am_W} {p0 : Nat} {a1 : Int32} {a2 : Int32} {w : am_W} (hp0 : p0 < 4) (H : F_Sheet_become p0 a1 a2 w = some o) : am_run (D + 1) 66 [.ref (45 + 2 * p0), .int a1, .int a2] (ww w) none (ww o) 0 0 :=
  am_run_of rfl (T_Sheet_become p0 a1 a2 w hp0 H)
def F_Sheet_put_31 (s0 : Int32) (s1 : Int32) (p2 : Nat) (w : am_W) : Option (am_W) :=
  am_ck (am_in s1 40) (am_lt (wst w (46 + 2 * p2) s1 s0) fun w1 => some w1)
def F_Sheet_put (p0 : Nat) (a1 : Int32) (a2 : Int32) (w : am_W) : Option (am_W) :=
  if (w.1 (45 + 2 * p0) 0) = 0 then (F_Sheet_put_31 a2.toInt8.toInt32 a1 p0 w) else (if (w.1 (45 + 2 * p0) 0) = (nI 1) then (F_Sheet_put_31 a2.toInt16.toInt32 a1 p0 w) else (F_Sheet_put_31 a2 a1 p0 w))
theorem T_Sheet_put_31 {D : Nat} {o : am_W} (s0 : Int32) (s1 : Int32) (p2 : Nat) (w : am_W) (hp2 : p2 < 4) (H : F_Sheet_put_31 s0 s1 p2 w = some o) : am_gv D 67 o (31, [], [.int s0, .int s1, .ref (46 + 2 * p2)], ww w, 0, 0) := by
  unfold F_Sheet_put_31 at H
  obtain ⟨hc, H⟩ := am_ckE H
  obtain ⟨w1, ew1, H⟩ := am_ltE H
  refine am_iasd rfl (ww_numbers hp2) (am_inv hc) (ww_numbers_s hp2 ew1) (?_ : am_gv D 67 o (32, [], [], ww w1, 0, 0))
  exact am_go_blk 1 (am_fv H)
theorem T_Sheet_put {D : Nat} {o : am_W} (p0 : Nat) (a1 : Int32) (a2 : Int32) (w : am_W) (hp0 : p0 < 4) (H : F_Sheet_put p0 a1 a2 w = some o) : am_gv D 67 o (0, [(0, .ref (45 + 2 * p0)), (1, .int a1), (2, .int a2)], [], ww w, 0, 0) := by
  unfold F_Sheet_put at H
  refine am_go_blk 1 (?_ : am_gv D 67 o (1, [(0, .ref (45 + 2 * p0)), (1, .int a1), (2, .int a2)], [.ref (45 + 2 * p0)], ww w, 0, 0))
  refine am_gfd rfl rfl (ww_sheet hp0) rfl (?_ : am_gv D 67 o (4, [(0, .ref (45 + 2 * p0)), (1, .int a1), (2, .int a2)], [.ref (46 + 2 * p0)], ww w, 0, 0))
  refine am_go_blk 2 (?_ : am_gv D 67 o (6, [(0, .ref (45 + 2 * p0)), (1, .int a1), (2, .int a2)], [.ref (45 + 2 * p0), .int a1, .ref (46 + 2 * p0)], ww w, 0, 0))
  refine am_gfd rfl rfl (ww_sheet hp0) rfl (?_ : am_gv D 67 o (9, [(0, .ref (45 + 2 * p0)), (1, .int a1), (2, .int a2)], [.int (w.1 (45 + 2 * p0) 0), .int a1, .ref (46 + 2 * p0)], ww w, 0, 0))
  refine am_go_blk 1 ⟨fun hc => ?_, fun hc => ?_⟩
  · have H := am_ie hc H
    show am_gv D 67 o (17, [(0, .ref (45 + 2 * p0)), (2, .int a2)], [.int a1, .ref (46 + 2 * p0)], ww w, 0, 0)
    refine am_go_blk 1 (?_ : am_gv D 67 o (18, [(0, .ref (45 + 2 * p0)), (2, .int a2)], [.ref (45 + 2 * p0), .int a1, .ref (46 + 2 * p0)], ww w, 0, 0))
    refine am_gfd rfl rfl (ww_sheet hp0) rfl (?_ : am_gv D 67 o (21, [(0, .ref (45 + 2 * p0)), (2, .int a2)], [.int (w.1 (45 + 2 * p0) 0), .int a1, .ref (46 + 2 * p0)], ww w, 0, 0))
    refine am_go_blk 2 ⟨fun hc => ?_, fun hc => ?_⟩
    · have H := am_ie hc H
      show am_gv D 67 o (30, [(2, .int a2)], [.int a1, .ref (46 + 2 * p0)], ww w, 0, 0)
      exact am_go_blk 1 (T_Sheet_put_31 a2 a1 p0 w hp0 H)
    · have H := am_it hc H
      show am_gv D 67 o (25, [(0, .ref (45 + 2 * p0)), (2, .int a2)], [.int a1, .ref (46 + 2 * p0)], ww w, 0, 0)
      exact am_go_blk 3 (T_Sheet_put_31 a2.toInt16.toInt32 a1 p0 w hp0 H)
  · have H := am_it hc H
    show am_gv D 67 o (12, [(0, .ref (45 + 2 * p0)), (1, .int a1), (2, .int a2)], [.int a1, .ref (46 + 2 * p0)], ww w, 0, 0)
    exact am_go_blk 3 (T_Sheet_put_31 a2.toInt8.toInt32 a1 p0 w hp0 H)
theorem M_Sheet_put {D : Nat} {o : am_W} {p0 : Nat} {a1 : Int32} {a2 : Int32} {w : am_W} (hp0 : p0 < 4) (H : F_Sheet_put p0 a1 a2 w = some o) : am_run (D + 1) 67 [.ref (45 + 2 * p0), .int a1, .int a2] (ww w) none (ww o) 0 0 :=
  am_run_of rfl (T_Sheet_put p0 a1 a2 w hp0 H)
def F_Loc_film_43 (r43 : Int32 → Int32 → am_W → Option (Int32 × am_W)) (a1 : Int32) (a2 : Int32) (w : am_W) : Option (Int32 × am_W) :=
  if (w.1 1 0) ≤ a2 then (some ((w.1 1 0), w)) else (am_ck (am_in a1 4) (am_ck (am_in a2 8) ((F_Sheet_put a1.toNatClampNeg a2 (w.1 41 a2.toNatClampNeg) w).bind fun w6 => r43 a1 (a2 + (nI 1)) w6)))
def L_Loc_film_43 : Nat → Int32 → Int32 → am_W → Option (Int32 × am_W)
  | 0, _, _, _ => none
  | n + 1, a1, a2, w => F_Loc_film_43 (L_Loc_film_43 n) a1 a2 w
def F_Loc_film (a1 : Int32) (w : am_W) : Option (Int32 × am_W) :=
  (F_Loc_isSheet a1 w).bind fun q1 => if q1.1 = 0 then (some ((-nI 2), q1.2)) else ((F_Day_run 4 q1.2).bind fun w2 => am_ck (am_in a1 4) ((F_Sheet_become a1.toNatClampNeg (nI 2) (w2.1 1 0) w2).bind fun w4 => L_Loc_film_43 am_NF a1 (nI 0) w4))
theorem T_Loc_film_43 {D : Nat} {o : Int32 × am_W} {r43 : Int32 → Int32 → am_W → Option (Int32 × am_W)} (Hr43 : ∀ (a1 : Int32) (a2 : Int32) (w : am_W) , r43 a1 a2 w = some o → am_gi (D + 3) 107 o (43, [(0, .ref 0), (1, .int a1), (2, .int a2)], [], ww w, 0, 0)) (a1 : Int32) (a2 : Int32) (w : am_W) (H : F_Loc_film_43 r43 a1 a2 w = some o) : am_gi (D + 3) 107 o (43, [(0, .ref 0), (1, .int a1), (2, .int a2)], [], ww w, 0, 0) := by
  unfold F_Loc_film_43 at H
  refine am_go_blk 5 ⟨fun hc => ?_, fun hc => ?_⟩
  · have H := am_it hc H
    show am_gi (D + 3) 107 o (79, [(0, .ref 0)], [], ww w, 0, 0)
    exact am_go_blk 4 ⟨rfl, am_fi H⟩
  · have H := am_ie hc H
    show am_gi (D + 3) 107 o (54, [(0, .ref 0), (1, .int a1), (2, .int a2)], [], ww w, 0, 0)
    obtain ⟨hi5, H⟩ := am_ckE H
    refine am_go_blk 4 ⟨am_inv hi5, am_tv (am_shv (am_inl hi5)) (?_ : am_gi (D + 3) 107 o (60, [(0, .ref 0), (1, .int a1), (2, .int a2)], [.ref (45 + 2 * a1.toNatClampNeg)], ww w, 0, 0))⟩
    obtain ⟨hc, H⟩ := am_ckE H
    refine am_go_blk 6 ⟨am_inv hc, (?_ : am_gi (D + 3) 107 o (70, [(0, .ref 0), (1, .int a1), (2, .int a2)], [.int (w.1 41 a2.toNatClampNeg), .int a2, .ref (45 + 2 * a1.toNatClampNeg)], ww w, 0, 0))⟩
    obtain ⟨w6, hqw6, H⟩ := am_bnE H
    refine am_invd rfl rfl (ww_sheet (am_inl hi5)) rfl (am_callv rfl (M_Sheet_put (D := D + 2) (am_inl hi5) hqw6) (?_ : am_gi (D + 3) 107 o (73, [(0, .ref 0), (1, .int a1), (2, .int a2)], [], ww w6, 0, 0)))
    exact am_go_blk 2 (Hr43 a1 (a2 + (nI 1)) w6 H)
theorem TL_Loc_film_43 {D : Nat} {o : Int32 × am_W} : ∀ (n : Nat) (a1 : Int32) (a2 : Int32) (w : am_W) , L_Loc_film_43 n a1 a2 w = some o → am_gi (D + 3) 107 o (43, [(0, .ref 0), (1, .int a1), (2, .int a2)], [], ww w, 0, 0)
  | 0, _, _, _, H => by cases H
  | n + 1, a1, a2, w, H => T_Loc_film_43 (TL_Loc_film_43 n) a1 a2 w H
theorem T_Loc_film {D : Nat} {o : Int32 × am_W} (a1 : Int32) (w : am_W) (H : F_Loc_film a1 w = some o) : am_gi (D + 3) 107 o (0, [(0, .ref 0), (1, .int a1)], [], ww w, 0, 0) := by
  unfold F_Loc_film at H
  obtain ⟨q1, hqq1, H⟩ := am_bnE H
  refine am_go_blk 1 (?_ : am_gi (D + 3) 107 o (1, [(0, .ref 0), (1, .int a1)], [.int a1], ww w, 0, 0))
  refine am_cls rfl rfl rfl (am_calli rfl (M_Loc_isSheet (D := D + 2) hqq1) (?_ : am_gi (D + 3) 107 o (4, [(0, .ref 0), (1, .int a1)], [.int q1.1], ww q1.2, 0, 0)))
  refine am_go_blk 1 ⟨fun hc => ?_, fun hc => ?_⟩
  · have H := am_ie hc H
    show am_gi (D + 3) 107 o (10, [(0, .ref 0), (1, .int a1)], [], ww q1.2, 0, 0)
    obtain ⟨w2, hqw2, H⟩ := am_bnE H
    refine am_go_blk 5 (?_ : am_gi (D + 3) 107 o (21, [(0, .ref 0), (1, .int a1)], [.ref 4, .ref 40], ww q1.2, 0, 0))
    refine am_invd rfl rfl rfl rfl (am_callv rfl (M_Day_run (D := D) (Or.inl rfl) hqw2) (?_ : am_gi (D + 3) 107 o (24, [(0, .ref 0), (1, .int a1)], [], ww w2, 0, 0)))
    obtain ⟨hi3, H⟩ := am_ckE H
    refine am_go_blk 4 ⟨am_inv hi3, am_tv (am_shv (am_inl hi3)) (?_ : am_gi (D + 3) 107 o (30, [(0, .ref 0), (1, .int a1)], [.ref (45 + 2 * a1.toNatClampNeg)], ww w2, 0, 0))⟩
    obtain ⟨w4, hqw4, H⟩ := am_bnE H
    refine am_go_blk 4 (?_ : am_gi (D + 3) 107 o (38, [(0, .ref 0), (1, .int a1)], [.int (w2.1 1 0), .int (nI 2), .ref (45 + 2 * a1.toNatClampNeg)], ww w2, 0, 0))
    refine am_invd rfl rfl (ww_sheet (am_inl hi3)) rfl (am_callv rfl (M_Sheet_become (D := D + 2) (am_inl hi3) hqw4) (?_ : am_gi (D + 3) 107 o (41, [(0, .ref 0), (1, .int a1)], [], ww w4, 0, 0)))
    exact am_go_blk 2 (TL_Loc_film_43 am_NF a1 (nI 0) w4 H)
  · have H := am_it hc H
    show am_gi (D + 3) 107 o (7, [(0, .ref 0), (1, .int a1)], [], ww q1.2, 0, 0)
    exact am_go_blk 2 ⟨rfl, am_fi H⟩
theorem M_Loc_film {D : Nat} {o : Int32 × am_W} {a1 : Int32} {w : am_W} (H : F_Loc_film a1 w = some o) : am_run (D + 4) 107 [.ref 0, .int a1] (ww w) (some (.int o.1)) (ww o.2) 0 0 :=
  am_run_of rfl (T_Loc_film a1 w H)
def F_Loc_seen_50 (r50 : Int32 → Int32 → am_W → Option (Int32 × am_W)) (a1 : Int32) (a3 : Int32) (w : am_W) : Option (Int32 × am_W) :=
  if (w.1 1 0) ≤ a3 then (some ((-nI 1), w)) else (am_ck (am_in a1 4) (am_ck (am_in a3 40) (am_ck (am_in a3 8) (if (w.1 (46 + 2 * a1.toNatClampNeg) a3.toNatClampNeg) = (w.1 41 a3.toNatClampNeg) then (r50 a1 (a3 + (nI 1)) w) else (some (a3, w))))))
def L_Loc_seen_50 : Nat → Int32 → Int32 → am_W → Option (Int32 × am_W)
  | 0, _, _, _ => none
  | n + 1, a1, a3, w => F_Loc_seen_50 (L_Loc_seen_50 n) a1 a3 w
def F_Loc_seen (a1 : Int32) (w : am_W) : Option (Int32 × am_W) :=
  (F_Loc_refusalOf a1 w).bind fun q1 => if q1.1 = 0 then (am_ck (am_in a1 4) (if (q1.2.1 (45 + 2 * a1.toNatClampNeg) 1) = (q1.2.1 1 0) then ((F_Day_run 4 q1.2).bind fun w3 => L_Loc_seen_50 am_NF a1 (nI 0) w3) else (some ((-nI 2), q1.2)))) else (some (q1.1, q1.2))
theorem T_Loc_seen_50 {D : Nat} {o : Int32 × am_W} {r50 : Int32 → Int32 → am_W → Option (Int32 × am_W)} (Hr50 : ∀ (a1 : Int32) (a3 : Int32) (w : am_W) , r50 a1 a3 w = some o → am_gi (D + 3) 108 o (50, [(0, .ref 0), (1, .int a1), (3, .int a3)], [], ww w, 0, 0)) (a1 : Int32) (a3 : Int32) (w : am_W) (H : F_Loc_seen_50 r50 a1 a3 w = some o) : am_gi (D + 3) 108 o (50, [(0, .ref 0), (1, .int a1), (3, .int a3)], [], ww w, 0, 0) := by
  unfold F_Loc_seen_50 at H
  refine am_go_blk 5 ⟨fun hc => ?_, fun hc => ?_⟩
  · have H := am_it hc H
    show am_gi (D + 3) 108 o (92, [], [], ww w, 0, 0)
    exact am_go_blk 2 ⟨rfl, am_fi H⟩
  · have H := am_ie hc H
    show am_gi (D + 3) 108 o (61, [(0, .ref 0), (1, .int a1), (3, .int a3)], [], ww w, 0, 0)
    obtain ⟨hi4, H⟩ := am_ckE H
    refine am_go_blk 4 ⟨am_inv hi4, am_tv (am_shv (am_inl hi4)) (?_ : am_gi (D + 3) 108 o (67, [(0, .ref 0), (1, .int a1), (3, .int a3)], [.ref (45 + 2 * a1.toNatClampNeg)], ww w, 0, 0))⟩
    refine am_gfd rfl rfl (ww_sheet (am_inl hi4)) rfl (?_ : am_gi (D + 3) 108 o (70, [(0, .ref 0), (1, .int a1), (3, .int a3)], [.ref (46 + 2 * a1.toNatClampNeg)], ww w, 0, 0))
    refine am_go_blk 1 (?_ : am_gi (D + 3) 108 o (71, [(0, .ref 0), (1, .int a1), (3, .int a3)], [.int a3, .ref (46 + 2 * a1.toNatClampNeg)], ww w, 0, 0))
    obtain ⟨hc, H⟩ := am_ckE H
    refine am_iald rfl (ww_numbers (am_inl hi4)) (am_inv hc) (?_ : am_gi (D + 3) 108 o (72, [(0, .ref 0), (1, .int a1), (3, .int a3)], [.int (w.1 (46 + 2 * a1.toNatClampNeg) a3.toNatClampNeg)], ww w, 0, 0))
    obtain ⟨hc, H⟩ := am_ckE H
    refine am_go_blk 5 ⟨am_inv hc, (?_ : am_gi (D + 3) 108 o (81, [(0, .ref 0), (1, .int a1), (3, .int a3)], [.int (w.1 41 a3.toNatClampNeg), .int (w.1 (46 + 2 * a1.toNatClampNeg) a3.toNatClampNeg)], ww w, 0, 0))⟩
    refine am_go_blk 1 ⟨fun hc => ?_, fun hc => ?_⟩
    · have H := am_it hc H
      show am_gi (D + 3) 108 o (86, [(0, .ref 0), (1, .int a1), (3, .int a3)], [], ww w, 0, 0)
      exact am_go_blk 2 (Hr50 a1 (a3 + (nI 1)) w H)
    · have H := am_ie hc H
      show am_gi (D + 3) 108 o (84, [(0, .ref 0), (1, .int a1), (3, .int a3)], [], ww w, 0, 0)
      exact am_go_blk 2 ⟨rfl, am_fi H⟩
theorem TL_Loc_seen_50 {D : Nat} {o : Int32 × am_W} : ∀ (n : Nat) (a1 : Int32) (a3 : Int32) (w : am_W) , L_Loc_seen_50 n a1 a3 w = some o → am_gi (D + 3) 108 o (50, [(0, .ref 0), (1, .int a1), (3, .int a3)], [], ww w, 0, 0)
  | 0, _, _, _, H => by cases H
  | n + 1, a1, a3, w, H => T_Loc_seen_50 (TL_Loc_seen_50 n) a1 a3 w H
theorem T_Loc_seen {D : Nat} {o : Int32 × am_W} (a1 : Int32) (w : am_W) (H : F_Loc_seen a1 w = some o) : am_gi (D + 3) 108 o (0, [(0, .ref 0), (1, .int a1)], [], ww w, 0, 0) := by
  unfold F_Loc_seen at H
  obtain ⟨q1, hqq1, H⟩ := am_bnE H
  refine am_go_blk 2 (?_ : am_gi (D + 3) 108 o (2, [(0, .ref 0), (1, .int a1)], [.int a1, .ref 0], ww w, 0, 0))
  refine am_invd rfl rfl rfl rfl (am_calli rfl (M_Loc_refusalOf (D := D + 1) hqq1) (?_ : am_gi (D + 3) 108 o (5, [(0, .ref 0), (1, .int a1)], [.int q1.1], ww q1.2, 0, 0)))
  refine am_go_blk 3 ⟨fun hc => ?_, fun hc => ?_⟩
  · have H := am_it hc H
    show am_gi (D + 3) 108 o (12, [(0, .ref 0), (1, .int a1)], [], ww q1.2, 0, 0)
    obtain ⟨hi2, H⟩ := am_ckE H
    refine am_go_blk 4 ⟨am_inv hi2, am_tv (am_shv (am_inl hi2)) (?_ : am_gi (D + 3) 108 o (18, [(0, .ref 0), (1, .int a1)], [.ref (45 + 2 * a1.toNatClampNeg)], ww q1.2, 0, 0))⟩
    refine am_gfd rfl rfl (ww_sheet (am_inl hi2)) rfl (?_ : am_gi (D + 3) 108 o (21, [(0, .ref 0), (1, .int a1)], [.int (q1.2.1 (45 + 2 * a1.toNatClampNeg) 1)], ww q1.2, 0, 0))
    refine am_go_blk 4 ⟨fun hc => ?_, fun hc => ?_⟩
    · have H := am_it hc H
      show am_gi (D + 3) 108 o (34, [(0, .ref 0), (1, .int a1)], [], ww q1.2, 0, 0)
      obtain ⟨w3, hqw3, H⟩ := am_bnE H
      refine am_go_blk 5 (?_ : am_gi (D + 3) 108 o (45, [(0, .ref 0), (1, .int a1)], [.ref 4, .ref 40], ww q1.2, 0, 0))
      refine am_invd rfl rfl rfl rfl (am_callv rfl (M_Day_run (D := D) (Or.inl rfl) hqw3) (?_ : am_gi (D + 3) 108 o (48, [(0, .ref 0), (1, .int a1)], [], ww w3, 0, 0)))
      exact am_go_blk 2 (TL_Loc_seen_50 am_NF a1 (nI 0) w3 H)
    · have H := am_ie hc H
      show am_gi (D + 3) 108 o (31, [(0, .ref 0), (1, .int a1)], [], ww q1.2, 0, 0)
      exact am_go_blk 2 ⟨rfl, am_fi H⟩
  · have H := am_ie hc H
    show am_gi (D + 3) 108 o (10, [(2, .int q1.1), (0, .ref 0), (1, .int a1)], [], ww q1.2, 0, 0)
    exact am_go_blk 2 ⟨rfl, am_fi H⟩
theorem M_Loc_seen {D : Nat} {o : Int32 × am_W} {a1 : Int32} {w : am_W} (H : F_Loc_seen a1 w = some o) : am_run (D + 4) 108 [.ref 0, .int a1] (ww w) (some (.int o.1)) (ww o.2) 0 0 :=
  am_run_of rfl (T_Loc_seen a1 w H)
def F_Day_draw_8 (r8 : Nat → Int64 → Int32 → am_W → Option (am_W)) (p2 : Nat) (a3 : Int64) (a5 : Int32) (w : am_W) : Option (am_W) :=
  if (w.1 1 0) ≤ a5 then (some w) else (am_ck (am_in a5 8) (am_lt (wst w p2 a5 ((((a3 * (lN 48271)) - (a3 * (lN 48271)) / (lN 2147483647) * (lN 2147483647)) - ((a3 * (lN 48271)) - (a3 * (lN 48271)) / (lN 2147483647) * (lN 2147483647)) / (lN 24) * (lN 24)).toInt32)) fun w1 => r8 p2 ((a3 * (lN 48271)) - (a3 * (lN 48271)) / (lN 2147483647) * (lN 2147483647)) (a5 + (nI 1)) w1))
def L_Day_draw_8 : Nat → Nat → Int64 → Int32 → am_W → Option (am_W)
  | 0, _, _, _, _ => none
  | n + 1, p2, a3, a5, w => F_Day_draw_8 (L_Day_draw_8 n) p2 a3 a5 w
def F_Day_draw (a1 : Int32) (p2 : Nat) (w : am_W) : Option (am_W) :=
  L_Day_draw_8 am_NF p2 (a1.toInt64 + (lN 1)) (nI 0) w
theorem T_Day_draw_8 {D : Nat} {o : am_W} {r8 : Nat → Int64 → Int32 → am_W → Option (am_W)} (Hr8 : ∀ (p2 : Nat) (a3 : Int64) (a5 : Int32) (w : am_W) (hp2 : (p2 = 4 ∨ p2 = 43)), r8 p2 a3 a5 w = some o → am_gv D 4 o (8, [(0, .ref 40), (2, .ref p2), (3, .long a3), (5, .int a5)], [], ww w, 0, 0)) (p2 : Nat) (a3 : Int64) (a5 : Int32) (w : am_W) (hp2 : (p2 = 4 ∨ p2 = 43)) (H : F_Day_draw_8 r8 p2 a3 a5 w = some o) : am_gv D 4 o (8, [(0, .ref 40), (2, .ref p2), (3, .long a3), (5, .int a5)], [], ww w, 0, 0) := by
  unfold F_Day_draw_8 at H
  refine am_go_blk 5 ⟨fun hc => ?_, fun hc => ?_⟩
  · have H := am_it hc H
    show am_gv D 4 o (46, [], [], ww w, 0, 0)
    exact am_go_blk 1 (am_fv H)
  · have H := am_ie hc H
    show am_gv D 4 o (20, [(0, .ref 40), (2, .ref p2), (3, .long a3), (5, .int a5)], [], ww w, 0, 0)
    refine am_go_blk 5 ⟨by decide, (?_ : am_gv D 4 o (29, [(0, .ref 40), (2, .ref p2), (3, .long a3), (5, .int a5)], [.long ((a3 * (lN 48271)) - (a3 * (lN 48271)) / (lN 2147483647) * (lN 2147483647))], ww w, 0, 0))⟩
    refine am_go_blk 6 ⟨by decide, (?_ : am_gv D 4 o (38, [(3, .long ((a3 * (lN 48271)) - (a3 * (lN 48271)) / (lN 2147483647) * (lN 2147483647))), (0, .ref 40), (2, .ref p2), (5, .int a5)], [.long (((a3 * (lN 48271)) - (a3 * (lN 48271)) / (lN 2147483647) * (lN 2147483647)) - ((a3 * (lN 48271)) - (a3 * (lN 48271)) / (lN 2147483647) * (lN 2147483647)) / (lN 24) * (lN 24)), .int a5, .ref p2], ww w, 0, 0))⟩
    refine am_go_blk 1 (?_ : am_gv D 4 o (39, [(3, .long ((a3 * (lN 48271)) - (a3 * (lN 48271)) / (lN 2147483647) * (lN 2147483647))), (0, .ref 40), (2, .ref p2), (5, .int a5)], [.int ((((a3 * (lN 48271)) - (a3 * (lN 48271)) / (lN 2147483647) * (lN 2147483647)) - ((a3 * (lN 48271)) - (a3 * (lN 48271)) / (lN 2147483647) * (lN 2147483647)) / (lN 24) * (lN 24)).toInt32), .int a5, .ref p2], ww w, 0, 0))
    obtain ⟨hc, H⟩ := am_ckE H
    obtain ⟨w1, ew1, H⟩ := am_ltE H
    refine am_iasd rfl (ww_hrs hp2) (am_inv hc) (ww_hrs_s hp2 ew1) (?_ : am_gv D 4 o (40, [(3, .long ((a3 * (lN 48271)) - (a3 * (lN 48271)) / (lN 2147483647) * (lN 2147483647))), (0, .ref 40), (2, .ref p2), (5, .int a5)], [], ww w1, 0, 0))
    exact am_go_blk 2 (Hr8 p2 ((a3 * (lN 48271)) - (a3 * (lN 48271)) / (lN 2147483647) * (lN 2147483647)) (a5 + (nI 1)) w1 hp2 H)
theorem TL_Day_draw_8 {D : Nat} {o : am_W} : ∀ (n : Nat) (p2 : Nat) (a3 : Int64) (a5 : Int32) (w : am_W) (hp2 : (p2 = 4 ∨ p2 = 43)), L_Day_draw_8 n p2 a3 a5 w = some o → am_gv D 4 o (8, [(0, .ref 40), (2, .ref p2), (3, .long a3), (5, .int a5)], [], ww w, 0, 0)
  | 0, _, _, _, _, _, H => by cases H
  | n + 1, p2, a3, a5, w, hp2, H => T_Day_draw_8 (TL_Day_draw_8 n) p2 a3 a5 w hp2 H
theorem T_Day_draw {D : Nat} {o : am_W} (a1 : Int32) (p2 : Nat) (w : am_W) (hp2 : (p2 = 4 ∨ p2 = 43)) (H : F_Day_draw a1 p2 w = some o) : am_gv D 4 o (0, [(0, .ref 40), (1, .int a1), (2, .ref p2)], [], ww w, 0, 0) := by
  unfold F_Day_draw at H
  exact am_go_blk 7 (TL_Day_draw_8 am_NF p2 (a1.toInt64 + (lN 1)) (nI 0) w hp2 H)
theorem M_Day_draw {D : Nat} {o : am_W} {a1 : Int32} {p2 : Nat} {w : am_W} (hp2 : (p2 = 4 ∨ p2 = 43)) (H : F_Day_draw a1 p2 w = some o) : am_run (D + 1) 4 [.ref 40, .int a1, .ref p2] (ww w) none (ww o) 0 0 :=
  am_run_of rfl (T_Day_draw a1 p2 w hp2 H)
def F_Loc_drawn_25 (w : am_W) : Option (Int32 × am_W) :=
  some ((-nI 7), w)
def F_Loc_drawn (a1 : Int32) (a2 : Int32) (w : am_W) : Option (Int32 × am_W) :=
  (F_Rail_isThing a2 w).bind fun q1 => if q1.1 = 0 then (some ((-nI 5), q1.2)) else (if a1 < 0 then (F_Loc_drawn_25 q1.2) else (if a1 ≤ (nI 99999) then ((F_Rail_isGone a2 q1.2).bind fun q2 => if q2.1 = 0 then ((F_Day_draw a1 43 q2.2).bind fun w3 => (F_Day_run 43 w3).bind fun w4 => am_ck (am_in a2 8) (some ((w4.1 41 a2.toNatClampNeg), w4))) else (some ((-nI 3), q2.2))) else (F_Loc_drawn_25 q1.2)))
theorem T_Loc_drawn_25 {D : Nat} {o : Int32 × am_W} (w : am_W) (H : F_Loc_drawn_25 w = some o) : am_gi (D + 3) 109 o (25, [], [], ww w, 0, 0) := by
  unfold F_Loc_drawn_25 at H
  exact am_go_blk 2 ⟨rfl, am_fi H⟩
theorem T_Loc_drawn {D : Nat} {o : Int32 × am_W} (a1 : Int32) (a2 : Int32) (w : am_W) (H : F_Loc_drawn a1 a2 w = some o) : am_gi (D + 3) 109 o (0, [(0, .ref 0), (1, .int a1), (2, .int a2)], [], ww w, 0, 0) := by
  unfold F_Loc_drawn at H
  obtain ⟨q1, hqq1, H⟩ := am_bnE H
  refine am_go_blk 3 (?_ : am_gi (D + 3) 109 o (5, [(0, .ref 0), (1, .int a1), (2, .int a2)], [.int a2, .ref 1], ww w, 0, 0))
  refine am_invd rfl rfl rfl rfl (am_calli rfl (M_Rail_isThing (D := D + 2) hqq1) (?_ : am_gi (D + 3) 109 o (8, [(0, .ref 0), (1, .int a1), (2, .int a2)], [.int q1.1], ww q1.2, 0, 0)))
  refine am_go_blk 1 ⟨fun hc => ?_, fun hc => ?_⟩
  · have H := am_ie hc H
    show am_gi (D + 3) 109 o (14, [(0, .ref 0), (1, .int a1), (2, .int a2)], [], ww q1.2, 0, 0)
    refine am_go_blk 2 ⟨fun hc => ?_, fun hc => ?_⟩
    · have H := am_it hc H
      exact T_Loc_drawn_25 q1.2 H
    · have H := am_ie hc H
      show am_gi (D + 3) 109 o (18, [(0, .ref 0), (1, .int a1), (2, .int a2)], [], ww q1.2, 0, 0)
      refine am_go_blk 3 ⟨fun hc => ?_, fun hc => ?_⟩
      · have H := am_it hc H
        show am_gi (D + 3) 109 o (28, [(0, .ref 0), (1, .int a1), (2, .int a2)], [], ww q1.2, 0, 0)
        obtain ⟨q2, hqq2, H⟩ := am_bnE H
        refine am_go_blk 3 (?_ : am_gi (D + 3) 109 o (33, [(0, .ref 0), (1, .int a1), (2, .int a2)], [.int a2, .ref 1], ww q1.2, 0, 0))
        refine am_invd rfl rfl rfl rfl (am_calli rfl (M_Rail_isGone (D := D + 1) hqq2) (?_ : am_gi (D + 3) 109 o (36, [(0, .ref 0), (1, .int a1), (2, .int a2)], [.int q2.1], ww q2.2, 0, 0)))
        refine am_go_blk 1 ⟨fun hc => ?_, fun hc => ?_⟩
        · have H := am_it hc H
          show am_gi (D + 3) 109 o (42, [(0, .ref 0), (1, .int a1), (2, .int a2)], [], ww q2.2, 0, 0)
          obtain ⟨w3, hqw3, H⟩ := am_bnE H
          refine am_go_blk 5 (?_ : am_gi (D + 3) 109 o (51, [(0, .ref 0), (1, .int a1), (2, .int a2)], [.ref 43, .int a1, .ref 40], ww q2.2, 0, 0))
          refine am_invd rfl rfl rfl rfl (am_callv rfl (M_Day_draw (D := D + 2) (Or.inr rfl) hqw3) (?_ : am_gi (D + 3) 109 o (54, [(0, .ref 0), (1, .int a1), (2, .int a2)], [], ww w3, 0, 0)))
          obtain ⟨w4, hqw4, H⟩ := am_bnE H
          refine am_go_blk 4 (?_ : am_gi (D + 3) 109 o (62, [(0, .ref 0), (1, .int a1), (2, .int a2)], [.ref 43, .ref 40], ww w3, 0, 0))
          refine am_invd rfl rfl rfl rfl (am_callv rfl (M_Day_run (D := D) (Or.inr rfl) hqw4) (?_ : am_gi (D + 3) 109 o (65, [(0, .ref 0), (1, .int a1), (2, .int a2)], [], ww w4, 0, 0)))
          obtain ⟨hc, H⟩ := am_ckE H
          refine am_go_blk 5 ⟨am_inv hc, (?_ : am_gi (D + 3) 109 o (74, [(0, .ref 0), (1, .int a1), (2, .int a2)], [.int (w4.1 41 a2.toNatClampNeg)], ww w4, 0, 0))⟩
          exact am_go_blk 1 ⟨rfl, am_fi H⟩
        · have H := am_ie hc H
          show am_gi (D + 3) 109 o (39, [(0, .ref 0), (1, .int a1), (2, .int a2)], [], ww q2.2, 0, 0)
          exact am_go_blk 2 ⟨rfl, am_fi H⟩
      · have H := am_ie hc H
        exact T_Loc_drawn_25 q1.2 H
  · have H := am_it hc H
    show am_gi (D + 3) 109 o (11, [(0, .ref 0), (1, .int a1), (2, .int a2)], [], ww q1.2, 0, 0)
    exact am_go_blk 2 ⟨rfl, am_fi H⟩
theorem M_Loc_drawn {D : Nat} {o : Int32 × am_W} {a1 : Int32} {a2 : Int32} {w : am_W} (H : F_Loc_drawn a1 a2 w = some o) : am_run (D + 4) 109 [.ref 0, .int a1, .int a2] (ww w) (some (.int o.1)) (ww o.2) 0 0 :=
  am_run_of rfl (T_Loc_drawn a1 a2 w H)
def F_Loc_commonDivisor_21 (r2 : Int32 → Int32 → Int32 → am_W → Option (Int32 × am_W)) (a0 : Int32) (a1 : Int32) (a2 : Int32) (w : am_W) : Option (Int32 × am_W) :=
  r2 a0 a1 (a2 + (-nI 1)) w
def F_Loc_commonDivisor_2 (r2 : Int32 → Int32 → Int32 → am_W → Option (Int32 × am_W)) (a0 : Int32) (a1 : Int32) (a2 : Int32) (w : am_W) : Option (Int32 × am_W) :=
  if a2 ≤ (nI 1) then (some ((nI 1), w)) else (if a2 = 0 then none else (if (a0 - a0 / a2 * a2) = 0 then (if a2 = 0 then none else (if (a1 - a1 / a2 * a2) = 0 then (some (a2, w)) else (F_Loc_commonDivisor_21 r2 a0 a1 a2 w))) else (F_Loc_commonDivisor_21 r2 a0 a1 a2 w)))
def L_Loc_commonDivisor_2 : Nat → Int32 → Int32 → Int32 → am_W → Option (Int32 × am_W)
  | 0, _, _, _, _ => none
  | n + 1, a0, a1, a2, w => F_Loc_commonDivisor_2 (L_Loc_commonDivisor_2 n) a0 a1 a2 w
def F_Loc_commonDivisor (a0 : Int32) (a1 : Int32) (w : am_W) : Option (Int32 × am_W) :=
  L_Loc_commonDivisor_2 am_NF a0 a1 a0 w
theorem T_Loc_commonDivisor_21 {D : Nat} {o : Int32 × am_W} {r2 : Int32 → Int32 → Int32 → am_W → Option (Int32 × am_W)} (Hr2 : ∀ (a0 : Int32) (a1 : Int32) (a2 : Int32) (w : am_W) , r2 a0 a1 a2 w = some o → am_gi D 135 o (2, [(0, .int a0), (1, .int a1), (2, .int a2)], [], ww w, 0, 0)) (a0 : Int32) (a1 : Int32) (a2 : Int32) (w : am_W) (H : F_Loc_commonDivisor_21 r2 a0 a1 a2 w = some o) : am_gi D 135 o (21, [(0, .int a0), (1, .int a1), (2, .int a2)], [], ww w, 0, 0) := by
  unfold F_Loc_commonDivisor_21 at H
  exact am_go_blk 2 (Hr2 a0 a1 (a2 + (-nI 1)) w H)
theorem T_Loc_commonDivisor_2 {D : Nat} {o : Int32 × am_W} {r2 : Int32 → Int32 → Int32 → am_W → Option (Int32 × am_W)} (Hr2 : ∀ (a0 : Int32) (a1 : Int32) (a2 : Int32) (w : am_W) , r2 a0 a1 a2 w = some o → am_gi D 135 o (2, [(0, .int a0), (1, .int a1), (2, .int a2)], [], ww w, 0, 0)) (a0 : Int32) (a1 : Int32) (a2 : Int32) (w : am_W) (H : F_Loc_commonDivisor_2 r2 a0 a1 a2 w = some o) : am_gi D 135 o (2, [(0, .int a0), (1, .int a1), (2, .int a2)], [], ww w, 0, 0) := by
  unfold F_Loc_commonDivisor_2 at H
  refine am_go_blk 3 ⟨fun hc => ?_, fun hc => ?_⟩
  · have H := am_it hc H
    show am_gi D 135 o (27, [], [], ww w, 0, 0)
    exact am_go_blk 2 ⟨rfl, am_fi H⟩
  · have H := am_ie hc H
    show am_gi D 135 o (7, [(0, .int a0), (1, .int a1), (2, .int a2)], [], ww w, 0, 0)
    obtain ⟨hc, H⟩ := am_inE H
    refine am_go_blk 3 ⟨hc, (?_ : am_gi D 135 o (10, [(0, .int a0), (1, .int a1), (2, .int a2)], [.int (a0 - a0 / a2 * a2)], ww w, 0, 0))⟩
    refine am_go_blk 1 ⟨fun hc => ?_, fun hc => ?_⟩
    · have H := am_ie hc H
      exact T_Loc_commonDivisor_21 Hr2 a0 a1 a2 w H
    · have H := am_it hc H
      show am_gi D 135 o (13, [(0, .int a0), (1, .int a1), (2, .int a2)], [], ww w, 0, 0)
      obtain ⟨hc, H⟩ := am_inE H
      refine am_go_blk 3 ⟨hc, (?_ : am_gi D 135 o (16, [(0, .int a0), (1, .int a1), (2, .int a2)], [.int (a1 - a1 / a2 * a2)], ww w, 0, 0))⟩
      refine am_go_blk 1 ⟨fun hc => ?_, fun hc => ?_⟩
      · have H := am_ie hc H
        exact T_Loc_commonDivisor_21 Hr2 a0 a1 a2 w H
      · have H := am_it hc H
        show am_gi D 135 o (19, [(0, .int a0), (1, .int a1), (2, .int a2)], [], ww w, 0, 0)
        exact am_go_blk 2 ⟨rfl, am_fi H⟩
theorem TL_Loc_commonDivisor_2 {D : Nat} {o : Int32 × am_W} : ∀ (n : Nat) (a0 : Int32) (a1 : Int32) (a2 : Int32) (w : am_W) , L_Loc_commonDivisor_2 n a0 a1 a2 w = some o → am_gi D 135 o (2, [(0, .int a0), (1, .int a1), (2, .int a2)], [], ww w, 0, 0)
  | 0, _, _, _, _, H => by cases H
  | n + 1, a0, a1, a2, w, H => T_Loc_commonDivisor_2 (TL_Loc_commonDivisor_2 n) a0 a1 a2 w H
theorem T_Loc_commonDivisor {D : Nat} {o : Int32 × am_W} (a0 : Int32) (a1 : Int32) (w : am_W) (H : F_Loc_commonDivisor a0 a1 w = some o) : am_gi D 135 o (0, [(0, .int a0), (1, .int a1)], [], ww w, 0, 0) := by
  unfold F_Loc_commonDivisor at H
  exact am_go_blk 2 (TL_Loc_commonDivisor_2 am_NF a0 a1 a0 w H)
theorem M_Loc_commonDivisor {D : Nat} {o : Int32 × am_W} {a0 : Int32} {a1 : Int32} {w : am_W} (H : F_Loc_commonDivisor a0 a1 w = some o) : am_run (D + 1) 135 [.int a0, .int a1] (ww w) (some (.int o.1)) (ww o.2) 0 0 :=
  am_run_of rfl (T_Loc_commonDivisor a0 a1 w H)
def F_Loc_odds_30 (w : am_W) : Option (Int64 × am_W) :=
  some ((-lN 4611686018427387904), w)
def F_Loc_odds_70 (w : am_W) : Option (Int64 × am_W) :=
  some ((-lN 4611686018427387904), w)
def F_Loc_odds_176 (s0 : Int64) (w : am_W) : Option (Int64 × am_W) :=
  some (s0, w)
def F_Loc_odds_143 (r80 : Int32 → Int32 → Int32 → Int32 → Int32 → Int32 → Int32 → am_W → Option (Int64 × am_W)) (a1 : Int32) (a2 : Int32) (a4 : Int32) (a5 : Int32) (a6 : Int32) (a7 : Int32) (a8 : Int32) (w : am_W) : Option (Int64 × am_W) :=
  r80 a1 a2 a4 a5 a6 a7 (a8 + (nI 1)) w
def F_Loc_odds_80 (r80 : Int32 → Int32 → Int32 → Int32 → Int32 → Int32 → Int32 → am_W → Option (Int64 × am_W)) (a1 : Int32) (a2 : Int32) (a4 : Int32) (a5 : Int32) (a6 : Int32) (a7 : Int32) (a8 : Int32) (w : am_W) : Option (Int64 × am_W) :=
  if a2 ≤ a8 then ((F_Loc_commonDivisor a2 a7 w).bind fun q4 => if a4 = 0 then (if q4.1 = 0 then none else (F_Loc_odds_176 ((a7 / q4.1).toInt64) q4.2)) else (if q4.1 = 0 then none else (F_Loc_odds_176 ((a2 / q4.1).toInt64) q4.2))) else ((F_Day_draw (a1 + a8) 43 w).bind fun w5 => (F_Day_run 43 w5).bind fun w6 => am_ck (am_in a5 8) (if (w6.1 41 a5.toNatClampNeg) < 0 then (F_Loc_odds_143 r80 a1 a2 a4 a5 a6 a7 a8 w6) else (am_ck (am_in a5 8) (if a6 < (w6.1 41 a5.toNatClampNeg) then (F_Loc_odds_143 r80 a1 a2 a4 a5 a6 a7 a8 w6) else (F_Loc_odds_143 r80 a1 a2 a4 a5 a6 (a7 + (nI 1)) a8 w6)))))
def L_Loc_odds_80 : Nat → Int32 → Int32 → Int32 → Int32 → Int32 → Int32 → Int32 → am_W → Option (Int64 × am_W)
  | 0, _, _, _, _, _, _, _, _ => none
  | n + 1, a1, a2, a4, a5, a6, a7, a8, w => F_Loc_odds_80 (L_Loc_odds_80 n) a1 a2 a4 a5 a6 a7 a8 w
def F_Loc_odds (a1 : Int32) (a2 : Int32) (a3 : Int32) (a4 : Int32) (w : am_W) : Option (Int64 × am_W) :=
  if a1 < 0 then (F_Loc_odds_30 w) else (if (nI 99999) < a1 then (F_Loc_odds_30 w) else (if a2 < (nI 1) then (F_Loc_odds_30 w) else (if (nI 40) < a2 then (F_Loc_odds_30 w) else ((F_Loc_isEither a4 w).bind fun q1 => if q1.1 = 0 then (F_Loc_odds_30 q1.2) else (if a3 < 0 then (F_Loc_odds_70 q1.2) else ((F_Rail_isThing (a3 / (nI 100)) q1.2).bind fun q2 => if q2.1 = 0 then (F_Loc_odds_70 q2.2) else ((F_Loc_isHour (a3 - a3 / (nI 100) * (nI 100)) q2.2).bind fun q3 => if q3.1 = 0 then (F_Loc_odds_70 q3.2) else (L_Loc_odds_80 am_NF a1 a2 a4 (a3 / (nI 100)) (a3 - a3 / (nI 100) * (nI 100)) (nI 0) (nI 0) q3.2))))))))
theorem T_Loc_odds_30 {D : Nat} {o : Int64 × am_W} (w : am_W) (H : F_Loc_odds_30 w = some o) : am_gj (D + 3) 110 o (30, [], [], ww w, 0, 0) := by
  unfold F_Loc_odds_30 at H
  exact am_go_blk 2 (am_fj H)
theorem T_Loc_odds_70 {D : Nat} {o : Int64 × am_W} (w : am_W) (H : F_Loc_odds_70 w = some o) : am_gj (D + 3) 110 o (70, [], [], ww w, 0, 0) := by
  unfold F_Loc_odds_70 at H
  exact am_go_blk 2 (am_fj H)
theorem T_Loc_odds_176 {D : Nat} {o : Int64 × am_W} (s0 : Int64) (w : am_W) (H : F_Loc_odds_176 s0 w = some o) : am_gj (D + 3) 110 o (176, [], [.long s0], ww w, 0, 0) := by
  unfold F_Loc_odds_176 at H
  exact am_go_blk 1 (am_fj H)
theorem T_Loc_odds_143 {D : Nat} {o : Int64 × am_W} {r80 : Int32 → Int32 → Int32 → Int32 → Int32 → Int32 → Int32 → am_W → Option (Int64 × am_W)} (Hr80 : ∀ (a1 : Int32) (a2 : Int32) (a4 : Int32) (a5 : Int32) (a6 : Int32) (a7 : Int32) (a8 : Int32) (w : am_W) , r80 a1 a2 a4 a5 a6 a7 a8 w = some o → am_gj (D + 3) 110 o (80, [(0, .ref 0), (1, .int a1), (2, .int a2), (4, .int a4), (5, .int a5), (6, .int a6), (7, .int a7), (8, .int a8)], [], ww w, 0, 0)) (a1 : Int32) (a2 : Int32) (a4 : Int32) (a5 : Int32) (a6 : Int32) (a7 : Int32) (a8 : Int32) (w : am_W) (H : F_Loc_odds_143 r80 a1 a2 a4 a5 a6 a7 a8 w = some o) : am_gj (D + 3) 110 o (143, [(0, .ref 0), (1, .int a1), (2, .int a2), (4, .int a4), (5, .int a5), (6, .int a6), (7, .int a7), (8, .int a8)], [], ww w, 0, 0) := by
  unfold F_Loc_odds_143 at H
  exact am_go_blk 2 (Hr80 a1 a2 a4 a5 a6 a7 (a8 + (nI 1)) w H)
theorem T_Loc_odds_80 {D : Nat} {o : Int64 × am_W} {r80 : Int32 → Int32 → Int32 → Int32 → Int32 → Int32 → Int32 → am_W → Option (Int64 × am_W)} (Hr80 : ∀ (a1 : Int32) (a2 : Int32) (a4 : Int32) (a5 : Int32) (a6 : Int32) (a7 : Int32) (a8 : Int32) (w : am_W) , r80 a1 a2 a4 a5 a6 a7 a8 w = some o → am_gj (D + 3) 110 o (80, [(0, .ref 0), (1, .int a1), (2, .int a2), (4, .int a4), (5, .int a5), (6, .int a6), (7, .int a7), (8, .int a8)], [], ww w, 0, 0)) (a1 : Int32) (a2 : Int32) (a4 : Int32) (a5 : Int32) (a6 : Int32) (a7 : Int32) (a8 : Int32) (w : am_W) (H : F_Loc_odds_80 r80 a1 a2 a4 a5 a6 a7 a8 w = some o) : am_gj (D + 3) 110 o (80, [(0, .ref 0), (1, .int a1), (2, .int a2), (4, .int a4), (5, .int a5), (6, .int a6), (7, .int a7), (8, .int a8)], [], ww w, 0, 0) := by
  unfold F_Loc_odds_80 at H
  refine am_go_blk 3 ⟨fun hc => ?_, fun hc => ?_⟩
  · have H := am_it hc H
    show am_gj (D + 3) 110 o (149, [(2, .int a2), (4, .int a4), (7, .int a7)], [], ww w, 0, 0)
    obtain ⟨q4, hqq4, H⟩ := am_bnE H
    refine am_go_blk 2 (?_ : am_gj (D + 3) 110 o (152, [(2, .int a2), (4, .int a4), (7, .int a7)], [.int a7, .int a2], ww w, 0, 0))
    refine am_cls rfl rfl rfl (am_calli rfl (M_Loc_commonDivisor (D := D + 2) hqq4) (?_ : am_gj (D + 3) 110 o (155, [(2, .int a2), (4, .int a4), (7, .int a7)], [.int q4.1], ww q4.2, 0, 0)))
    refine am_go_blk 3 ⟨fun hc => ?_, fun hc => ?_⟩
    · have H := am_ie hc H
      show am_gj (D + 3) 110 o (171, [(2, .int a2), (8, .int q4.1)], [], ww q4.2, 0, 0)
      obtain ⟨hc, H⟩ := am_inE H
      refine am_go_blk 3 ⟨hc, (?_ : am_gj (D + 3) 110 o (175, [(2, .int a2), (8, .int q4.1)], [.int (a2 / q4.1)], ww q4.2, 0, 0))⟩
      exact am_go_blk 1 (T_Loc_odds_176 ((a2 / q4.1).toInt64) q4.2 H)
    · have H := am_it hc H
      show am_gj (D + 3) 110 o (162, [(8, .int q4.1), (2, .int a2), (4, .int a4), (7, .int a7)], [], ww q4.2, 0, 0)
      obtain ⟨hc, H⟩ := am_inE H
      refine am_go_blk 3 ⟨hc, (?_ : am_gj (D + 3) 110 o (167, [(8, .int q4.1), (2, .int a2), (4, .int a4), (7, .int a7)], [.int (a7 / q4.1)], ww q4.2, 0, 0))⟩
      exact am_go_blk 2 (T_Loc_odds_176 ((a7 / q4.1).toInt64) q4.2 H)
  · have H := am_ie hc H
    show am_gj (D + 3) 110 o (86, [(0, .ref 0), (1, .int a1), (2, .int a2), (4, .int a4), (5, .int a5), (6, .int a6), (7, .int a7), (8, .int a8)], [], ww w, 0, 0)
    obtain ⟨w5, hqw5, H⟩ := am_bnE H
    refine am_go_blk 7 (?_ : am_gj (D + 3) 110 o (98, [(0, .ref 0), (1, .int a1), (2, .int a2), (4, .int a4), (5, .int a5), (6, .int a6), (7, .int a7), (8, .int a8)], [.ref 43, .int (a1 + a8), .ref 40], ww w, 0, 0))
    refine am_invd rfl rfl rfl rfl (am_callv rfl (M_Day_draw (D := D + 2) (Or.inr rfl) hqw5) (?_ : am_gj (D + 3) 110 o (101, [(0, .ref 0), (1, .int a1), (2, .int a2), (4, .int a4), (5, .int a5), (6, .int a6), (7, .int a7), (8, .int a8)], [], ww w5, 0, 0)))
    obtain ⟨w6, hqw6, H⟩ := am_bnE H
    refine am_go_blk 4 (?_ : am_gj (D + 3) 110 o (109, [(0, .ref 0), (1, .int a1), (2, .int a2), (4, .int a4), (5, .int a5), (6, .int a6), (7, .int a7), (8, .int a8)], [.ref 43, .ref 40], ww w5, 0, 0))
    refine am_invd rfl rfl rfl rfl (am_callv rfl (M_Day_run (D := D) (Or.inr rfl) hqw6) (?_ : am_gj (D + 3) 110 o (112, [(0, .ref 0), (1, .int a1), (2, .int a2), (4, .int a4), (5, .int a5), (6, .int a6), (7, .int a7), (8, .int a8)], [], ww w6, 0, 0)))
    obtain ⟨hc, H⟩ := am_ckE H
    refine am_go_blk 5 ⟨am_inv hc, (?_ : am_gj (D + 3) 110 o (122, [(0, .ref 0), (1, .int a1), (2, .int a2), (4, .int a4), (5, .int a5), (6, .int a6), (7, .int a7), (8, .int a8)], [.int (w6.1 41 a5.toNatClampNeg)], ww w6, 0, 0))⟩
    refine am_go_blk 1 ⟨fun hc => ?_, fun hc => ?_⟩
    · have H := am_it hc H
      exact T_Loc_odds_143 Hr80 a1 a2 a4 a5 a6 a7 a8 w6 H
    · have H := am_ie hc H
      show am_gj (D + 3) 110 o (125, [(0, .ref 0), (1, .int a1), (2, .int a2), (4, .int a4), (5, .int a5), (6, .int a6), (7, .int a7), (8, .int a8)], [], ww w6, 0, 0)
      obtain ⟨hc, H⟩ := am_ckE H
      refine am_go_blk 5 ⟨am_inv hc, (?_ : am_gj (D + 3) 110 o (135, [(0, .ref 0), (1, .int a1), (2, .int a2), (4, .int a4), (5, .int a5), (6, .int a6), (7, .int a7), (8, .int a8)], [.int (w6.1 41 a5.toNatClampNeg)], ww w6, 0, 0))⟩
      refine am_go_blk 2 ⟨fun hc => ?_, fun hc => ?_⟩
      · have H := am_it hc H
        exact T_Loc_odds_143 Hr80 a1 a2 a4 a5 a6 a7 a8 w6 H
      · have H := am_ie hc H
        show am_gj (D + 3) 110 o (140, [(0, .ref 0), (1, .int a1), (2, .int a2), (4, .int a4), (5, .int a5), (6, .int a6), (7, .int a7), (8, .int a8)], [], ww w6, 0, 0)
        exact am_go_blk 1 (T_Loc_odds_143 Hr80 a1 a2 a4 a5 a6 (a7 + (nI 1)) a8 w6 H)
theorem TL_Loc_odds_80 {D : Nat} {o : Int64 × am_W} : ∀ (n : Nat) (a1 : Int32) (a2 : Int32) (a4 : Int32) (a5 : Int32) (a6 : Int32) (a7 : Int32) (a8 : Int32) (w : am_W) , L_Loc_odds_80 n a1 a2 a4 a5 a6 a7 a8 w = some o → am_gj (D + 3) 110 o (80, [(0, .ref 0), (1, .int a1), (2, .int a2), (4, .int a4), (5, .int a5), (6, .int a6), (7, .int a7), (8, .int a8)], [], ww w, 0, 0)
  | 0, _, _, _, _, _, _, _, _, H => by cases H
  | n + 1, a1, a2, a4, a5, a6, a7, a8, w, H => T_Loc_odds_80 (TL_Loc_odds_80 n) a1 a2 a4 a5 a6 a7 a8 w H
theorem T_Loc_odds {D : Nat} {o : Int64 × am_W} (a1 : Int32) (a2 : Int32) (a3 : Int32) (a4 : Int32) (w : am_W) (H : F_Loc_odds a1 a2 a3 a4 w = some o) : am_gj (D + 3) 110 o (0, [(0, .ref 0), (1, .int a1), (2, .int a2), (3, .int a3), (4, .int a4)], [], ww w, 0, 0) := by
  unfold F_Loc_odds at H
  refine am_go_blk 2 ⟨fun hc => ?_, fun hc => ?_⟩
  · have H := am_it hc H
    exact T_Loc_odds_30 w H
  · have H := am_ie hc H
    show am_gj (D + 3) 110 o (4, [(0, .ref 0), (1, .int a1), (2, .int a2), (3, .int a3), (4, .int a4)], [], ww w, 0, 0)
    refine am_go_blk 3 ⟨fun hc => ?_, fun hc => ?_⟩
    · have H := am_it hc H
      exact T_Loc_odds_30 w H
    · have H := am_ie hc H
      show am_gj (D + 3) 110 o (11, [(0, .ref 0), (1, .int a1), (2, .int a2), (3, .int a3), (4, .int a4)], [], ww w, 0, 0)
      refine am_go_blk 3 ⟨fun hc => ?_, fun hc => ?_⟩
      · have H := am_it hc H
        exact T_Loc_odds_30 w H
      · have H := am_ie hc H
        show am_gj (D + 3) 110 o (16, [(0, .ref 0), (1, .int a1), (2, .int a2), (3, .int a3), (4, .int a4)], [], ww w, 0, 0)
        refine am_go_blk 3 ⟨fun hc => ?_, fun hc => ?_⟩
        · have H := am_it hc H
          exact T_Loc_odds_30 w H
        · have H := am_ie hc H
          show am_gj (D + 3) 110 o (22, [(0, .ref 0), (1, .int a1), (2, .int a2), (3, .int a3), (4, .int a4)], [], ww w, 0, 0)
          obtain ⟨q1, hqq1, H⟩ := am_bnE H
          refine am_go_blk 1 (?_ : am_gj (D + 3) 110 o (24, [(0, .ref 0), (1, .int a1), (2, .int a2), (3, .int a3), (4, .int a4)], [.int a4], ww w, 0, 0))
          refine am_cls rfl rfl rfl (am_calli rfl (M_Loc_isEither (D := D + 2) hqq1) (?_ : am_gj (D + 3) 110 o (27, [(0, .ref 0), (1, .int a1), (2, .int a2), (3, .int a3), (4, .int a4)], [.int q1.1], ww q1.2, 0, 0)))
          refine am_go_blk 1 ⟨fun hc => ?_, fun hc => ?_⟩
          · have H := am_ie hc H
            show am_gj (D + 3) 110 o (34, [(0, .ref 0), (1, .int a1), (2, .int a2), (3, .int a3), (4, .int a4)], [], ww q1.2, 0, 0)
            refine am_go_blk 3 ⟨by decide, (?_ : am_gj (D + 3) 110 o (38, [(0, .ref 0), (1, .int a1), (2, .int a2), (3, .int a3), (4, .int a4)], [.int (a3 / (nI 100))], ww q1.2, 0, 0))⟩
            refine am_go_blk 4 ⟨by decide, (?_ : am_gj (D + 3) 110 o (44, [(5, .int (a3 / (nI 100))), (0, .ref 0), (1, .int a1), (2, .int a2), (3, .int a3), (4, .int a4)], [.int (a3 - a3 / (nI 100) * (nI 100))], ww q1.2, 0, 0))⟩
            refine am_go_blk 3 ⟨fun hc => ?_, fun hc => ?_⟩
            · have H := am_it hc H
              exact T_Loc_odds_70 q1.2 H
            · have H := am_ie hc H
              show am_gj (D + 3) 110 o (50, [(6, .int (a3 - a3 / (nI 100) * (nI 100))), (5, .int (a3 / (nI 100))), (0, .ref 0), (1, .int a1), (2, .int a2), (3, .int a3), (4, .int a4)], [], ww q1.2, 0, 0)
              obtain ⟨q2, hqq2, H⟩ := am_bnE H
              refine am_go_blk 3 (?_ : am_gj (D + 3) 110 o (56, [(6, .int (a3 - a3 / (nI 100) * (nI 100))), (5, .int (a3 / (nI 100))), (0, .ref 0), (1, .int a1), (2, .int a2), (3, .int a3), (4, .int a4)], [.int (a3 / (nI 100)), .ref 1], ww q1.2, 0, 0))
              refine am_invd rfl rfl rfl rfl (am_calli rfl (M_Rail_isThing (D := D + 2) hqq2) (?_ : am_gj (D + 3) 110 o (59, [(6, .int (a3 - a3 / (nI 100) * (nI 100))), (5, .int (a3 / (nI 100))), (0, .ref 0), (1, .int a1), (2, .int a2), (3, .int a3), (4, .int a4)], [.int q2.1], ww q2.2, 0, 0)))
              refine am_go_blk 1 ⟨fun hc => ?_, fun hc => ?_⟩
              · have H := am_it hc H
                exact T_Loc_odds_70 q2.2 H
              · have H := am_ie hc H
                show am_gj (D + 3) 110 o (62, [(6, .int (a3 - a3 / (nI 100) * (nI 100))), (5, .int (a3 / (nI 100))), (0, .ref 0), (1, .int a1), (2, .int a2), (3, .int a3), (4, .int a4)], [], ww q2.2, 0, 0)
                obtain ⟨q3, hqq3, H⟩ := am_bnE H
                refine am_go_blk 1 (?_ : am_gj (D + 3) 110 o (64, [(6, .int (a3 - a3 / (nI 100) * (nI 100))), (5, .int (a3 / (nI 100))), (0, .ref 0), (1, .int a1), (2, .int a2), (3, .int a3), (4, .int a4)], [.int (a3 - a3 / (nI 100) * (nI 100))], ww q2.2, 0, 0))
                refine am_cls rfl rfl rfl (am_calli rfl (M_Loc_isHour (D := D + 2) hqq3) (?_ : am_gj (D + 3) 110 o (67, [(6, .int (a3 - a3 / (nI 100) * (nI 100))), (5, .int (a3 / (nI 100))), (0, .ref 0), (1, .int a1), (2, .int a2), (3, .int a3), (4, .int a4)], [.int q3.1], ww q3.2, 0, 0)))
                refine am_go_blk 1 ⟨fun hc => ?_, fun hc => ?_⟩
                · have H := am_ie hc H
                  show am_gj (D + 3) 110 o (74, [(0, .ref 0), (1, .int a1), (2, .int a2), (4, .int a4), (5, .int (a3 / (nI 100))), (6, .int (a3 - a3 / (nI 100) * (nI 100)))], [], ww q3.2, 0, 0)
                  exact am_go_blk 4 (TL_Loc_odds_80 am_NF a1 a2 a4 (a3 / (nI 100)) (a3 - a3 / (nI 100) * (nI 100)) (nI 0) (nI 0) q3.2 H)
                · have H := am_it hc H
                  exact T_Loc_odds_70 q3.2 H
          · have H := am_it hc H
            exact T_Loc_odds_30 q1.2 H
theorem M_Loc_odds {D : Nat} {o : Int64 × am_W} {a1 : Int32} {a2 : Int32} {a3 : Int32} {a4 : Int32} {w : am_W} (H : F_Loc_odds a1 a2 a3 a4 w = some o) : am_run (D + 4) 110 [.ref 0, .int a1, .int a2, .int a3, .int a4] (ww w) (some (.long o.1)) (ww o.2) 0 0 :=
  am_run_of rfl (T_Loc_odds a1 a2 a3 a4 w H)
def F_Rail_becomeLike_9_1 (w : am_W) : Option (am_W) :=
  am_lt (wsf w 9 0 (w.1 1 0)) fun w1 => am_lt (wsf w1 9 1 (w1.1 1 1)) fun w2 => am_lt (wsf w2 9 2 (w2.1 1 2)) fun w3 => am_lt (wsf w3 9 3 (w3.1 1 3)) fun w4 => am_lt (wsf w4 9 4 (w4.1 1 4)) fun w5 => am_ck (am_cpk (nI 0) (nI 0) (nI 8) 8 8) (am_lt (wcp w5 2 10 (nI 0) (nI 0) (nI 8)) fun w6 => am_ck (am_cpk (nI 0) (nI 0) (nI 8) 8 8) (am_lt (wcp w6 3 11 (nI 0) (nI 0) (nI 8)) fun w7 => am_ck (am_cpk (nI 0) (nI 0) (nI 8) 8 8) (am_lt (wcp w7 4 12 (nI 0) (nI 0) (nI 8)) fun w8 => am_ck (am_cpk (nI 0) (nI 0) (nI 10) 10 10) (am_lt (wcp w8 5 13 (nI 0) (nI 0) (nI 10)) fun w9 => am_ck (am_cpk (nI 0) (nI 0) (nI 10) 10 10) (am_lt (wcp w9 6 14 (nI 0) (nI 0) (nI 10)) fun w10 => am_ck (am_cpk (nI 0) (nI 0) (nI 10) 10 10) (am_lt (wcp w10 7 15 (nI 0) (nI 0) (nI 10)) fun w11 => am_ck (am_cpk (nI 0) (nI 0) (nI 10) 10 10) (am_lt (wcp w11 8 16 (nI 0) (nI 0) (nI 10)) fun w12 => some w12)))))))
theorem T_Rail_becomeLike_9_1 {D : Nat} {o : am_W} (w : am_W) (H : F_Rail_becomeLike_9_1 w = some o) : am_gv D 47 o (0, [(0, .ref 9), (1, .ref 1)], [], ww w, 0, 0) := by
  unfold F_Rail_becomeLike_9_1 at H
  obtain ⟨w1, ew1, H⟩ := am_ltE H
  refine am_go_blk 4 ⟨rfl, rfl, am_hp (ww_f9_0 ew1) (?_ : am_gv D 47 o (8, [(0, .ref 9), (1, .ref 1)], [], ww w1, 0, 0))⟩
  obtain ⟨w2, ew2, H⟩ := am_ltE H
  refine am_go_blk 4 ⟨rfl, rfl, am_hp (ww_f9_1 ew2) (?_ : am_gv D 47 o (16, [(0, .ref 9), (1, .ref 1)], [], ww w2, 0, 0))⟩
  obtain ⟨w3, ew3, H⟩ := am_ltE H
  refine am_go_blk 4 ⟨rfl, rfl, am_hp (ww_f9_2 ew3) (?_ : am_gv D 47 o (24, [(0, .ref 9), (1, .ref 1)], [], ww w3, 0, 0))⟩
  obtain ⟨w4, ew4, H⟩ := am_ltE H
  refine am_go_blk 4 ⟨rfl, rfl, am_hp (ww_f9_3 ew4) (?_ : am_gv D 47 o (32, [(0, .ref 9), (1, .ref 1)], [], ww w4, 0, 0))⟩
  obtain ⟨w5, ew5, H⟩ := am_ltE H
  refine am_go_blk 4 ⟨rfl, rfl, am_hp (ww_f9_4 ew5) (?_ : am_gv D 47 o (40, [(0, .ref 9), (1, .ref 1)], [], ww w5, 0, 0))⟩
  obtain ⟨hc, H⟩ := am_ckE H
  obtain ⟨w6, ew6, H⟩ := am_ltE H
  refine am_go_blk 8 (am_cpv hc (am_hp (ww_c10 ew6) (?_ : am_gv D 47 o (55, [(0, .ref 9), (1, .ref 1)], [], ww w6, 0, 0))))
  obtain ⟨hc, H⟩ := am_ckE H
  obtain ⟨w7, ew7, H⟩ := am_ltE H
  refine am_go_blk 8 (am_cpv hc (am_hp (ww_c11 ew7) (?_ : am_gv D 47 o (70, [(0, .ref 9), (1, .ref 1)], [], ww w7, 0, 0))))
  obtain ⟨hc, H⟩ := am_ckE H
  obtain ⟨w8, ew8, H⟩ := am_ltE H
  refine am_go_blk 8 (am_cpv hc (am_hp (ww_c12 ew8) (?_ : am_gv D 47 o (85, [(0, .ref 9), (1, .ref 1)], [], ww w8, 0, 0))))
  obtain ⟨hc, H⟩ := am_ckE H
  obtain ⟨w9, ew9, H⟩ := am_ltE H
  refine am_go_blk 8 (am_cpv hc (am_hp (ww_c13 ew9) (?_ : am_gv D 47 o (100, [(0, .ref 9), (1, .ref 1)], [], ww w9, 0, 0))))
  obtain ⟨hc, H⟩ := am_ckE H
  obtain ⟨w10, ew10, H⟩ := am_ltE H
  refine am_go_blk 8 (am_cpv hc (am_hp (ww_c14 ew10) (?_ : am_gv D 47 o (115, [(0, .ref 9), (1, .ref 1)], [], ww w10, 0, 0))))
  obtain ⟨hc, H⟩ := am_ckE H
  obtain ⟨w11, ew11, H⟩ := am_ltE H
  refine am_go_blk 8 (am_cpv hc (am_hp (ww_c15 ew11) (?_ : am_gv D 47 o (130, [(0, .ref 9), (1, .ref 1)], [], ww w11, 0, 0))))
  obtain ⟨hc, H⟩ := am_ckE H
  obtain ⟨w12, ew12, H⟩ := am_ltE H
  refine am_go_blk 8 (am_cpv hc (am_hp (ww_c16 ew12) (?_ : am_gv D 47 o (145, [(0, .ref 9), (1, .ref 1)], [], ww w12, 0, 0))))
  exact am_go_blk 1 (am_fv H)
theorem M_Rail_becomeLike_9_1 {D : Nat} {o : am_W} {w : am_W} (H : F_Rail_becomeLike_9_1 w = some o) : am_run (D + 1) 47 [.ref 9, .ref 1] (ww w) none (ww o) 0 0 :=
  am_run_of rfl (T_Rail_becomeLike_9_1 w H)
def F_Loc_image (w : am_W) : Option (Int32 × am_W) :=
  (F_Rail_becomeLike_9_1 w).bind fun w1 => am_lt (wsf w1 0 9 (w1.1 17 2)) fun w2 => am_lt (wsf w2 0 8 (nI 1)) fun w3 => some ((w3.1 1 0), w3)
theorem T_Loc_image {D : Nat} {o : Int32 × am_W} (w : am_W) (H : F_Loc_image w = some o) : am_gi (D + 1) 111 o (0, [(0, .ref 0)], [], ww w, 0, 0) := by
  unfold F_Loc_image at H
  obtain ⟨w1, hqw1, H⟩ := am_bnE H
  refine am_go_blk 4 (?_ : am_gi (D + 1) 111 o (8, [(0, .ref 0)], [.ref 1, .ref 9], ww w, 0, 0))
  refine am_invd rfl rfl rfl rfl (am_callv rfl (M_Rail_becomeLike_9_1 (D := D) hqw1) (?_ : am_gi (D + 1) 111 o (11, [(0, .ref 0)], [], ww w1, 0, 0)))
  obtain ⟨w2, ew2, H⟩ := am_ltE H
  refine am_go_blk 5 ⟨rfl, rfl, am_hp (ww_f0_9 ew2) (?_ : am_gi (D + 1) 111 o (22, [(0, .ref 0)], [], ww w2, 0, 0))⟩
  obtain ⟨w3, ew3, H⟩ := am_ltE H
  refine am_go_blk 3 ⟨rfl, rfl, am_hp (ww_f0_8 ew3) (?_ : am_gi (D + 1) 111 o (27, [(0, .ref 0)], [], ww w3, 0, 0))⟩
  exact am_go_blk 4 ⟨rfl, am_fi H⟩
theorem M_Loc_image {D : Nat} {o : Int32 × am_W} {w : am_W} (H : F_Loc_image w = some o) : am_run (D + 2) 111 [.ref 0] (ww w) (some (.int o.1)) (ww o.2) 0 0 :=
  am_run_of rfl (T_Loc_image w H)
def F_Rail_becomeLike_1_9 (w : am_W) : Option (am_W) :=
  am_lt (wsf w 1 0 (w.1 9 0)) fun w1 => am_lt (wsf w1 1 1 (w1.1 9 1)) fun w2 => am_lt (wsf w2 1 2 (w2.1 9 2)) fun w3 => am_lt (wsf w3 1 3 (w3.1 9 3)) fun w4 => am_lt (wsf w4 1 4 (w4.1 9 4)) fun w5 => am_ck (am_cpk (nI 0) (nI 0) (nI 8) 8 8) (am_lt (wcp w5 10 2 (nI 0) (nI 0) (nI 8)) fun w6 => am_ck (am_cpk (nI 0) (nI 0) (nI 8) 8 8) (am_lt (wcp w6 11 3 (nI 0) (nI 0) (nI 8)) fun w7 => am_ck (am_cpk (nI 0) (nI 0) (nI 8) 8 8) (am_lt (wcp w7 12 4 (nI 0) (nI 0) (nI 8)) fun w8 => am_ck (am_cpk (nI 0) (nI 0) (nI 10) 10 10) (am_lt (wcp w8 13 5 (nI 0) (nI 0) (nI 10)) fun w9 => am_ck (am_cpk (nI 0) (nI 0) (nI 10) 10 10) (am_lt (wcp w9 14 6 (nI 0) (nI 0) (nI 10)) fun w10 => am_ck (am_cpk (nI 0) (nI 0) (nI 10) 10 10) (am_lt (wcp w10 15 7 (nI 0) (nI 0) (nI 10)) fun w11 => am_ck (am_cpk (nI 0) (nI 0) (nI 10) 10 10) (am_lt (wcp w11 16 8 (nI 0) (nI 0) (nI 10)) fun w12 => some w12)))))))
theorem T_Rail_becomeLike_1_9 {D : Nat} {o : am_W} (w : am_W) (H : F_Rail_becomeLike_1_9 w = some o) : am_gv D 47 o (0, [(0, .ref 1), (1, .ref 9)], [], ww w, 0, 0) := by
  unfold F_Rail_becomeLike_1_9 at H
  obtain ⟨w1, ew1, H⟩ := am_ltE H
  refine am_go_blk 4 ⟨rfl, rfl, am_hp (ww_f1_0 ew1) (?_ : am_gv D 47 o (8, [(0, .ref 1), (1, .ref 9)], [], ww w1, 0, 0))⟩
  obtain ⟨w2, ew2, H⟩ := am_ltE H
  refine am_go_blk 4 ⟨rfl, rfl, am_hp (ww_f1_1 ew2) (?_ : am_gv D 47 o (16, [(0, .ref 1), (1, .ref 9)], [], ww w2, 0, 0))⟩
  obtain ⟨w3, ew3, H⟩ := am_ltE H
  refine am_go_blk 4 ⟨rfl, rfl, am_hp (ww_f1_2 ew3) (?_ : am_gv D 47 o (24, [(0, .ref 1), (1, .ref 9)], [], ww w3, 0, 0))⟩
  obtain ⟨w4, ew4, H⟩ := am_ltE H
  refine am_go_blk 4 ⟨rfl, rfl, am_hp (ww_f1_3 ew4) (?_ : am_gv D 47 o (32, [(0, .ref 1), (1, .ref 9)], [], ww w4, 0, 0))⟩
  obtain ⟨w5, ew5, H⟩ := am_ltE H
  refine am_go_blk 4 ⟨rfl, rfl, am_hp (ww_f1_4 ew5) (?_ : am_gv D 47 o (40, [(0, .ref 1), (1, .ref 9)], [], ww w5, 0, 0))⟩
  obtain ⟨hc, H⟩ := am_ckE H
  obtain ⟨w6, ew6, H⟩ := am_ltE H
  refine am_go_blk 8 (am_cpv hc (am_hp (ww_c2 ew6) (?_ : am_gv D 47 o (55, [(0, .ref 1), (1, .ref 9)], [], ww w6, 0, 0))))
  obtain ⟨hc, H⟩ := am_ckE H
  obtain ⟨w7, ew7, H⟩ := am_ltE H
  refine am_go_blk 8 (am_cpv hc (am_hp (ww_c3 ew7) (?_ : am_gv D 47 o (70, [(0, .ref 1), (1, .ref 9)], [], ww w7, 0, 0))))
  obtain ⟨hc, H⟩ := am_ckE H
  obtain ⟨w8, ew8, H⟩ := am_ltE H
  refine am_go_blk 8 (am_cpv hc (am_hp (ww_c4 ew8) (?_ : am_gv D 47 o (85, [(0, .ref 1), (1, .ref 9)], [], ww w8, 0, 0))))
  obtain ⟨hc, H⟩ := am_ckE H
  obtain ⟨w9, ew9, H⟩ := am_ltE H
  refine am_go_blk 8 (am_cpv hc (am_hp (ww_c5 ew9) (?_ : am_gv D 47 o (100, [(0, .ref 1), (1, .ref 9)], [], ww w9, 0, 0))))
  obtain ⟨hc, H⟩ := am_ckE H
  obtain ⟨w10, ew10, H⟩ := am_ltE H
  refine am_go_blk 8 (am_cpv hc (am_hp (ww_c6 ew10) (?_ : am_gv D 47 o (115, [(0, .ref 1), (1, .ref 9)], [], ww w10, 0, 0))))
  obtain ⟨hc, H⟩ := am_ckE H
  obtain ⟨w11, ew11, H⟩ := am_ltE H
  refine am_go_blk 8 (am_cpv hc (am_hp (ww_c7 ew11) (?_ : am_gv D 47 o (130, [(0, .ref 1), (1, .ref 9)], [], ww w11, 0, 0))))
  obtain ⟨hc, H⟩ := am_ckE H
  obtain ⟨w12, ew12, H⟩ := am_ltE H
  refine am_go_blk 8 (am_cpv hc (am_hp (ww_c8 ew12) (?_ : am_gv D 47 o (145, [(0, .ref 1), (1, .ref 9)], [], ww w12, 0, 0))))
  exact am_go_blk 1 (am_fv H)
theorem M_Rail_becomeLike_1_9 {D : Nat} {o : am_W} {w : am_W} (H : F_Rail_becomeLike_1_9 w = some o) : am_run (D + 1) 47 [.ref 1, .ref 9] (ww w) none (ww o) 0 0 :=
  am_run_of rfl (T_Rail_becomeLike_1_9 w H)
def F_Loc_back (w : am_W) : Option (Int32 × am_W) :=
  if (w.1 0 8) = 0 then (some ((-nI 3), w)) else ((F_Rail_becomeLike_1_9 w).bind fun w1 => am_lt (wsf w1 17 2 (w1.1 0 9)) fun w2 => some ((w2.1 1 0), w2))
theorem T_Loc_back {D : Nat} {o : Int32 × am_W} (w : am_W) (H : F_Loc_back w = some o) : am_gi (D + 1) 112 o (0, [(0, .ref 0)], [], ww w, 0, 0) := by
  unfold F_Loc_back at H
  refine am_go_blk 3 ⟨fun hc => ?_, fun hc => ?_⟩
  · have H := am_ie hc H
    show am_gi (D + 1) 112 o (10, [(0, .ref 0)], [], ww w, 0, 0)
    obtain ⟨w1, hqw1, H⟩ := am_bnE H
    refine am_go_blk 4 (?_ : am_gi (D + 1) 112 o (18, [(0, .ref 0)], [.ref 9, .ref 1], ww w, 0, 0))
    refine am_invd rfl rfl rfl rfl (am_callv rfl (M_Rail_becomeLike_1_9 (D := D) hqw1) (?_ : am_gi (D + 1) 112 o (21, [(0, .ref 0)], [], ww w1, 0, 0)))
    obtain ⟨w2, ew2, H⟩ := am_ltE H
    refine am_go_blk 5 ⟨rfl, rfl, am_hp (ww_f17_2 ew2) (?_ : am_gi (D + 1) 112 o (32, [(0, .ref 0)], [], ww w2, 0, 0))⟩
    exact am_go_blk 4 ⟨rfl, am_fi H⟩
  · have H := am_it hc H
    show am_gi (D + 1) 112 o (7, [(0, .ref 0)], [], ww w, 0, 0)
    exact am_go_blk 2 ⟨rfl, am_fi H⟩
theorem M_Loc_back {D : Nat} {o : Int32 × am_W} {w : am_W} (H : F_Loc_back w = some o) : am_run (D + 2) 112 [.ref 0] (ww w) (some (.int o.1)) (ww o.2) 0 0 :=
  am_run_of rfl (T_Loc_back w H)
def F_Loc_sheet_19 (w : am_W) : Option (Int32 × am_W) :=
  some ((-nI 2), w)
def F_Loc_sheet_22 (a1 : Int32) (a2 : Int32) (a3 : Int32) (w : am_W) : Option (Int32 × am_W) :=
  if a2 = (-nI 1) then (am_ck (am_in a1 4) ((F_Sheet_become a1.toNatClampNeg a2 (nI 0) w).bind fun w5 => some ((nI 1), w5))) else (if a3 ≤ (nI 40) then (if 0 ≤ a3 then (am_ck (am_in a1 4) ((F_Sheet_become a1.toNatClampNeg a2 a3 w).bind fun w3 => some ((nI 1), w3))) else (some ((-nI 14), w))) else (some ((-nI 2), w)))
def F_Loc_sheet (a1 : Int32) (a2 : Int32) (a3 : Int32) (w : am_W) : Option (Int32 × am_W) :=
  (F_Loc_isSheet a1 w).bind fun q1 => if q1.1 = 0 then (F_Loc_sheet_19 q1.2) else (if a2 = (-nI 1) then (F_Loc_sheet_22 a1 a2 a3 q1.2) else ((F_Loc_isSort a2 q1.2).bind fun q6 => if q6.1 = 0 then (F_Loc_sheet_19 q6.2) else (F_Loc_sheet_22 a1 a2 a3 q6.2)))
theorem T_Loc_sheet_19 {D : Nat} {o : Int32 × am_W} (w : am_W) (H : F_Loc_sheet_19 w = some o) : am_gi (D + 1) 113 o (19, [], [], ww w, 0, 0) := by
  unfold F_Loc_sheet_19 at H
  exact am_go_blk 2 ⟨rfl, am_fi H⟩
theorem T_Loc_sheet_22 {D : Nat} {o : Int32 × am_W} (a1 : Int32) (a2 : Int32) (a3 : Int32) (w : am_W) (H : F_Loc_sheet_22 a1 a2 a3 w = some o) : am_gi (D + 1) 113 o (22, [(0, .ref 0), (1, .int a1), (2, .int a2), (3, .int a3)], [], ww w, 0, 0) := by
  unfold F_Loc_sheet_22 at H
  refine am_go_blk 3 ⟨fun hc => ?_, fun hc => ?_⟩
  · have H := am_ie hc H
    show am_gi (D + 1) 113 o (40, [(0, .ref 0), (1, .int a1), (2, .int a2), (3, .int a3)], [], ww w, 0, 0)
    refine am_go_blk 3 ⟨fun hc => ?_, fun hc => ?_⟩
    · have H := am_it hc H
      show am_gi (D + 1) 113 o (49, [(0, .ref 0), (1, .int a1), (2, .int a2), (3, .int a3)], [], ww w, 0, 0)
      refine am_go_blk 2 ⟨fun hc => ?_, fun hc => ?_⟩
      · have H := am_it hc H
        show am_gi (D + 1) 113 o (56, [(0, .ref 0), (1, .int a1), (2, .int a2), (3, .int a3)], [], ww w, 0, 0)
        obtain ⟨hi2, H⟩ := am_ckE H
        refine am_go_blk 4 ⟨am_inv hi2, am_tv (am_shv (am_inl hi2)) (?_ : am_gi (D + 1) 113 o (62, [(0, .ref 0), (1, .int a1), (2, .int a2), (3, .int a3)], [.ref (45 + 2 * a1.toNatClampNeg)], ww w, 0, 0))⟩
        obtain ⟨w3, hqw3, H⟩ := am_bnE H
        refine am_go_blk 2 (?_ : am_gi (D + 1) 113 o (64, [(0, .ref 0), (1, .int a1), (2, .int a2), (3, .int a3)], [.int a3, .int a2, .ref (45 + 2 * a1.toNatClampNeg)], ww w, 0, 0))
        refine am_invd rfl rfl (ww_sheet (am_inl hi2)) rfl (am_callv rfl (M_Sheet_become (D := D) (am_inl hi2) hqw3) (?_ : am_gi (D + 1) 113 o (67, [(0, .ref 0), (1, .int a1), (2, .int a2), (3, .int a3)], [], ww w3, 0, 0)))
        exact am_go_blk 2 ⟨rfl, am_fi H⟩
      · have H := am_ie hc H
        show am_gi (D + 1) 113 o (53, [(0, .ref 0), (1, .int a1), (2, .int a2), (3, .int a3)], [], ww w, 0, 0)
        exact am_go_blk 2 ⟨rfl, am_fi H⟩
    · have H := am_ie hc H
      show am_gi (D + 1) 113 o (46, [(0, .ref 0), (1, .int a1), (2, .int a2), (3, .int a3)], [], ww w, 0, 0)
      exact am_go_blk 2 ⟨rfl, am_fi H⟩
  · have H := am_it hc H
    show am_gi (D + 1) 113 o (27, [(0, .ref 0), (1, .int a1), (2, .int a2), (3, .int a3)], [], ww w, 0, 0)
    obtain ⟨hi4, H⟩ := am_ckE H
    refine am_go_blk 4 ⟨am_inv hi4, am_tv (am_shv (am_inl hi4)) (?_ : am_gi (D + 1) 113 o (33, [(0, .ref 0), (1, .int a1), (2, .int a2), (3, .int a3)], [.ref (45 + 2 * a1.toNatClampNeg)], ww w, 0, 0))⟩
    obtain ⟨w5, hqw5, H⟩ := am_bnE H
    refine am_go_blk 2 (?_ : am_gi (D + 1) 113 o (35, [(0, .ref 0), (1, .int a1), (2, .int a2), (3, .int a3)], [.int (nI 0), .int a2, .ref (45 + 2 * a1.toNatClampNeg)], ww w, 0, 0))
    refine am_invd rfl rfl (ww_sheet (am_inl hi4)) rfl (am_callv rfl (M_Sheet_become (D := D) (am_inl hi4) hqw5) (?_ : am_gi (D + 1) 113 o (38, [(0, .ref 0), (1, .int a1), (2, .int a2), (3, .int a3)], [], ww w5, 0, 0)))
    exact am_go_blk 2 ⟨rfl, am_fi H⟩
theorem T_Loc_sheet {D : Nat} {o : Int32 × am_W} (a1 : Int32) (a2 : Int32) (a3 : Int32) (w : am_W) (H : F_Loc_sheet a1 a2 a3 w = some o) : am_gi (D + 1) 113 o (0, [(0, .ref 0), (1, .int a1), (2, .int a2), (3, .int a3)], [], ww w, 0, 0) := by
  unfold F_Loc_sheet at H
  obtain ⟨q1, hqq1, H⟩ := am_bnE H
  refine am_go_blk 1 (?_ : am_gi (D + 1) 113 o (1, [(0, .ref 0), (1, .int a1), (2, .int a2), (3, .int a3)], [.int a1], ww w, 0, 0))
  refine am_cls rfl rfl rfl (am_calli rfl (M_Loc_isSheet (D := D) hqq1) (?_ : am_gi (D + 1) 113 o (4, [(0, .ref 0), (1, .int a1), (2, .int a2), (3, .int a3)], [.int q1.1], ww q1.2, 0, 0)))
  refine am_go_blk 1 ⟨fun hc => ?_, fun hc => ?_⟩
  · have H := am_it hc H
    exact T_Loc_sheet_19 q1.2 H
  · have H := am_ie hc H
    show am_gi (D + 1) 113 o (7, [(0, .ref 0), (1, .int a1), (2, .int a2), (3, .int a3)], [], ww q1.2, 0, 0)
    refine am_go_blk 3 ⟨fun hc => ?_, fun hc => ?_⟩
    · have H := am_it hc H
      exact T_Loc_sheet_22 a1 a2 a3 q1.2 H
    · have H := am_ie hc H
      show am_gi (D + 1) 113 o (12, [(0, .ref 0), (1, .int a1), (2, .int a2), (3, .int a3)], [], ww q1.2, 0, 0)
      obtain ⟨q6, hqq6, H⟩ := am_bnE H
      refine am_go_blk 1 (?_ : am_gi (D + 1) 113 o (13, [(0, .ref 0), (1, .int a1), (2, .int a2), (3, .int a3)], [.int a2], ww q1.2, 0, 0))
      refine am_cls rfl rfl rfl (am_calli rfl (M_Loc_isSort (D := D) hqq6) (?_ : am_gi (D + 1) 113 o (16, [(0, .ref 0), (1, .int a1), (2, .int a2), (3, .int a3)], [.int q6.1], ww q6.2, 0, 0)))
      refine am_go_blk 1 ⟨fun hc => ?_, fun hc => ?_⟩
      · have H := am_ie hc H
        exact T_Loc_sheet_22 a1 a2 a3 q6.2 H
      · have H := am_it hc H
        exact T_Loc_sheet_19 q6.2 H
theorem M_Loc_sheet {D : Nat} {o : Int32 × am_W} {a1 : Int32} {a2 : Int32} {a3 : Int32} {w : am_W} (H : F_Loc_sheet a1 a2 a3 w = some o) : am_run (D + 2) 113 [.ref 0, .int a1, .int a2, .int a3] (ww w) (some (.int o.1)) (ww o.2) 0 0 :=
  am_run_of rfl (T_Loc_sheet a1 a2 a3 w H)
def F_Sheet_isPlace_17 (s0 : Int32) (w : am_W) : Option (Int32 × am_W) :=
  am_ck (am_bo s0) (some (s0, w))
def F_Sheet_isPlace_16 (w : am_W) : Option (Int32 × am_W) :=
  F_Sheet_isPlace_17 (nI 0) w
def F_Sheet_isPlace (p0 : Nat) (a1 : Int32) (w : am_W) : Option (Int32 × am_W) :=
  if a1 < 0 then (F_Sheet_isPlace_16 w) else (if (w.1 (45 + 2 * p0) 1) ≤ a1 then (F_Sheet_isPlace_16 w) else (F_Sheet_isPlace_17 (nI 1) w))
theorem T_Sheet_isPlace_17 {D : Nat} {o : Int32 × am_W} (s0 : Int32) (w : am_W) (H : F_Sheet_isPlace_17 s0 w = some o) : am_gi D 64 o (17, [], [.int s0], ww w, 0, 0) := by
  unfold F_Sheet_isPlace_17 at H
  obtain ⟨hc, H⟩ := am_ckE H
  exact am_go_blk 1 ⟨am_boE hc, am_fi H⟩
theorem T_Sheet_isPlace_16 {D : Nat} {o : Int32 × am_W} (w : am_W) (H : F_Sheet_isPlace_16 w = some o) : am_gi D 64 o (16, [], [], ww w, 0, 0) := by
  unfold F_Sheet_isPlace_16 at H
  exact am_go_blk 1 (T_Sheet_isPlace_17 (nI 0) w H)
theorem T_Sheet_isPlace {D : Nat} {o : Int32 × am_W} (p0 : Nat) (a1 : Int32) (w : am_W) (hp0 : p0 < 4) (H : F_Sheet_isPlace p0 a1 w = some o) : am_gi D 64 o (0, [(0, .ref (45 + 2 * p0)), (1, .int a1)], [], ww w, 0, 0) := by
  unfold F_Sheet_isPlace at H
  refine am_go_blk 2 ⟨fun hc => ?_, fun hc => ?_⟩
  · have H := am_it hc H
    exact T_Sheet_isPlace_16 w H
  · have H := am_ie hc H
    show am_gi D 64 o (4, [(0, .ref (45 + 2 * p0)), (1, .int a1)], [], ww w, 0, 0)
    refine am_go_blk 2 (?_ : am_gi D 64 o (6, [(0, .ref (45 + 2 * p0)), (1, .int a1)], [.ref (45 + 2 * p0), .int a1], ww w, 0, 0))
    refine am_gfd rfl rfl (ww_sheet hp0) rfl (?_ : am_gi D 64 o (9, [(0, .ref (45 + 2 * p0)), (1, .int a1)], [.int (w.1 (45 + 2 * p0) 1), .int a1], ww w, 0, 0))
    refine am_go_blk 1 ⟨fun hc => ?_, fun hc => ?_⟩
    · have H := am_it hc H
      exact T_Sheet_isPlace_16 w H
    · have H := am_ie hc H
      show am_gi D 64 o (12, [(0, .ref (45 + 2 * p0)), (1, .int a1)], [], ww w, 0, 0)
      exact am_go_blk 2 (T_Sheet_isPlace_17 (nI 1) w H)
theorem M_Sheet_isPlace {D : Nat} {o : Int32 × am_W} {p0 : Nat} {a1 : Int32} {w : am_W} (hp0 : p0 < 4) (H : F_Sheet_isPlace p0 a1 w = some o) : am_run (D + 1) 64 [.ref (45 + 2 * p0), .int a1] (ww w) (some (.int o.1)) (ww o.2) 0 0 :=
  am_run_of rfl (T_Sheet_isPlace p0 a1 w hp0 H)
def F_Loc_cell (a1 : Int32) (a2 : Int32) (a3 : Int32) (w : am_W) : Option (Int32 × am_W) :=
  (F_Loc_refusalOf a1 w).bind fun q1 => if q1.1 = 0 then (am_ck (am_in a1 4) ((F_Sheet_isPlace a1.toNatClampNeg a2 q1.2).bind fun q3 => if q3.1 = 0 then (some ((-nI 12), q3.2)) else (am_ck (am_in a1 4) ((F_Sheet_put a1.toNatClampNeg a2 a3 q3.2).bind fun w5 => some ((nI 1), w5))))) else (some (q1.1, q1.2))
theorem T_Loc_cell {D : Nat} {o : Int32 × am_W} (a1 : Int32) (a2 : Int32) (a3 : Int32) (w : am_W) (H : F_Loc_cell a1 a2 a3 w = some o) : am_gi (D + 2) 114 o (0, [(0, .ref 0), (1, .int a1), (2, .int a2), (3, .int a3)], [], ww w, 0, 0) := by
  unfold F_Loc_cell at H
  obtain ⟨q1, hqq1, H⟩ := am_bnE H
  refine am_go_blk 2 (?_ : am_gi (D + 2) 114 o (2, [(0, .ref 0), (1, .int a1), (2, .int a2), (3, .int a3)], [.int a1, .ref 0], ww w, 0, 0))
  refine am_invd rfl rfl rfl rfl (am_calli rfl (M_Loc_refusalOf (D := D) hqq1) (?_ : am_gi (D + 2) 114 o (5, [(0, .ref 0), (1, .int a1), (2, .int a2), (3, .int a3)], [.int q1.1], ww q1.2, 0, 0)))
  refine am_go_blk 3 ⟨fun hc => ?_, fun hc => ?_⟩
  · have H := am_it hc H
    show am_gi (D + 2) 114 o (15, [(0, .ref 0), (1, .int a1), (2, .int a2), (3, .int a3)], [], ww q1.2, 0, 0)
    obtain ⟨hi2, H⟩ := am_ckE H
    refine am_go_blk 4 ⟨am_inv hi2, am_tv (am_shv (am_inl hi2)) (?_ : am_gi (D + 2) 114 o (21, [(0, .ref 0), (1, .int a1), (2, .int a2), (3, .int a3)], [.ref (45 + 2 * a1.toNatClampNeg)], ww q1.2, 0, 0))⟩
    obtain ⟨q3, hqq3, H⟩ := am_bnE H
    refine am_go_blk 1 (?_ : am_gi (D + 2) 114 o (22, [(0, .ref 0), (1, .int a1), (2, .int a2), (3, .int a3)], [.int a2, .ref (45 + 2 * a1.toNatClampNeg)], ww q1.2, 0, 0))
    refine am_invd rfl rfl (ww_sheet (am_inl hi2)) rfl (am_calli rfl (M_Sheet_isPlace (D := D + 1) (am_inl hi2) hqq3) (?_ : am_gi (D + 2) 114 o (25, [(0, .ref 0), (1, .int a1), (2, .int a2), (3, .int a3)], [.int q3.1], ww q3.2, 0, 0)))
    refine am_go_blk 1 ⟨fun hc => ?_, fun hc => ?_⟩
    · have H := am_ie hc H
      show am_gi (D + 2) 114 o (31, [(0, .ref 0), (1, .int a1), (2, .int a2), (3, .int a3)], [], ww q3.2, 0, 0)
      obtain ⟨hi4, H⟩ := am_ckE H
      refine am_go_blk 4 ⟨am_inv hi4, am_tv (am_shv (am_inl hi4)) (?_ : am_gi (D + 2) 114 o (37, [(0, .ref 0), (1, .int a1), (2, .int a2), (3, .int a3)], [.ref (45 + 2 * a1.toNatClampNeg)], ww q3.2, 0, 0))⟩
      obtain ⟨w5, hqw5, H⟩ := am_bnE H
      refine am_go_blk 2 (?_ : am_gi (D + 2) 114 o (39, [(0, .ref 0), (1, .int a1), (2, .int a2), (3, .int a3)], [.int a3, .int a2, .ref (45 + 2 * a1.toNatClampNeg)], ww q3.2, 0, 0))
      refine am_invd rfl rfl (ww_sheet (am_inl hi4)) rfl (am_callv rfl (M_Sheet_put (D := D + 1) (am_inl hi4) hqw5) (?_ : am_gi (D + 2) 114 o (42, [(0, .ref 0), (1, .int a1), (2, .int a2), (3, .int a3)], [], ww w5, 0, 0)))
      exact am_go_blk 2 ⟨rfl, am_fi H⟩
    · have H := am_it hc H
      show am_gi (D + 2) 114 o (28, [(0, .ref 0), (1, .int a1), (2, .int a2), (3, .int a3)], [], ww q3.2, 0, 0)
      exact am_go_blk 2 ⟨rfl, am_fi H⟩
  · have H := am_ie hc H
    show am_gi (D + 2) 114 o (12, [(4, .int q1.1), (0, .ref 0), (1, .int a1), (2, .int a2), (3, .int a3)], [], ww q1.2, 0, 0)
    exact am_go_blk 2 ⟨rfl, am_fi H⟩
theorem M_Loc_cell {D : Nat} {o : Int32 × am_W} {a1 : Int32} {a2 : Int32} {a3 : Int32} {w : am_W} (H : F_Loc_cell a1 a2 a3 w = some o) : am_run (D + 3) 114 [.ref 0, .int a1, .int a2, .int a3] (ww w) (some (.int o.1)) (ww o.2) 0 0 :=
  am_run_of rfl (T_Loc_cell a1 a2 a3 w H)
def F_Sheet_isStretch_31 (s0 : Int32) (w : am_W) : Option (Int32 × am_W) :=
  am_ck (am_bo s0) (some (s0, w))
def F_Sheet_isStretch_30 (w : am_W) : Option (Int32 × am_W) :=
  F_Sheet_isStretch_31 (nI 0) w
def F_Sheet_isStretch (p0 : Nat) (a1 : Int32) (a2 : Int32) (w : am_W) : Option (Int32 × am_W) :=
  if a1 < 0 then (F_Sheet_isStretch_30 w) else (if a2 < 0 then (F_Sheet_isStretch_30 w) else (if (w.1 (45 + 2 * p0) 1) < a1 then (F_Sheet_isStretch_30 w) else (if ((w.1 (45 + 2 * p0) 1) - a1) < a2 then (F_Sheet_isStretch_30 w) else (F_Sheet_isStretch_31 (nI 1) w))))
theorem T_Sheet_isStretch_31 {D : Nat} {o : Int32 × am_W} (s0 : Int32) (w : am_W) (H : F_Sheet_isStretch_31 s0 w = some o) : am_gi D 65 o (31, [], [.int s0], ww w, 0, 0) := by
  unfold F_Sheet_isStretch_31 at H
  obtain ⟨hc, H⟩ := am_ckE H
  exact am_go_blk 1 ⟨am_boE hc, am_fi H⟩
theorem T_Sheet_isStretch_30 {D : Nat} {o : Int32 × am_W} (w : am_W) (H : F_Sheet_isStretch_30 w = some o) : am_gi D 65 o (30, [], [], ww w, 0, 0) := by
  unfold F_Sheet_isStretch_30 at H
  exact am_go_blk 1 (T_Sheet_isStretch_31 (nI 0) w H)
theorem T_Sheet_isStretch {D : Nat} {o : Int32 × am_W} (p0 : Nat) (a1 : Int32) (a2 : Int32) (w : am_W) (hp0 : p0 < 4) (H : F_Sheet_isStretch p0 a1 a2 w = some o) : am_gi D 65 o (0, [(0, .ref (45 + 2 * p0)), (1, .int a1), (2, .int a2)], [], ww w, 0, 0) := by
  unfold F_Sheet_isStretch at H
  refine am_go_blk 2 ⟨fun hc => ?_, fun hc => ?_⟩
  · have H := am_it hc H
    exact T_Sheet_isStretch_30 w H
  · have H := am_ie hc H
    show am_gi D 65 o (4, [(0, .ref (45 + 2 * p0)), (1, .int a1), (2, .int a2)], [], ww w, 0, 0)
    refine am_go_blk 2 ⟨fun hc => ?_, fun hc => ?_⟩
    · have H := am_it hc H
      exact T_Sheet_isStretch_30 w H
    · have H := am_ie hc H
      show am_gi D 65 o (8, [(0, .ref (45 + 2 * p0)), (1, .int a1), (2, .int a2)], [], ww w, 0, 0)
      refine am_go_blk 2 (?_ : am_gi D 65 o (10, [(0, .ref (45 + 2 * p0)), (1, .int a1), (2, .int a2)], [.ref (45 + 2 * p0), .int a1], ww w, 0, 0))
      refine am_gfd rfl rfl (ww_sheet hp0) rfl (?_ : am_gi D 65 o (13, [(0, .ref (45 + 2 * p0)), (1, .int a1), (2, .int a2)], [.int (w.1 (45 + 2 * p0) 1), .int a1], ww w, 0, 0))
      refine am_go_blk 1 ⟨fun hc => ?_, fun hc => ?_⟩
      · have H := am_it hc H
        exact T_Sheet_isStretch_30 w H
      · have H := am_ie hc H
        show am_gi D 65 o (16, [(0, .ref (45 + 2 * p0)), (1, .int a1), (2, .int a2)], [], ww w, 0, 0)
        refine am_go_blk 2 (?_ : am_gi D 65 o (18, [(0, .ref (45 + 2 * p0)), (1, .int a1), (2, .int a2)], [.ref (45 + 2 * p0), .int a2], ww w, 0, 0))
        refine am_gfd rfl rfl (ww_sheet hp0) rfl (?_ : am_gi D 65 o (21, [(0, .ref (45 + 2 * p0)), (1, .int a1), (2, .int a2)], [.int (w.1 (45 + 2 * p0) 1), .int a2], ww w, 0, 0))
        refine am_go_blk 3 ⟨fun hc => ?_, fun hc => ?_⟩
        · have H := am_it hc H
          exact T_Sheet_isStretch_30 w H
        · have H := am_ie hc H
          show am_gi D 65 o (26, [(0, .ref (45 + 2 * p0)), (1, .int a1), (2, .int a2)], [], ww w, 0, 0)
          exact am_go_blk 2 (T_Sheet_isStretch_31 (nI 1) w H)
theorem M_Sheet_isStretch {D : Nat} {o : Int32 × am_W} {p0 : Nat} {a1 : Int32} {a2 : Int32} {w : am_W} (hp0 : p0 < 4) (H : F_Sheet_isStretch p0 a1 a2 w = some o) : am_run (D + 1) 65 [.ref (45 + 2 * p0), .int a1, .int a2] (ww w) (some (.int o.1)) (ww o.2) 0 0 :=
  am_run_of rfl (T_Sheet_isStretch p0 a1 a2 w hp0 H)
def F_Loc_copy_14 (w : am_W) : Option (Int32 × am_W) :=
  some ((-nI 2), w)
def F_Loc_copy_49 (w : am_W) : Option (Int32 × am_W) :=
  some ((-nI 11), w)
def F_Loc_copy_91 (w : am_W) : Option (Int32 × am_W) :=
  some ((-nI 12), w)
def F_Loc_copy (a1 : Int32) (a2 : Int32) (a3 : Int32) (a4 : Int32) (a5 : Int32) (w : am_W) : Option (Int32 × am_W) :=
  (F_Loc_isSheet a1 w).bind fun q1 => if q1.1 = 0 then (F_Loc_copy_14 q1.2) else ((F_Loc_isSheet a3 q1.2).bind fun q2 => if q2.1 = 0 then (F_Loc_copy_14 q2.2) else (am_ck (am_in a1 4) (am_ck (am_in a3 4) ((F_Sheet_isMissing a1.toNatClampNeg q2.2).bind fun q5 => if q5.1 = 0 then ((F_Sheet_isMissing a3.toNatClampNeg q5.2).bind fun q6 => if q6.1 = 0 then (if (q6.2.1 (45 + 2 * a1.toNatClampNeg) 0) = (q6.2.1 (45 + 2 * a3.toNatClampNeg) 0) then ((F_Sheet_isStretch a1.toNatClampNeg a2 a5 q6.2).bind fun q7 => if q7.1 = 0 then (F_Loc_copy_91 q7.2) else ((F_Sheet_isStretch a3.toNatClampNeg a4 a5 q7.2).bind fun q8 => if q8.1 = 0 then (F_Loc_copy_91 q8.2) else (am_ck (am_cpk a2 a4 a5 40 40) (am_lt (wcp q8.2 (46 + 2 * a1.toNatClampNeg) (46 + 2 * a3.toNatClampNeg) a2 a4 a5) fun w9 => some (a5, w9))))) else (some ((-nI 13), q6.2))) else (F_Loc_copy_49 q6.2)) else (F_Loc_copy_49 q5.2)))))
theorem T_Loc_copy_14 {D : Nat} {o : Int32 × am_W} (w : am_W) (H : F_Loc_copy_14 w = some o) : am_gi (D + 1) 115 o (14, [], [], ww w, 0, 0) := by
  unfold F_Loc_copy_14 at H
  exact am_go_blk 2 ⟨rfl, am_fi H⟩
theorem T_Loc_copy_49 {D : Nat} {o : Int32 × am_W} (w : am_W) (H : F_Loc_copy_49 w = some o) : am_gi (D + 1) 115 o (49, [], [], ww w, 0, 0) := by
  unfold F_Loc_copy_49 at H
  exact am_go_blk 2 ⟨rfl, am_fi H⟩
theorem T_Loc_copy_91 {D : Nat} {o : Int32 × am_W} (w : am_W) (H : F_Loc_copy_91 w = some o) : am_gi (D + 1) 115 o (91, [], [], ww w, 0, 0) := by
  unfold F_Loc_copy_91 at H
  exact am_go_blk 2 ⟨rfl, am_fi H⟩
theorem T_Loc_copy {D : Nat} {o : Int32 × am_W} (a1 : Int32) (a2 : Int32) (a3 : Int32) (a4 : Int32) (a5 : Int32) (w : am_W) (H : F_Loc_copy a1 a2 a3 a4 a5 w = some o) : am_gi (D + 1) 115 o (0, [(0, .ref 0), (1, .int a1), (2, .int a2), (3, .int a3), (4, .int a4), (5, .int a5)], [], ww w, 0, 0) := by
  unfold F_Loc_copy at H
  obtain ⟨q1, hqq1, H⟩ := am_bnE H
  refine am_go_blk 1 (?_ : am_gi (D + 1) 115 o (1, [(0, .ref 0), (1, .int a1), (2, .int a2), (3, .int a3), (4, .int a4), (5, .int a5)], [.int a1], ww w, 0, 0))
  refine am_cls rfl rfl rfl (am_calli rfl (M_Loc_isSheet (D := D) hqq1) (?_ : am_gi (D + 1) 115 o (4, [(0, .ref 0), (1, .int a1), (2, .int a2), (3, .int a3), (4, .int a4), (5, .int a5)], [.int q1.1], ww q1.2, 0, 0)))
  refine am_go_blk 1 ⟨fun hc => ?_, fun hc => ?_⟩
  · have H := am_it hc H
    exact T_Loc_copy_14 q1.2 H
  · have H := am_ie hc H
    show am_gi (D + 1) 115 o (7, [(0, .ref 0), (1, .int a1), (2, .int a2), (3, .int a3), (4, .int a4), (5, .int a5)], [], ww q1.2, 0, 0)
    obtain ⟨q2, hqq2, H⟩ := am_bnE H
    refine am_go_blk 1 (?_ : am_gi (D + 1) 115 o (8, [(0, .ref 0), (1, .int a1), (2, .int a2), (3, .int a3), (4, .int a4), (5, .int a5)], [.int a3], ww q1.2, 0, 0))
    refine am_cls rfl rfl rfl (am_calli rfl (M_Loc_isSheet (D := D) hqq2) (?_ : am_gi (D + 1) 115 o (11, [(0, .ref 0), (1, .int a1), (2, .int a2), (3, .int a3), (4, .int a4), (5, .int a5)], [.int q2.1], ww q2.2, 0, 0)))
    refine am_go_blk 1 ⟨fun hc => ?_, fun hc => ?_⟩
    · have H := am_ie hc H
      show am_gi (D + 1) 115 o (17, [(0, .ref 0), (1, .int a1), (2, .int a2), (3, .int a3), (4, .int a4), (5, .int a5)], [], ww q2.2, 0, 0)
      obtain ⟨hi3, H⟩ := am_ckE H
      refine am_go_blk 4 ⟨am_inv hi3, am_tv (am_shv (am_inl hi3)) (?_ : am_gi (D + 1) 115 o (23, [(0, .ref 0), (1, .int a1), (2, .int a2), (3, .int a3), (4, .int a4), (5, .int a5)], [.ref (45 + 2 * a1.toNatClampNeg)], ww q2.2, 0, 0))⟩
      obtain ⟨hi4, H⟩ := am_ckE H
      refine am_go_blk 5 ⟨am_inv hi4, am_tv (am_shv (am_inl hi4)) (?_ : am_gi (D + 1) 115 o (31, [(6, .ref (45 + 2 * a1.toNatClampNeg)), (0, .ref 0), (1, .int a1), (2, .int a2), (3, .int a3), (4, .int a4), (5, .int a5)], [.ref (45 + 2 * a3.toNatClampNeg)], ww q2.2, 0, 0))⟩
      obtain ⟨q5, hqq5, H⟩ := am_bnE H
      refine am_go_blk 2 (?_ : am_gi (D + 1) 115 o (35, [(7, .ref (45 + 2 * a3.toNatClampNeg)), (6, .ref (45 + 2 * a1.toNatClampNeg)), (0, .ref 0), (1, .int a1), (2, .int a2), (3, .int a3), (4, .int a4), (5, .int a5)], [.ref (45 + 2 * a1.toNatClampNeg)], ww q2.2, 0, 0))
      refine am_invd rfl rfl (ww_sheet (am_inl hi3)) rfl (am_calli rfl (M_Sheet_isMissing (D := D) (am_inl hi3) hqq5) (?_ : am_gi (D + 1) 115 o (38, [(7, .ref (45 + 2 * a3.toNatClampNeg)), (6, .ref (45 + 2 * a1.toNatClampNeg)), (0, .ref 0), (1, .int a1), (2, .int a2), (3, .int a3), (4, .int a4), (5, .int a5)], [.int q5.1], ww q5.2, 0, 0)))
      refine am_go_blk 1 ⟨fun hc => ?_, fun hc => ?_⟩
      · have H := am_ie hc H
        exact T_Loc_copy_49 q5.2 H
      · have H := am_it hc H
        show am_gi (D + 1) 115 o (41, [(7, .ref (45 + 2 * a3.toNatClampNeg)), (6, .ref (45 + 2 * a1.toNatClampNeg)), (0, .ref 0), (1, .int a1), (2, .int a2), (3, .int a3), (4, .int a4), (5, .int a5)], [], ww q5.2, 0, 0)
        obtain ⟨q6, hqq6, H⟩ := am_bnE H
        refine am_go_blk 1 (?_ : am_gi (D + 1) 115 o (43, [(7, .ref (45 + 2 * a3.toNatClampNeg)), (6, .ref (45 + 2 * a1.toNatClampNeg)), (0, .ref 0), (1, .int a1), (2, .int a2), (3, .int a3), (4, .int a4), (5, .int a5)], [.ref (45 + 2 * a3.toNatClampNeg)], ww q5.2, 0, 0))
        refine am_invd rfl rfl (ww_sheet (am_inl hi4)) rfl (am_calli rfl (M_Sheet_isMissing (D := D) (am_inl hi4) hqq6) (?_ : am_gi (D + 1) 115 o (46, [(7, .ref (45 + 2 * a3.toNatClampNeg)), (6, .ref (45 + 2 * a1.toNatClampNeg)), (0, .ref 0), (1, .int a1), (2, .int a2), (3, .int a3), (4, .int a4), (5, .int a5)], [.int q6.1], ww q6.2, 0, 0)))
        refine am_go_blk 1 ⟨fun hc => ?_, fun hc => ?_⟩
        · have H := am_it hc H
          show am_gi (D + 1) 115 o (52, [(2, .int a2), (4, .int a4), (5, .int a5), (6, .ref (45 + 2 * a1.toNatClampNeg)), (7, .ref (45 + 2 * a3.toNatClampNeg))], [], ww q6.2, 0, 0)
          refine am_go_blk 1 (?_ : am_gi (D + 1) 115 o (54, [(2, .int a2), (4, .int a4), (5, .int a5), (6, .ref (45 + 2 * a1.toNatClampNeg)), (7, .ref (45 + 2 * a3.toNatClampNeg))], [.ref (45 + 2 * a1.toNatClampNeg)], ww q6.2, 0, 0))
          refine am_gfd rfl rfl (ww_sheet (am_inl hi3)) rfl (?_ : am_gi (D + 1) 115 o (57, [(2, .int a2), (4, .int a4), (5, .int a5), (6, .ref (45 + 2 * a1.toNatClampNeg)), (7, .ref (45 + 2 * a3.toNatClampNeg))], [.int (q6.2.1 (45 + 2 * a1.toNatClampNeg) 0)], ww q6.2, 0, 0))
          refine am_go_blk 1 (?_ : am_gi (D + 1) 115 o (59, [(2, .int a2), (4, .int a4), (5, .int a5), (6, .ref (45 + 2 * a1.toNatClampNeg)), (7, .ref (45 + 2 * a3.toNatClampNeg))], [.ref (45 + 2 * a3.toNatClampNeg), .int (q6.2.1 (45 + 2 * a1.toNatClampNeg) 0)], ww q6.2, 0, 0))
          refine am_gfd rfl rfl (ww_sheet (am_inl hi4)) rfl (?_ : am_gi (D + 1) 115 o (62, [(2, .int a2), (4, .int a4), (5, .int a5), (6, .ref (45 + 2 * a1.toNatClampNeg)), (7, .ref (45 + 2 * a3.toNatClampNeg))], [.int (q6.2.1 (45 + 2 * a3.toNatClampNeg) 0), .int (q6.2.1 (45 + 2 * a1.toNatClampNeg) 0)], ww q6.2, 0, 0))
          refine am_go_blk 1 ⟨fun hc => ?_, fun hc => ?_⟩
          · have H := am_it hc H
            show am_gi (D + 1) 115 o (68, [(2, .int a2), (4, .int a4), (5, .int a5), (6, .ref (45 + 2 * a1.toNatClampNeg)), (7, .ref (45 + 2 * a3.toNatClampNeg))], [], ww q6.2, 0, 0)
            obtain ⟨q7, hqq7, H⟩ := am_bnE H
            refine am_go_blk 3 (?_ : am_gi (D + 1) 115 o (73, [(2, .int a2), (4, .int a4), (5, .int a5), (6, .ref (45 + 2 * a1.toNatClampNeg)), (7, .ref (45 + 2 * a3.toNatClampNeg))], [.int a5, .int a2, .ref (45 + 2 * a1.toNatClampNeg)], ww q6.2, 0, 0))
            refine am_invd rfl rfl (ww_sheet (am_inl hi3)) rfl (am_calli rfl (M_Sheet_isStretch (D := D) (am_inl hi3) hqq7) (?_ : am_gi (D + 1) 115 o (76, [(2, .int a2), (4, .int a4), (5, .int a5), (6, .ref (45 + 2 * a1.toNatClampNeg)), (7, .ref (45 + 2 * a3.toNatClampNeg))], [.int q7.1], ww q7.2, 0, 0)))
            refine am_go_blk 1 ⟨fun hc => ?_, fun hc => ?_⟩
            · have H := am_it hc H
              exact T_Loc_copy_91 q7.2 H
            · have H := am_ie hc H
              show am_gi (D + 1) 115 o (79, [(2, .int a2), (4, .int a4), (5, .int a5), (6, .ref (45 + 2 * a1.toNatClampNeg)), (7, .ref (45 + 2 * a3.toNatClampNeg))], [], ww q7.2, 0, 0)
              obtain ⟨q8, hqq8, H⟩ := am_bnE H
              refine am_go_blk 3 (?_ : am_gi (D + 1) 115 o (85, [(2, .int a2), (4, .int a4), (5, .int a5), (6, .ref (45 + 2 * a1.toNatClampNeg)), (7, .ref (45 + 2 * a3.toNatClampNeg))], [.int a5, .int a4, .ref (45 + 2 * a3.toNatClampNeg)], ww q7.2, 0, 0))
              refine am_invd rfl rfl (ww_sheet (am_inl hi4)) rfl (am_calli rfl (M_Sheet_isStretch (D := D) (am_inl hi4) hqq8) (?_ : am_gi (D + 1) 115 o (88, [(2, .int a2), (4, .int a4), (5, .int a5), (6, .ref (45 + 2 * a1.toNatClampNeg)), (7, .ref (45 + 2 * a3.toNatClampNeg))], [.int q8.1], ww q8.2, 0, 0)))
              refine am_go_blk 1 ⟨fun hc => ?_, fun hc => ?_⟩
              · have H := am_ie hc H
                show am_gi (D + 1) 115 o (94, [(2, .int a2), (4, .int a4), (5, .int a5), (6, .ref (45 + 2 * a1.toNatClampNeg)), (7, .ref (45 + 2 * a3.toNatClampNeg))], [], ww q8.2, 0, 0)
                refine am_go_blk 1 (?_ : am_gi (D + 1) 115 o (96, [(2, .int a2), (4, .int a4), (5, .int a5), (6, .ref (45 + 2 * a1.toNatClampNeg)), (7, .ref (45 + 2 * a3.toNatClampNeg))], [.ref (45 + 2 * a1.toNatClampNeg)], ww q8.2, 0, 0))
                refine am_gfd rfl rfl (ww_sheet (am_inl hi3)) rfl (?_ : am_gi (D + 1) 115 o (99, [(2, .int a2), (4, .int a4), (5, .int a5), (6, .ref (45 + 2 * a1.toNatClampNeg)), (7, .ref (45 + 2 * a3.toNatClampNeg))], [.ref (46 + 2 * a1.toNatClampNeg)], ww q8.2, 0, 0))
                refine am_go_blk 2 (?_ : am_gi (D + 1) 115 o (102, [(2, .int a2), (4, .int a4), (5, .int a5), (6, .ref (45 + 2 * a1.toNatClampNeg)), (7, .ref (45 + 2 * a3.toNatClampNeg))], [.ref (45 + 2 * a3.toNatClampNeg), .int a2, .ref (46 + 2 * a1.toNatClampNeg)], ww q8.2, 0, 0))
                refine am_gfd rfl rfl (ww_sheet (am_inl hi4)) rfl (?_ : am_gi (D + 1) 115 o (105, [(2, .int a2), (4, .int a4), (5, .int a5), (6, .ref (45 + 2 * a1.toNatClampNeg)), (7, .ref (45 + 2 * a3.toNatClampNeg))], [.ref (46 + 2 * a3.toNatClampNeg), .int a2, .ref (46 + 2 * a1.toNatClampNeg)], ww q8.2, 0, 0))
                obtain ⟨hc, H⟩ := am_ckE H
                obtain ⟨w9, ew9, H⟩ := am_ltE H
                refine am_go_blk 2 (?_ : am_gi (D + 1) 115 o (109, [(2, .int a2), (4, .int a4), (5, .int a5), (6, .ref (45 + 2 * a1.toNatClampNeg)), (7, .ref (45 + 2 * a3.toNatClampNeg))], [.int a5, .int a4, .ref (46 + 2 * a3.toNatClampNeg), .int a2, .ref (46 + 2 * a1.toNatClampNeg)], ww q8.2, 0, 0))
                refine am_cpd rfl (ww_numbers (am_inl hi3)) (ww_numbers (am_inl hi4)) rfl hc (ww_numbers_c (am_inl hi4) ew9) (?_ : am_gi (D + 1) 115 o (112, [(2, .int a2), (4, .int a4), (5, .int a5), (6, .ref (45 + 2 * a1.toNatClampNeg)), (7, .ref (45 + 2 * a3.toNatClampNeg))], [], ww w9, 0, 0))
                exact am_go_blk 2 ⟨rfl, am_fi H⟩
              · have H := am_it hc H
                exact T_Loc_copy_91 q8.2 H
          · have H := am_ie hc H
            show am_gi (D + 1) 115 o (65, [(2, .int a2), (4, .int a4), (5, .int a5), (6, .ref (45 + 2 * a1.toNatClampNeg)), (7, .ref (45 + 2 * a3.toNatClampNeg))], [], ww q6.2, 0, 0)
            exact am_go_blk 2 ⟨rfl, am_fi H⟩
        · have H := am_ie hc H
          exact T_Loc_copy_49 q6.2 H
    · have H := am_it hc H
      exact T_Loc_copy_14 q2.2 H
theorem M_Loc_copy {D : Nat} {o : Int32 × am_W} {a1 : Int32} {a2 : Int32} {a3 : Int32} {a4 : Int32} {a5 : Int32} {w : am_W} (H : F_Loc_copy a1 a2 a3 a4 a5 w = some o) : am_run (D + 2) 115 [.ref 0, .int a1, .int a2, .int a3, .int a4, .int a5] (ww w) (some (.int o.1)) (ww o.2) 0 0 :=
  am_run_of rfl (T_Loc_copy a1 a2 a3 a4 a5 w H)
def F_Loc_locksBy_26 (w : am_W) : Option (Int32 × am_W) :=
  some ((-nI 2), w)
def F_Loc_locksBy_133 (r66 : Int32 → Int32 → Nat → Int32 → Int32 → am_W → Option (Int32 × am_W)) (a3 : Int32) (a4 : Int32) (p5 : Nat) (a6 : Int32) (a7 : Int32) (w : am_W) : Option (Int32 × am_W) :=
  r66 a3 a4 p5 a6 (a7 + (nI 1)) w
def F_Loc_locksBy_66 (r66 : Int32 → Int32 → Nat → Int32 → Int32 → am_W → Option (Int32 × am_W)) (a3 : Int32) (a4 : Int32) (p5 : Nat) (a6 : Int32) (a7 : Int32) (w : am_W) : Option (Int32 × am_W) :=
  if a4 ≤ a7 then (some (a6, w)) else ((F_Sheet_isStretch p5 (a3 + ((nI 3) * a7)) (nI 3) w).bind fun q5 => if q5.1 = 0 then (some ((-nI 12), q5.2)) else (am_ck (am_in (a3 + ((nI 3) * a7)) 40) (am_ck (am_in ((a3 + ((nI 3) * a7)) + (nI 1)) 40) (am_ck (am_in ((a3 + ((nI 3) * a7)) + (nI 2)) 40) ((F_Loc_lock (q5.2.1 (46 + 2 * p5) (a3 + ((nI 3) * a7)).toNatClampNeg) (q5.2.1 (46 + 2 * p5) ((a3 + ((nI 3) * a7)) + (nI 1)).toNatClampNeg) (q5.2.1 (46 + 2 * p5) ((a3 + ((nI 3) * a7)) + (nI 2)).toNatClampNeg) q5.2).bind fun q6 => if q6.1 < 0 then (F_Loc_locksBy_133 r66 a3 a4 p5 a6 a7 q6.2) else (F_Loc_locksBy_133 r66 a3 a4 p5 (a6 + (nI 1)) a7 q6.2))))))
def L_Loc_locksBy_66 : Nat → Int32 → Int32 → Nat → Int32 → Int32 → am_W → Option (Int32 × am_W)
  | 0, _, _, _, _, _, _ => none
  | n + 1, a3, a4, p5, a6, a7, w => F_Loc_locksBy_66 (L_Loc_locksBy_66 n) a3 a4 p5 a6 a7 w
def F_Loc_locksBy (a1 : Int32) (a2 : Int32) (a3 : Int32) (a4 : Int32) (w : am_W) : Option (Int32 × am_W) :=
  (F_Loc_isSheet a1 w).bind fun q1 => if q1.1 = 0 then (F_Loc_locksBy_26 q1.2) else ((F_Loc_isSort a2 q1.2).bind fun q2 => if q2.1 = 0 then (F_Loc_locksBy_26 q2.2) else (if a4 < 0 then (F_Loc_locksBy_26 q2.2) else (if a4 ≤ (nI 10) then (am_ck (am_in a1 4) ((F_Sheet_isMissing a1.toNatClampNeg q2.2).bind fun q4 => if q4.1 = 0 then (if (q4.2.1 (45 + 2 * a1.toNatClampNeg) 0) = a2 then (L_Loc_locksBy_66 am_NF a3 a4 a1.toNatClampNeg (nI 0) (nI 0) q4.2) else (some ((-nI 13), q4.2))) else (some ((-nI 11), q4.2)))) else (F_Loc_locksBy_26 q2.2))))
theorem T_Loc_locksBy_26 {D : Nat} {o : Int32 × am_W} (w : am_W) (H : F_Loc_locksBy_26 w = some o) : am_gi (D + 5) 116 o (26, [], [], ww w, 0, 0) := by
  unfold F_Loc_locksBy_26 at H
  exact am_go_blk 2 ⟨rfl, am_fi H⟩
theorem T_Loc_locksBy_133 {D : Nat} {o : Int32 × am_W} {r66 : Int32 → Int32 → Nat → Int32 → Int32 → am_W → Option (Int32 × am_W)} (Hr66 : ∀ (a3 : Int32) (a4 : Int32) (p5 : Nat) (a6 : Int32) (a7 : Int32) (w : am_W) (hp5 : p5 < 4), r66 a3 a4 p5 a6 a7 w = some o → am_gi (D + 5) 116 o (66, [(0, .ref 0), (3, .int a3), (4, .int a4), (5, .ref (45 + 2 * p5)), (6, .int a6), (7, .int a7)], [], ww w, 0, 0)) (a3 : Int32) (a4 : Int32) (p5 : Nat) (a6 : Int32) (a7 : Int32) (w : am_W) (hp5 : p5 < 4) (H : F_Loc_locksBy_133 r66 a3 a4 p5 a6 a7 w = some o) : am_gi (D + 5) 116 o (133, [(0, .ref 0), (3, .int a3), (4, .int a4), (5, .ref (45 + 2 * p5)), (6, .int a6), (7, .int a7)], [], ww w, 0, 0) := by
  unfold F_Loc_locksBy_133 at H
  exact am_go_blk 2 (Hr66 a3 a4 p5 a6 (a7 + (nI 1)) w hp5 H)
theorem T_Loc_locksBy_66 {D : Nat} {o : Int32 × am_W} {r66 : Int32 → Int32 → Nat → Int32 → Int32 → am_W → Option (Int32 × am_W)} (Hr66 : ∀ (a3 : Int32) (a4 : Int32) (p5 : Nat) (a6 : Int32) (a7 : Int32) (w : am_W) (hp5 : p5 < 4), r66 a3 a4 p5 a6 a7 w = some o → am_gi (D + 5) 116 o (66, [(0, .ref 0), (3, .int a3), (4, .int a4), (5, .ref (45 + 2 * p5)), (6, .int a6), (7, .int a7)], [], ww w, 0, 0)) (a3 : Int32) (a4 : Int32) (p5 : Nat) (a6 : Int32) (a7 : Int32) (w : am_W) (hp5 : p5 < 4) (H : F_Loc_locksBy_66 r66 a3 a4 p5 a6 a7 w = some o) : am_gi (D + 5) 116 o (66, [(0, .ref 0), (3, .int a3), (4, .int a4), (5, .ref (45 + 2 * p5)), (6, .int a6), (7, .int a7)], [], ww w, 0, 0) := by
  unfold F_Loc_locksBy_66 at H
  refine am_go_blk 3 ⟨fun hc => ?_, fun hc => ?_⟩
  · have H := am_it hc H
    show am_gi (D + 5) 116 o (139, [(6, .int a6)], [], ww w, 0, 0)
    exact am_go_blk 2 ⟨rfl, am_fi H⟩
  · have H := am_ie hc H
    show am_gi (D + 5) 116 o (73, [(0, .ref 0), (3, .int a3), (4, .int a4), (5, .ref (45 + 2 * p5)), (6, .int a6), (7, .int a7)], [], ww w, 0, 0)
    obtain ⟨q5, hqq5, H⟩ := am_bnE H
    refine am_go_blk 9 (?_ : am_gi (D + 5) 116 o (86, [(8, .int (a3 + ((nI 3) * a7))), (0, .ref 0), (3, .int a3), (4, .int a4), (5, .ref (45 + 2 * p5)), (6, .int a6), (7, .int a7)], [.int (nI 3), .int (a3 + ((nI 3) * a7)), .ref (45 + 2 * p5)], ww w, 0, 0))
    refine am_invd rfl rfl (ww_sheet hp5) rfl (am_calli rfl (M_Sheet_isStretch (D := D + 4) hp5 hqq5) (?_ : am_gi (D + 5) 116 o (89, [(8, .int (a3 + ((nI 3) * a7))), (0, .ref 0), (3, .int a3), (4, .int a4), (5, .ref (45 + 2 * p5)), (6, .int a6), (7, .int a7)], [.int q5.1], ww q5.2, 0, 0)))
    refine am_go_blk 1 ⟨fun hc => ?_, fun hc => ?_⟩
    · have H := am_ie hc H
      show am_gi (D + 5) 116 o (95, [(0, .ref 0), (3, .int a3), (4, .int a4), (5, .ref (45 + 2 * p5)), (6, .int a6), (7, .int a7), (8, .int (a3 + ((nI 3) * a7)))], [], ww q5.2, 0, 0)
      refine am_go_blk 2 (?_ : am_gi (D + 5) 116 o (98, [(0, .ref 0), (3, .int a3), (4, .int a4), (5, .ref (45 + 2 * p5)), (6, .int a6), (7, .int a7), (8, .int (a3 + ((nI 3) * a7)))], [.ref (45 + 2 * p5), .ref 0], ww q5.2, 0, 0))
      refine am_gfd rfl rfl (ww_sheet hp5) rfl (?_ : am_gi (D + 5) 116 o (101, [(0, .ref 0), (3, .int a3), (4, .int a4), (5, .ref (45 + 2 * p5)), (6, .int a6), (7, .int a7), (8, .int (a3 + ((nI 3) * a7)))], [.ref (46 + 2 * p5), .ref 0], ww q5.2, 0, 0))
      refine am_go_blk 1 (?_ : am_gi (D + 5) 116 o (103, [(0, .ref 0), (3, .int a3), (4, .int a4), (5, .ref (45 + 2 * p5)), (6, .int a6), (7, .int a7), (8, .int (a3 + ((nI 3) * a7)))], [.int (a3 + ((nI 3) * a7)), .ref (46 + 2 * p5), .ref 0], ww q5.2, 0, 0))
      obtain ⟨hc, H⟩ := am_ckE H
      refine am_iald rfl (ww_numbers hp5) (am_inv hc) (?_ : am_gi (D + 5) 116 o (104, [(0, .ref 0), (3, .int a3), (4, .int a4), (5, .ref (45 + 2 * p5)), (6, .int a6), (7, .int a7), (8, .int (a3 + ((nI 3) * a7)))], [.int (q5.2.1 (46 + 2 * p5) (a3 + ((nI 3) * a7)).toNatClampNeg), .ref 0], ww q5.2, 0, 0))
      refine am_go_blk 1 (?_ : am_gi (D + 5) 116 o (106, [(0, .ref 0), (3, .int a3), (4, .int a4), (5, .ref (45 + 2 * p5)), (6, .int a6), (7, .int a7), (8, .int (a3 + ((nI 3) * a7)))], [.ref (45 + 2 * p5), .int (q5.2.1 (46 + 2 * p5) (a3 + ((nI 3) * a7)).toNatClampNeg), .ref 0], ww q5.2, 0, 0))
      refine am_gfd rfl rfl (ww_sheet hp5) rfl (?_ : am_gi (D + 5) 116 o (109, [(0, .ref 0), (3, .int a3), (4, .int a4), (5, .ref (45 + 2 * p5)), (6, .int a6), (7, .int a7), (8, .int (a3 + ((nI 3) * a7)))], [.ref (46 + 2 * p5), .int (q5.2.1 (46 + 2 * p5) (a3 + ((nI 3) * a7)).toNatClampNeg), .ref 0], ww q5.2, 0, 0))
      refine am_go_blk 3 (?_ : am_gi (D + 5) 116 o (113, [(0, .ref 0), (3, .int a3), (4, .int a4), (5, .ref (45 + 2 * p5)), (6, .int a6), (7, .int a7), (8, .int (a3 + ((nI 3) * a7)))], [.int ((a3 + ((nI 3) * a7)) + (nI 1)), .ref (46 + 2 * p5), .int (q5.2.1 (46 + 2 * p5) (a3 + ((nI 3) * a7)).toNatClampNeg), .ref 0], ww q5.2, 0, 0))
      obtain ⟨hc, H⟩ := am_ckE H
      refine am_iald rfl (ww_numbers hp5) (am_inv hc) (?_ : am_gi (D + 5) 116 o (114, [(0, .ref 0), (3, .int a3), (4, .int a4), (5, .ref (45 + 2 * p5)), (6, .int a6), (7, .int a7), (8, .int (a3 + ((nI 3) * a7)))], [.int (q5.2.1 (46 + 2 * p5) ((a3 + ((nI 3) * a7)) + (nI 1)).toNatClampNeg), .int (q5.2.1 (46 + 2 * p5) (a3 + ((nI 3) * a7)).toNatClampNeg), .ref 0], ww q5.2, 0, 0))
      refine am_go_blk 1 (?_ : am_gi (D + 5) 116 o (116, [(0, .ref 0), (3, .int a3), (4, .int a4), (5, .ref (45 + 2 * p5)), (6, .int a6), (7, .int a7), (8, .int (a3 + ((nI 3) * a7)))], [.ref (45 + 2 * p5), .int (q5.2.1 (46 + 2 * p5) ((a3 + ((nI 3) * a7)) + (nI 1)).toNatClampNeg), .int (q5.2.1 (46 + 2 * p5) (a3 + ((nI 3) * a7)).toNatClampNeg), .ref 0], ww q5.2, 0, 0))
      refine am_gfd rfl rfl (ww_sheet hp5) rfl (?_ : am_gi (D + 5) 116 o (119, [(0, .ref 0), (3, .int a3), (4, .int a4), (5, .ref (45 + 2 * p5)), (6, .int a6), (7, .int a7), (8, .int (a3 + ((nI 3) * a7)))], [.ref (46 + 2 * p5), .int (q5.2.1 (46 + 2 * p5) ((a3 + ((nI 3) * a7)) + (nI 1)).toNatClampNeg), .int (q5.2.1 (46 + 2 * p5) (a3 + ((nI 3) * a7)).toNatClampNeg), .ref 0], ww q5.2, 0, 0))
      refine am_go_blk 3 (?_ : am_gi (D + 5) 116 o (123, [(0, .ref 0), (3, .int a3), (4, .int a4), (5, .ref (45 + 2 * p5)), (6, .int a6), (7, .int a7), (8, .int (a3 + ((nI 3) * a7)))], [.int ((a3 + ((nI 3) * a7)) + (nI 2)), .ref (46 + 2 * p5), .int (q5.2.1 (46 + 2 * p5) ((a3 + ((nI 3) * a7)) + (nI 1)).toNatClampNeg), .int (q5.2.1 (46 + 2 * p5) (a3 + ((nI 3) * a7)).toNatClampNeg), .ref 0], ww q5.2, 0, 0))
      obtain ⟨hc, H⟩ := am_ckE H
      refine am_iald rfl (ww_numbers hp5) (am_inv hc) (?_ : am_gi (D + 5) 116 o (124, [(0, .ref 0), (3, .int a3), (4, .int a4), (5, .ref (45 + 2 * p5)), (6, .int a6), (7, .int a7), (8, .int (a3 + ((nI 3) * a7)))], [.int (q5.2.1 (46 + 2 * p5) ((a3 + ((nI 3) * a7)) + (nI 2)).toNatClampNeg), .int (q5.2.1 (46 + 2 * p5) ((a3 + ((nI 3) * a7)) + (nI 1)).toNatClampNeg), .int (q5.2.1 (46 + 2 * p5) (a3 + ((nI 3) * a7)).toNatClampNeg), .ref 0], ww q5.2, 0, 0))
      obtain ⟨q6, hqq6, H⟩ := am_bnE H
      refine am_invd rfl rfl rfl rfl (am_calli rfl (M_Loc_lock (D := D) hqq6) (?_ : am_gi (D + 5) 116 o (127, [(0, .ref 0), (3, .int a3), (4, .int a4), (5, .ref (45 + 2 * p5)), (6, .int a6), (7, .int a7), (8, .int (a3 + ((nI 3) * a7)))], [.int q6.1], ww q6.2, 0, 0)))
      refine am_go_blk 1 ⟨fun hc => ?_, fun hc => ?_⟩
      · have H := am_it hc H
        exact T_Loc_locksBy_133 Hr66 a3 a4 p5 a6 a7 q6.2 hp5 H
      · have H := am_ie hc H
        show am_gi (D + 5) 116 o (130, [(0, .ref 0), (3, .int a3), (4, .int a4), (5, .ref (45 + 2 * p5)), (6, .int a6), (7, .int a7), (8, .int (a3 + ((nI 3) * a7)))], [], ww q6.2, 0, 0)
        exact am_go_blk 1 (T_Loc_locksBy_133 Hr66 a3 a4 p5 (a6 + (nI 1)) a7 q6.2 hp5 H)
    · have H := am_it hc H
      show am_gi (D + 5) 116 o (92, [(8, .int (a3 + ((nI 3) * a7))), (0, .ref 0), (3, .int a3), (4, .int a4), (5, .ref (45 + 2 * p5)), (6, .int a6), (7, .int a7)], [], ww q5.2, 0, 0)
      exact am_go_blk 2 ⟨rfl, am_fi H⟩
theorem TL_Loc_locksBy_66 {D : Nat} {o : Int32 × am_W} : ∀ (n : Nat) (a3 : Int32) (a4 : Int32) (p5 : Nat) (a6 : Int32) (a7 : Int32) (w : am_W) (hp5 : p5 < 4), L_Loc_locksBy_66 n a3 a4 p5 a6 a7 w = some o → am_gi (D + 5) 116 o (66, [(0, .ref 0), (3, .int a3), (4, .int a4), (5, .ref (45 + 2 * p5)), (6, .int a6), (7, .int a7)], [], ww w, 0, 0)
  | 0, _, _, _, _, _, _, _, H => by cases H
  | n + 1, a3, a4, p5, a6, a7, w, hp5, H => T_Loc_locksBy_66 (TL_Loc_locksBy_66 n) a3 a4 p5 a6 a7 w hp5 H
theorem T_Loc_locksBy {D : Nat} {o : Int32 × am_W} (a1 : Int32) (a2 : Int32) (a3 : Int32) (a4 : Int32) (w : am_W) (H : F_Loc_locksBy a1 a2 a3 a4 w = some o) : am_gi (D + 5) 116 o (0, [(0, .ref 0), (1, .int a1), (2, .int a2), (3, .int a3), (4, .int a4)], [], ww w, 0, 0) := by
  unfold F_Loc_locksBy at H
  obtain ⟨q1, hqq1, H⟩ := am_bnE H
  refine am_go_blk 1 (?_ : am_gi (D + 5) 116 o (1, [(0, .ref 0), (1, .int a1), (2, .int a2), (3, .int a3), (4, .int a4)], [.int a1], ww w, 0, 0))
  refine am_cls rfl rfl rfl (am_calli rfl (M_Loc_isSheet (D := D + 4) hqq1) (?_ : am_gi (D + 5) 116 o (4, [(0, .ref 0), (1, .int a1), (2, .int a2), (3, .int a3), (4, .int a4)], [.int q1.1], ww q1.2, 0, 0)))
  refine am_go_blk 1 ⟨fun hc => ?_, fun hc => ?_⟩
  · have H := am_it hc H
    exact T_Loc_locksBy_26 q1.2 H
  · have H := am_ie hc H
    show am_gi (D + 5) 116 o (7, [(0, .ref 0), (1, .int a1), (2, .int a2), (3, .int a3), (4, .int a4)], [], ww q1.2, 0, 0)
    obtain ⟨q2, hqq2, H⟩ := am_bnE H
    refine am_go_blk 1 (?_ : am_gi (D + 5) 116 o (8, [(0, .ref 0), (1, .int a1), (2, .int a2), (3, .int a3), (4, .int a4)], [.int a2], ww q1.2, 0, 0))
    refine am_cls rfl rfl rfl (am_calli rfl (M_Loc_isSort (D := D + 4) hqq2) (?_ : am_gi (D + 5) 116 o (11, [(0, .ref 0), (1, .int a1), (2, .int a2), (3, .int a3), (4, .int a4)], [.int q2.1], ww q2.2, 0, 0)))
    refine am_go_blk 1 ⟨fun hc => ?_, fun hc => ?_⟩
    · have H := am_it hc H
      exact T_Loc_locksBy_26 q2.2 H
    · have H := am_ie hc H
      show am_gi (D + 5) 116 o (14, [(0, .ref 0), (1, .int a1), (2, .int a2), (3, .int a3), (4, .int a4)], [], ww q2.2, 0, 0)
      refine am_go_blk 2 ⟨fun hc => ?_, fun hc => ?_⟩
      · have H := am_it hc H
        exact T_Loc_locksBy_26 q2.2 H
      · have H := am_ie hc H
        show am_gi (D + 5) 116 o (19, [(0, .ref 0), (1, .int a1), (2, .int a2), (3, .int a3), (4, .int a4)], [], ww q2.2, 0, 0)
        refine am_go_blk 3 ⟨fun hc => ?_, fun hc => ?_⟩
        · have H := am_it hc H
          show am_gi (D + 5) 116 o (29, [(0, .ref 0), (1, .int a1), (2, .int a2), (3, .int a3), (4, .int a4)], [], ww q2.2, 0, 0)
          obtain ⟨hi3, H⟩ := am_ckE H
          refine am_go_blk 4 ⟨am_inv hi3, am_tv (am_shv (am_inl hi3)) (?_ : am_gi (D + 5) 116 o (35, [(0, .ref 0), (1, .int a1), (2, .int a2), (3, .int a3), (4, .int a4)], [.ref (45 + 2 * a1.toNatClampNeg)], ww q2.2, 0, 0))⟩
          obtain ⟨q4, hqq4, H⟩ := am_bnE H
          refine am_go_blk 2 (?_ : am_gi (D + 5) 116 o (39, [(5, .ref (45 + 2 * a1.toNatClampNeg)), (0, .ref 0), (1, .int a1), (2, .int a2), (3, .int a3), (4, .int a4)], [.ref (45 + 2 * a1.toNatClampNeg)], ww q2.2, 0, 0))
          refine am_invd rfl rfl (ww_sheet (am_inl hi3)) rfl (am_calli rfl (M_Sheet_isMissing (D := D + 4) (am_inl hi3) hqq4) (?_ : am_gi (D + 5) 116 o (42, [(5, .ref (45 + 2 * a1.toNatClampNeg)), (0, .ref 0), (1, .int a1), (2, .int a2), (3, .int a3), (4, .int a4)], [.int q4.1], ww q4.2, 0, 0)))
          refine am_go_blk 1 ⟨fun hc => ?_, fun hc => ?_⟩
          · have H := am_it hc H
            show am_gi (D + 5) 116 o (48, [(0, .ref 0), (2, .int a2), (3, .int a3), (4, .int a4), (5, .ref (45 + 2 * a1.toNatClampNeg))], [], ww q4.2, 0, 0)
            refine am_go_blk 1 (?_ : am_gi (D + 5) 116 o (50, [(0, .ref 0), (2, .int a2), (3, .int a3), (4, .int a4), (5, .ref (45 + 2 * a1.toNatClampNeg))], [.ref (45 + 2 * a1.toNatClampNeg)], ww q4.2, 0, 0))
            refine am_gfd rfl rfl (ww_sheet (am_inl hi3)) rfl (?_ : am_gi (D + 5) 116 o (53, [(0, .ref 0), (2, .int a2), (3, .int a3), (4, .int a4), (5, .ref (45 + 2 * a1.toNatClampNeg))], [.int (q4.2.1 (45 + 2 * a1.toNatClampNeg) 0)], ww q4.2, 0, 0))
            refine am_go_blk 2 ⟨fun hc => ?_, fun hc => ?_⟩
            · have H := am_it hc H
              show am_gi (D + 5) 116 o (60, [(0, .ref 0), (3, .int a3), (4, .int a4), (5, .ref (45 + 2 * a1.toNatClampNeg))], [], ww q4.2, 0, 0)
              exact am_go_blk 4 (TL_Loc_locksBy_66 am_NF a3 a4 a1.toNatClampNeg (nI 0) (nI 0) q4.2 (am_inl hi3) H)
            · have H := am_ie hc H
              show am_gi (D + 5) 116 o (57, [(0, .ref 0), (2, .int a2), (3, .int a3), (4, .int a4), (5, .ref (45 + 2 * a1.toNatClampNeg))], [], ww q4.2, 0, 0)
              exact am_go_blk 2 ⟨rfl, am_fi H⟩
          · have H := am_ie hc H
            show am_gi (D + 5) 116 o (45, [(5, .ref (45 + 2 * a1.toNatClampNeg)), (0, .ref 0), (1, .int a1), (2, .int a2), (3, .int a3), (4, .int a4)], [], ww q4.2, 0, 0)
            exact am_go_blk 2 ⟨rfl, am_fi H⟩
        · have H := am_ie hc H
          exact T_Loc_locksBy_26 q2.2 H
theorem M_Loc_locksBy {D : Nat} {o : Int32 × am_W} {a1 : Int32} {a2 : Int32} {a3 : Int32} {a4 : Int32} {w : am_W} (H : F_Loc_locksBy a1 a2 a3 a4 w = some o) : am_run (D + 6) 116 [.ref 0, .int a1, .int a2, .int a3, .int a4] (ww w) (some (.int o.1)) (ww o.2) 0 0 :=
  am_run_of rfl (T_Loc_locksBy a1 a2 a3 a4 w H)
