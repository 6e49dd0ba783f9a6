/-! ===== the methods as functions, and that each does what its function says: Mod_sawFor .. Mod_film ===== -/
def F_Mod_sawFor_43 (s0 : Int32) (w : am_W) : Option (Int32 × am_W) :=
  some (s0, w)
def F_Mod_sawFor (a1 : Int32) (a2 : Int32) (w : am_W) : Option (Int32 × am_W) :=
  (F_Mod_isThing a1 w).bind fun q1 => if q1.1 = 0 then (some ((-nI 5), q1.2)) else ((F_Mod_in a2 (nI 0) (nI 1) q1.2).bind fun q2 => if q2.1 = 0 then (some ((-nI 7), q2.2)) else ((F_Mod_sawsFor ((nI 1) <<< (a1 &&& 31)) q2.2).bind fun q3 => if a2 = 0 then (F_Mod_sawFor_43 q3.1 q3.2) else (F_Mod_sawFor_43 (q3.2.1 53 40) q3.2)))
theorem T_Mod_sawFor_43 {D : Nat} {o : Int32 × am_W} (s0 : Int32) (w : am_W) (H : F_Mod_sawFor_43 s0 w = some o) : am_gi (D + 7) 209 o (43, [], [.int s0], ww w, 0, 0) := by
  unfold F_Mod_sawFor_43 at H
  exact am_go_blk 1 ⟨rfl, am_fi H⟩
theorem T_Mod_sawFor {D : Nat} {o : Int32 × am_W} (a1 : Int32) (a2 : Int32) (w : am_W) (H : F_Mod_sawFor a1 a2 w = some o) : am_gi (D + 7) 209 o (0, [(0, .ref 53), (1, .int a1), (2, .int a2)], [], ww w, 0, 0) := by
  unfold F_Mod_sawFor at H
  obtain ⟨q1, hqq1, H⟩ := am_bnE H
  refine am_go_blk 2 (?_ : am_gi (D + 7) 209 o (2, [(0, .ref 53), (1, .int a1), (2, .int a2)], [.int a1, .ref 53], ww w, 0, 0))
  refine am_invd rfl rfl rfl rfl (am_calli rfl (M_Mod_isThing (D := D + 5) hqq1) (?_ : am_gi (D + 7) 209 o (5, [(0, .ref 53), (1, .int a1), (2, .int a2)], [.int q1.1], ww q1.2, 0, 0)))
  refine am_go_blk 1 ⟨fun hc => ?_, fun hc => ?_⟩
  · have H := am_ie hc H
    show am_gi (D + 7) 209 o (11, [(0, .ref 53), (1, .int a1), (2, .int a2)], [], ww q1.2, 0, 0)
    obtain ⟨q2, hqq2, H⟩ := am_bnE H
    refine am_go_blk 3 (?_ : am_gi (D + 7) 209 o (14, [(0, .ref 53), (1, .int a1), (2, .int a2)], [.int (nI 1), .int (nI 0), .int a2], ww q1.2, 0, 0))
    refine am_cls rfl rfl rfl (am_calli rfl (M_Mod_in (D := D + 6) hqq2) (?_ : am_gi (D + 7) 209 o (17, [(0, .ref 53), (1, .int a1), (2, .int a2)], [.int q2.1], ww q2.2, 0, 0)))
    refine am_go_blk 1 ⟨fun hc => ?_, fun hc => ?_⟩
    · have H := am_ie hc H
      show am_gi (D + 7) 209 o (23, [(0, .ref 53), (1, .int a1), (2, .int a2)], [], ww q2.2, 0, 0)
      obtain ⟨q3, hqq3, H⟩ := am_bnE H
      refine am_go_blk 4 (?_ : am_gi (D + 7) 209 o (27, [(0, .ref 53), (1, .int a1), (2, .int a2)], [.int ((nI 1) <<< (a1 &&& 31)), .ref 53], ww q2.2, 0, 0))
      refine am_invd rfl rfl rfl rfl (am_calli rfl (M_Mod_sawsFor (D := D) hqq3) (?_ : am_gi (D + 7) 209 o (30, [(0, .ref 53), (1, .int a1), (2, .int a2)], [.int q3.1], ww q3.2, 0, 0)))
      refine am_go_blk 3 ⟨fun hc => ?_, fun hc => ?_⟩
      · have H := am_ie hc H
        show am_gi (D + 7) 209 o (39, [(0, .ref 53)], [], ww q3.2, 0, 0)
        exact am_go_blk 2 (T_Mod_sawFor_43 (q3.2.1 53 40) q3.2 H)
      · have H := am_it hc H
        show am_gi (D + 7) 209 o (35, [(3, .int q3.1), (0, .ref 53), (1, .int a1), (2, .int a2)], [], ww q3.2, 0, 0)
        exact am_go_blk 2 (T_Mod_sawFor_43 q3.1 q3.2 H)
    · have H := am_it hc H
      show am_gi (D + 7) 209 o (20, [(0, .ref 53), (1, .int a1), (2, .int a2)], [], ww q2.2, 0, 0)
      exact am_go_blk 2 ⟨rfl, am_fi H⟩
  · have H := am_it hc H
    show am_gi (D + 7) 209 o (8, [(0, .ref 53), (1, .int a1), (2, .int a2)], [], ww q1.2, 0, 0)
    exact am_go_blk 2 ⟨rfl, am_fi H⟩
theorem M_Mod_sawFor {D : Nat} {o : Int32 × am_W} {a1 : Int32} {a2 : Int32} {w : am_W} (H : F_Mod_sawFor a1 a2 w = some o) : am_run (D + 8) 209 [.ref 53, .int a1, .int a2] (ww w) (some (.int o.1)) (ww o.2) 0 0 :=
  am_run_of rfl (T_Mod_sawFor a1 a2 w H)
def F_Mod_ever_30 (r4 : Int32 → Int32 → am_W → Option (Int32 × am_W)) (a2 : Int32) (s0 : Int32) (s1 : Int32) (w : am_W) : Option (Int32 × am_W) :=
  r4 (s1 ||| s0) (a2 + (nI 1)) w
def F_Mod_ever_4 (r4 : Int32 → Int32 → am_W → Option (Int32 × am_W)) (a1 : Int32) (a2 : Int32) (w : am_W) : Option (Int32 × am_W) :=
  if (w.1 53 0) ≤ a2 then (some (a1, w)) else (am_ck (am_in a2 8) (if (w.1 54 a2.toNatClampNeg) = (nI 5) then (F_Mod_ever_30 r4 a2 (nI 0) a1 w) else (F_Mod_ever_30 r4 a2 ((nI 1) <<< (a2 &&& 31)) a1 w)))
def L_Mod_ever_4 : Nat → Int32 → Int32 → am_W → Option (Int32 × am_W)
  | 0, _, _, _ => none
  | n + 1, a1, a2, w => F_Mod_ever_4 (L_Mod_ever_4 n) a1 a2 w
def F_Mod_ever (w : am_W) : Option (Int32 × am_W) :=
  L_Mod_ever_4 am_NF (nI 0) (nI 0) w
theorem T_Mod_ever_30 {D : Nat} {o : Int32 × am_W} {r4 : Int32 → Int32 → am_W → Option (Int32 × am_W)} (Hr4 : ∀ (a1 : Int32) (a2 : Int32) (w : am_W) , r4 a1 a2 w = some o → am_gi D 210 o (4, [(0, .ref 53), (1, .int a1), (2, .int a2)], [], ww w, 0, 0)) (a2 : Int32) (s0 : Int32) (s1 : Int32) (w : am_W) (H : F_Mod_ever_30 r4 a2 s0 s1 w = some o) : am_gi D 210 o (30, [(0, .ref 53), (2, .int a2)], [.int s0, .int s1], ww w, 0, 0) := by
  unfold F_Mod_ever_30 at H
  exact am_go_blk 4 (Hr4 (s1 ||| s0) (a2 + (nI 1)) w H)
theorem T_Mod_ever_4 {D : Nat} {o : Int32 × am_W} {r4 : Int32 → Int32 → am_W → Option (Int32 × am_W)} (Hr4 : ∀ (a1 : Int32) (a2 : Int32) (w : am_W) , r4 a1 a2 w = some o → am_gi D 210 o (4, [(0, .ref 53), (1, .int a1), (2, .int a2)], [], ww w, 0, 0)) (a1 : Int32) (a2 : Int32) (w : am_W) (H : F_Mod_ever_4 r4 a1 a2 w = some o) : am_gi D 210 o (4, [(0, .ref 53), (1, .int a1), (2, .int a2)], [], ww w, 0, 0) := by
  unfold F_Mod_ever_4 at H
  refine am_go_blk 4 ⟨fun hc => ?_, fun hc => ?_⟩
  · have H := am_it hc H
    show am_gi D 210 o (38, [(1, .int a1)], [], ww w, 0, 0)
    exact am_go_blk 2 ⟨rfl, am_fi H⟩
  · have H := am_ie hc H
    show am_gi D 210 o (12, [(0, .ref 53), (1, .int a1), (2, .int a2)], [], ww w, 0, 0)
    obtain ⟨hc, H⟩ := am_ckE H
    refine am_go_blk 5 ⟨am_inv hc, (?_ : am_gi D 210 o (19, [(0, .ref 53), (1, .int a1), (2, .int a2)], [.int (w.1 54 a2.toNatClampNeg), .int a1], ww w, 0, 0))⟩
    refine am_go_blk 2 ⟨fun hc => ?_, fun hc => ?_⟩
    · have H := am_it hc H
      show am_gi D 210 o (29, [(0, .ref 53), (2, .int a2)], [.int a1], ww w, 0, 0)
      exact am_go_blk 1 (T_Mod_ever_30 Hr4 a2 (nI 0) a1 w H)
    · have H := am_ie hc H
      show am_gi D 210 o (23, [(0, .ref 53), (1, .int a1), (2, .int a2)], [.int a1], ww w, 0, 0)
      exact am_go_blk 4 (T_Mod_ever_30 Hr4 a2 ((nI 1) <<< (a2 &&& 31)) a1 w H)
theorem TL_Mod_ever_4 {D : Nat} {o : Int32 × am_W} : ∀ (n : Nat) (a1 : Int32) (a2 : Int32) (w : am_W) , L_Mod_ever_4 n a1 a2 w = some o → am_gi D 210 o (4, [(0, .ref 53), (1, .int a1), (2, .int a2)], [], ww w, 0, 0)
  | 0, _, _, _, H => by cases H
  | n + 1, a1, a2, w, H => T_Mod_ever_4 (TL_Mod_ever_4 n) a1 a2 w H
theorem T_Mod_ever {D : Nat} {o : Int32 × am_W} (w : am_W) (H : F_Mod_ever w = some o) : am_gi D 210 o (0, [(0, .ref 53)], [], ww w, 0, 0) := by
  unfold F_Mod_ever at H
  exact am_go_blk 4 (TL_Mod_ever_4 am_NF (nI 0) (nI 0) w H)
theorem M_Mod_ever {D : Nat} {o : Int32 × am_W} {w : am_W} (H : F_Mod_ever w = some o) : am_run (D + 1) 210 [.ref 53] (ww w) (some (.int o.1)) (ww o.2) 0 0 :=
  am_run_of rfl (T_Mod_ever w H)
def F_Mod_sawAll_33 (s0 : Int32) (w : am_W) : Option (Int32 × am_W) :=
  some (s0, w)
def F_Mod_sawAll (a1 : Int32) (w : am_W) : Option (Int32 × am_W) :=
  (F_Mod_in a1 (nI 0) (nI 1) w).bind fun q1 => if q1.1 = 0 then (some ((-nI 2), q1.2)) else ((F_Mod_ever q1.2).bind fun q2 => (F_Mod_sawsFor q2.1 q2.2).bind fun q3 => if a1 = 0 then (F_Mod_sawAll_33 q3.1 q3.2) else (F_Mod_sawAll_33 (q3.2.1 53 40) q3.2))
theorem T_Mod_sawAll_33 {D : Nat} {o : Int32 × am_W} (s0 : Int32) (w : am_W) (H : F_Mod_sawAll_33 s0 w = some o) : am_gi (D + 7) 211 o (33, [], [.int s0], ww w, 0, 0) := by
  unfold F_Mod_sawAll_33 at H
  exact am_go_blk 1 ⟨rfl, am_fi H⟩
theorem T_Mod_sawAll {D : Nat} {o : Int32 × am_W} (a1 : Int32) (w : am_W) (H : F_Mod_sawAll a1 w = some o) : am_gi (D + 7) 211 o (0, [(0, .ref 53), (1, .int a1)], [], ww w, 0, 0) := by
  unfold F_Mod_sawAll at H
  obtain ⟨q1, hqq1, H⟩ := am_bnE H
  refine am_go_blk 3 (?_ : am_gi (D + 7) 211 o (3, [(0, .ref 53), (1, .int a1)], [.int (nI 1), .int (nI 0), .int a1], ww w, 0, 0))
  refine am_cls rfl rfl rfl (am_calli rfl (M_Mod_in (D := D + 6) hqq1) (?_ : am_gi (D + 7) 211 o (6, [(0, .ref 53), (1, .int a1)], [.int q1.1], ww q1.2, 0, 0)))
  refine am_go_blk 1 ⟨fun hc => ?_, fun hc => ?_⟩
  · have H := am_ie hc H
    show am_gi (D + 7) 211 o (12, [(0, .ref 53), (1, .int a1)], [], ww q1.2, 0, 0)
    obtain ⟨q2, hqq2, H⟩ := am_bnE H
    refine am_go_blk 2 (?_ : am_gi (D + 7) 211 o (14, [(0, .ref 53), (1, .int a1)], [.ref 53, .ref 53], ww q1.2, 0, 0))
    refine am_invd rfl rfl rfl rfl (am_calli rfl (M_Mod_ever (D := D + 6) hqq2) (?_ : am_gi (D + 7) 211 o (17, [(0, .ref 53), (1, .int a1)], [.int q2.1, .ref 53], ww q2.2, 0, 0)))
    obtain ⟨q3, hqq3, H⟩ := am_bnE H
    refine am_invd rfl rfl rfl rfl (am_calli rfl (M_Mod_sawsFor (D := D) hqq3) (?_ : am_gi (D + 7) 211 o (20, [(0, .ref 53), (1, .int a1)], [.int q3.1], ww q3.2, 0, 0)))
    refine am_go_blk 3 ⟨fun hc => ?_, fun hc => ?_⟩
    · have H := am_ie hc H
      show am_gi (D + 7) 211 o (29, [(0, .ref 53)], [], ww q3.2, 0, 0)
      exact am_go_blk 2 (T_Mod_sawAll_33 (q3.2.1 53 40) q3.2 H)
    · have H := am_it hc H
      show am_gi (D + 7) 211 o (25, [(2, .int q3.1), (0, .ref 53), (1, .int a1)], [], ww q3.2, 0, 0)
      exact am_go_blk 2 (T_Mod_sawAll_33 q3.1 q3.2 H)
  · have H := am_it hc H
    show am_gi (D + 7) 211 o (9, [(0, .ref 53), (1, .int a1)], [], ww q1.2, 0, 0)
    exact am_go_blk 2 ⟨rfl, am_fi H⟩
theorem M_Mod_sawAll {D : Nat} {o : Int32 × am_W} {a1 : Int32} {w : am_W} (H : F_Mod_sawAll a1 w = some o) : am_run (D + 8) 211 [.ref 53, .int a1] (ww w) (some (.int o.1)) (ww o.2) 0 0 :=
  am_run_of rfl (T_Mod_sawAll a1 w H)
def F_Mod_keys_97 (r42 : Int32 → Int32 → Int32 → Int32 → Int32 → am_W → Option (Int32 × am_W)) (a1 : Int32) (a2 : Int32) (a3 : Int32) (a4 : Int32) (a5 : Int32) (w : am_W) : Option (Int32 × am_W) :=
  r42 a1 a2 a3 a4 (a5 + (nI 1)) w
def F_Mod_keys_94 (r42 : Int32 → Int32 → Int32 → Int32 → Int32 → am_W → Option (Int32 × am_W)) (a1 : Int32) (a2 : Int32) (a3 : Int32) (a5 : Int32) (s0 : Int32) (s1 : Int32) (w : am_W) : Option (Int32 × am_W) :=
  F_Mod_keys_97 r42 a1 a2 a3 (s1 ||| s0) a5 w
def F_Mod_keys_42 (r42 : Int32 → Int32 → Int32 → Int32 → Int32 → am_W → Option (Int32 × am_W)) (a1 : Int32) (a2 : Int32) (a3 : Int32) (a4 : Int32) (a5 : Int32) (w : am_W) : Option (Int32 × am_W) :=
  if (w.1 53 5) ≤ a5 then (am_lt (wsf w 53 7 a3) fun w4 => some (a4, w4)) else (if ((a2 >>> (a5 &&& 31)) &&& (nI 1)) = (nI 1) then (am_lt (wsf w 53 7 (a3 ||| ((nI 1) <<< (a5 &&& 31)))) fun w5 => (F_Mod_goneAtLast (nI 0) w5).bind fun q6 => if ((q6.1 >>> (a1 &&& 31)) &&& (nI 1)) = (nI 1) then (F_Mod_keys_94 r42 a1 a2 a3 a5 ((nI 1) <<< (a5 &&& 31)) a4 q6.2) else (F_Mod_keys_94 r42 a1 a2 a3 a5 (nI 0) a4 q6.2)) else (F_Mod_keys_97 r42 a1 a2 a3 a4 a5 w))
def L_Mod_keys_42 : Nat → Int32 → Int32 → Int32 → Int32 → Int32 → am_W → Option (Int32 × am_W)
  | 0, _, _, _, _, _, _ => none
  | n + 1, a1, a2, a3, a4, a5, w => F_Mod_keys_42 (L_Mod_keys_42 n) a1 a2 a3 a4 a5 w
def F_Mod_keys (a1 : Int32) (w : am_W) : Option (Int32 × am_W) :=
  (F_Mod_isThing a1 w).bind fun q1 => if q1.1 = 0 then (some ((-nI 5), q1.2)) else ((F_Mod_goneAtLast (nI 0) q1.2).bind fun q2 => if ((q2.1 >>> (a1 &&& 31)) &&& (nI 1)) = (nI 1) then (some ((nI 0), q2.2)) else ((F_Mod_shutNow q2.2).bind fun q3 => L_Mod_keys_42 am_NF a1 q3.1 (q3.2.1 53 7) (nI 0) (nI 0) q3.2))
theorem T_Mod_keys_97 {D : Nat} {o : Int32 × am_W} {r42 : Int32 → Int32 → Int32 → Int32 → Int32 → am_W → Option (Int32 × am_W)} (Hr42 : ∀ (a1 : Int32) (a2 : Int32) (a3 : Int32) (a4 : Int32) (a5 : Int32) (w : am_W) , r42 a1 a2 a3 a4 a5 w = some o → am_gi (D + 6) 212 o (42, [(0, .ref 53), (1, .int a1), (2, .int a2), (3, .int a3), (4, .int a4), (5, .int a5)], [], ww w, 0, 0)) (a1 : Int32) (a2 : Int32) (a3 : Int32) (a4 : Int32) (a5 : Int32) (w : am_W) (H : F_Mod_keys_97 r42 a1 a2 a3 a4 a5 w = some o) : am_gi (D + 6) 212 o (97, [(0, .ref 53), (1, .int a1), (2, .int a2), (3, .int a3), (4, .int a4), (5, .int a5)], [], ww w, 0, 0) := by
  unfold F_Mod_keys_97 at H
  exact am_go_blk 2 (Hr42 a1 a2 a3 a4 (a5 + (nI 1)) w H)
theorem T_Mod_keys_94 {D : Nat} {o : Int32 × am_W} {r42 : Int32 → Int32 → Int32 → Int32 → Int32 → am_W → Option (Int32 × am_W)} (Hr42 : ∀ (a1 : Int32) (a2 : Int32) (a3 : Int32) (a4 : Int32) (a5 : Int32) (w : am_W) , r42 a1 a2 a3 a4 a5 w = some o → am_gi (D + 6) 212 o (42, [(0, .ref 53), (1, .int a1), (2, .int a2), (3, .int a3), (4, .int a4), (5, .int a5)], [], ww w, 0, 0)) (a1 : Int32) (a2 : Int32) (a3 : Int32) (a5 : Int32) (s0 : Int32) (s1 : Int32) (w : am_W) (H : F_Mod_keys_94 r42 a1 a2 a3 a5 s0 s1 w = some o) : am_gi (D + 6) 212 o (94, [(0, .ref 53), (1, .int a1), (2, .int a2), (3, .int a3), (5, .int a5)], [.int s0, .int s1], ww w, 0, 0) := by
  unfold F_Mod_keys_94 at H
  exact am_go_blk 2 (T_Mod_keys_97 Hr42 a1 a2 a3 (s1 ||| s0) a5 w H)
theorem T_Mod_keys_42 {D : Nat} {o : Int32 × am_W} {r42 : Int32 → Int32 → Int32 → Int32 → Int32 → am_W → Option (Int32 × am_W)} (Hr42 : ∀ (a1 : Int32) (a2 : Int32) (a3 : Int32) (a4 : Int32) (a5 : Int32) (w : am_W) , r42 a1 a2 a3 a4 a5 w = some o → am_gi (D + 6) 212 o (42, [(0, .ref 53), (1, .int a1), (2, .int a2), (3, .int a3), (4, .int a4), (5, .int a5)], [], ww w, 0, 0)) (a1 : Int32) (a2 : Int32) (a3 : Int32) (a4 : Int32) (a5 : Int32) (w : am_W) (H : F_Mod_keys_42 r42 a1 a2 a3 a4 a5 w = some o) : am_gi (D + 6) 212 o (42, [(0, .ref 53), (1, .int a1), (2, .int a2), (3, .int a3), (4, .int a4), (5, .int a5)], [], ww w, 0, 0) := by
  unfold F_Mod_keys_42 at H
  refine am_go_blk 4 ⟨fun hc => ?_, fun hc => ?_⟩
  · have H := am_it hc H
    show am_gi (D + 6) 212 o (103, [(0, .ref 53), (3, .int a3), (4, .int a4)], [], ww w, 0, 0)
    obtain ⟨w4, ew4, H⟩ := am_ltE H
    refine am_go_blk 3 ⟨rfl, rfl, am_hp (ww_f53_7 ew4) (?_ : am_gi (D + 6) 212 o (108, [(0, .ref 53), (3, .int a3), (4, .int a4)], [], ww w4, 0, 0))⟩
    exact am_go_blk 2 ⟨rfl, am_fi H⟩
  · have H := am_ie hc H
    show am_gi (D + 6) 212 o (51, [(0, .ref 53), (1, .int a1), (2, .int a2), (3, .int a3), (4, .int a4), (5, .int a5)], [], ww w, 0, 0)
    refine am_go_blk 7 ⟨fun hc => ?_, fun hc => ?_⟩
    · have H := am_ie hc H
      exact T_Mod_keys_97 Hr42 a1 a2 a3 a4 a5 w H
    · have H := am_it hc H
      show am_gi (D + 6) 212 o (61, [(0, .ref 53), (1, .int a1), (2, .int a2), (3, .int a3), (4, .int a4), (5, .int a5)], [], ww w, 0, 0)
      obtain ⟨w5, ew5, H⟩ := am_ltE H
      refine am_go_blk 7 ⟨rfl, rfl, am_hp (ww_f53_7 ew5) (?_ : am_gi (D + 6) 212 o (71, [(0, .ref 53), (1, .int a1), (2, .int a2), (3, .int a3), (4, .int a4), (5, .int a5)], [], ww w5, 0, 0))⟩
      obtain ⟨q6, hqq6, H⟩ := am_bnE H
      refine am_go_blk 3 (?_ : am_gi (D + 6) 212 o (75, [(0, .ref 53), (1, .int a1), (2, .int a2), (3, .int a3), (4, .int a4), (5, .int a5)], [.int (nI 0), .ref 53, .int a4], ww w5, 0, 0))
      refine am_invd rfl rfl rfl rfl (am_calli rfl (M_Mod_goneAtLast (D := D) hqq6) (?_ : am_gi (D + 6) 212 o (78, [(0, .ref 53), (1, .int a1), (2, .int a2), (3, .int a3), (4, .int a4), (5, .int a5)], [.int q6.1, .int a4], ww q6.2, 0, 0)))
      refine am_go_blk 6 ⟨fun hc => ?_, fun hc => ?_⟩
      · have H := am_ie hc H
        show am_gi (D + 6) 212 o (93, [(0, .ref 53), (1, .int a1), (2, .int a2), (3, .int a3), (5, .int a5)], [.int a4], ww q6.2, 0, 0)
        exact am_go_blk 1 (T_Mod_keys_94 Hr42 a1 a2 a3 a5 (nI 0) a4 q6.2 H)
      · have H := am_it hc H
        show am_gi (D + 6) 212 o (86, [(0, .ref 53), (1, .int a1), (2, .int a2), (3, .int a3), (4, .int a4), (5, .int a5)], [.int a4], ww q6.2, 0, 0)
        exact am_go_blk 4 (T_Mod_keys_94 Hr42 a1 a2 a3 a5 ((nI 1) <<< (a5 &&& 31)) a4 q6.2 H)
theorem TL_Mod_keys_42 {D : Nat} {o : Int32 × am_W} : ∀ (n : Nat) (a1 : Int32) (a2 : Int32) (a3 : Int32) (a4 : Int32) (a5 : Int32) (w : am_W) , L_Mod_keys_42 n a1 a2 a3 a4 a5 w = some o → am_gi (D + 6) 212 o (42, [(0, .ref 53), (1, .int a1), (2, .int a2), (3, .int a3), (4, .int a4), (5, .int a5)], [], ww w, 0, 0)
  | 0, _, _, _, _, _, _, H => by cases H
  | n + 1, a1, a2, a3, a4, a5, w, H => T_Mod_keys_42 (TL_Mod_keys_42 n) a1 a2 a3 a4 a5 w H
theorem T_Mod_keys {D : Nat} {o : Int32 × am_W} (a1 : Int32) (w : am_W) (H : F_Mod_keys a1 w = some o) : am_gi (D + 6) 212 o (0, [(0, .ref 53), (1, .int a1)], [], ww w, 0, 0) := by
  unfold F_Mod_keys at H
  obtain ⟨q1, hqq1, H⟩ := am_bnE H
  refine am_go_blk 2 (?_ : am_gi (D + 6) 212 o (2, [(0, .ref 53), (1, .int a1)], [.int a1, .ref 53], ww w, 0, 0))
  refine am_invd rfl rfl rfl rfl (am_calli rfl (M_Mod_isThing (D := D + 4) hqq1) (?_ : am_gi (D + 6) 212 o (5, [(0, .ref 53), (1, .int a1)], [.int q1.1], ww q1.2, 0, 0)))
  refine am_go_blk 1 ⟨fun hc => ?_, fun hc => ?_⟩
  · have H := am_ie hc H
    show am_gi (D + 6) 212 o (11, [(0, .ref 53), (1, .int a1)], [], ww q1.2, 0, 0)
    obtain ⟨q2, hqq2, H⟩ := am_bnE H
    refine am_go_blk 2 (?_ : am_gi (D + 6) 212 o (13, [(0, .ref 53), (1, .int a1)], [.int (nI 0), .ref 53], ww q1.2, 0, 0))
    refine am_invd rfl rfl rfl rfl (am_calli rfl (M_Mod_goneAtLast (D := D) hqq2) (?_ : am_gi (D + 6) 212 o (16, [(0, .ref 53), (1, .int a1)], [.int q2.1], ww q2.2, 0, 0)))
    refine am_go_blk 6 ⟨fun hc => ?_, fun hc => ?_⟩
    · have H := am_ie hc H
      show am_gi (D + 6) 212 o (26, [(0, .ref 53), (1, .int a1)], [], ww q2.2, 0, 0)
      obtain ⟨q3, hqq3, H⟩ := am_bnE H
      refine am_go_blk 1 (?_ : am_gi (D + 6) 212 o (27, [(0, .ref 53), (1, .int a1)], [.ref 53], ww q2.2, 0, 0))
      refine am_invd rfl rfl rfl rfl (am_calli rfl (M_Mod_shutNow (D := D + 3) hqq3) (?_ : am_gi (D + 6) 212 o (30, [(0, .ref 53), (1, .int a1)], [.int q3.1], ww q3.2, 0, 0)))
      exact am_go_blk 8 (TL_Mod_keys_42 am_NF a1 q3.1 (q3.2.1 53 7) (nI 0) (nI 0) q3.2 H)
    · have H := am_it hc H
      show am_gi (D + 6) 212 o (24, [(0, .ref 53), (1, .int a1)], [], ww q2.2, 0, 0)
      exact am_go_blk 2 ⟨rfl, am_fi H⟩
  · have H := am_it hc H
    show am_gi (D + 6) 212 o (8, [(0, .ref 53), (1, .int a1)], [], ww q1.2, 0, 0)
    exact am_go_blk 2 ⟨rfl, am_fi H⟩
theorem M_Mod_keys {D : Nat} {o : Int32 × am_W} {a1 : Int32} {w : am_W} (H : F_Mod_keys a1 w = some o) : am_run (D + 7) 212 [.ref 53, .int a1] (ww w) (some (.int o.1)) (ww o.2) 0 0 :=
  am_run_of rfl (T_Mod_keys a1 w H)
def F_Mod_note_166 (s0 : Int32) (w : am_W) : Option (Int32 × am_W) :=
  some (s0, w)
def F_Mod_note_148 (r51 : Int32 → Int32 → Int32 → Int32 → Int32 → am_W → Option (Int32 × am_W)) (a1 : Int32) (a2 : Int32) (a3 : Int32) (a5 : Int32) (s0 : Int32) (w : am_W) : Option (Int32 × am_W) :=
  r51 a1 a2 a3 s0 (a5 + (nI 1)) w
def F_Mod_note_135 (r51 : Int32 → Int32 → Int32 → Int32 → Int32 → am_W → Option (Int32 × am_W)) (a1 : Int32) (a2 : Int32) (a4 : Int32) (a5 : Int32) (a7 : Int32) (a8 : Int32) (s0 : Int32) (w : am_W) : Option (Int32 × am_W) :=
  if a8 = 0 then (F_Mod_note_148 r51 a1 a2 s0 a5 a4 w) else (F_Mod_note_148 r51 a1 a2 s0 a5 a7 w)
def F_Mod_note_122 (r51 : Int32 → Int32 → Int32 → Int32 → Int32 → am_W → Option (Int32 × am_W)) (a1 : Int32) (a2 : Int32) (a3 : Int32) (a4 : Int32) (a5 : Int32) (a7 : Int32) (s0 : Int32) (w : am_W) : Option (Int32 × am_W) :=
  if s0 = 0 then (F_Mod_note_135 r51 a1 a2 a4 a5 a7 s0 a3 w) else (F_Mod_note_135 r51 a1 a2 a4 a5 a7 s0 a5 w)
def F_Mod_note_121 (r51 : Int32 → Int32 → Int32 → Int32 → Int32 → am_W → Option (Int32 × am_W)) (a1 : Int32) (a2 : Int32) (a3 : Int32) (a4 : Int32) (a5 : Int32) (a7 : Int32) (w : am_W) : Option (Int32 × am_W) :=
  F_Mod_note_122 r51 a1 a2 a3 a4 a5 a7 (nI 0) w
def F_Mod_note_117 (r51 : Int32 → Int32 → Int32 → Int32 → Int32 → am_W → Option (Int32 × am_W)) (a1 : Int32) (a2 : Int32) (a3 : Int32) (a4 : Int32) (a5 : Int32) (a7 : Int32) (w : am_W) : Option (Int32 × am_W) :=
  F_Mod_note_122 r51 a1 a2 a3 a4 a5 a7 (nI 1) w
def F_Mod_note_51 (r51 : Int32 → Int32 → Int32 → Int32 → Int32 → am_W → Option (Int32 × am_W)) (a1 : Int32) (a2 : Int32) (a3 : Int32) (a4 : Int32) (a5 : Int32) (w : am_W) : Option (Int32 × am_W) :=
  if (w.1 53 0) ≤ a5 then (if a2 = 0 then (F_Mod_note_166 a3 w) else (F_Mod_note_166 a4 w)) else (am_ck (am_in a5 8) (am_ck (am_in a5 8) (am_lt (wst w 56 a5 (nI 0)) fun w5 => (F_Mod_lives w5).bind fun w6 => am_ck (am_in a5 8) (am_lt (wst w6 56 a5 (w.1 56 a5.toNatClampNeg)) fun w7 => am_ck (am_in a1 8) (if (w7.1 72 a1.toNatClampNeg) = (-nI 1) then (F_Mod_note_121 r51 a1 a2 a3 a4 a5 (w7.1 72 a1.toNatClampNeg) w7) else (if a4 = (-nI 1) then (F_Mod_note_117 r51 a1 a2 a3 a4 a5 (w7.1 72 a1.toNatClampNeg) w7) else (if a4 ≤ (w7.1 72 a1.toNatClampNeg) then (F_Mod_note_121 r51 a1 a2 a3 a4 a5 (w7.1 72 a1.toNatClampNeg) w7) else (F_Mod_note_117 r51 a1 a2 a3 a4 a5 (w7.1 72 a1.toNatClampNeg) w7))))))))
def L_Mod_note_51 : Nat → Int32 → Int32 → Int32 → Int32 → Int32 → am_W → Option (Int32 × am_W)
  | 0, _, _, _, _, _, _ => none
  | n + 1, a1, a2, a3, a4, a5, w => F_Mod_note_51 (L_Mod_note_51 n) a1 a2 a3 a4 a5 w
def F_Mod_note (a1 : Int32) (a2 : Int32) (w : am_W) : Option (Int32 × am_W) :=
  (F_Mod_isThing a1 w).bind fun q1 => if q1.1 = 0 then (some ((-nI 5), q1.2)) else ((F_Mod_in a2 (nI 0) (nI 1) q1.2).bind fun q2 => if q2.1 = 0 then (some ((-nI 7), q2.2)) else ((F_Mod_isGone a1 q2.2).bind fun q3 => if q3.1 = 0 then ((F_Mod_lives q3.2).bind fun w4 => am_ck (am_in a1 8) (L_Mod_note_51 am_NF a1 a2 (-nI 1) (w4.1 72 a1.toNatClampNeg) (nI 0) w4)) else (some ((-nI 3), q3.2))))
theorem T_Mod_note_166 {D : Nat} {o : Int32 × am_W} (s0 : Int32) (w : am_W) (H : F_Mod_note_166 s0 w = some o) : am_gi (D + 7) 213 o (166, [], [.int s0], ww w, 0, 0) := by
  unfold F_Mod_note_166 at H
  exact am_go_blk 1 ⟨rfl, am_fi H⟩
theorem T_Mod_note_148 {D : Nat} {o : Int32 × am_W} {r51 : Int32 → Int32 → Int32 → Int32 → Int32 → am_W → Option (Int32 × am_W)} (Hr51 : ∀ (a1 : Int32) (a2 : Int32) (a3 : Int32) (a4 : Int32) (a5 : Int32) (w : am_W) , r51 a1 a2 a3 a4 a5 w = some o → am_gi (D + 7) 213 o (51, [(0, .ref 53), (1, .int a1), (2, .int a2), (3, .int a3), (4, .int a4), (5, .int a5)], [], ww w, 0, 0)) (a1 : Int32) (a2 : Int32) (a3 : Int32) (a5 : Int32) (s0 : Int32) (w : am_W) (H : F_Mod_note_148 r51 a1 a2 a3 a5 s0 w = some o) : am_gi (D + 7) 213 o (148, [(0, .ref 53), (1, .int a1), (2, .int a2), (3, .int a3), (5, .int a5)], [.int s0], ww w, 0, 0) := by
  unfold F_Mod_note_148 at H
  exact am_go_blk 3 (Hr51 a1 a2 a3 s0 (a5 + (nI 1)) w H)
theorem T_Mod_note_135 {D : Nat} {o : Int32 × am_W} {r51 : Int32 → Int32 → Int32 → Int32 → Int32 → am_W → Option (Int32 × am_W)} (Hr51 : ∀ (a1 : Int32) (a2 : Int32) (a3 : Int32) (a4 : Int32) (a5 : Int32) (w : am_W) , r51 a1 a2 a3 a4 a5 w = some o → am_gi (D + 7) 213 o (51, [(0, .ref 53), (1, .int a1), (2, .int a2), (3, .int a3), (4, .int a4), (5, .int a5)], [], ww w, 0, 0)) (a1 : Int32) (a2 : Int32) (a4 : Int32) (a5 : Int32) (a7 : Int32) (a8 : Int32) (s0 : Int32) (w : am_W) (H : F_Mod_note_135 r51 a1 a2 a4 a5 a7 a8 s0 w = some o) : am_gi (D + 7) 213 o (135, [(0, .ref 53), (1, .int a1), (2, .int a2), (4, .int a4), (5, .int a5), (7, .int a7), (8, .int a8)], [.int s0], ww w, 0, 0) := by
  unfold F_Mod_note_135 at H
  refine am_go_blk 3 ⟨fun hc => ?_, fun hc => ?_⟩
  · have H := am_it hc H
    show am_gi (D + 7) 213 o (146, [(0, .ref 53), (1, .int a1), (2, .int a2), (3, .int s0), (4, .int a4), (5, .int a5)], [], ww w, 0, 0)
    exact am_go_blk 1 (T_Mod_note_148 Hr51 a1 a2 s0 a5 a4 w H)
  · have H := am_ie hc H
    show am_gi (D + 7) 213 o (141, [(3, .int s0), (0, .ref 53), (1, .int a1), (2, .int a2), (4, .int a4), (5, .int a5), (7, .int a7), (8, .int a8)], [], ww w, 0, 0)
    exact am_go_blk 2 (T_Mod_note_148 Hr51 a1 a2 s0 a5 a7 w H)
theorem T_Mod_note_122 {D : Nat} {o : Int32 × am_W} {r51 : Int32 → Int32 → Int32 → Int32 → Int32 → am_W → Option (Int32 × am_W)} (Hr51 : ∀ (a1 : Int32) (a2 : Int32) (a3 : Int32) (a4 : Int32) (a5 : Int32) (w : am_W) , r51 a1 a2 a3 a4 a5 w = some o → am_gi (D + 7) 213 o (51, [(0, .ref 53), (1, .int a1), (2, .int a2), (3, .int a3), (4, .int a4), (5, .int a5)], [], ww w, 0, 0)) (a1 : Int32) (a2 : Int32) (a3 : Int32) (a4 : Int32) (a5 : Int32) (a7 : Int32) (s0 : Int32) (w : am_W) (H : F_Mod_note_122 r51 a1 a2 a3 a4 a5 a7 s0 w = some o) : am_gi (D + 7) 213 o (122, [(0, .ref 53), (1, .int a1), (2, .int a2), (3, .int a3), (4, .int a4), (5, .int a5), (7, .int a7)], [.int s0], ww w, 0, 0) := by
  unfold F_Mod_note_122 at H
  refine am_go_blk 3 ⟨fun hc => ?_, fun hc => ?_⟩
  · have H := am_it hc H
    show am_gi (D + 7) 213 o (134, [(0, .ref 53), (1, .int a1), (2, .int a2), (3, .int a3), (4, .int a4), (5, .int a5), (7, .int a7), (8, .int s0)], [], ww w, 0, 0)
    exact am_go_blk 1 (T_Mod_note_135 Hr51 a1 a2 a4 a5 a7 s0 a3 w H)
  · have H := am_ie hc H
    show am_gi (D + 7) 213 o (129, [(8, .int s0), (0, .ref 53), (1, .int a1), (2, .int a2), (3, .int a3), (4, .int a4), (5, .int a5), (7, .int a7)], [], ww w, 0, 0)
    exact am_go_blk 2 (T_Mod_note_135 Hr51 a1 a2 a4 a5 a7 s0 a5 w H)
theorem T_Mod_note_121 {D : Nat} {o : Int32 × am_W} {r51 : Int32 → Int32 → Int32 → Int32 → Int32 → am_W → Option (Int32 × am_W)} (Hr51 : ∀ (a1 : Int32) (a2 : Int32) (a3 : Int32) (a4 : Int32) (a5 : Int32) (w : am_W) , r51 a1 a2 a3 a4 a5 w = some o → am_gi (D + 7) 213 o (51, [(0, .ref 53), (1, .int a1), (2, .int a2), (3, .int a3), (4, .int a4), (5, .int a5)], [], ww w, 0, 0)) (a1 : Int32) (a2 : Int32) (a3 : Int32) (a4 : Int32) (a5 : Int32) (a7 : Int32) (w : am_W) (H : F_Mod_note_121 r51 a1 a2 a3 a4 a5 a7 w = some o) : am_gi (D + 7) 213 o (121, [(0, .ref 53), (1, .int a1), (2, .int a2), (3, .int a3), (4, .int a4), (5, .int a5), (7, .int a7)], [], ww w, 0, 0) := by
  unfold F_Mod_note_121 at H
  exact am_go_blk 1 (T_Mod_note_122 Hr51 a1 a2 a3 a4 a5 a7 (nI 0) w H)
theorem T_Mod_note_117 {D : Nat} {o : Int32 × am_W} {r51 : Int32 → Int32 → Int32 → Int32 → Int32 → am_W → Option (Int32 × am_W)} (Hr51 : ∀ (a1 : Int32) (a2 : Int32) (a3 : Int32) (a4 : Int32) (a5 : Int32) (w : am_W) , r51 a1 a2 a3 a4 a5 w = some o → am_gi (D + 7) 213 o (51, [(0, .ref 53), (1, .int a1), (2, .int a2), (3, .int a3), (4, .int a4), (5, .int a5)], [], ww w, 0, 0)) (a1 : Int32) (a2 : Int32) (a3 : Int32) (a4 : Int32) (a5 : Int32) (a7 : Int32) (w : am_W) (H : F_Mod_note_117 r51 a1 a2 a3 a4 a5 a7 w = some o) : am_gi (D + 7) 213 o (117, [(0, .ref 53), (1, .int a1), (2, .int a2), (3, .int a3), (4, .int a4), (5, .int a5), (7, .int a7)], [], ww w, 0, 0) := by
  unfold F_Mod_note_117 at H
  exact am_go_blk 2 (T_Mod_note_122 Hr51 a1 a2 a3 a4 a5 a7 (nI 1) w H)
theorem T_Mod_note_51 {D : Nat} {o : Int32 × am_W} {r51 : Int32 → Int32 → Int32 → Int32 → Int32 → am_W → Option (Int32 × am_W)} (Hr51 : ∀ (a1 : Int32) (a2 : Int32) (a3 : Int32) (a4 : Int32) (a5 : Int32) (w : am_W) , r51 a1 a2 a3 a4 a5 w = some o → am_gi (D + 7) 213 o (51, [(0, .ref 53), (1, .int a1), (2, .int a2), (3, .int a3), (4, .int a4), (5, .int a5)], [], ww w, 0, 0)) (a1 : Int32) (a2 : Int32) (a3 : Int32) (a4 : Int32) (a5 : Int32) (w : am_W) (H : F_Mod_note_51 r51 a1 a2 a3 a4 a5 w = some o) : am_gi (D + 7) 213 o (51, [(0, .ref 53), (1, .int a1), (2, .int a2), (3, .int a3), (4, .int a4), (5, .int a5)], [], ww w, 0, 0) := by
  unfold F_Mod_note_51 at H
  refine am_go_blk 4 ⟨fun hc => ?_, fun hc => ?_⟩
  · have H := am_it hc H
    show am_gi (D + 7) 213 o (156, [(2, .int a2), (3, .int a3), (4, .int a4)], [], ww w, 0, 0)
    refine am_go_blk 2 ⟨fun hc => ?_, fun hc => ?_⟩
    · have H := am_ie hc H
      show am_gi (D + 7) 213 o (164, [(4, .int a4)], [], ww w, 0, 0)
      exact am_go_blk 1 (T_Mod_note_166 a4 w H)
    · have H := am_it hc H
      show am_gi (D + 7) 213 o (160, [(2, .int a2), (3, .int a3), (4, .int a4)], [], ww w, 0, 0)
      exact am_go_blk 2 (T_Mod_note_166 a3 w H)
  · have H := am_ie hc H
    show am_gi (D + 7) 213 o (60, [(0, .ref 53), (1, .int a1), (2, .int a2), (3, .int a3), (4, .int a4), (5, .int a5)], [], ww w, 0, 0)
    obtain ⟨hc, H⟩ := am_ckE H
    refine am_go_blk 4 ⟨am_inv hc, (?_ : am_gi (D + 7) 213 o (67, [(0, .ref 53), (1, .int a1), (2, .int a2), (3, .int a3), (4, .int a4), (5, .int a5)], [.int (w.1 56 a5.toNatClampNeg)], ww w, 0, 0))⟩
    obtain ⟨hc, H⟩ := am_ckE H
    obtain ⟨w5, ew5, H⟩ := am_ltE H
    refine am_go_blk 6 ⟨am_inv hc, am_hp (ww_s56 ew5) (?_ : am_gi (D + 7) 213 o (77, [(6, .int (w.1 56 a5.toNatClampNeg)), (0, .ref 53), (1, .int a1), (2, .int a2), (3, .int a3), (4, .int a4), (5, .int a5)], [], ww w5, 0, 0))⟩
    obtain ⟨w6, hqw6, H⟩ := am_bnE H
    refine am_go_blk 1 (?_ : am_gi (D + 7) 213 o (78, [(6, .int (w.1 56 a5.toNatClampNeg)), (0, .ref 53), (1, .int a1), (2, .int a2), (3, .int a3), (4, .int a4), (5, .int a5)], [.ref 53], ww w5, 0, 0))
    refine am_invd rfl rfl rfl rfl (am_callv rfl (M_Mod_lives (D := D) hqw6) (?_ : am_gi (D + 7) 213 o (81, [(6, .int (w.1 56 a5.toNatClampNeg)), (0, .ref 53), (1, .int a1), (2, .int a2), (3, .int a3), (4, .int a4), (5, .int a5)], [], ww w6, 0, 0)))
    obtain ⟨hc, H⟩ := am_ckE H
    obtain ⟨w7, ew7, H⟩ := am_ltE H
    refine am_go_blk 5 ⟨am_inv hc, am_hp (ww_s56 ew7) (?_ : am_gi (D + 7) 213 o (90, [(6, .int (w.1 56 a5.toNatClampNeg)), (0, .ref 53), (1, .int a1), (2, .int a2), (3, .int a3), (4, .int a4), (5, .int a5)], [], ww w7, 0, 0))⟩
    obtain ⟨hc, H⟩ := am_ckE H
    refine am_go_blk 4 ⟨am_inv hc, (?_ : am_gi (D + 7) 213 o (96, [(6, .int (w.1 56 a5.toNatClampNeg)), (0, .ref 53), (1, .int a1), (2, .int a2), (3, .int a3), (4, .int a4), (5, .int a5)], [.int (w7.1 72 a1.toNatClampNeg)], ww w7, 0, 0))⟩
    refine am_go_blk 4 ⟨fun hc => ?_, fun hc => ?_⟩
    · have H := am_it hc H
      exact T_Mod_note_121 Hr51 a1 a2 a3 a4 a5 (w7.1 72 a1.toNatClampNeg) w7 H
    · have H := am_ie hc H
      show am_gi (D + 7) 213 o (104, [(7, .int (w7.1 72 a1.toNatClampNeg)), (6, .int (w.1 56 a5.toNatClampNeg)), (0, .ref 53), (1, .int a1), (2, .int a2), (3, .int a3), (4, .int a4), (5, .int a5)], [], ww w7, 0, 0)
      refine am_go_blk 3 ⟨fun hc => ?_, fun hc => ?_⟩
      · have H := am_it hc H
        exact T_Mod_note_117 Hr51 a1 a2 a3 a4 a5 (w7.1 72 a1.toNatClampNeg) w7 H
      · have H := am_ie hc H
        show am_gi (D + 7) 213 o (110, [(7, .int (w7.1 72 a1.toNatClampNeg)), (6, .int (w.1 56 a5.toNatClampNeg)), (0, .ref 53), (1, .int a1), (2, .int a2), (3, .int a3), (4, .int a4), (5, .int a5)], [], ww w7, 0, 0)
        refine am_go_blk 3 ⟨fun hc => ?_, fun hc => ?_⟩
        · have H := am_it hc H
          exact T_Mod_note_121 Hr51 a1 a2 a3 a4 a5 (w7.1 72 a1.toNatClampNeg) w7 H
        · have H := am_ie hc H
          exact T_Mod_note_117 Hr51 a1 a2 a3 a4 a5 (w7.1 72 a1.toNatClampNeg) w7 H
theorem TL_Mod_note_51 {D : Nat} {o : Int32 × am_W} : ∀ (n : Nat) (a1 : Int32) (a2 : Int32) (a3 : Int32) (a4 : Int32) (a5 : Int32) (w : am_W) , L_Mod_note_51 n a1 a2 a3 a4 a5 w = some o → am_gi (D + 7) 213 o (51, [(0, .ref 53), (1, .int a1), (2, .int a2), (3, .int a3), (4, .int a4), (5, .int a5)], [], ww w, 0, 0)
  | 0, _, _, _, _, _, _, H => by cases H
  | n + 1, a1, a2, a3, a4, a5, w, H => T_Mod_note_51 (TL_Mod_note_51 n) a1 a2 a3 a4 a5 w H
theorem T_Mod_note {D : Nat} {o : Int32 × am_W} (a1 : Int32) (a2 : Int32) (w : am_W) (H : F_Mod_note a1 a2 w = some o) : am_gi (D + 7) 213 o (0, [(0, .ref 53), (1, .int a1), (2, .int a2)], [], ww w, 0, 0) := by
  unfold F_Mod_note at H
  obtain ⟨q1, hqq1, H⟩ := am_bnE H
  refine am_go_blk 2 (?_ : am_gi (D + 7) 213 o (2, [(0, .ref 53), (1, .int a1), (2, .int a2)], [.int a1, .ref 53], ww w, 0, 0))
  refine am_invd rfl rfl rfl rfl (am_calli rfl (M_Mod_isThing (D := D + 5) hqq1) (?_ : am_gi (D + 7) 213 o (5, [(0, .ref 53), (1, .int a1), (2, .int a2)], [.int q1.1], ww q1.2, 0, 0)))
  refine am_go_blk 1 ⟨fun hc => ?_, fun hc => ?_⟩
  · have H := am_ie hc H
    show am_gi (D + 7) 213 o (11, [(0, .ref 53), (1, .int a1), (2, .int a2)], [], ww q1.2, 0, 0)
    obtain ⟨q2, hqq2, H⟩ := am_bnE H
    refine am_go_blk 3 (?_ : am_gi (D + 7) 213 o (14, [(0, .ref 53), (1, .int a1), (2, .int a2)], [.int (nI 1), .int (nI 0), .int a2], ww q1.2, 0, 0))
    refine am_cls rfl rfl rfl (am_calli rfl (M_Mod_in (D := D + 6) hqq2) (?_ : am_gi (D + 7) 213 o (17, [(0, .ref 53), (1, .int a1), (2, .int a2)], [.int q2.1], ww q2.2, 0, 0)))
    refine am_go_blk 1 ⟨fun hc => ?_, fun hc => ?_⟩
    · have H := am_ie hc H
      show am_gi (D + 7) 213 o (23, [(0, .ref 53), (1, .int a1), (2, .int a2)], [], ww q2.2, 0, 0)
      obtain ⟨q3, hqq3, H⟩ := am_bnE H
      refine am_go_blk 2 (?_ : am_gi (D + 7) 213 o (25, [(0, .ref 53), (1, .int a1), (2, .int a2)], [.int a1, .ref 53], ww q2.2, 0, 0))
      refine am_invd rfl rfl rfl rfl (am_calli rfl (M_Mod_isGone (D := D + 6) hqq3) (?_ : am_gi (D + 7) 213 o (28, [(0, .ref 53), (1, .int a1), (2, .int a2)], [.int q3.1], ww q3.2, 0, 0)))
      refine am_go_blk 1 ⟨fun hc => ?_, fun hc => ?_⟩
      · have H := am_it hc H
        show am_gi (D + 7) 213 o (34, [(0, .ref 53), (1, .int a1), (2, .int a2)], [], ww q3.2, 0, 0)
        obtain ⟨w4, hqw4, H⟩ := am_bnE H
        refine am_go_blk 1 (?_ : am_gi (D + 7) 213 o (35, [(0, .ref 53), (1, .int a1), (2, .int a2)], [.ref 53], ww q3.2, 0, 0))
        refine am_invd rfl rfl rfl rfl (am_callv rfl (M_Mod_lives (D := D) hqw4) (?_ : am_gi (D + 7) 213 o (38, [(0, .ref 53), (1, .int a1), (2, .int a2)], [], ww w4, 0, 0)))
        obtain ⟨hc, H⟩ := am_ckE H
        refine am_go_blk 6 ⟨am_inv hc, (?_ : am_gi (D + 7) 213 o (46, [(3, .int (-nI 1)), (0, .ref 53), (1, .int a1), (2, .int a2)], [.int (w4.1 72 a1.toNatClampNeg)], ww w4, 0, 0))⟩
        exact am_go_blk 3 (TL_Mod_note_51 am_NF a1 a2 (-nI 1) (w4.1 72 a1.toNatClampNeg) (nI 0) w4 H)
      · have H := am_ie hc H
        show am_gi (D + 7) 213 o (31, [(0, .ref 53), (1, .int a1), (2, .int a2)], [], ww q3.2, 0, 0)
        exact am_go_blk 2 ⟨rfl, am_fi H⟩
    · have H := am_it hc H
      show am_gi (D + 7) 213 o (20, [(0, .ref 53), (1, .int a1), (2, .int a2)], [], ww q2.2, 0, 0)
      exact am_go_blk 2 ⟨rfl, am_fi H⟩
  · have H := am_it hc H
    show am_gi (D + 7) 213 o (8, [(0, .ref 53), (1, .int a1), (2, .int a2)], [], ww q1.2, 0, 0)
    exact am_go_blk 2 ⟨rfl, am_fi H⟩
theorem M_Mod_note {D : Nat} {o : Int32 × am_W} {a1 : Int32} {a2 : Int32} {w : am_W} (H : F_Mod_note a1 a2 w = some o) : am_run (D + 8) 213 [.ref 53, .int a1, .int a2] (ww w) (some (.int o.1)) (ww o.2) 0 0 :=
  am_run_of rfl (T_Mod_note a1 a2 w H)
def F_Mod_offBy_69 (a3 : Int32) (w : am_W) : Option (Int32 × am_W) :=
  some (a3, w)
def F_Mod_offBy_66 (s0 : Int32) (w : am_W) : Option (Int32 × am_W) :=
  some (s0, w)
def F_Mod_offBy (a1 : Int32) (a2 : Int32) (w : am_W) : Option (Int32 × am_W) :=
  (F_Mod_asksOf (nI 0) a1 a2 (nI 0) w).bind fun q1 => am_ck (am_in a1 8) (if (q1.2.1 54 a1.toNatClampNeg).toInt = 1 then (some (((nI 2) * q1.1), q1.2)) else if (q1.2.1 54 a1.toNatClampNeg).toInt = 2 then (F_Mod_offBy_69 q1.1 q1.2) else if (q1.2.1 54 a1.toNatClampNeg).toInt = 3 then (if q1.1 = 0 then (F_Mod_offBy_66 (nI 0) q1.2) else (am_ck (am_in a1 8) (F_Mod_offBy_66 (((nI 2) * q1.1) + (q1.2.1 55 a1.toNatClampNeg)) q1.2))) else if (q1.2.1 54 a1.toNatClampNeg).toInt = 4 then (some ((nI 1), q1.2)) else (F_Mod_offBy_69 q1.1 q1.2))
theorem T_Mod_offBy_69 {D : Nat} {o : Int32 × am_W} (a3 : Int32) (w : am_W) (H : F_Mod_offBy_69 a3 w = some o) : am_gi (D + 3) 177 o (69, [(3, .int a3)], [], ww w, 0, 0) := by
  unfold F_Mod_offBy_69 at H
  exact am_go_blk 2 ⟨rfl, am_fi H⟩
theorem T_Mod_offBy_66 {D : Nat} {o : Int32 × am_W} (s0 : Int32) (w : am_W) (H : F_Mod_offBy_66 s0 w = some o) : am_gi (D + 3) 177 o (66, [], [.int s0], ww w, 0, 0) := by
  unfold F_Mod_offBy_66 at H
  exact am_go_blk 1 ⟨rfl, am_fi H⟩
theorem T_Mod_offBy {D : Nat} {o : Int32 × am_W} (a1 : Int32) (a2 : Int32) (w : am_W) (H : F_Mod_offBy a1 a2 w = some o) : am_gi (D + 3) 177 o (0, [(0, .ref 53), (1, .int a1), (2, .int a2)], [], ww w, 0, 0) := by
  unfold F_Mod_offBy at H
  obtain ⟨q1, hqq1, H⟩ := am_bnE H
  refine am_go_blk 5 (?_ : am_gi (D + 3) 177 o (5, [(0, .ref 53), (1, .int a1), (2, .int a2)], [.int (nI 0), .int a2, .int a1, .int (nI 0), .ref 53], ww w, 0, 0))
  refine am_invd rfl rfl rfl rfl (am_calli rfl (M_Mod_asksOf (D := D) hqq1) (?_ : am_gi (D + 3) 177 o (8, [(0, .ref 53), (1, .int a1), (2, .int a2)], [.int q1.1], ww q1.2, 0, 0)))
  obtain ⟨hc, H⟩ := am_ckE H
  refine am_go_blk 5 ⟨am_inv hc, (?_ : am_gi (D + 3) 177 o (15, [(3, .int q1.1), (0, .ref 53), (1, .int a1), (2, .int a2)], [.int (q1.2.1 54 a1.toNatClampNeg)], ww q1.2, 0, 0))⟩
  refine am_go_blk 1 ⟨fun hc => ?_, fun hc => ?_⟩
  · have H := am_it hc H
    show am_gi (D + 3) 177 o (44, [(3, .int q1.1)], [], ww q1.2, 0, 0)
    exact am_go_blk 4 ⟨rfl, am_fi H⟩
  have H := am_ie hc H
  refine ⟨fun hc => ?_, fun hc => ?_⟩
  · have H := am_it hc H
    exact T_Mod_offBy_69 q1.1 q1.2 H
  have H := am_ie hc H
  refine ⟨fun hc => ?_, fun hc => ?_⟩
  · have H := am_it hc H
    show am_gi (D + 3) 177 o (48, [(0, .ref 53), (1, .int a1), (3, .int q1.1)], [], ww q1.2, 0, 0)
    refine am_go_blk 2 ⟨fun hc => ?_, fun hc => ?_⟩
    · have H := am_ie hc H
      show am_gi (D + 3) 177 o (56, [(0, .ref 53), (1, .int a1), (3, .int q1.1)], [], ww q1.2, 0, 0)
      obtain ⟨hc, H⟩ := am_ckE H
      refine am_go_blk 7 ⟨am_inv hc, (?_ : am_gi (D + 3) 177 o (65, [(0, .ref 53), (1, .int a1), (3, .int q1.1)], [.int (q1.2.1 55 a1.toNatClampNeg), .int ((nI 2) * q1.1)], ww q1.2, 0, 0))⟩
      exact am_go_blk 1 (T_Mod_offBy_66 (((nI 2) * q1.1) + (q1.2.1 55 a1.toNatClampNeg)) q1.2 H)
    · have H := am_it hc H
      show am_gi (D + 3) 177 o (52, [(0, .ref 53), (1, .int a1), (3, .int q1.1)], [], ww q1.2, 0, 0)
      exact am_go_blk 2 (T_Mod_offBy_66 (nI 0) q1.2 H)
  have H := am_ie hc H
  refine ⟨fun hc => ?_, fun hc => ?_⟩
  · have H := am_it hc H
    show am_gi (D + 3) 177 o (67, [], [], ww q1.2, 0, 0)
    exact am_go_blk 2 ⟨rfl, am_fi H⟩
  have H := am_ie hc H
  exact T_Mod_offBy_69 q1.1 q1.2 H
theorem M_Mod_offBy {D : Nat} {o : Int32 × am_W} {a1 : Int32} {a2 : Int32} {w : am_W} (H : F_Mod_offBy a1 a2 w = some o) : am_run (D + 4) 177 [.ref 53, .int a1, .int a2] (ww w) (some (.int o.1)) (ww o.2) 0 0 :=
  am_run_of rfl (T_Mod_offBy a1 a2 w H)
def F_Mod_out_62 (r22 : Int32 → Int32 → Int32 → Int32 → am_W → Option (Int32 × am_W)) (a1 : Int32) (a2 : Int32) (a3 : Int32) (a4 : Int32) (w : am_W) : Option (Int32 × am_W) :=
  r22 a1 a2 a3 (a4 + (nI 1)) w
def F_Mod_out_22 (r22 : Int32 → Int32 → Int32 → Int32 → am_W → Option (Int32 × am_W)) (a1 : Int32) (a2 : Int32) (a3 : Int32) (a4 : Int32) (w : am_W) : Option (Int32 × am_W) :=
  if (w.1 53 5) ≤ a4 then (some (a3, w)) else (if ((a2 >>> (a4 &&& 31)) &&& (nI 1)) = (nI 1) then ((F_Mod_offBy a1 a4 w).bind fun q3 => if q3.1 = 0 then (some ((-nI 1), q3.2)) else (F_Mod_out_62 r22 a1 a2 (a3 + q3.1) a4 q3.2)) else (F_Mod_out_62 r22 a1 a2 a3 a4 w))
def L_Mod_out_22 : Nat → Int32 → Int32 → Int32 → Int32 → am_W → Option (Int32 × am_W)
  | 0, _, _, _, _, _ => none
  | n + 1, a1, a2, a3, a4, w => F_Mod_out_22 (L_Mod_out_22 n) a1 a2 a3 a4 w
def F_Mod_out (a1 : Int32) (w : am_W) : Option (Int32 × am_W) :=
  (F_Mod_isThing a1 w).bind fun q1 => if q1.1 = 0 then (some ((-nI 5), q1.2)) else ((F_Mod_holdsNow a1 q1.2).bind fun q2 => L_Mod_out_22 am_NF a1 q2.1 (nI 0) (nI 0) q2.2)
theorem T_Mod_out_62 {D : Nat} {o : Int32 × am_W} {r22 : Int32 → Int32 → Int32 → Int32 → am_W → Option (Int32 × am_W)} (Hr22 : ∀ (a1 : Int32) (a2 : Int32) (a3 : Int32) (a4 : Int32) (w : am_W) , r22 a1 a2 a3 a4 w = some o → am_gi (D + 4) 214 o (22, [(0, .ref 53), (1, .int a1), (2, .int a2), (3, .int a3), (4, .int a4)], [], ww w, 0, 0)) (a1 : Int32) (a2 : Int32) (a3 : Int32) (a4 : Int32) (w : am_W) (H : F_Mod_out_62 r22 a1 a2 a3 a4 w = some o) : am_gi (D + 4) 214 o (62, [(0, .ref 53), (1, .int a1), (2, .int a2), (3, .int a3), (4, .int a4)], [], ww w, 0, 0) := by
  unfold F_Mod_out_62 at H
  exact am_go_blk 2 (Hr22 a1 a2 a3 (a4 + (nI 1)) w H)
theorem T_Mod_out_22 {D : Nat} {o : Int32 × am_W} {r22 : Int32 → Int32 → Int32 → Int32 → am_W → Option (Int32 × am_W)} (Hr22 : ∀ (a1 : Int32) (a2 : Int32) (a3 : Int32) (a4 : Int32) (w : am_W) , r22 a1 a2 a3 a4 w = some o → am_gi (D + 4) 214 o (22, [(0, .ref 53), (1, .int a1), (2, .int a2), (3, .int a3), (4, .int a4)], [], ww w, 0, 0)) (a1 : Int32) (a2 : Int32) (a3 : Int32) (a4 : Int32) (w : am_W) (H : F_Mod_out_22 r22 a1 a2 a3 a4 w = some o) : am_gi (D + 4) 214 o (22, [(0, .ref 53), (1, .int a1), (2, .int a2), (3, .int a3), (4, .int a4)], [], ww w, 0, 0) := by
  unfold F_Mod_out_22 at H
  refine am_go_blk 4 ⟨fun hc => ?_, fun hc => ?_⟩
  · have H := am_it hc H
    show am_gi (D + 4) 214 o (68, [(3, .int a3)], [], ww w, 0, 0)
    exact am_go_blk 2 ⟨rfl, am_fi H⟩
  · have H := am_ie hc H
    show am_gi (D + 4) 214 o (31, [(0, .ref 53), (1, .int a1), (2, .int a2), (3, .int a3), (4, .int a4)], [], ww w, 0, 0)
    refine am_go_blk 7 ⟨fun hc => ?_, fun hc => ?_⟩
    · have H := am_ie hc H
      exact T_Mod_out_62 Hr22 a1 a2 a3 a4 w H
    · have H := am_it hc H
      show am_gi (D + 4) 214 o (41, [(0, .ref 53), (1, .int a1), (2, .int a2), (3, .int a3), (4, .int a4)], [], ww w, 0, 0)
      obtain ⟨q3, hqq3, H⟩ := am_bnE H
      refine am_go_blk 3 (?_ : am_gi (D + 4) 214 o (45, [(0, .ref 53), (1, .int a1), (2, .int a2), (3, .int a3), (4, .int a4)], [.int a4, .int a1, .ref 53], ww w, 0, 0))
      refine am_invd rfl rfl rfl rfl (am_calli rfl (M_Mod_offBy (D := D) hqq3) (?_ : am_gi (D + 4) 214 o (48, [(0, .ref 53), (1, .int a1), (2, .int a2), (3, .int a3), (4, .int a4)], [.int q3.1], ww q3.2, 0, 0)))
      refine am_go_blk 3 ⟨fun hc => ?_, fun hc => ?_⟩
      · have H := am_ie hc H
        show am_gi (D + 4) 214 o (57, [(0, .ref 53), (1, .int a1), (2, .int a2), (3, .int a3), (4, .int a4), (5, .int q3.1)], [], ww q3.2, 0, 0)
        exact am_go_blk 4 (T_Mod_out_62 Hr22 a1 a2 (a3 + q3.1) a4 q3.2 H)
      · have H := am_it hc H
        show am_gi (D + 4) 214 o (55, [(5, .int q3.1), (0, .ref 53), (1, .int a1), (2, .int a2), (3, .int a3), (4, .int a4)], [], ww q3.2, 0, 0)
        exact am_go_blk 2 ⟨rfl, am_fi H⟩
theorem TL_Mod_out_22 {D : Nat} {o : Int32 × am_W} : ∀ (n : Nat) (a1 : Int32) (a2 : Int32) (a3 : Int32) (a4 : Int32) (w : am_W) , L_Mod_out_22 n a1 a2 a3 a4 w = some o → am_gi (D + 4) 214 o (22, [(0, .ref 53), (1, .int a1), (2, .int a2), (3, .int a3), (4, .int a4)], [], ww w, 0, 0)
  | 0, _, _, _, _, _, H => by cases H
  | n + 1, a1, a2, a3, a4, w, H => T_Mod_out_22 (TL_Mod_out_22 n) a1 a2 a3 a4 w H
theorem T_Mod_out {D : Nat} {o : Int32 × am_W} (a1 : Int32) (w : am_W) (H : F_Mod_out a1 w = some o) : am_gi (D + 4) 214 o (0, [(0, .ref 53), (1, .int a1)], [], ww w, 0, 0) := by
  unfold F_Mod_out at H
  obtain ⟨q1, hqq1, H⟩ := am_bnE H
  refine am_go_blk 2 (?_ : am_gi (D + 4) 214 o (2, [(0, .ref 53), (1, .int a1)], [.int a1, .ref 53], ww w, 0, 0))
  refine am_invd rfl rfl rfl rfl (am_calli rfl (M_Mod_isThing (D := D + 2) hqq1) (?_ : am_gi (D + 4) 214 o (5, [(0, .ref 53), (1, .int a1)], [.int q1.1], ww q1.2, 0, 0)))
  refine am_go_blk 1 ⟨fun hc => ?_, fun hc => ?_⟩
  · have H := am_ie hc H
    show am_gi (D + 4) 214 o (11, [(0, .ref 53), (1, .int a1)], [], ww q1.2, 0, 0)
    obtain ⟨q2, hqq2, H⟩ := am_bnE H
    refine am_go_blk 2 (?_ : am_gi (D + 4) 214 o (13, [(0, .ref 53), (1, .int a1)], [.int a1, .ref 53], ww q1.2, 0, 0))
    refine am_invd rfl rfl rfl rfl (am_calli rfl (M_Mod_holdsNow (D := D) hqq2) (?_ : am_gi (D + 4) 214 o (16, [(0, .ref 53), (1, .int a1)], [.int q2.1], ww q2.2, 0, 0)))
    exact am_go_blk 5 (TL_Mod_out_22 am_NF a1 q2.1 (nI 0) (nI 0) q2.2 H)
  · have H := am_it hc H
    show am_gi (D + 4) 214 o (8, [(0, .ref 53), (1, .int a1)], [], ww q1.2, 0, 0)
    exact am_go_blk 2 ⟨rfl, am_fi H⟩
theorem M_Mod_out {D : Nat} {o : Int32 × am_W} {a1 : Int32} {w : am_W} (H : F_Mod_out a1 w = some o) : am_run (D + 5) 214 [.ref 53, .int a1] (ww w) (some (.int o.1)) (ww o.2) 0 0 :=
  am_run_of rfl (T_Mod_out a1 w H)
def F_Mod_fixedBy_29 (r4 : Int32 → Int32 → Int32 → am_W → Option (Int32 × am_W)) (a1 : Int32) (a3 : Int32) (s0 : Int32) (s1 : Int32) (w : am_W) : Option (Int32 × am_W) :=
  r4 a1 (s1 ||| s0) (a3 + (nI 1)) w
def F_Mod_fixedBy_4 (r4 : Int32 → Int32 → Int32 → am_W → Option (Int32 × am_W)) (a1 : Int32) (a2 : Int32) (a3 : Int32) (w : am_W) : Option (Int32 × am_W) :=
  if (w.1 53 5) ≤ a3 then (some (a2, w)) else ((F_Mod_fixes a3 a1 w).bind fun q1 => if q1.1 = 0 then (F_Mod_fixedBy_29 r4 a1 a3 (nI 0) a2 q1.2) else (F_Mod_fixedBy_29 r4 a1 a3 ((nI 1) <<< (a3 &&& 31)) a2 q1.2))
def L_Mod_fixedBy_4 : Nat → Int32 → Int32 → Int32 → am_W → Option (Int32 × am_W)
  | 0, _, _, _, _ => none
  | n + 1, a1, a2, a3, w => F_Mod_fixedBy_4 (L_Mod_fixedBy_4 n) a1 a2 a3 w
def F_Mod_fixedBy (a1 : Int32) (w : am_W) : Option (Int32 × am_W) :=
  L_Mod_fixedBy_4 am_NF a1 (nI 0) (nI 0) w
theorem T_Mod_fixedBy_29 {D : Nat} {o : Int32 × am_W} {r4 : Int32 → Int32 → Int32 → am_W → Option (Int32 × am_W)} (Hr4 : ∀ (a1 : Int32) (a2 : Int32) (a3 : Int32) (w : am_W) , r4 a1 a2 a3 w = some o → am_gi (D + 3) 215 o (4, [(0, .ref 53), (1, .int a1), (2, .int a2), (3, .int a3)], [], ww w, 0, 0)) (a1 : Int32) (a3 : Int32) (s0 : Int32) (s1 : Int32) (w : am_W) (H : F_Mod_fixedBy_29 r4 a1 a3 s0 s1 w = some o) : am_gi (D + 3) 215 o (29, [(0, .ref 53), (1, .int a1), (3, .int a3)], [.int s0, .int s1], ww w, 0, 0) := by
  unfold F_Mod_fixedBy_29 at H
  exact am_go_blk 4 (Hr4 a1 (s1 ||| s0) (a3 + (nI 1)) w H)
theorem T_Mod_fixedBy_4 {D : Nat} {o : Int32 × am_W} {r4 : Int32 → Int32 → Int32 → am_W → Option (Int32 × am_W)} (Hr4 : ∀ (a1 : Int32) (a2 : Int32) (a3 : Int32) (w : am_W) , r4 a1 a2 a3 w = some o → am_gi (D + 3) 215 o (4, [(0, .ref 53), (1, .int a1), (2, .int a2), (3, .int a3)], [], ww w, 0, 0)) (a1 : Int32) (a2 : Int32) (a3 : Int32) (w : am_W) (H : F_Mod_fixedBy_4 r4 a1 a2 a3 w = some o) : am_gi (D + 3) 215 o (4, [(0, .ref 53), (1, .int a1), (2, .int a2), (3, .int a3)], [], ww w, 0, 0) := by
  unfold F_Mod_fixedBy_4 at H
  refine am_go_blk 4 ⟨fun hc => ?_, fun hc => ?_⟩
  · have H := am_it hc H
    show am_gi (D + 3) 215 o (37, [(2, .int a2)], [], ww w, 0, 0)
    exact am_go_blk 2 ⟨rfl, am_fi H⟩
  · have H := am_ie hc H
    show am_gi (D + 3) 215 o (12, [(0, .ref 53), (1, .int a1), (2, .int a2), (3, .int a3)], [], ww w, 0, 0)
    obtain ⟨q1, hqq1, H⟩ := am_bnE H
    refine am_go_blk 4 (?_ : am_gi (D + 3) 215 o (16, [(0, .ref 53), (1, .int a1), (2, .int a2), (3, .int a3)], [.int a1, .int a3, .ref 53, .int a2], ww w, 0, 0))
    refine am_invd rfl rfl rfl rfl (am_calli rfl (M_Mod_fixes (D := D) hqq1) (?_ : am_gi (D + 3) 215 o (19, [(0, .ref 53), (1, .int a1), (2, .int a2), (3, .int a3)], [.int q1.1, .int a2], ww q1.2, 0, 0)))
    refine am_go_blk 1 ⟨fun hc => ?_, fun hc => ?_⟩
    · have H := am_it hc H
      show am_gi (D + 3) 215 o (28, [(0, .ref 53), (1, .int a1), (3, .int a3)], [.int a2], ww q1.2, 0, 0)
      exact am_go_blk 1 (T_Mod_fixedBy_29 Hr4 a1 a3 (nI 0) a2 q1.2 H)
    · have H := am_ie hc H
      show am_gi (D + 3) 215 o (22, [(0, .ref 53), (1, .int a1), (2, .int a2), (3, .int a3)], [.int a2], ww q1.2, 0, 0)
      exact am_go_blk 4 (T_Mod_fixedBy_29 Hr4 a1 a3 ((nI 1) <<< (a3 &&& 31)) a2 q1.2 H)
theorem TL_Mod_fixedBy_4 {D : Nat} {o : Int32 × am_W} : ∀ (n : Nat) (a1 : Int32) (a2 : Int32) (a3 : Int32) (w : am_W) , L_Mod_fixedBy_4 n a1 a2 a3 w = some o → am_gi (D + 3) 215 o (4, [(0, .ref 53), (1, .int a1), (2, .int a2), (3, .int a3)], [], ww w, 0, 0)
  | 0, _, _, _, _, H => by cases H
  | n + 1, a1, a2, a3, w, H => T_Mod_fixedBy_4 (TL_Mod_fixedBy_4 n) a1 a2 a3 w H
theorem T_Mod_fixedBy {D : Nat} {o : Int32 × am_W} (a1 : Int32) (w : am_W) (H : F_Mod_fixedBy a1 w = some o) : am_gi (D + 3) 215 o (0, [(0, .ref 53), (1, .int a1)], [], ww w, 0, 0) := by
  unfold F_Mod_fixedBy at H
  exact am_go_blk 4 (TL_Mod_fixedBy_4 am_NF a1 (nI 0) (nI 0) w H)
theorem M_Mod_fixedBy {D : Nat} {o : Int32 × am_W} {a1 : Int32} {w : am_W} (H : F_Mod_fixedBy a1 w = some o) : am_run (D + 4) 215 [.ref 53, .int a1] (ww w) (some (.int o.1)) (ww o.2) 0 0 :=
  am_run_of rfl (T_Mod_fixedBy a1 w H)
def F_Mod_steals_36 (r4 : Int32 → Int32 → am_W → Option (Int32 × am_W)) (a2 : Int32) (s0 : Int32) (s1 : Int32) (w : am_W) : Option (Int32 × am_W) :=
  r4 (s1 ||| s0) (a2 + (nI 1)) w
def F_Mod_steals_35 (r4 : Int32 → Int32 → am_W → Option (Int32 × am_W)) (a2 : Int32) (s0 : Int32) (w : am_W) : Option (Int32 × am_W) :=
  F_Mod_steals_36 r4 a2 (nI 0) s0 w
def F_Mod_steals_4 (r4 : Int32 → Int32 → am_W → Option (Int32 × am_W)) (a1 : Int32) (a2 : Int32) (w : am_W) : Option (Int32 × am_W) :=
  if (w.1 53 0) ≤ a2 then (some (a1, w)) else ((F_Mod_isGone a2 w).bind fun q1 => if q1.1 = 0 then ((F_Mod_fixedBy a2 q1.2).bind fun q2 => if q2.1 = 0 then (F_Mod_steals_36 r4 a2 ((nI 1) <<< (a2 &&& 31)) a1 q2.2) else (F_Mod_steals_35 r4 a2 a1 q2.2)) else (F_Mod_steals_35 r4 a2 a1 q1.2))
def L_Mod_steals_4 : Nat → Int32 → Int32 → am_W → Option (Int32 × am_W)
  | 0, _, _, _ => none
  | n + 1, a1, a2, w => F_Mod_steals_4 (L_Mod_steals_4 n) a1 a2 w
def F_Mod_steals (w : am_W) : Option (Int32 × am_W) :=
  L_Mod_steals_4 am_NF (nI 0) (nI 0) w
theorem T_Mod_steals_36 {D : Nat} {o : Int32 × am_W} {r4 : Int32 → Int32 → am_W → Option (Int32 × am_W)} (Hr4 : ∀ (a1 : Int32) (a2 : Int32) (w : am_W) , r4 a1 a2 w = some o → am_gi (D + 4) 216 o (4, [(0, .ref 53), (1, .int a1), (2, .int a2)], [], ww w, 0, 0)) (a2 : Int32) (s0 : Int32) (s1 : Int32) (w : am_W) (H : F_Mod_steals_36 r4 a2 s0 s1 w = some o) : am_gi (D + 4) 216 o (36, [(0, .ref 53), (2, .int a2)], [.int s0, .int s1], ww w, 0, 0) := by
  unfold F_Mod_steals_36 at H
  exact am_go_blk 4 (Hr4 (s1 ||| s0) (a2 + (nI 1)) w H)
theorem T_Mod_steals_35 {D : Nat} {o : Int32 × am_W} {r4 : Int32 → Int32 → am_W → Option (Int32 × am_W)} (Hr4 : ∀ (a1 : Int32) (a2 : Int32) (w : am_W) , r4 a1 a2 w = some o → am_gi (D + 4) 216 o (4, [(0, .ref 53), (1, .int a1), (2, .int a2)], [], ww w, 0, 0)) (a2 : Int32) (s0 : Int32) (w : am_W) (H : F_Mod_steals_35 r4 a2 s0 w = some o) : am_gi (D + 4) 216 o (35, [(0, .ref 53), (2, .int a2)], [.int s0], ww w, 0, 0) := by
  unfold F_Mod_steals_35 at H
  exact am_go_blk 1 (T_Mod_steals_36 Hr4 a2 (nI 0) s0 w H)
theorem T_Mod_steals_4 {D : Nat} {o : Int32 × am_W} {r4 : Int32 → Int32 → am_W → Option (Int32 × am_W)} (Hr4 : ∀ (a1 : Int32) (a2 : Int32) (w : am_W) , r4 a1 a2 w = some o → am_gi (D + 4) 216 o (4, [(0, .ref 53), (1, .int a1), (2, .int a2)], [], ww w, 0, 0)) (a1 : Int32) (a2 : Int32) (w : am_W) (H : F_Mod_steals_4 r4 a1 a2 w = some o) : am_gi (D + 4) 216 o (4, [(0, .ref 53), (1, .int a1), (2, .int a2)], [], ww w, 0, 0) := by
  unfold F_Mod_steals_4 at H
  refine am_go_blk 4 ⟨fun hc => ?_, fun hc => ?_⟩
  · have H := am_it hc H
    show am_gi (D + 4) 216 o (44, [(1, .int a1)], [], ww w, 0, 0)
    exact am_go_blk 2 ⟨rfl, am_fi H⟩
  · have H := am_ie hc H
    show am_gi (D + 4) 216 o (12, [(0, .ref 53), (1, .int a1), (2, .int a2)], [], ww w, 0, 0)
    obtain ⟨q1, hqq1, H⟩ := am_bnE H
    refine am_go_blk 3 (?_ : am_gi (D + 4) 216 o (15, [(0, .ref 53), (1, .int a1), (2, .int a2)], [.int a2, .ref 53, .int a1], ww w, 0, 0))
    refine am_invd rfl rfl rfl rfl (am_calli rfl (M_Mod_isGone (D := D + 3) hqq1) (?_ : am_gi (D + 4) 216 o (18, [(0, .ref 53), (1, .int a1), (2, .int a2)], [.int q1.1, .int a1], ww q1.2, 0, 0)))
    refine am_go_blk 1 ⟨fun hc => ?_, fun hc => ?_⟩
    · have H := am_ie hc H
      exact T_Mod_steals_35 Hr4 a2 a1 q1.2 H
    · have H := am_it hc H
      show am_gi (D + 4) 216 o (21, [(0, .ref 53), (1, .int a1), (2, .int a2)], [.int a1], ww q1.2, 0, 0)
      obtain ⟨q2, hqq2, H⟩ := am_bnE H
      refine am_go_blk 2 (?_ : am_gi (D + 4) 216 o (23, [(0, .ref 53), (1, .int a1), (2, .int a2)], [.int a2, .ref 53, .int a1], ww q1.2, 0, 0))
      refine am_invd rfl rfl rfl rfl (am_calli rfl (M_Mod_fixedBy (D := D) hqq2) (?_ : am_gi (D + 4) 216 o (26, [(0, .ref 53), (1, .int a1), (2, .int a2)], [.int q2.1, .int a1], ww q2.2, 0, 0)))
      refine am_go_blk 1 ⟨fun hc => ?_, fun hc => ?_⟩
      · have H := am_ie hc H
        exact T_Mod_steals_35 Hr4 a2 a1 q2.2 H
      · have H := am_it hc H
        show am_gi (D + 4) 216 o (29, [(0, .ref 53), (1, .int a1), (2, .int a2)], [.int a1], ww q2.2, 0, 0)
        exact am_go_blk 4 (T_Mod_steals_36 Hr4 a2 ((nI 1) <<< (a2 &&& 31)) a1 q2.2 H)
theorem TL_Mod_steals_4 {D : Nat} {o : Int32 × am_W} : ∀ (n : Nat) (a1 : Int32) (a2 : Int32) (w : am_W) , L_Mod_steals_4 n a1 a2 w = some o → am_gi (D + 4) 216 o (4, [(0, .ref 53), (1, .int a1), (2, .int a2)], [], ww w, 0, 0)
  | 0, _, _, _, H => by cases H
  | n + 1, a1, a2, w, H => T_Mod_steals_4 (TL_Mod_steals_4 n) a1 a2 w H
theorem T_Mod_steals {D : Nat} {o : Int32 × am_W} (w : am_W) (H : F_Mod_steals w = some o) : am_gi (D + 4) 216 o (0, [(0, .ref 53)], [], ww w, 0, 0) := by
  unfold F_Mod_steals at H
  exact am_go_blk 4 (TL_Mod_steals_4 am_NF (nI 0) (nI 0) w H)
theorem M_Mod_steals {D : Nat} {o : Int32 × am_W} {w : am_W} (H : F_Mod_steals w = some o) : am_run (D + 5) 216 [.ref 53] (ww w) (some (.int o.1)) (ww o.2) 0 0 :=
  am_run_of rfl (T_Mod_steals w H)
def F_Mod_theftOf_72 (r11 : Int32 → Int32 → Int32 → Int32 → am_W → Option (Int32 × am_W)) (a1 : Int32) (a2 : Int32) (a3 : Int32) (a4 : Int32) (w : am_W) : Option (Int32 × am_W) :=
  r11 a1 a2 a3 (a4 + (nI 1)) w
def F_Mod_theftOf_70 (r11 : Int32 → Int32 → Int32 → Int32 → am_W → Option (Int32 × am_W)) (a1 : Int32) (a2 : Int32) (a4 : Int32) (s0 : Int32) (s1 : Int32) (w : am_W) : Option (Int32 × am_W) :=
  F_Mod_theftOf_72 r11 a1 a2 (s1 + s0) a4 w
def F_Mod_theftOf_63 (r11 : Int32 → Int32 → Int32 → Int32 → am_W → Option (Int32 × am_W)) (a1 : Int32) (a2 : Int32) (a4 : Int32) (a6 : Int32) (s0 : Int32) (w : am_W) : Option (Int32 × am_W) :=
  F_Mod_theftOf_70 r11 a1 a2 a4 a6 s0 w
def F_Mod_theftOf_11 (r11 : Int32 → Int32 → Int32 → Int32 → am_W → Option (Int32 × am_W)) (a1 : Int32) (a2 : Int32) (a3 : Int32) (a4 : Int32) (w : am_W) : Option (Int32 × am_W) :=
  if (w.1 53 5) ≤ a4 then (some (a3, w)) else (if ((a2 >>> (a4 &&& 31)) &&& (nI 1)) = (nI 1) then ((F_Mod_offBy a1 a4 w).bind fun q2 => (F_Mod_asksOf (nI 1) a1 a4 (nI 0) q2.2).bind fun q3 => if q2.1 = 0 then (F_Mod_theftOf_63 r11 a1 a2 a4 q3.1 a3 q3.2) else (if q2.1 ≤ q3.1 then (F_Mod_theftOf_70 r11 a1 a2 a4 q2.1 a3 q3.2) else (F_Mod_theftOf_63 r11 a1 a2 a4 q3.1 a3 q3.2))) else (F_Mod_theftOf_72 r11 a1 a2 a3 a4 w))
def L_Mod_theftOf_11 : Nat → Int32 → Int32 → Int32 → Int32 → am_W → Option (Int32 × am_W)
  | 0, _, _, _, _, _ => none
  | n + 1, a1, a2, a3, a4, w => F_Mod_theftOf_11 (L_Mod_theftOf_11 n) a1 a2 a3 a4 w
def F_Mod_theftOf (a1 : Int32) (w : am_W) : Option (Int32 × am_W) :=
  (F_Mod_fixedBy a1 w).bind fun q1 => L_Mod_theftOf_11 am_NF a1 q1.1 (nI 0) (nI 0) q1.2
theorem T_Mod_theftOf_72 {D : Nat} {o : Int32 × am_W} {r11 : Int32 → Int32 → Int32 → Int32 → am_W → Option (Int32 × am_W)} (Hr11 : ∀ (a1 : Int32) (a2 : Int32) (a3 : Int32) (a4 : Int32) (w : am_W) , r11 a1 a2 a3 a4 w = some o → am_gi (D + 4) 217 o (11, [(0, .ref 53), (1, .int a1), (2, .int a2), (3, .int a3), (4, .int a4)], [], ww w, 0, 0)) (a1 : Int32) (a2 : Int32) (a3 : Int32) (a4 : Int32) (w : am_W) (H : F_Mod_theftOf_72 r11 a1 a2 a3 a4 w = some o) : am_gi (D + 4) 217 o (72, [(0, .ref 53), (1, .int a1), (2, .int a2), (3, .int a3), (4, .int a4)], [], ww w, 0, 0) := by
  unfold F_Mod_theftOf_72 at H
  exact am_go_blk 2 (Hr11 a1 a2 a3 (a4 + (nI 1)) w H)
theorem T_Mod_theftOf_70 {D : Nat} {o : Int32 × am_W} {r11 : Int32 → Int32 → Int32 → Int32 → am_W → Option (Int32 × am_W)} (Hr11 : ∀ (a1 : Int32) (a2 : Int32) (a3 : Int32) (a4 : Int32) (w : am_W) , r11 a1 a2 a3 a4 w = some o → am_gi (D + 4) 217 o (11, [(0, .ref 53), (1, .int a1), (2, .int a2), (3, .int a3), (4, .int a4)], [], ww w, 0, 0)) (a1 : Int32) (a2 : Int32) (a4 : Int32) (s0 : Int32) (s1 : Int32) (w : am_W) (H : F_Mod_theftOf_70 r11 a1 a2 a4 s0 s1 w = some o) : am_gi (D + 4) 217 o (70, [(0, .ref 53), (1, .int a1), (2, .int a2), (4, .int a4)], [.int s0, .int s1], ww w, 0, 0) := by
  unfold F_Mod_theftOf_70 at H
  exact am_go_blk 2 (T_Mod_theftOf_72 Hr11 a1 a2 (s1 + s0) a4 w H)
theorem T_Mod_theftOf_63 {D : Nat} {o : Int32 × am_W} {r11 : Int32 → Int32 → Int32 → Int32 → am_W → Option (Int32 × am_W)} (Hr11 : ∀ (a1 : Int32) (a2 : Int32) (a3 : Int32) (a4 : Int32) (w : am_W) , r11 a1 a2 a3 a4 w = some o → am_gi (D + 4) 217 o (11, [(0, .ref 53), (1, .int a1), (2, .int a2), (3, .int a3), (4, .int a4)], [], ww w, 0, 0)) (a1 : Int32) (a2 : Int32) (a4 : Int32) (a6 : Int32) (s0 : Int32) (w : am_W) (H : F_Mod_theftOf_63 r11 a1 a2 a4 a6 s0 w = some o) : am_gi (D + 4) 217 o (63, [(0, .ref 53), (1, .int a1), (2, .int a2), (4, .int a4), (6, .int a6)], [.int s0], ww w, 0, 0) := by
  unfold F_Mod_theftOf_63 at H
  exact am_go_blk 2 (T_Mod_theftOf_70 Hr11 a1 a2 a4 a6 s0 w H)
theorem T_Mod_theftOf_11 {D : Nat} {o : Int32 × am_W} {r11 : Int32 → Int32 → Int32 → Int32 → am_W → Option (Int32 × am_W)} (Hr11 : ∀ (a1 : Int32) (a2 : Int32) (a3 : Int32) (a4 : Int32) (w : am_W) , r11 a1 a2 a3 a4 w = some o → am_gi (D + 4) 217 o (11, [(0, .ref 53), (1, .int a1), (2, .int a2), (3, .int a3), (4, .int a4)], [], ww w, 0, 0)) (a1 : Int32) (a2 : Int32) (a3 : Int32) (a4 : Int32) (w : am_W) (H : F_Mod_theftOf_11 r11 a1 a2 a3 a4 w = some o) : am_gi (D + 4) 217 o (11, [(0, .ref 53), (1, .int a1), (2, .int a2), (3, .int a3), (4, .int a4)], [], ww w, 0, 0) := by
  unfold F_Mod_theftOf_11 at H
  refine am_go_blk 4 ⟨fun hc => ?_, fun hc => ?_⟩
  · have H := am_it hc H
    show am_gi (D + 4) 217 o (78, [(3, .int a3)], [], ww w, 0, 0)
    exact am_go_blk 2 ⟨rfl, am_fi H⟩
  · have H := am_ie hc H
    show am_gi (D + 4) 217 o (20, [(0, .ref 53), (1, .int a1), (2, .int a2), (3, .int a3), (4, .int a4)], [], ww w, 0, 0)
    refine am_go_blk 7 ⟨fun hc => ?_, fun hc => ?_⟩
    · have H := am_ie hc H
      exact T_Mod_theftOf_72 Hr11 a1 a2 a3 a4 w H
    · have H := am_it hc H
      show am_gi (D + 4) 217 o (30, [(0, .ref 53), (1, .int a1), (2, .int a2), (3, .int a3), (4, .int a4)], [], ww w, 0, 0)
      obtain ⟨q2, hqq2, H⟩ := am_bnE H
      refine am_go_blk 3 (?_ : am_gi (D + 4) 217 o (34, [(0, .ref 53), (1, .int a1), (2, .int a2), (3, .int a3), (4, .int a4)], [.int a4, .int a1, .ref 53], ww w, 0, 0))
      refine am_invd rfl rfl rfl rfl (am_calli rfl (M_Mod_offBy (D := D) hqq2) (?_ : am_gi (D + 4) 217 o (37, [(0, .ref 53), (1, .int a1), (2, .int a2), (3, .int a3), (4, .int a4)], [.int q2.1], ww q2.2, 0, 0)))
      obtain ⟨q3, hqq3, H⟩ := am_bnE H
      refine am_go_blk 6 (?_ : am_gi (D + 4) 217 o (45, [(5, .int q2.1), (0, .ref 53), (1, .int a1), (2, .int a2), (3, .int a3), (4, .int a4)], [.int (nI 0), .int a4, .int a1, .int (nI 1), .ref 53], ww q2.2, 0, 0))
      refine am_invd rfl rfl rfl rfl (am_calli rfl (M_Mod_asksOf (D := D + 1) hqq3) (?_ : am_gi (D + 4) 217 o (48, [(5, .int q2.1), (0, .ref 53), (1, .int a1), (2, .int a2), (3, .int a3), (4, .int a4)], [.int q3.1], ww q3.2, 0, 0)))
      refine am_go_blk 4 ⟨fun hc => ?_, fun hc => ?_⟩
      · have H := am_it hc H
        exact T_Mod_theftOf_63 Hr11 a1 a2 a4 q3.1 a3 q3.2 H
      · have H := am_ie hc H
        show am_gi (D + 4) 217 o (56, [(6, .int q3.1), (5, .int q2.1), (0, .ref 53), (1, .int a1), (2, .int a2), (3, .int a3), (4, .int a4)], [.int a3], ww q3.2, 0, 0)
        refine am_go_blk 3 ⟨fun hc => ?_, fun hc => ?_⟩
        · have H := am_it hc H
          show am_gi (D + 4) 217 o (68, [(0, .ref 53), (1, .int a1), (2, .int a2), (4, .int a4), (5, .int q2.1)], [.int a3], ww q3.2, 0, 0)
          exact am_go_blk 1 (T_Mod_theftOf_70 Hr11 a1 a2 a4 q2.1 a3 q3.2 H)
        · have H := am_ie hc H
          exact T_Mod_theftOf_63 Hr11 a1 a2 a4 q3.1 a3 q3.2 H
theorem TL_Mod_theftOf_11 {D : Nat} {o : Int32 × am_W} : ∀ (n : Nat) (a1 : Int32) (a2 : Int32) (a3 : Int32) (a4 : Int32) (w : am_W) , L_Mod_theftOf_11 n a1 a2 a3 a4 w = some o → am_gi (D + 4) 217 o (11, [(0, .ref 53), (1, .int a1), (2, .int a2), (3, .int a3), (4, .int a4)], [], ww w, 0, 0)
  | 0, _, _, _, _, _, H => by cases H
  | n + 1, a1, a2, a3, a4, w, H => T_Mod_theftOf_11 (TL_Mod_theftOf_11 n) a1 a2 a3 a4 w H
theorem T_Mod_theftOf {D : Nat} {o : Int32 × am_W} (a1 : Int32) (w : am_W) (H : F_Mod_theftOf a1 w = some o) : am_gi (D + 4) 217 o (0, [(0, .ref 53), (1, .int a1)], [], ww w, 0, 0) := by
  unfold F_Mod_theftOf at H
  obtain ⟨q1, hqq1, H⟩ := am_bnE H
  refine am_go_blk 2 (?_ : am_gi (D + 4) 217 o (2, [(0, .ref 53), (1, .int a1)], [.int a1, .ref 53], ww w, 0, 0))
  refine am_invd rfl rfl rfl rfl (am_calli rfl (M_Mod_fixedBy (D := D) hqq1) (?_ : am_gi (D + 4) 217 o (5, [(0, .ref 53), (1, .int a1)], [.int q1.1], ww q1.2, 0, 0)))
  exact am_go_blk 5 (TL_Mod_theftOf_11 am_NF a1 q1.1 (nI 0) (nI 0) q1.2 H)
theorem M_Mod_theftOf {D : Nat} {o : Int32 × am_W} {a1 : Int32} {w : am_W} (H : F_Mod_theftOf a1 w = some o) : am_run (D + 5) 217 [.ref 53, .int a1] (ww w) (some (.int o.1)) (ww o.2) 0 0 :=
  am_run_of rfl (T_Mod_theftOf a1 w H)
def F_Mod_theft_29 (s0 : Int32) (w : am_W) : Option (Int32 × am_W) :=
  some (s0, w)
def F_Mod_theft (a1 : Int32) (w : am_W) : Option (Int32 × am_W) :=
  (F_Mod_isThing a1 w).bind fun q1 => if q1.1 = 0 then (some ((-nI 5), q1.2)) else ((F_Mod_isGone a1 q1.2).bind fun q2 => if q2.1 = 0 then ((F_Mod_theftOf a1 q2.2).bind fun q3 => F_Mod_theft_29 q3.1 q3.2) else (F_Mod_theft_29 (-nI 3) q2.2))
theorem T_Mod_theft_29 {D : Nat} {o : Int32 × am_W} (s0 : Int32) (w : am_W) (H : F_Mod_theft_29 s0 w = some o) : am_gi (D + 5) 218 o (29, [], [.int s0], ww w, 0, 0) := by
  unfold F_Mod_theft_29 at H
  exact am_go_blk 1 ⟨rfl, am_fi H⟩
theorem T_Mod_theft {D : Nat} {o : Int32 × am_W} (a1 : Int32) (w : am_W) (H : F_Mod_theft a1 w = some o) : am_gi (D + 5) 218 o (0, [(0, .ref 53), (1, .int a1)], [], ww w, 0, 0) := by
  unfold F_Mod_theft at H
  obtain ⟨q1, hqq1, H⟩ := am_bnE H
  refine am_go_blk 2 (?_ : am_gi (D + 5) 218 o (2, [(0, .ref 53), (1, .int a1)], [.int a1, .ref 53], ww w, 0, 0))
  refine am_invd rfl rfl rfl rfl (am_calli rfl (M_Mod_isThing (D := D + 3) hqq1) (?_ : am_gi (D + 5) 218 o (5, [(0, .ref 53), (1, .int a1)], [.int q1.1], ww q1.2, 0, 0)))
  refine am_go_blk 1 ⟨fun hc => ?_, fun hc => ?_⟩
  · have H := am_ie hc H
    show am_gi (D + 5) 218 o (11, [(0, .ref 53), (1, .int a1)], [], ww q1.2, 0, 0)
    obtain ⟨q2, hqq2, H⟩ := am_bnE H
    refine am_go_blk 2 (?_ : am_gi (D + 5) 218 o (13, [(0, .ref 53), (1, .int a1)], [.int a1, .ref 53], ww q1.2, 0, 0))
    refine am_invd rfl rfl rfl rfl (am_calli rfl (M_Mod_isGone (D := D + 4) hqq2) (?_ : am_gi (D + 5) 218 o (16, [(0, .ref 53), (1, .int a1)], [.int q2.1], ww q2.2, 0, 0)))
    refine am_go_blk 1 ⟨fun hc => ?_, fun hc => ?_⟩
    · have H := am_it hc H
      show am_gi (D + 5) 218 o (24, [(0, .ref 53), (1, .int a1)], [], ww q2.2, 0, 0)
      obtain ⟨q3, hqq3, H⟩ := am_bnE H
      refine am_go_blk 2 (?_ : am_gi (D + 5) 218 o (26, [(0, .ref 53), (1, .int a1)], [.int a1, .ref 53], ww q2.2, 0, 0))
      refine am_invd rfl rfl rfl rfl (am_calli rfl (M_Mod_theftOf (D := D) hqq3) (?_ : am_gi (D + 5) 218 o (29, [], [.int q3.1], ww q3.2, 0, 0)))
      exact T_Mod_theft_29 q3.1 q3.2 H
    · have H := am_ie hc H
      show am_gi (D + 5) 218 o (19, [(0, .ref 53), (1, .int a1)], [], ww q2.2, 0, 0)
      exact am_go_blk 2 (T_Mod_theft_29 (-nI 3) q2.2 H)
  · have H := am_it hc H
    show am_gi (D + 5) 218 o (8, [(0, .ref 53), (1, .int a1)], [], ww q1.2, 0, 0)
    exact am_go_blk 2 ⟨rfl, am_fi H⟩
theorem M_Mod_theft {D : Nat} {o : Int32 × am_W} {a1 : Int32} {w : am_W} (H : F_Mod_theft a1 w = some o) : am_run (D + 6) 218 [.ref 53, .int a1] (ww w) (some (.int o.1)) (ww o.2) 0 0 :=
  am_run_of rfl (T_Mod_theft a1 w H)
def F_Mod_loot_115 (s0 : Int32) (w : am_W) : Option (Int32 × am_W) :=
  some (s0, w)
def F_Mod_loot_99 (r19 : Int32 → Int32 → Int32 → Int32 → am_W → Option (Int32 × am_W)) (a1 : Int32) (a2 : Int32) (a4 : Int32) (s0 : Int32) (w : am_W) : Option (Int32 × am_W) :=
  r19 a1 a2 s0 (a4 + (nI 1)) w
def F_Mod_loot_87 (r19 : Int32 → Int32 → Int32 → Int32 → am_W → Option (Int32 × am_W)) (a1 : Int32) (a3 : Int32) (a4 : Int32) (a5 : Int32) (a6 : Int32) (s0 : Int32) (w : am_W) : Option (Int32 × am_W) :=
  if a6 = 0 then (F_Mod_loot_99 r19 a1 s0 a4 a3 w) else (F_Mod_loot_99 r19 a1 s0 a4 a5 w)
def F_Mod_loot_74 (r19 : Int32 → Int32 → Int32 → Int32 → am_W → Option (Int32 × am_W)) (a1 : Int32) (a2 : Int32) (a3 : Int32) (a4 : Int32) (a5 : Int32) (s0 : Int32) (w : am_W) : Option (Int32 × am_W) :=
  if s0 = 0 then (F_Mod_loot_87 r19 a1 a3 a4 a5 s0 a2 w) else (F_Mod_loot_87 r19 a1 a3 a4 a5 s0 a4 w)
def F_Mod_loot_73 (r19 : Int32 → Int32 → Int32 → Int32 → am_W → Option (Int32 × am_W)) (a1 : Int32) (a2 : Int32) (a3 : Int32) (a4 : Int32) (a5 : Int32) (w : am_W) : Option (Int32 × am_W) :=
  F_Mod_loot_74 r19 a1 a2 a3 a4 a5 (nI 0) w
def F_Mod_loot_69 (r19 : Int32 → Int32 → Int32 → Int32 → am_W → Option (Int32 × am_W)) (a1 : Int32) (a2 : Int32) (a3 : Int32) (a4 : Int32) (a5 : Int32) (w : am_W) : Option (Int32 × am_W) :=
  F_Mod_loot_74 r19 a1 a2 a3 a4 a5 (nI 1) w
def F_Mod_loot_47 (r19 : Int32 → Int32 → Int32 → Int32 → am_W → Option (Int32 × am_W)) (a1 : Int32) (a2 : Int32) (a3 : Int32) (a4 : Int32) (s0 : Int32) (w : am_W) : Option (Int32 × am_W) :=
  (F_Mod_isGone a4 w).bind fun q4 => if q4.1 = 0 then (if a2 = (-nI 1) then (F_Mod_loot_69 r19 a1 a2 a3 a4 s0 q4.2) else (if a3 ≤ s0 then (F_Mod_loot_73 r19 a1 a2 a3 a4 s0 q4.2) else (F_Mod_loot_69 r19 a1 a2 a3 a4 s0 q4.2))) else (F_Mod_loot_73 r19 a1 a2 a3 a4 s0 q4.2)
def F_Mod_loot_19 (r19 : Int32 → Int32 → Int32 → Int32 → am_W → Option (Int32 × am_W)) (a1 : Int32) (a2 : Int32) (a3 : Int32) (a4 : Int32) (w : am_W) : Option (Int32 × am_W) :=
  if (w.1 53 0) ≤ a4 then (if a1 = 0 then (F_Mod_loot_115 a2 w) else (F_Mod_loot_115 a3 w)) else ((F_Mod_isGone a4 w).bind fun q2 => if q2.1 = 0 then ((F_Mod_theftOf a4 q2.2).bind fun q3 => F_Mod_loot_47 r19 a1 a2 a3 a4 q3.1 q3.2) else (F_Mod_loot_47 r19 a1 a2 a3 a4 (nI 0) q2.2))
def L_Mod_loot_19 : Nat → Int32 → Int32 → Int32 → Int32 → am_W → Option (Int32 × am_W)
  | 0, _, _, _, _, _ => none
  | n + 1, a1, a2, a3, a4, w => F_Mod_loot_19 (L_Mod_loot_19 n) a1 a2 a3 a4 w
def F_Mod_loot (a1 : Int32) (w : am_W) : Option (Int32 × am_W) :=
  (F_Mod_in a1 (nI 0) (nI 1) w).bind fun q1 => if q1.1 = 0 then (some ((-nI 2), q1.2)) else (L_Mod_loot_19 am_NF a1 (-nI 1) (-nI 1) (nI 0) q1.2)
theorem T_Mod_loot_115 {D : Nat} {o : Int32 × am_W} (s0 : Int32) (w : am_W) (H : F_Mod_loot_115 s0 w = some o) : am_gi (D + 5) 219 o (115, [], [.int s0], ww w, 0, 0) := by
  unfold F_Mod_loot_115 at H
  exact am_go_blk 1 ⟨rfl, am_fi H⟩
theorem T_Mod_loot_99 {D : Nat} {o : Int32 × am_W} {r19 : Int32 → Int32 → Int32 → Int32 → am_W → Option (Int32 × am_W)} (Hr19 : ∀ (a1 : Int32) (a2 : Int32) (a3 : Int32) (a4 : Int32) (w : am_W) , r19 a1 a2 a3 a4 w = some o → am_gi (D + 5) 219 o (19, [(0, .ref 53), (1, .int a1), (2, .int a2), (3, .int a3), (4, .int a4)], [], ww w, 0, 0)) (a1 : Int32) (a2 : Int32) (a4 : Int32) (s0 : Int32) (w : am_W) (H : F_Mod_loot_99 r19 a1 a2 a4 s0 w = some o) : am_gi (D + 5) 219 o (99, [(0, .ref 53), (1, .int a1), (2, .int a2), (4, .int a4)], [.int s0], ww w, 0, 0) := by
  unfold F_Mod_loot_99 at H
  exact am_go_blk 3 (Hr19 a1 a2 s0 (a4 + (nI 1)) w H)
theorem T_Mod_loot_87 {D : Nat} {o : Int32 × am_W} {r19 : Int32 → Int32 → Int32 → Int32 → am_W → Option (Int32 × am_W)} (Hr19 : ∀ (a1 : Int32) (a2 : Int32) (a3 : Int32) (a4 : Int32) (w : am_W) , r19 a1 a2 a3 a4 w = some o → am_gi (D + 5) 219 o (19, [(0, .ref 53), (1, .int a1), (2, .int a2), (3, .int a3), (4, .int a4)], [], ww w, 0, 0)) (a1 : Int32) (a3 : Int32) (a4 : Int32) (a5 : Int32) (a6 : Int32) (s0 : Int32) (w : am_W) (H : F_Mod_loot_87 r19 a1 a3 a4 a5 a6 s0 w = some o) : am_gi (D + 5) 219 o (87, [(0, .ref 53), (1, .int a1), (3, .int a3), (4, .int a4), (5, .int a5), (6, .int a6)], [.int s0], ww w, 0, 0) := by
  unfold F_Mod_loot_87 at H
  refine am_go_blk 3 ⟨fun hc => ?_, fun hc => ?_⟩
  · have H := am_it hc H
    show am_gi (D + 5) 219 o (98, [(0, .ref 53), (1, .int a1), (2, .int s0), (3, .int a3), (4, .int a4)], [], ww w, 0, 0)
    exact am_go_blk 1 (T_Mod_loot_99 Hr19 a1 s0 a4 a3 w H)
  · have H := am_ie hc H
    show am_gi (D + 5) 219 o (93, [(2, .int s0), (0, .ref 53), (1, .int a1), (3, .int a3), (4, .int a4), (5, .int a5), (6, .int a6)], [], ww w, 0, 0)
    exact am_go_blk 2 (T_Mod_loot_99 Hr19 a1 s0 a4 a5 w H)
theorem T_Mod_loot_74 {D : Nat} {o : Int32 × am_W} {r19 : Int32 → Int32 → Int32 → Int32 → am_W → Option (Int32 × am_W)} (Hr19 : ∀ (a1 : Int32) (a2 : Int32) (a3 : Int32) (a4 : Int32) (w : am_W) , r19 a1 a2 a3 a4 w = some o → am_gi (D + 5) 219 o (19, [(0, .ref 53), (1, .int a1), (2, .int a2), (3, .int a3), (4, .int a4)], [], ww w, 0, 0)) (a1 : Int32) (a2 : Int32) (a3 : Int32) (a4 : Int32) (a5 : Int32) (s0 : Int32) (w : am_W) (H : F_Mod_loot_74 r19 a1 a2 a3 a4 a5 s0 w = some o) : am_gi (D + 5) 219 o (74, [(0, .ref 53), (1, .int a1), (2, .int a2), (3, .int a3), (4, .int a4), (5, .int a5)], [.int s0], ww w, 0, 0) := by
  unfold F_Mod_loot_74 at H
  refine am_go_blk 3 ⟨fun hc => ?_, fun hc => ?_⟩
  · have H := am_it hc H
    show am_gi (D + 5) 219 o (86, [(0, .ref 53), (1, .int a1), (2, .int a2), (3, .int a3), (4, .int a4), (5, .int a5), (6, .int s0)], [], ww w, 0, 0)
    exact am_go_blk 1 (T_Mod_loot_87 Hr19 a1 a3 a4 a5 s0 a2 w H)
  · have H := am_ie hc H
    show am_gi (D + 5) 219 o (81, [(6, .int s0), (0, .ref 53), (1, .int a1), (2, .int a2), (3, .int a3), (4, .int a4), (5, .int a5)], [], ww w, 0, 0)
    exact am_go_blk 2 (T_Mod_loot_87 Hr19 a1 a3 a4 a5 s0 a4 w H)
theorem T_Mod_loot_73 {D : Nat} {o : Int32 × am_W} {r19 : Int32 → Int32 → Int32 → Int32 → am_W → Option (Int32 × am_W)} (Hr19 : ∀ (a1 : Int32) (a2 : Int32) (a3 : Int32) (a4 : Int32) (w : am_W) , r19 a1 a2 a3 a4 w = some o → am_gi (D + 5) 219 o (19, [(0, .ref 53), (1, .int a1), (2, .int a2), (3, .int a3), (4, .int a4)], [], ww w, 0, 0)) (a1 : Int32) (a2 : Int32) (a3 : Int32) (a4 : Int32) (a5 : Int32) (w : am_W) (H : F_Mod_loot_73 r19 a1 a2 a3 a4 a5 w = some o) : am_gi (D + 5) 219 o (73, [(0, .ref 53), (1, .int a1), (2, .int a2), (3, .int a3), (4, .int a4), (5, .int a5)], [], ww w, 0, 0) := by
  unfold F_Mod_loot_73 at H
  exact am_go_blk 1 (T_Mod_loot_74 Hr19 a1 a2 a3 a4 a5 (nI 0) w H)
theorem T_Mod_loot_69 {D : Nat} {o : Int32 × am_W} {r19 : Int32 → Int32 → Int32 → Int32 → am_W → Option (Int32 × am_W)} (Hr19 : ∀ (a1 : Int32) (a2 : Int32) (a3 : Int32) (a4 : Int32) (w : am_W) , r19 a1 a2 a3 a4 w = some o → am_gi (D + 5) 219 o (19, [(0, .ref 53), (1, .int a1), (2, .int a2), (3, .int a3), (4, .int a4)], [], ww w, 0, 0)) (a1 : Int32) (a2 : Int32) (a3 : Int32) (a4 : Int32) (a5 : Int32) (w : am_W) (H : F_Mod_loot_69 r19 a1 a2 a3 a4 a5 w = some o) : am_gi (D + 5) 219 o (69, [(0, .ref 53), (1, .int a1), (2, .int a2), (3, .int a3), (4, .int a4), (5, .int a5)], [], ww w, 0, 0) := by
  unfold F_Mod_loot_69 at H
  exact am_go_blk 2 (T_Mod_loot_74 Hr19 a1 a2 a3 a4 a5 (nI 1) w H)
theorem T_Mod_loot_47 {D : Nat} {o : Int32 × am_W} {r19 : Int32 → Int32 → Int32 → Int32 → am_W → Option (Int32 × am_W)} (Hr19 : ∀ (a1 : Int32) (a2 : Int32) (a3 : Int32) (a4 : Int32) (w : am_W) , r19 a1 a2 a3 a4 w = some o → am_gi (D + 5) 219 o (19, [(0, .ref 53), (1, .int a1), (2, .int a2), (3, .int a3), (4, .int a4)], [], ww w, 0, 0)) (a1 : Int32) (a2 : Int32) (a3 : Int32) (a4 : Int32) (s0 : Int32) (w : am_W) (H : F_Mod_loot_47 r19 a1 a2 a3 a4 s0 w = some o) : am_gi (D + 5) 219 o (47, [(0, .ref 53), (1, .int a1), (2, .int a2), (3, .int a3), (4, .int a4)], [.int s0], ww w, 0, 0) := by
  unfold F_Mod_loot_47 at H
  obtain ⟨q4, hqq4, H⟩ := am_bnE H
  refine am_go_blk 3 (?_ : am_gi (D + 5) 219 o (52, [(5, .int s0), (0, .ref 53), (1, .int a1), (2, .int a2), (3, .int a3), (4, .int a4)], [.int a4, .ref 53], ww w, 0, 0))
  refine am_invd rfl rfl rfl rfl (am_calli rfl (M_Mod_isGone (D := D + 4) hqq4) (?_ : am_gi (D + 5) 219 o (55, [(5, .int s0), (0, .ref 53), (1, .int a1), (2, .int a2), (3, .int a3), (4, .int a4)], [.int q4.1], ww q4.2, 0, 0)))
  refine am_go_blk 1 ⟨fun hc => ?_, fun hc => ?_⟩
  · have H := am_ie hc H
    exact T_Mod_loot_73 Hr19 a1 a2 a3 a4 s0 q4.2 H
  · have H := am_it hc H
    show am_gi (D + 5) 219 o (58, [(5, .int s0), (0, .ref 53), (1, .int a1), (2, .int a2), (3, .int a3), (4, .int a4)], [], ww q4.2, 0, 0)
    refine am_go_blk 3 ⟨fun hc => ?_, fun hc => ?_⟩
    · have H := am_it hc H
      exact T_Mod_loot_69 Hr19 a1 a2 a3 a4 s0 q4.2 H
    · have H := am_ie hc H
      show am_gi (D + 5) 219 o (63, [(5, .int s0), (0, .ref 53), (1, .int a1), (2, .int a2), (3, .int a3), (4, .int a4)], [], ww q4.2, 0, 0)
      refine am_go_blk 3 ⟨fun hc => ?_, fun hc => ?_⟩
      · have H := am_it hc H
        exact T_Mod_loot_73 Hr19 a1 a2 a3 a4 s0 q4.2 H
      · have H := am_ie hc H
        exact T_Mod_loot_69 Hr19 a1 a2 a3 a4 s0 q4.2 H
theorem T_Mod_loot_19 {D : Nat} {o : Int32 × am_W} {r19 : Int32 → Int32 → Int32 → Int32 → am_W → Option (Int32 × am_W)} (Hr19 : ∀ (a1 : Int32) (a2 : Int32) (a3 : Int32) (a4 : Int32) (w : am_W) , r19 a1 a2 a3 a4 w = some o → am_gi (D + 5) 219 o (19, [(0, .ref 53), (1, .int a1), (2, .int a2), (3, .int a3), (4, .int a4)], [], ww w, 0, 0)) (a1 : Int32) (a2 : Int32) (a3 : Int32) (a4 : Int32) (w : am_W) (H : F_Mod_loot_19 r19 a1 a2 a3 a4 w = some o) : am_gi (D + 5) 219 o (19, [(0, .ref 53), (1, .int a1), (2, .int a2), (3, .int a3), (4, .int a4)], [], ww w, 0, 0) := by
  unfold F_Mod_loot_19 at H
  refine am_go_blk 4 ⟨fun hc => ?_, fun hc => ?_⟩
  · have H := am_it hc H
    show am_gi (D + 5) 219 o (106, [(1, .int a1), (2, .int a2), (3, .int a3)], [], ww w, 0, 0)
    refine am_go_blk 2 ⟨fun hc => ?_, fun hc => ?_⟩
    · have H := am_ie hc H
      show am_gi (D + 5) 219 o (114, [(3, .int a3)], [], ww w, 0, 0)
      exact am_go_blk 1 (T_Mod_loot_115 a3 w H)
    · have H := am_it hc H
      show am_gi (D + 5) 219 o (110, [(1, .int a1), (2, .int a2), (3, .int a3)], [], ww w, 0, 0)
      exact am_go_blk 2 (T_Mod_loot_115 a2 w H)
  · have H := am_ie hc H
    show am_gi (D + 5) 219 o (28, [(0, .ref 53), (1, .int a1), (2, .int a2), (3, .int a3), (4, .int a4)], [], ww w, 0, 0)
    obtain ⟨q2, hqq2, H⟩ := am_bnE H
    refine am_go_blk 2 (?_ : am_gi (D + 5) 219 o (31, [(0, .ref 53), (1, .int a1), (2, .int a2), (3, .int a3), (4, .int a4)], [.int a4, .ref 53], ww w, 0, 0))
    refine am_invd rfl rfl rfl rfl (am_calli rfl (M_Mod_isGone (D := D + 4) hqq2) (?_ : am_gi (D + 5) 219 o (34, [(0, .ref 53), (1, .int a1), (2, .int a2), (3, .int a3), (4, .int a4)], [.int q2.1], ww q2.2, 0, 0)))
    refine am_go_blk 1 ⟨fun hc => ?_, fun hc => ?_⟩
    · have H := am_it hc H
      show am_gi (D + 5) 219 o (41, [(0, .ref 53), (1, .int a1), (2, .int a2), (3, .int a3), (4, .int a4)], [], ww q2.2, 0, 0)
      obtain ⟨q3, hqq3, H⟩ := am_bnE H
      refine am_go_blk 2 (?_ : am_gi (D + 5) 219 o (44, [(0, .ref 53), (1, .int a1), (2, .int a2), (3, .int a3), (4, .int a4)], [.int a4, .ref 53], ww q2.2, 0, 0))
      refine am_invd rfl rfl rfl rfl (am_calli rfl (M_Mod_theftOf (D := D) hqq3) (?_ : am_gi (D + 5) 219 o (47, [(0, .ref 53), (1, .int a1), (2, .int a2), (3, .int a3), (4, .int a4)], [.int q3.1], ww q3.2, 0, 0)))
      exact T_Mod_loot_47 Hr19 a1 a2 a3 a4 q3.1 q3.2 H
    · have H := am_ie hc H
      show am_gi (D + 5) 219 o (37, [(0, .ref 53), (1, .int a1), (2, .int a2), (3, .int a3), (4, .int a4)], [], ww q2.2, 0, 0)
      exact am_go_blk 2 (T_Mod_loot_47 Hr19 a1 a2 a3 a4 (nI 0) q2.2 H)
theorem TL_Mod_loot_19 {D : Nat} {o : Int32 × am_W} : ∀ (n : Nat) (a1 : Int32) (a2 : Int32) (a3 : Int32) (a4 : Int32) (w : am_W) , L_Mod_loot_19 n a1 a2 a3 a4 w = some o → am_gi (D + 5) 219 o (19, [(0, .ref 53), (1, .int a1), (2, .int a2), (3, .int a3), (4, .int a4)], [], ww w, 0, 0)
  | 0, _, _, _, _, _, H => by cases H
  | n + 1, a1, a2, a3, a4, w, H => T_Mod_loot_19 (TL_Mod_loot_19 n) a1 a2 a3 a4 w H
theorem T_Mod_loot {D : Nat} {o : Int32 × am_W} (a1 : Int32) (w : am_W) (H : F_Mod_loot a1 w = some o) : am_gi (D + 5) 219 o (0, [(0, .ref 53), (1, .int a1)], [], ww w, 0, 0) := by
  unfold F_Mod_loot at H
  obtain ⟨q1, hqq1, H⟩ := am_bnE H
  refine am_go_blk 3 (?_ : am_gi (D + 5) 219 o (3, [(0, .ref 53), (1, .int a1)], [.int (nI 1), .int (nI 0), .int a1], ww w, 0, 0))
  refine am_cls rfl rfl rfl (am_calli rfl (M_Mod_in (D := D + 4) hqq1) (?_ : am_gi (D + 5) 219 o (6, [(0, .ref 53), (1, .int a1)], [.int q1.1], ww q1.2, 0, 0)))
  refine am_go_blk 1 ⟨fun hc => ?_, fun hc => ?_⟩
  · have H := am_ie hc H
    show am_gi (D + 5) 219 o (12, [(0, .ref 53), (1, .int a1)], [], ww q1.2, 0, 0)
    exact am_go_blk 6 (TL_Mod_loot_19 am_NF a1 (-nI 1) (-nI 1) (nI 0) q1.2 H)
  · have H := am_it hc H
    show am_gi (D + 5) 219 o (9, [(0, .ref 53), (1, .int a1)], [], ww q1.2, 0, 0)
    exact am_go_blk 2 ⟨rfl, am_fi H⟩
theorem M_Mod_loot {D : Nat} {o : Int32 × am_W} {a1 : Int32} {w : am_W} (H : F_Mod_loot a1 w = some o) : am_run (D + 6) 219 [.ref 53, .int a1] (ww w) (some (.int o.1)) (ww o.2) 0 0 :=
  am_run_of rfl (T_Mod_loot a1 w H)
def F_Mod_guard_29 (w : am_W) : Option (Int32 × am_W) :=
  some ((-nI 7), w)
def F_Mod_guard_195 (s0 : Int32) (w : am_W) : Option (Int32 × am_W) :=
  some (s0, w)
def F_Mod_guard_178 (r64 : Int32 → Int32 → Int32 → Int32 → Int32 → Int32 → am_W → Option (Int32 × am_W)) (a1 : Int32) (a2 : Int32) (a3 : Int32) (a4 : Int32) (a5 : Int32) (a6 : Int32) (w : am_W) : Option (Int32 × am_W) :=
  r64 a1 a2 a3 a4 a5 (a6 + (nI 1)) w
def F_Mod_guard_176 (r64 : Int32 → Int32 → Int32 → Int32 → Int32 → Int32 → am_W → Option (Int32 × am_W)) (a1 : Int32) (a2 : Int32) (a3 : Int32) (a4 : Int32) (a6 : Int32) (s0 : Int32) (w : am_W) : Option (Int32 × am_W) :=
  F_Mod_guard_178 r64 a1 a2 a3 a4 s0 a6 w
def F_Mod_guard_162 (r64 : Int32 → Int32 → Int32 → Int32 → Int32 → Int32 → am_W → Option (Int32 × am_W)) (a1 : Int32) (a2 : Int32) (a3 : Int32) (a5 : Int32) (a6 : Int32) (a8 : Int32) (a9 : Int32) (s0 : Int32) (w : am_W) : Option (Int32 × am_W) :=
  if a9 = 0 then (F_Mod_guard_176 r64 a1 a2 a3 s0 a6 a5 w) else (F_Mod_guard_176 r64 a1 a2 a3 s0 a6 a8 w)
def F_Mod_guard_148 (r64 : Int32 → Int32 → Int32 → Int32 → Int32 → Int32 → am_W → Option (Int32 × am_W)) (a1 : Int32) (a2 : Int32) (a3 : Int32) (a4 : Int32) (a5 : Int32) (a6 : Int32) (a8 : Int32) (s0 : Int32) (w : am_W) : Option (Int32 × am_W) :=
  if s0 = 0 then (F_Mod_guard_162 r64 a1 a2 a3 a5 a6 a8 s0 a4 w) else (F_Mod_guard_162 r64 a1 a2 a3 a5 a6 a8 s0 a6 w)
def F_Mod_guard_143 (r64 : Int32 → Int32 → Int32 → Int32 → Int32 → Int32 → am_W → Option (Int32 × am_W)) (a1 : Int32) (a2 : Int32) (a3 : Int32) (a4 : Int32) (a5 : Int32) (a6 : Int32) (a8 : Int32) (w : am_W) : Option (Int32 × am_W) :=
  F_Mod_guard_148 r64 a1 a2 a3 a4 a5 a6 a8 (nI 1) w
def F_Mod_guard_102 (r64 : Int32 → Int32 → Int32 → Int32 → Int32 → Int32 → am_W → Option (Int32 × am_W)) (a1 : Int32) (a2 : Int32) (a3 : Int32) (a4 : Int32) (a5 : Int32) (a6 : Int32) (w : am_W) : Option (Int32 × am_W) :=
  (F_Mod_lock a1 a2 (((nI 1) <<< (a1 &&& 31)) ||| ((nI 1) <<< (a6 &&& 31))) w).bind fun q5 => (F_Mod_badness q5.2).bind fun q6 => am_lt (wsf q6.2 53 5 q5.1) fun w7 => if a4 = (-nI 1) then (F_Mod_guard_143 r64 a1 a2 a3 a4 a5 a6 q6.1 w7) else (if a5 ≤ q6.1 then (F_Mod_guard_148 r64 a1 a2 a3 a4 a5 a6 q6.1 (nI 0) w7) else (F_Mod_guard_143 r64 a1 a2 a3 a4 a5 a6 q6.1 w7))
def F_Mod_guard_64 (r64 : Int32 → Int32 → Int32 → Int32 → Int32 → Int32 → am_W → Option (Int32 × am_W)) (a1 : Int32) (a2 : Int32) (a3 : Int32) (a4 : Int32) (a5 : Int32) (a6 : Int32) (w : am_W) : Option (Int32 × am_W) :=
  if (nI 9) ≤ a6 then (if a3 = 0 then (F_Mod_guard_195 a4 w) else (F_Mod_guard_195 a5 w)) else (if a6 = (nI 8) then (F_Mod_guard_102 r64 a1 a2 a3 a4 a5 a6 w) else ((F_Mod_isThing a6 w).bind fun q8 => if q8.1 = 0 then (F_Mod_guard_178 r64 a1 a2 a3 a4 a5 a6 q8.2) else (if a6 = a1 then (F_Mod_guard_178 r64 a1 a2 a3 a4 a5 a6 q8.2) else ((F_Mod_isGone a6 q8.2).bind fun q9 => if q9.1 = 0 then (F_Mod_guard_102 r64 a1 a2 a3 a4 a5 a6 q9.2) else (F_Mod_guard_178 r64 a1 a2 a3 a4 a5 a6 q9.2)))))
def L_Mod_guard_64 : Nat → Int32 → Int32 → Int32 → Int32 → Int32 → Int32 → am_W → Option (Int32 × am_W)
  | 0, _, _, _, _, _, _, _ => none
  | n + 1, a1, a2, a3, a4, a5, a6, w => F_Mod_guard_64 (L_Mod_guard_64 n) a1 a2 a3 a4 a5 a6 w
def F_Mod_guard (a1 : Int32) (a2 : Int32) (a3 : Int32) (w : am_W) : Option (Int32 × am_W) :=
  (F_Mod_isThing a1 w).bind fun q1 => if q1.1 = 0 then (some ((-nI 5), q1.2)) else ((F_Mod_in a2 (nI 0) (nI 2) q1.2).bind fun q2 => if q2.1 = 0 then (F_Mod_guard_29 q2.2) else ((F_Mod_in a3 (nI 0) (nI 1) q2.2).bind fun q3 => if q3.1 = 0 then (F_Mod_guard_29 q3.2) else ((F_Mod_isGone a1 q3.2).bind fun q4 => if q4.1 = 0 then (if (q4.2.1 53 5) = (nI 10) then (some ((-nI 4), q4.2)) else (L_Mod_guard_64 am_NF a1 a2 a3 (-nI 1) (nI 0) (nI 0) q4.2)) else (some ((-nI 3), q4.2)))))
theorem T_Mod_guard_29 {D : Nat} {o : Int32 × am_W} (w : am_W) (H : F_Mod_guard_29 w = some o) : am_gi (D + 8) 220 o (29, [], [], ww w, 0, 0) := by
  unfold F_Mod_guard_29 at H
  exact am_go_blk 2 ⟨rfl, am_fi H⟩
theorem T_Mod_guard_195 {D : Nat} {o : Int32 × am_W} (s0 : Int32) (w : am_W) (H : F_Mod_guard_195 s0 w = some o) : am_gi (D + 8) 220 o (195, [], [.int s0], ww w, 0, 0) := by
  unfold F_Mod_guard_195 at H
  exact am_go_blk 1 ⟨rfl, am_fi H⟩
theorem T_Mod_guard_178 {D : Nat} {o : Int32 × am_W} {r64 : Int32 → Int32 → Int32 → Int32 → Int32 → Int32 → am_W → Option (Int32 × am_W)} (Hr64 : ∀ (a1 : Int32) (a2 : Int32) (a3 : Int32) (a4 : Int32) (a5 : Int32) (a6 : Int32) (w : am_W) , r64 a1 a2 a3 a4 a5 a6 w = some o → am_gi (D + 8) 220 o (64, [(0, .ref 53), (1, .int a1), (2, .int a2), (3, .int a3), (4, .int a4), (5, .int a5), (6, .int a6)], [], ww w, 0, 0)) (a1 : Int32) (a2 : Int32) (a3 : Int32) (a4 : Int32) (a5 : Int32) (a6 : Int32) (w : am_W) (H : F_Mod_guard_178 r64 a1 a2 a3 a4 a5 a6 w = some o) : am_gi (D + 8) 220 o (178, [(0, .ref 53), (1, .int a1), (2, .int a2), (3, .int a3), (4, .int a4), (5, .int a5), (6, .int a6)], [], ww w, 0, 0) := by
  unfold F_Mod_guard_178 at H
  exact am_go_blk 2 (Hr64 a1 a2 a3 a4 a5 (a6 + (nI 1)) w H)
theorem T_Mod_guard_176 {D : Nat} {o : Int32 × am_W} {r64 : Int32 → Int32 → Int32 → Int32 → Int32 → Int32 → am_W → Option (Int32 × am_W)} (Hr64 : ∀ (a1 : Int32) (a2 : Int32) (a3 : Int32) (a4 : Int32) (a5 : Int32) (a6 : Int32) (w : am_W) , r64 a1 a2 a3 a4 a5 a6 w = some o → am_gi (D + 8) 220 o (64, [(0, .ref 53), (1, .int a1), (2, .int a2), (3, .int a3), (4, .int a4), (5, .int a5), (6, .int a6)], [], ww w, 0, 0)) (a1 : Int32) (a2 : Int32) (a3 : Int32) (a4 : Int32) (a6 : Int32) (s0 : Int32) (w : am_W) (H : F_Mod_guard_176 r64 a1 a2 a3 a4 a6 s0 w = some o) : am_gi (D + 8) 220 o (176, [(0, .ref 53), (1, .int a1), (2, .int a2), (3, .int a3), (4, .int a4), (6, .int a6)], [.int s0], ww w, 0, 0) := by
  unfold F_Mod_guard_176 at H
  exact am_go_blk 1 (T_Mod_guard_178 Hr64 a1 a2 a3 a4 s0 a6 w H)
theorem T_Mod_guard_162 {D : Nat} {o : Int32 × am_W} {r64 : Int32 → Int32 → Int32 → Int32 → Int32 → Int32 → am_W → Option (Int32 × am_W)} (Hr64 : ∀ (a1 : Int32) (a2 : Int32) (a3 : Int32) (a4 : Int32) (a5 : Int32) (a6 : Int32) (w : am_W) , r64 a1 a2 a3 a4 a5 a6 w = some o → am_gi (D + 8) 220 o (64, [(0, .ref 53), (1, .int a1), (2, .int a2), (3, .int a3), (4, .int a4), (5, .int a5), (6, .int a6)], [], ww w, 0, 0)) (a1 : Int32) (a2 : Int32) (a3 : Int32) (a5 : Int32) (a6 : Int32) (a8 : Int32) (a9 : Int32) (s0 : Int32) (w : am_W) (H : F_Mod_guard_162 r64 a1 a2 a3 a5 a6 a8 a9 s0 w = some o) : am_gi (D + 8) 220 o (162, [(0, .ref 53), (1, .int a1), (2, .int a2), (3, .int a3), (5, .int a5), (6, .int a6), (8, .int a8), (9, .int a9)], [.int s0], ww w, 0, 0) := by
  unfold F_Mod_guard_162 at H
  refine am_go_blk 3 ⟨fun hc => ?_, fun hc => ?_⟩
  · have H := am_it hc H
    show am_gi (D + 8) 220 o (174, [(0, .ref 53), (1, .int a1), (2, .int a2), (3, .int a3), (4, .int s0), (5, .int a5), (6, .int a6)], [], ww w, 0, 0)
    exact am_go_blk 1 (T_Mod_guard_176 Hr64 a1 a2 a3 s0 a6 a5 w H)
  · have H := am_ie hc H
    show am_gi (D + 8) 220 o (169, [(4, .int s0), (0, .ref 53), (1, .int a1), (2, .int a2), (3, .int a3), (5, .int a5), (6, .int a6), (8, .int a8), (9, .int a9)], [], ww w, 0, 0)
    exact am_go_blk 2 (T_Mod_guard_176 Hr64 a1 a2 a3 s0 a6 a8 w H)
theorem T_Mod_guard_148 {D : Nat} {o : Int32 × am_W} {r64 : Int32 → Int32 → Int32 → Int32 → Int32 → Int32 → am_W → Option (Int32 × am_W)} (Hr64 : ∀ (a1 : Int32) (a2 : Int32) (a3 : Int32) (a4 : Int32) (a5 : Int32) (a6 : Int32) (w : am_W) , r64 a1 a2 a3 a4 a5 a6 w = some o → am_gi (D + 8) 220 o (64, [(0, .ref 53), (1, .int a1), (2, .int a2), (3, .int a3), (4, .int a4), (5, .int a5), (6, .int a6)], [], ww w, 0, 0)) (a1 : Int32) (a2 : Int32) (a3 : Int32) (a4 : Int32) (a5 : Int32) (a6 : Int32) (a8 : Int32) (s0 : Int32) (w : am_W) (H : F_Mod_guard_148 r64 a1 a2 a3 a4 a5 a6 a8 s0 w = some o) : am_gi (D + 8) 220 o (148, [(0, .ref 53), (1, .int a1), (2, .int a2), (3, .int a3), (4, .int a4), (5, .int a5), (6, .int a6), (8, .int a8)], [.int s0], ww w, 0, 0) := by
  unfold F_Mod_guard_148 at H
  refine am_go_blk 3 ⟨fun hc => ?_, fun hc => ?_⟩
  · have H := am_it hc H
    show am_gi (D + 8) 220 o (160, [(0, .ref 53), (1, .int a1), (2, .int a2), (3, .int a3), (4, .int a4), (5, .int a5), (6, .int a6), (8, .int a8), (9, .int s0)], [], ww w, 0, 0)
    exact am_go_blk 1 (T_Mod_guard_162 Hr64 a1 a2 a3 a5 a6 a8 s0 a4 w H)
  · have H := am_ie hc H
    show am_gi (D + 8) 220 o (155, [(9, .int s0), (0, .ref 53), (1, .int a1), (2, .int a2), (3, .int a3), (4, .int a4), (5, .int a5), (6, .int a6), (8, .int a8)], [], ww w, 0, 0)
    exact am_go_blk 2 (T_Mod_guard_162 Hr64 a1 a2 a3 a5 a6 a8 s0 a6 w H)
theorem T_Mod_guard_143 {D : Nat} {o : Int32 × am_W} {r64 : Int32 → Int32 → Int32 → Int32 → Int32 → Int32 → am_W → Option (Int32 × am_W)} (Hr64 : ∀ (a1 : Int32) (a2 : Int32) (a3 : Int32) (a4 : Int32) (a5 : Int32) (a6 : Int32) (w : am_W) , r64 a1 a2 a3 a4 a5 a6 w = some o → am_gi (D + 8) 220 o (64, [(0, .ref 53), (1, .int a1), (2, .int a2), (3, .int a3), (4, .int a4), (5, .int a5), (6, .int a6)], [], ww w, 0, 0)) (a1 : Int32) (a2 : Int32) (a3 : Int32) (a4 : Int32) (a5 : Int32) (a6 : Int32) (a8 : Int32) (w : am_W) (H : F_Mod_guard_143 r64 a1 a2 a3 a4 a5 a6 a8 w = some o) : am_gi (D + 8) 220 o (143, [(0, .ref 53), (1, .int a1), (2, .int a2), (3, .int a3), (4, .int a4), (5, .int a5), (6, .int a6), (8, .int a8)], [], ww w, 0, 0) := by
  unfold F_Mod_guard_143 at H
  exact am_go_blk 2 (T_Mod_guard_148 Hr64 a1 a2 a3 a4 a5 a6 a8 (nI 1) w H)
theorem T_Mod_guard_102 {D : Nat} {o : Int32 × am_W} {r64 : Int32 → Int32 → Int32 → Int32 → Int32 → Int32 → am_W → Option (Int32 × am_W)} (Hr64 : ∀ (a1 : Int32) (a2 : Int32) (a3 : Int32) (a4 : Int32) (a5 : Int32) (a6 : Int32) (w : am_W) , r64 a1 a2 a3 a4 a5 a6 w = some o → am_gi (D + 8) 220 o (64, [(0, .ref 53), (1, .int a1), (2, .int a2), (3, .int a3), (4, .int a4), (5, .int a5), (6, .int a6)], [], ww w, 0, 0)) (a1 : Int32) (a2 : Int32) (a3 : Int32) (a4 : Int32) (a5 : Int32) (a6 : Int32) (w : am_W) (H : F_Mod_guard_102 r64 a1 a2 a3 a4 a5 a6 w = some o) : am_gi (D + 8) 220 o (102, [(0, .ref 53), (1, .int a1), (2, .int a2), (3, .int a3), (4, .int a4), (5, .int a5), (6, .int a6)], [], ww w, 0, 0) := by
  unfold F_Mod_guard_102 at H
  obtain ⟨q5, hqq5, H⟩ := am_bnE H
  refine am_go_blk 10 (?_ : am_gi (D + 8) 220 o (113, [(0, .ref 53), (1, .int a1), (2, .int a2), (3, .int a3), (4, .int a4), (5, .int a5), (6, .int a6)], [.int (((nI 1) <<< (a1 &&& 31)) ||| ((nI 1) <<< (a6 &&& 31))), .int a2, .int a1, .ref 53], ww w, 0, 0))
  refine am_invd rfl rfl rfl rfl (am_calli rfl (M_Mod_lock (D := D + 5) hqq5) (?_ : am_gi (D + 8) 220 o (116, [(0, .ref 53), (1, .int a1), (2, .int a2), (3, .int a3), (4, .int a4), (5, .int a5), (6, .int a6)], [.int q5.1], ww q5.2, 0, 0)))
  obtain ⟨q6, hqq6, H⟩ := am_bnE H
  refine am_go_blk 2 (?_ : am_gi (D + 8) 220 o (119, [(7, .int q5.1), (0, .ref 53), (1, .int a1), (2, .int a2), (3, .int a3), (4, .int a4), (5, .int a5), (6, .int a6)], [.ref 53], ww q5.2, 0, 0))
  refine am_invd rfl rfl rfl rfl (am_calli rfl (M_Mod_badness (D := D) hqq6) (?_ : am_gi (D + 8) 220 o (122, [(7, .int q5.1), (0, .ref 53), (1, .int a1), (2, .int a2), (3, .int a3), (4, .int a4), (5, .int a5), (6, .int a6)], [.int q6.1], ww q6.2, 0, 0)))
  obtain ⟨w7, ew7, H⟩ := am_ltE H
  refine am_go_blk 4 ⟨rfl, rfl, am_hp (ww_f53_5 ew7) (?_ : am_gi (D + 8) 220 o (130, [(8, .int q6.1), (7, .int q5.1), (0, .ref 53), (1, .int a1), (2, .int a2), (3, .int a3), (4, .int a4), (5, .int a5), (6, .int a6)], [], ww w7, 0, 0))⟩
  refine am_go_blk 3 ⟨fun hc => ?_, fun hc => ?_⟩
  · have H := am_it hc H
    exact T_Mod_guard_143 Hr64 a1 a2 a3 a4 a5 a6 q6.1 w7 H
  · have H := am_ie hc H
    show am_gi (D + 8) 220 o (136, [(8, .int q6.1), (7, .int q5.1), (0, .ref 53), (1, .int a1), (2, .int a2), (3, .int a3), (4, .int a4), (5, .int a5), (6, .int a6)], [], ww w7, 0, 0)
    refine am_go_blk 3 ⟨fun hc => ?_, fun hc => ?_⟩
    · have H := am_it hc H
      show am_gi (D + 8) 220 o (147, [(0, .ref 53), (1, .int a1), (2, .int a2), (3, .int a3), (4, .int a4), (5, .int a5), (6, .int a6), (8, .int q6.1)], [], ww w7, 0, 0)
      exact am_go_blk 1 (T_Mod_guard_148 Hr64 a1 a2 a3 a4 a5 a6 q6.1 (nI 0) w7 H)
    · have H := am_ie hc H
      exact T_Mod_guard_143 Hr64 a1 a2 a3 a4 a5 a6 q6.1 w7 H
theorem T_Mod_guard_64 {D : Nat} {o : Int32 × am_W} {r64 : Int32 → Int32 → Int32 → Int32 → Int32 → Int32 → am_W → Option (Int32 × am_W)} (Hr64 : ∀ (a1 : Int32) (a2 : Int32) (a3 : Int32) (a4 : Int32) (a5 : Int32) (a6 : Int32) (w : am_W) , r64 a1 a2 a3 a4 a5 a6 w = some o → am_gi (D + 8) 220 o (64, [(0, .ref 53), (1, .int a1), (2, .int a2), (3, .int a3), (4, .int a4), (5, .int a5), (6, .int a6)], [], ww w, 0, 0)) (a1 : Int32) (a2 : Int32) (a3 : Int32) (a4 : Int32) (a5 : Int32) (a6 : Int32) (w : am_W) (H : F_Mod_guard_64 r64 a1 a2 a3 a4 a5 a6 w = some o) : am_gi (D + 8) 220 o (64, [(0, .ref 53), (1, .int a1), (2, .int a2), (3, .int a3), (4, .int a4), (5, .int a5), (6, .int a6)], [], ww w, 0, 0) := by
  unfold F_Mod_guard_64 at H
  refine am_go_blk 3 ⟨fun hc => ?_, fun hc => ?_⟩
  · have H := am_it hc H
    show am_gi (D + 8) 220 o (184, [(3, .int a3), (4, .int a4), (5, .int a5)], [], ww w, 0, 0)
    refine am_go_blk 2 ⟨fun hc => ?_, fun hc => ?_⟩
    · have H := am_ie hc H
      show am_gi (D + 8) 220 o (193, [(5, .int a5)], [], ww w, 0, 0)
      exact am_go_blk 1 (T_Mod_guard_195 a5 w H)
    · have H := am_it hc H
      show am_gi (D + 8) 220 o (188, [(3, .int a3), (4, .int a4), (5, .int a5)], [], ww w, 0, 0)
      exact am_go_blk 2 (T_Mod_guard_195 a4 w H)
  · have H := am_ie hc H
    show am_gi (D + 8) 220 o (71, [(0, .ref 53), (1, .int a1), (2, .int a2), (3, .int a3), (4, .int a4), (5, .int a5), (6, .int a6)], [], ww w, 0, 0)
    refine am_go_blk 3 ⟨fun hc => ?_, fun hc => ?_⟩
    · have H := am_it hc H
      exact T_Mod_guard_102 Hr64 a1 a2 a3 a4 a5 a6 w H
    · have H := am_ie hc H
      show am_gi (D + 8) 220 o (78, [(0, .ref 53), (1, .int a1), (2, .int a2), (3, .int a3), (4, .int a4), (5, .int a5), (6, .int a6)], [], ww w, 0, 0)
      obtain ⟨q8, hqq8, H⟩ := am_bnE H
      refine am_go_blk 2 (?_ : am_gi (D + 8) 220 o (81, [(0, .ref 53), (1, .int a1), (2, .int a2), (3, .int a3), (4, .int a4), (5, .int a5), (6, .int a6)], [.int a6, .ref 53], ww w, 0, 0))
      refine am_invd rfl rfl rfl rfl (am_calli rfl (M_Mod_isThing (D := D + 6) hqq8) (?_ : am_gi (D + 8) 220 o (84, [(0, .ref 53), (1, .int a1), (2, .int a2), (3, .int a3), (4, .int a4), (5, .int a5), (6, .int a6)], [.int q8.1], ww q8.2, 0, 0)))
      refine am_go_blk 1 ⟨fun hc => ?_, fun hc => ?_⟩
      · have H := am_it hc H
        exact T_Mod_guard_178 Hr64 a1 a2 a3 a4 a5 a6 q8.2 H
      · have H := am_ie hc H
        show am_gi (D + 8) 220 o (87, [(0, .ref 53), (1, .int a1), (2, .int a2), (3, .int a3), (4, .int a4), (5, .int a5), (6, .int a6)], [], ww q8.2, 0, 0)
        refine am_go_blk 3 ⟨fun hc => ?_, fun hc => ?_⟩
        · have H := am_it hc H
          exact T_Mod_guard_178 Hr64 a1 a2 a3 a4 a5 a6 q8.2 H
        · have H := am_ie hc H
          show am_gi (D + 8) 220 o (93, [(0, .ref 53), (1, .int a1), (2, .int a2), (3, .int a3), (4, .int a4), (5, .int a5), (6, .int a6)], [], ww q8.2, 0, 0)
          obtain ⟨q9, hqq9, H⟩ := am_bnE H
          refine am_go_blk 2 (?_ : am_gi (D + 8) 220 o (96, [(0, .ref 53), (1, .int a1), (2, .int a2), (3, .int a3), (4, .int a4), (5, .int a5), (6, .int a6)], [.int a6, .ref 53], ww q8.2, 0, 0))
          refine am_invd rfl rfl rfl rfl (am_calli rfl (M_Mod_isGone (D := D + 7) hqq9) (?_ : am_gi (D + 8) 220 o (99, [(0, .ref 53), (1, .int a1), (2, .int a2), (3, .int a3), (4, .int a4), (5, .int a5), (6, .int a6)], [.int q9.1], ww q9.2, 0, 0)))
          refine am_go_blk 1 ⟨fun hc => ?_, fun hc => ?_⟩
          · have H := am_ie hc H
            exact T_Mod_guard_178 Hr64 a1 a2 a3 a4 a5 a6 q9.2 H
          · have H := am_it hc H
            exact T_Mod_guard_102 Hr64 a1 a2 a3 a4 a5 a6 q9.2 H
theorem TL_Mod_guard_64 {D : Nat} {o : Int32 × am_W} : ∀ (n : Nat) (a1 : Int32) (a2 : Int32) (a3 : Int32) (a4 : Int32) (a5 : Int32) (a6 : Int32) (w : am_W) , L_Mod_guard_64 n a1 a2 a3 a4 a5 a6 w = some o → am_gi (D + 8) 220 o (64, [(0, .ref 53), (1, .int a1), (2, .int a2), (3, .int a3), (4, .int a4), (5, .int a5), (6, .int a6)], [], ww w, 0, 0)
  | 0, _, _, _, _, _, _, _, H => by cases H
  | n + 1, a1, a2, a3, a4, a5, a6, w, H => T_Mod_guard_64 (TL_Mod_guard_64 n) a1 a2 a3 a4 a5 a6 w H
theorem T_Mod_guard {D : Nat} {o : Int32 × am_W} (a1 : Int32) (a2 : Int32) (a3 : Int32) (w : am_W) (H : F_Mod_guard a1 a2 a3 w = some o) : am_gi (D + 8) 220 o (0, [(0, .ref 53), (1, .int a1), (2, .int a2), (3, .int a3)], [], ww w, 0, 0) := by
  unfold F_Mod_guard at H
  obtain ⟨q1, hqq1, H⟩ := am_bnE H
  refine am_go_blk 2 (?_ : am_gi (D + 8) 220 o (2, [(0, .ref 53), (1, .int a1), (2, .int a2), (3, .int a3)], [.int a1, .ref 53], ww w, 0, 0))
  refine am_invd rfl rfl rfl rfl (am_calli rfl (M_Mod_isThing (D := D + 6) hqq1) (?_ : am_gi (D + 8) 220 o (5, [(0, .ref 53), (1, .int a1), (2, .int a2), (3, .int a3)], [.int q1.1], ww q1.2, 0, 0)))
  refine am_go_blk 1 ⟨fun hc => ?_, fun hc => ?_⟩
  · have H := am_ie hc H
    show am_gi (D + 8) 220 o (11, [(0, .ref 53), (1, .int a1), (2, .int a2), (3, .int a3)], [], ww q1.2, 0, 0)
    obtain ⟨q2, hqq2, H⟩ := am_bnE H
    refine am_go_blk 3 (?_ : am_gi (D + 8) 220 o (14, [(0, .ref 53), (1, .int a1), (2, .int a2), (3, .int a3)], [.int (nI 2), .int (nI 0), .int a2], ww q1.2, 0, 0))
    refine am_cls rfl rfl rfl (am_calli rfl (M_Mod_in (D := D + 7) hqq2) (?_ : am_gi (D + 8) 220 o (17, [(0, .ref 53), (1, .int a1), (2, .int a2), (3, .int a3)], [.int q2.1], ww q2.2, 0, 0)))
    refine am_go_blk 1 ⟨fun hc => ?_, fun hc => ?_⟩
    · have H := am_it hc H
      exact T_Mod_guard_29 q2.2 H
    · have H := am_ie hc H
      show am_gi (D + 8) 220 o (20, [(0, .ref 53), (1, .int a1), (2, .int a2), (3, .int a3)], [], ww q2.2, 0, 0)
      obtain ⟨q3, hqq3, H⟩ := am_bnE H
      refine am_go_blk 3 (?_ : am_gi (D + 8) 220 o (23, [(0, .ref 53), (1, .int a1), (2, .int a2), (3, .int a3)], [.int (nI 1), .int (nI 0), .int a3], ww q2.2, 0, 0))
      refine am_cls rfl rfl rfl (am_calli rfl (M_Mod_in (D := D + 7) hqq3) (?_ : am_gi (D + 8) 220 o (26, [(0, .ref 53), (1, .int a1), (2, .int a2), (3, .int a3)], [.int q3.1], ww q3.2, 0, 0)))
      refine am_go_blk 1 ⟨fun hc => ?_, fun hc => ?_⟩
      · have H := am_ie hc H
        show am_gi (D + 8) 220 o (32, [(0, .ref 53), (1, .int a1), (2, .int a2), (3, .int a3)], [], ww q3.2, 0, 0)
        obtain ⟨q4, hqq4, H⟩ := am_bnE H
        refine am_go_blk 2 (?_ : am_gi (D + 8) 220 o (34, [(0, .ref 53), (1, .int a1), (2, .int a2), (3, .int a3)], [.int a1, .ref 53], ww q3.2, 0, 0))
        refine am_invd rfl rfl rfl rfl (am_calli rfl (M_Mod_isGone (D := D + 7) hqq4) (?_ : am_gi (D + 8) 220 o (37, [(0, .ref 53), (1, .int a1), (2, .int a2), (3, .int a3)], [.int q4.1], ww q4.2, 0, 0)))
        refine am_go_blk 1 ⟨fun hc => ?_, fun hc => ?_⟩
        · have H := am_it hc H
          show am_gi (D + 8) 220 o (43, [(0, .ref 53), (1, .int a1), (2, .int a2), (3, .int a3)], [], ww q4.2, 0, 0)
          refine am_go_blk 4 ⟨fun hc => ?_, fun hc => ?_⟩
          · have H := am_ie hc H
            show am_gi (D + 8) 220 o (55, [(0, .ref 53), (1, .int a1), (2, .int a2), (3, .int a3)], [], ww q4.2, 0, 0)
            exact am_go_blk 6 (TL_Mod_guard_64 am_NF a1 a2 a3 (-nI 1) (nI 0) (nI 0) q4.2 H)
          · have H := am_it hc H
            show am_gi (D + 8) 220 o (52, [(0, .ref 53), (1, .int a1), (2, .int a2), (3, .int a3)], [], ww q4.2, 0, 0)
            exact am_go_blk 2 ⟨rfl, am_fi H⟩
        · have H := am_ie hc H
          show am_gi (D + 8) 220 o (40, [(0, .ref 53), (1, .int a1), (2, .int a2), (3, .int a3)], [], ww q4.2, 0, 0)
          exact am_go_blk 2 ⟨rfl, am_fi H⟩
      · have H := am_it hc H
        exact T_Mod_guard_29 q3.2 H
  · have H := am_it hc H
    show am_gi (D + 8) 220 o (8, [(0, .ref 53), (1, .int a1), (2, .int a2), (3, .int a3)], [], ww q1.2, 0, 0)
    exact am_go_blk 2 ⟨rfl, am_fi H⟩
theorem M_Mod_guard {D : Nat} {o : Int32 × am_W} {a1 : Int32} {a2 : Int32} {a3 : Int32} {w : am_W} (H : F_Mod_guard a1 a2 a3 w = some o) : am_run (D + 9) 220 [.ref 53, .int a1, .int a2, .int a3] (ww w) (some (.int o.1)) (ww o.2) 0 0 :=
  am_run_of rfl (T_Mod_guard a1 a2 a3 w H)
def F_Mod_sheetWrong_28 (s0 : Int32) (w : am_W) : Option (Int32 × am_W) :=
  some (s0, w)
def F_Mod_sheetWrong (a1 : Int32) (w : am_W) : Option (Int32 × am_W) :=
  (F_Mod_in a1 (nI 0) (nI 3) w).bind fun q1 => if q1.1 = 0 then (some ((-nI 2), q1.2)) else (am_ck (am_in a1 4) (if (q1.2.1 62 a1.toNatClampNeg) = (-nI 1) then (F_Mod_sheetWrong_28 (-nI 11) q1.2) else (F_Mod_sheetWrong_28 (nI 0) q1.2)))
theorem T_Mod_sheetWrong_28 {D : Nat} {o : Int32 × am_W} (s0 : Int32) (w : am_W) (H : F_Mod_sheetWrong_28 s0 w = some o) : am_gi (D + 1) 221 o (28, [], [.int s0], ww w, 0, 0) := by
  unfold F_Mod_sheetWrong_28 at H
  exact am_go_blk 1 ⟨rfl, am_fi H⟩
theorem T_Mod_sheetWrong {D : Nat} {o : Int32 × am_W} (a1 : Int32) (w : am_W) (H : F_Mod_sheetWrong a1 w = some o) : am_gi (D + 1) 221 o (0, [(0, .ref 53), (1, .int a1)], [], ww w, 0, 0) := by
  unfold F_Mod_sheetWrong at H
  obtain ⟨q1, hqq1, H⟩ := am_bnE H
  refine am_go_blk 3 (?_ : am_gi (D + 1) 221 o (3, [(0, .ref 53), (1, .int a1)], [.int (nI 3), .int (nI 0), .int a1], ww w, 0, 0))
  refine am_cls rfl rfl rfl (am_calli rfl (M_Mod_in (D := D) hqq1) (?_ : am_gi (D + 1) 221 o (6, [(0, .ref 53), (1, .int a1)], [.int q1.1], ww q1.2, 0, 0)))
  refine am_go_blk 1 ⟨fun hc => ?_, fun hc => ?_⟩
  · have H := am_ie hc H
    show am_gi (D + 1) 221 o (12, [(0, .ref 53), (1, .int a1)], [], ww q1.2, 0, 0)
    obtain ⟨hc, H⟩ := am_ckE H
    refine am_go_blk 4 ⟨am_inv hc, (?_ : am_gi (D + 1) 221 o (18, [(0, .ref 53), (1, .int a1)], [.int (q1.2.1 62 a1.toNatClampNeg)], ww q1.2, 0, 0))⟩
    refine am_go_blk 2 ⟨fun hc => ?_, fun hc => ?_⟩
    · have H := am_ie hc H
      show am_gi (D + 1) 221 o (27, [], [], ww q1.2, 0, 0)
      exact am_go_blk 1 (T_Mod_sheetWrong_28 (nI 0) q1.2 H)
    · have H := am_it hc H
      show am_gi (D + 1) 221 o (22, [(0, .ref 53), (1, .int a1)], [], ww q1.2, 0, 0)
      exact am_go_blk 2 (T_Mod_sheetWrong_28 (-nI 11) q1.2 H)
  · have H := am_it hc H
    show am_gi (D + 1) 221 o (9, [(0, .ref 53), (1, .int a1)], [], ww q1.2, 0, 0)
    exact am_go_blk 2 ⟨rfl, am_fi H⟩
theorem M_Mod_sheetWrong {D : Nat} {o : Int32 × am_W} {a1 : Int32} {w : am_W} (H : F_Mod_sheetWrong a1 w = some o) : am_run (D + 2) 221 [.ref 53, .int a1] (ww w) (some (.int o.1)) (ww o.2) 0 0 :=
  am_run_of rfl (T_Mod_sheetWrong a1 w H)
def F_Mod_judged_83 (a2 : Int32) (a3 : Int32) (w : am_W) : Option (Int32 × am_W) :=
  am_lt (wsf w 53 4 a2) fun w1 => some (a3, w1)
def F_Mod_judged_77 (r10 : Int32 → Int32 → Int32 → Int32 → am_W → Option (Int32 × am_W)) (a1 : Int32) (a2 : Int32) (a3 : Int32) (a4 : Int32) (w : am_W) : Option (Int32 × am_W) :=
  r10 a1 a2 a3 (a4 + (nI 1)) w
def F_Mod_judged_74 (r10 : Int32 → Int32 → Int32 → Int32 → am_W → Option (Int32 × am_W)) (a1 : Int32) (a2 : Int32) (a4 : Int32) (w : am_W) : Option (Int32 × am_W) :=
  F_Mod_judged_77 r10 a1 a2 a4 a4 w
def F_Mod_judged_10 (r10 : Int32 → Int32 → Int32 → Int32 → am_W → Option (Int32 × am_W)) (a1 : Int32) (a2 : Int32) (a3 : Int32) (a4 : Int32) (w : am_W) : Option (Int32 × am_W) :=
  am_ck (am_in a1 4) (if (w.1 63 a1.toNatClampNeg) ≤ a4 then (F_Mod_judged_83 a2 a3 w) else (if a3 = (-nI 1) then (am_ck (am_in (((nI 40) * a1) + a4) 160) ((F_Mod_isThing (w.1 64 (((nI 40) * a1) + a4).toNatClampNeg) w).bind fun q2 => if q2.1 = 0 then (F_Mod_judged_74 r10 a1 a2 a4 q2.2) else ((F_Mod_canGo (w.1 64 (((nI 40) * a1) + a4).toNatClampNeg) q2.2).bind fun q3 => if q3.1 = 0 then (F_Mod_judged_74 r10 a1 a2 a4 q3.2) else (am_lt (wsf q3.2 53 4 ((q3.2.1 53 4) ||| ((nI 1) <<< ((w.1 64 (((nI 40) * a1) + a4).toNatClampNeg) &&& 31)))) fun w4 => F_Mod_judged_77 r10 a1 a2 a3 a4 w4)))) else (F_Mod_judged_83 a2 a3 w)))
def L_Mod_judged_10 : Nat → Int32 → Int32 → Int32 → Int32 → am_W → Option (Int32 × am_W)
  | 0, _, _, _, _, _ => none
  | n + 1, a1, a2, a3, a4, w => F_Mod_judged_10 (L_Mod_judged_10 n) a1 a2 a3 a4 w
def F_Mod_judged (a1 : Int32) (w : am_W) : Option (Int32 × am_W) :=
  L_Mod_judged_10 am_NF a1 (w.1 53 4) (-nI 1) (nI 0) w
theorem T_Mod_judged_83 {D : Nat} {o : Int32 × am_W} (a2 : Int32) (a3 : Int32) (w : am_W) (H : F_Mod_judged_83 a2 a3 w = some o) : am_gi (D + 5) 222 o (83, [(0, .ref 53), (2, .int a2), (3, .int a3)], [], ww w, 0, 0) := by
  unfold F_Mod_judged_83 at H
  obtain ⟨w1, ew1, H⟩ := am_ltE H
  refine am_go_blk 3 ⟨rfl, rfl, am_hp (ww_f53_4 ew1) (?_ : am_gi (D + 5) 222 o (88, [(0, .ref 53), (2, .int a2), (3, .int a3)], [], ww w1, 0, 0))⟩
  exact am_go_blk 2 ⟨rfl, am_fi H⟩
theorem T_Mod_judged_77 {D : Nat} {o : Int32 × am_W} {r10 : Int32 → Int32 → Int32 → Int32 → am_W → Option (Int32 × am_W)} (Hr10 : ∀ (a1 : Int32) (a2 : Int32) (a3 : Int32) (a4 : Int32) (w : am_W) , r10 a1 a2 a3 a4 w = some o → am_gi (D + 5) 222 o (10, [(0, .ref 53), (1, .int a1), (2, .int a2), (3, .int a3), (4, .int a4)], [], ww w, 0, 0)) (a1 : Int32) (a2 : Int32) (a3 : Int32) (a4 : Int32) (w : am_W) (H : F_Mod_judged_77 r10 a1 a2 a3 a4 w = some o) : am_gi (D + 5) 222 o (77, [(0, .ref 53), (1, .int a1), (2, .int a2), (3, .int a3), (4, .int a4)], [], ww w, 0, 0) := by
  unfold F_Mod_judged_77 at H
  exact am_go_blk 2 (Hr10 a1 a2 a3 (a4 + (nI 1)) w H)
theorem T_Mod_judged_74 {D : Nat} {o : Int32 × am_W} {r10 : Int32 → Int32 → Int32 → Int32 → am_W → Option (Int32 × am_W)} (Hr10 : ∀ (a1 : Int32) (a2 : Int32) (a3 : Int32) (a4 : Int32) (w : am_W) , r10 a1 a2 a3 a4 w = some o → am_gi (D + 5) 222 o (10, [(0, .ref 53), (1, .int a1), (2, .int a2), (3, .int a3), (4, .int a4)], [], ww w, 0, 0)) (a1 : Int32) (a2 : Int32) (a4 : Int32) (w : am_W) (H : F_Mod_judged_74 r10 a1 a2 a4 w = some o) : am_gi (D + 5) 222 o (74, [(0, .ref 53), (1, .int a1), (2, .int a2), (4, .int a4)], [], ww w, 0, 0) := by
  unfold F_Mod_judged_74 at H
  exact am_go_blk 2 (T_Mod_judged_77 Hr10 a1 a2 a4 a4 w H)
theorem T_Mod_judged_10 {D : Nat} {o : Int32 × am_W} {r10 : Int32 → Int32 → Int32 → Int32 → am_W → Option (Int32 × am_W)} (Hr10 : ∀ (a1 : Int32) (a2 : Int32) (a3 : Int32) (a4 : Int32) (w : am_W) , r10 a1 a2 a3 a4 w = some o → am_gi (D + 5) 222 o (10, [(0, .ref 53), (1, .int a1), (2, .int a2), (3, .int a3), (4, .int a4)], [], ww w, 0, 0)) (a1 : Int32) (a2 : Int32) (a3 : Int32) (a4 : Int32) (w : am_W) (H : F_Mod_judged_10 r10 a1 a2 a3 a4 w = some o) : am_gi (D + 5) 222 o (10, [(0, .ref 53), (1, .int a1), (2, .int a2), (3, .int a3), (4, .int a4)], [], ww w, 0, 0) := by
  unfold F_Mod_judged_10 at H
  obtain ⟨hc, H⟩ := am_ckE H
  refine am_go_blk 5 ⟨am_inv hc, (?_ : am_gi (D + 5) 222 o (18, [(0, .ref 53), (1, .int a1), (2, .int a2), (3, .int a3), (4, .int a4)], [.int (w.1 63 a1.toNatClampNeg), .int a4], ww w, 0, 0))⟩
  refine am_go_blk 1 ⟨fun hc => ?_, fun hc => ?_⟩
  · have H := am_it hc H
    exact T_Mod_judged_83 a2 a3 w H
  · have H := am_ie hc H
    show am_gi (D + 5) 222 o (21, [(0, .ref 53), (1, .int a1), (2, .int a2), (3, .int a3), (4, .int a4)], [], ww w, 0, 0)
    refine am_go_blk 3 ⟨fun hc => ?_, fun hc => ?_⟩
    · have H := am_ie hc H
      exact T_Mod_judged_83 a2 a3 w H
    · have H := am_it hc H
      show am_gi (D + 5) 222 o (26, [(0, .ref 53), (1, .int a1), (2, .int a2), (3, .int a3), (4, .int a4)], [], ww w, 0, 0)
      obtain ⟨hc, H⟩ := am_ckE H
      refine am_go_blk 8 ⟨am_inv hc, (?_ : am_gi (D + 5) 222 o (38, [(0, .ref 53), (1, .int a1), (2, .int a2), (3, .int a3), (4, .int a4)], [.int (w.1 64 (((nI 40) * a1) + a4).toNatClampNeg)], ww w, 0, 0))⟩
      obtain ⟨q2, hqq2, H⟩ := am_bnE H
      refine am_go_blk 3 (?_ : am_gi (D + 5) 222 o (43, [(5, .int (w.1 64 (((nI 40) * a1) + a4).toNatClampNeg)), (0, .ref 53), (1, .int a1), (2, .int a2), (3, .int a3), (4, .int a4)], [.int (w.1 64 (((nI 40) * a1) + a4).toNatClampNeg), .ref 53], ww w, 0, 0))
      refine am_invd rfl rfl rfl rfl (am_calli rfl (M_Mod_isThing (D := D + 3) hqq2) (?_ : am_gi (D + 5) 222 o (46, [(5, .int (w.1 64 (((nI 40) * a1) + a4).toNatClampNeg)), (0, .ref 53), (1, .int a1), (2, .int a2), (3, .int a3), (4, .int a4)], [.int q2.1], ww q2.2, 0, 0)))
      refine am_go_blk 1 ⟨fun hc => ?_, fun hc => ?_⟩
      · have H := am_it hc H
        exact T_Mod_judged_74 Hr10 a1 a2 a4 q2.2 H
      · have H := am_ie hc H
        show am_gi (D + 5) 222 o (49, [(5, .int (w.1 64 (((nI 40) * a1) + a4).toNatClampNeg)), (0, .ref 53), (1, .int a1), (2, .int a2), (3, .int a3), (4, .int a4)], [], ww q2.2, 0, 0)
        obtain ⟨q3, hqq3, H⟩ := am_bnE H
        refine am_go_blk 2 (?_ : am_gi (D + 5) 222 o (52, [(5, .int (w.1 64 (((nI 40) * a1) + a4).toNatClampNeg)), (0, .ref 53), (1, .int a1), (2, .int a2), (3, .int a3), (4, .int a4)], [.int (w.1 64 (((nI 40) * a1) + a4).toNatClampNeg), .ref 53], ww q2.2, 0, 0))
        refine am_invd rfl rfl rfl rfl (am_calli rfl (M_Mod_canGo (D := D) hqq3) (?_ : am_gi (D + 5) 222 o (55, [(5, .int (w.1 64 (((nI 40) * a1) + a4).toNatClampNeg)), (0, .ref 53), (1, .int a1), (2, .int a2), (3, .int a3), (4, .int a4)], [.int q3.1], ww q3.2, 0, 0)))
        refine am_go_blk 1 ⟨fun hc => ?_, fun hc => ?_⟩
        · have H := am_it hc H
          exact T_Mod_judged_74 Hr10 a1 a2 a4 q3.2 H
        · have H := am_ie hc H
          show am_gi (D + 5) 222 o (58, [(5, .int (w.1 64 (((nI 40) * a1) + a4).toNatClampNeg)), (0, .ref 53), (1, .int a1), (2, .int a2), (3, .int a3), (4, .int a4)], [], ww q3.2, 0, 0)
          obtain ⟨w4, ew4, H⟩ := am_ltE H
          refine am_go_blk 8 ⟨rfl, rfl, am_hp (ww_f53_4 ew4) (?_ : am_gi (D + 5) 222 o (71, [(5, .int (w.1 64 (((nI 40) * a1) + a4).toNatClampNeg)), (0, .ref 53), (1, .int a1), (2, .int a2), (3, .int a3), (4, .int a4)], [], ww w4, 0, 0))⟩
          exact am_go_blk 1 (T_Mod_judged_77 Hr10 a1 a2 a3 a4 w4 H)
theorem TL_Mod_judged_10 {D : Nat} {o : Int32 × am_W} : ∀ (n : Nat) (a1 : Int32) (a2 : Int32) (a3 : Int32) (a4 : Int32) (w : am_W) , L_Mod_judged_10 n a1 a2 a3 a4 w = some o → am_gi (D + 5) 222 o (10, [(0, .ref 53), (1, .int a1), (2, .int a2), (3, .int a3), (4, .int a4)], [], ww w, 0, 0)
  | 0, _, _, _, _, _, H => by cases H
  | n + 1, a1, a2, a3, a4, w, H => T_Mod_judged_10 (TL_Mod_judged_10 n) a1 a2 a3 a4 w H
theorem T_Mod_judged {D : Nat} {o : Int32 × am_W} (a1 : Int32) (w : am_W) (H : F_Mod_judged a1 w = some o) : am_gi (D + 5) 222 o (0, [(0, .ref 53), (1, .int a1)], [], ww w, 0, 0) := by
  unfold F_Mod_judged at H
  exact am_go_blk 7 (TL_Mod_judged_10 am_NF a1 (w.1 53 4) (-nI 1) (nI 0) w H)
theorem M_Mod_judged {D : Nat} {o : Int32 × am_W} {a1 : Int32} {w : am_W} (H : F_Mod_judged a1 w = some o) : am_run (D + 6) 222 [.ref 53, .int a1] (ww w) (some (.int o.1)) (ww o.2) 0 0 :=
  am_run_of rfl (T_Mod_judged a1 w H)
def F_Mod_judge_19 (s0 : Int32) (w : am_W) : Option (Int32 × am_W) :=
  some (s0, w)
def F_Mod_judge (a1 : Int32) (w : am_W) : Option (Int32 × am_W) :=
  (F_Mod_sheetWrong a1 w).bind fun q1 => if q1.1 = 0 then ((F_Mod_judged a1 q1.2).bind fun q2 => F_Mod_judge_19 q2.1 q2.2) else (F_Mod_judge_19 q1.1 q1.2)
theorem T_Mod_judge_19 {D : Nat} {o : Int32 × am_W} (s0 : Int32) (w : am_W) (H : F_Mod_judge_19 s0 w = some o) : am_gi (D + 6) 223 o (19, [], [.int s0], ww w, 0, 0) := by
  unfold F_Mod_judge_19 at H
  exact am_go_blk 1 ⟨rfl, am_fi H⟩
theorem T_Mod_judge {D : Nat} {o : Int32 × am_W} (a1 : Int32) (w : am_W) (H : F_Mod_judge a1 w = some o) : am_gi (D + 6) 223 o (0, [(0, .ref 53), (1, .int a1)], [], ww w, 0, 0) := by
  unfold F_Mod_judge at H
  obtain ⟨q1, hqq1, H⟩ := am_bnE H
  refine am_go_blk 2 (?_ : am_gi (D + 6) 223 o (2, [(0, .ref 53), (1, .int a1)], [.int a1, .ref 53], ww w, 0, 0))
  refine am_invd rfl rfl rfl rfl (am_calli rfl (M_Mod_sheetWrong (D := D + 4) hqq1) (?_ : am_gi (D + 6) 223 o (5, [(0, .ref 53), (1, .int a1)], [.int q1.1], ww q1.2, 0, 0)))
  refine am_go_blk 3 ⟨fun hc => ?_, fun hc => ?_⟩
  · have H := am_ie hc H
    show am_gi (D + 6) 223 o (18, [(2, .int q1.1)], [], ww q1.2, 0, 0)
    exact am_go_blk 1 (T_Mod_judge_19 q1.1 q1.2 H)
  · have H := am_it hc H
    show am_gi (D + 6) 223 o (10, [(2, .int q1.1), (0, .ref 53), (1, .int a1)], [], ww q1.2, 0, 0)
    obtain ⟨q2, hqq2, H⟩ := am_bnE H
    refine am_go_blk 2 (?_ : am_gi (D + 6) 223 o (12, [(2, .int q1.1), (0, .ref 53), (1, .int a1)], [.int a1, .ref 53], ww q1.2, 0, 0))
    refine am_invd rfl rfl rfl rfl (am_calli rfl (M_Mod_judged (D := D) hqq2) (?_ : am_gi (D + 6) 223 o (15, [(2, .int q1.1), (0, .ref 53), (1, .int a1)], [.int q2.1], ww q2.2, 0, 0)))
    exact am_go_blk 1 (T_Mod_judge_19 q2.1 q2.2 H)
theorem M_Mod_judge {D : Nat} {o : Int32 × am_W} {a1 : Int32} {w : am_W} (H : F_Mod_judge a1 w = some o) : am_run (D + 7) 223 [.ref 53, .int a1] (ww w) (some (.int o.1)) (ww o.2) 0 0 :=
  am_run_of rfl (T_Mod_judge a1 w H)
def F_Mod_whose_104 (r56 : Int32 → Int32 → Int32 → Int32 → Int32 → Int32 → am_W → Option (Int32 × am_W)) (a1 : Int32) (a2 : Int32) (a3 : Int32) (a5 : Int32) (a7 : Int32) (s0 : Int32) (s1 : Int32) (w : am_W) : Option (Int32 × am_W) :=
  r56 a1 a2 a3 a5 (s1 ||| s0) (a7 + (nI 1)) w
def F_Mod_whose_70 (r56 : Int32 → Int32 → Int32 → Int32 → Int32 → Int32 → am_W → Option (Int32 × am_W)) (a1 : Int32) (a2 : Int32) (a3 : Int32) (a5 : Int32) (a6 : Int32) (a7 : Int32) (s0 : Int32) (s1 : Int32) (w : am_W) : Option (Int32 × am_W) :=
  if s0 ≤ s1 then (am_ck (am_in (((nI 3) * a2) + a3) 30) (am_lt (wst w 57 (((nI 3) * a2) + a3) a5) fun w4 => some (a6, w4))) else (am_ck (am_in (((nI 3) * a2) + a3) 30) (am_lt (wst w 57 (((nI 3) * a2) + a3) a7) fun w5 => (F_Mod_judged a1 w5).bind fun q6 => if q6.1 = (-nI 1) then (F_Mod_whose_104 r56 a1 a2 a3 a5 a7 ((nI 1) <<< (a7 &&& 31)) a6 q6.2) else (F_Mod_whose_104 r56 a1 a2 a3 a5 a7 (nI 0) a6 q6.2)))
def F_Mod_whose_56 (r56 : Int32 → Int32 → Int32 → Int32 → Int32 → Int32 → am_W → Option (Int32 × am_W)) (a1 : Int32) (a2 : Int32) (a3 : Int32) (a5 : Int32) (a6 : Int32) (a7 : Int32) (w : am_W) : Option (Int32 × am_W) :=
  if a3 = 0 then (F_Mod_whose_70 r56 a1 a2 a3 a5 a6 a7 (w.1 53 0) a7 w) else (F_Mod_whose_70 r56 a1 a2 a3 a5 a6 a7 (nI 3) a7 w)
def L_Mod_whose_56 : Nat → Int32 → Int32 → Int32 → Int32 → Int32 → Int32 → am_W → Option (Int32 × am_W)
  | 0, _, _, _, _, _, _, _ => none
  | n + 1, a1, a2, a3, a5, a6, a7, w => F_Mod_whose_56 (L_Mod_whose_56 n) a1 a2 a3 a5 a6 a7 w
def F_Mod_whose (a1 : Int32) (a2 : Int32) (a3 : Int32) (w : am_W) : Option (Int32 × am_W) :=
  (F_Mod_sheetWrong a1 w).bind fun q1 => if q1.1 = 0 then ((F_Mod_isLock a2 q1.2).bind fun q2 => if q2.1 = 0 then (some ((-nI 5), q2.2)) else ((F_Mod_in a3 (nI 0) (nI 1) q2.2).bind fun q3 => if q3.1 = 0 then (some ((-nI 7), q3.2)) else (am_ck (am_in (((nI 3) * a2) + a3) 30) (L_Mod_whose_56 am_NF a1 a2 a3 (q3.2.1 57 (((nI 3) * a2) + a3).toNatClampNeg) (nI 0) (nI 0) q3.2)))) else (some (q1.1, q1.2))
theorem T_Mod_whose_104 {D : Nat} {o : Int32 × am_W} {r56 : Int32 → Int32 → Int32 → Int32 → Int32 → Int32 → am_W → Option (Int32 × am_W)} (Hr56 : ∀ (a1 : Int32) (a2 : Int32) (a3 : Int32) (a5 : Int32) (a6 : Int32) (a7 : Int32) (w : am_W) , r56 a1 a2 a3 a5 a6 a7 w = some o → am_gi (D + 6) 224 o (56, [(0, .ref 53), (1, .int a1), (2, .int a2), (3, .int a3), (5, .int a5), (6, .int a6), (7, .int a7)], [], ww w, 0, 0)) (a1 : Int32) (a2 : Int32) (a3 : Int32) (a5 : Int32) (a7 : Int32) (s0 : Int32) (s1 : Int32) (w : am_W) (H : F_Mod_whose_104 r56 a1 a2 a3 a5 a7 s0 s1 w = some o) : am_gi (D + 6) 224 o (104, [(0, .ref 53), (1, .int a1), (2, .int a2), (3, .int a3), (5, .int a5), (7, .int a7)], [.int s0, .int s1], ww w, 0, 0) := by
  unfold F_Mod_whose_104 at H
  exact am_go_blk 4 (Hr56 a1 a2 a3 a5 (s1 ||| s0) (a7 + (nI 1)) w H)
theorem T_Mod_whose_70 {D : Nat} {o : Int32 × am_W} {r56 : Int32 → Int32 → Int32 → Int32 → Int32 → Int32 → am_W → Option (Int32 × am_W)} (Hr56 : ∀ (a1 : Int32) (a2 : Int32) (a3 : Int32) (a5 : Int32) (a6 : Int32) (a7 : Int32) (w : am_W) , r56 a1 a2 a3 a5 a6 a7 w = some o → am_gi (D + 6) 224 o (56, [(0, .ref 53), (1, .int a1), (2, .int a2), (3, .int a3), (5, .int a5), (6, .int a6), (7, .int a7)], [], ww w, 0, 0)) (a1 : Int32) (a2 : Int32) (a3 : Int32) (a5 : Int32) (a6 : Int32) (a7 : Int32) (s0 : Int32) (s1 : Int32) (w : am_W) (H : F_Mod_whose_70 r56 a1 a2 a3 a5 a6 a7 s0 s1 w = some o) : am_gi (D + 6) 224 o (70, [(0, .ref 53), (1, .int a1), (2, .int a2), (3, .int a3), (5, .int a5), (6, .int a6), (7, .int a7)], [.int s0, .int s1], ww w, 0, 0) := by
  unfold F_Mod_whose_70 at H
  refine am_go_blk 1 ⟨fun hc => ?_, fun hc => ?_⟩
  · have H := am_it hc H
    show am_gi (D + 6) 224 o (113, [(0, .ref 53), (2, .int a2), (3, .int a3), (5, .int a5), (6, .int a6)], [], ww w, 0, 0)
    obtain ⟨hc, H⟩ := am_ckE H
    obtain ⟨w4, ew4, H⟩ := am_ltE H
    refine am_go_blk 9 ⟨am_inv hc, am_hp (ww_s57 ew4) (?_ : am_gi (D + 6) 224 o (125, [(0, .ref 53), (2, .int a2), (3, .int a3), (5, .int a5), (6, .int a6)], [], ww w4, 0, 0))⟩
    exact am_go_blk 2 ⟨rfl, am_fi H⟩
  · have H := am_ie hc H
    show am_gi (D + 6) 224 o (73, [(0, .ref 53), (1, .int a1), (2, .int a2), (3, .int a3), (5, .int a5), (6, .int a6), (7, .int a7)], [], ww w, 0, 0)
    obtain ⟨hc, H⟩ := am_ckE H
    obtain ⟨w5, ew5, H⟩ := am_ltE H
    refine am_go_blk 9 ⟨am_inv hc, am_hp (ww_s57 ew5) (?_ : am_gi (D + 6) 224 o (85, [(0, .ref 53), (1, .int a1), (2, .int a2), (3, .int a3), (5, .int a5), (6, .int a6), (7, .int a7)], [], ww w5, 0, 0))⟩
    obtain ⟨q6, hqq6, H⟩ := am_bnE H
    refine am_go_blk 3 (?_ : am_gi (D + 6) 224 o (89, [(0, .ref 53), (1, .int a1), (2, .int a2), (3, .int a3), (5, .int a5), (6, .int a6), (7, .int a7)], [.int a1, .ref 53, .int a6], ww w5, 0, 0))
    refine am_invd rfl rfl rfl rfl (am_calli rfl (M_Mod_judged (D := D) hqq6) (?_ : am_gi (D + 6) 224 o (92, [(0, .ref 53), (1, .int a1), (2, .int a2), (3, .int a3), (5, .int a5), (6, .int a6), (7, .int a7)], [.int q6.1, .int a6], ww q6.2, 0, 0)))
    refine am_go_blk 2 ⟨fun hc => ?_, fun hc => ?_⟩
    · have H := am_ie hc H
      show am_gi (D + 6) 224 o (103, [(0, .ref 53), (1, .int a1), (2, .int a2), (3, .int a3), (5, .int a5), (7, .int a7)], [.int a6], ww q6.2, 0, 0)
      exact am_go_blk 1 (T_Mod_whose_104 Hr56 a1 a2 a3 a5 a7 (nI 0) a6 q6.2 H)
    · have H := am_it hc H
      show am_gi (D + 6) 224 o (96, [(0, .ref 53), (1, .int a1), (2, .int a2), (3, .int a3), (5, .int a5), (6, .int a6), (7, .int a7)], [.int a6], ww q6.2, 0, 0)
      exact am_go_blk 4 (T_Mod_whose_104 Hr56 a1 a2 a3 a5 a7 ((nI 1) <<< (a7 &&& 31)) a6 q6.2 H)
theorem T_Mod_whose_56 {D : Nat} {o : Int32 × am_W} {r56 : Int32 → Int32 → Int32 → Int32 → Int32 → Int32 → am_W → Option (Int32 × am_W)} (Hr56 : ∀ (a1 : Int32) (a2 : Int32) (a3 : Int32) (a5 : Int32) (a6 : Int32) (a7 : Int32) (w : am_W) , r56 a1 a2 a3 a5 a6 a7 w = some o → am_gi (D + 6) 224 o (56, [(0, .ref 53), (1, .int a1), (2, .int a2), (3, .int a3), (5, .int a5), (6, .int a6), (7, .int a7)], [], ww w, 0, 0)) (a1 : Int32) (a2 : Int32) (a3 : Int32) (a5 : Int32) (a6 : Int32) (a7 : Int32) (w : am_W) (H : F_Mod_whose_56 r56 a1 a2 a3 a5 a6 a7 w = some o) : am_gi (D + 6) 224 o (56, [(0, .ref 53), (1, .int a1), (2, .int a2), (3, .int a3), (5, .int a5), (6, .int a6), (7, .int a7)], [], ww w, 0, 0) := by
  unfold F_Mod_whose_56 at H
  refine am_go_blk 3 ⟨fun hc => ?_, fun hc => ?_⟩
  · have H := am_ie hc H
    show am_gi (D + 6) 224 o (69, [(0, .ref 53), (1, .int a1), (2, .int a2), (3, .int a3), (5, .int a5), (6, .int a6), (7, .int a7)], [.int a7], ww w, 0, 0)
    exact am_go_blk 1 (T_Mod_whose_70 Hr56 a1 a2 a3 a5 a6 a7 (nI 3) a7 w H)
  · have H := am_it hc H
    show am_gi (D + 6) 224 o (62, [(0, .ref 53), (1, .int a1), (2, .int a2), (3, .int a3), (5, .int a5), (6, .int a6), (7, .int a7)], [.int a7], ww w, 0, 0)
    exact am_go_blk 3 (T_Mod_whose_70 Hr56 a1 a2 a3 a5 a6 a7 (w.1 53 0) a7 w H)
theorem TL_Mod_whose_56 {D : Nat} {o : Int32 × am_W} : ∀ (n : Nat) (a1 : Int32) (a2 : Int32) (a3 : Int32) (a5 : Int32) (a6 : Int32) (a7 : Int32) (w : am_W) , L_Mod_whose_56 n a1 a2 a3 a5 a6 a7 w = some o → am_gi (D + 6) 224 o (56, [(0, .ref 53), (1, .int a1), (2, .int a2), (3, .int a3), (5, .int a5), (6, .int a6), (7, .int a7)], [], ww w, 0, 0)
  | 0, _, _, _, _, _, _, _, H => by cases H
  | n + 1, a1, a2, a3, a5, a6, a7, w, H => T_Mod_whose_56 (TL_Mod_whose_56 n) a1 a2 a3 a5 a6 a7 w H
theorem T_Mod_whose {D : Nat} {o : Int32 × am_W} (a1 : Int32) (a2 : Int32) (a3 : Int32) (w : am_W) (H : F_Mod_whose a1 a2 a3 w = some o) : am_gi (D + 6) 224 o (0, [(0, .ref 53), (1, .int a1), (2, .int a2), (3, .int a3)], [], ww w, 0, 0) := by
  unfold F_Mod_whose at H
  obtain ⟨q1, hqq1, H⟩ := am_bnE H
  refine am_go_blk 2 (?_ : am_gi (D + 6) 224 o (2, [(0, .ref 53), (1, .int a1), (2, .int a2), (3, .int a3)], [.int a1, .ref 53], ww w, 0, 0))
  refine am_invd rfl rfl rfl rfl (am_calli rfl (M_Mod_sheetWrong (D := D + 4) hqq1) (?_ : am_gi (D + 6) 224 o (5, [(0, .ref 53), (1, .int a1), (2, .int a2), (3, .int a3)], [.int q1.1], ww q1.2, 0, 0)))
  refine am_go_blk 3 ⟨fun hc => ?_, fun hc => ?_⟩
  · have H := am_it hc H
    show am_gi (D + 6) 224 o (15, [(0, .ref 53), (1, .int a1), (2, .int a2), (3, .int a3)], [], ww q1.2, 0, 0)
    obtain ⟨q2, hqq2, H⟩ := am_bnE H
    refine am_go_blk 2 (?_ : am_gi (D + 6) 224 o (17, [(0, .ref 53), (1, .int a1), (2, .int a2), (3, .int a3)], [.int a2, .ref 53], ww q1.2, 0, 0))
    refine am_invd rfl rfl rfl rfl (am_calli rfl (M_Mod_isLock (D := D + 4) hqq2) (?_ : am_gi (D + 6) 224 o (20, [(0, .ref 53), (1, .int a1), (2, .int a2), (3, .int a3)], [.int q2.1], ww q2.2, 0, 0)))
    refine am_go_blk 1 ⟨fun hc => ?_, fun hc => ?_⟩
    · have H := am_ie hc H
      show am_gi (D + 6) 224 o (26, [(0, .ref 53), (1, .int a1), (2, .int a2), (3, .int a3)], [], ww q2.2, 0, 0)
      obtain ⟨q3, hqq3, H⟩ := am_bnE H
      refine am_go_blk 3 (?_ : am_gi (D + 6) 224 o (29, [(0, .ref 53), (1, .int a1), (2, .int a2), (3, .int a3)], [.int (nI 1), .int (nI 0), .int a3], ww q2.2, 0, 0))
      refine am_cls rfl rfl rfl (am_calli rfl (M_Mod_in (D := D + 5) hqq3) (?_ : am_gi (D + 6) 224 o (32, [(0, .ref 53), (1, .int a1), (2, .int a2), (3, .int a3)], [.int q3.1], ww q3.2, 0, 0)))
      refine am_go_blk 1 ⟨fun hc => ?_, fun hc => ?_⟩
      · have H := am_ie hc H
        show am_gi (D + 6) 224 o (38, [(0, .ref 53), (1, .int a1), (2, .int a2), (3, .int a3)], [], ww q3.2, 0, 0)
        obtain ⟨hc, H⟩ := am_ckE H
        refine am_go_blk 8 ⟨am_inv hc, (?_ : am_gi (D + 6) 224 o (48, [(0, .ref 53), (1, .int a1), (2, .int a2), (3, .int a3)], [.int (q3.2.1 57 (((nI 3) * a2) + a3).toNatClampNeg)], ww q3.2, 0, 0))⟩
        exact am_go_blk 5 (TL_Mod_whose_56 am_NF a1 a2 a3 (q3.2.1 57 (((nI 3) * a2) + a3).toNatClampNeg) (nI 0) (nI 0) q3.2 H)
      · have H := am_it hc H
        show am_gi (D + 6) 224 o (35, [(0, .ref 53), (1, .int a1), (2, .int a2), (3, .int a3)], [], ww q3.2, 0, 0)
        exact am_go_blk 2 ⟨rfl, am_fi H⟩
    · have H := am_it hc H
      show am_gi (D + 6) 224 o (23, [(0, .ref 53), (1, .int a1), (2, .int a2), (3, .int a3)], [], ww q2.2, 0, 0)
      exact am_go_blk 2 ⟨rfl, am_fi H⟩
  · have H := am_ie hc H
    show am_gi (D + 6) 224 o (12, [(4, .int q1.1), (0, .ref 53), (1, .int a1), (2, .int a2), (3, .int a3)], [], ww q1.2, 0, 0)
    exact am_go_blk 2 ⟨rfl, am_fi H⟩
theorem M_Mod_whose {D : Nat} {o : Int32 × am_W} {a1 : Int32} {a2 : Int32} {a3 : Int32} {w : am_W} (H : F_Mod_whose a1 a2 a3 w = some o) : am_run (D + 7) 224 [.ref 53, .int a1, .int a2, .int a3] (ww w) (some (.int o.1)) (ww o.2) 0 0 :=
  am_run_of rfl (T_Mod_whose a1 a2 a3 w H)
def F_Mod_kinds_71 (r37 : Int32 → Int32 → Int32 → Int32 → Int32 → am_W → Option (Int32 × am_W)) (a1 : Int32) (a2 : Int32) (a4 : Int32) (a6 : Int32) (s0 : Int32) (s1 : Int32) (w : am_W) : Option (Int32 × am_W) :=
  r37 a1 a2 a4 (s1 ||| s0) (a6 + (nI 1)) w
def F_Mod_kinds_37 (r37 : Int32 → Int32 → Int32 → Int32 → Int32 → am_W → Option (Int32 × am_W)) (a1 : Int32) (a2 : Int32) (a4 : Int32) (a5 : Int32) (a6 : Int32) (w : am_W) : Option (Int32 × am_W) :=
  if (nI 6) ≤ a6 then (am_ck (am_in a2 8) (am_lt (wst w 54 a2 a4) fun w3 => some (a5, w3))) else (am_ck (am_in a2 8) (am_lt (wst w 54 a2 a6) fun w4 => (F_Mod_judged a1 w4).bind fun q5 => if q5.1 = (-nI 1) then (F_Mod_kinds_71 r37 a1 a2 a4 a6 ((nI 1) <<< (a6 &&& 31)) a5 q5.2) else (F_Mod_kinds_71 r37 a1 a2 a4 a6 (nI 0) a5 q5.2)))
def L_Mod_kinds_37 : Nat → Int32 → Int32 → Int32 → Int32 → Int32 → am_W → Option (Int32 × am_W)
  | 0, _, _, _, _, _, _ => none
  | n + 1, a1, a2, a4, a5, a6, w => F_Mod_kinds_37 (L_Mod_kinds_37 n) a1 a2 a4 a5 a6 w
def F_Mod_kinds (a1 : Int32) (a2 : Int32) (w : am_W) : Option (Int32 × am_W) :=
  (F_Mod_sheetWrong a1 w).bind fun q1 => if q1.1 = 0 then ((F_Mod_isThing a2 q1.2).bind fun q2 => if q2.1 = 0 then (some ((-nI 5), q2.2)) else (am_ck (am_in a2 8) (L_Mod_kinds_37 am_NF a1 a2 (q2.2.1 54 a2.toNatClampNeg) (nI 0) (nI 0) q2.2))) else (some (q1.1, q1.2))
theorem T_Mod_kinds_71 {D : Nat} {o : Int32 × am_W} {r37 : Int32 → Int32 → Int32 → Int32 → Int32 → am_W → Option (Int32 × am_W)} (Hr37 : ∀ (a1 : Int32) (a2 : Int32) (a4 : Int32) (a5 : Int32) (a6 : Int32) (w : am_W) , r37 a1 a2 a4 a5 a6 w = some o → am_gi (D + 6) 225 o (37, [(0, .ref 53), (1, .int a1), (2, .int a2), (4, .int a4), (5, .int a5), (6, .int a6)], [], ww w, 0, 0)) (a1 : Int32) (a2 : Int32) (a4 : Int32) (a6 : Int32) (s0 : Int32) (s1 : Int32) (w : am_W) (H : F_Mod_kinds_71 r37 a1 a2 a4 a6 s0 s1 w = some o) : am_gi (D + 6) 225 o (71, [(0, .ref 53), (1, .int a1), (2, .int a2), (4, .int a4), (6, .int a6)], [.int s0, .int s1], ww w, 0, 0) := by
  unfold F_Mod_kinds_71 at H
  exact am_go_blk 4 (Hr37 a1 a2 a4 (s1 ||| s0) (a6 + (nI 1)) w H)
theorem T_Mod_kinds_37 {D : Nat} {o : Int32 × am_W} {r37 : Int32 → Int32 → Int32 → Int32 → Int32 → am_W → Option (Int32 × am_W)} (Hr37 : ∀ (a1 : Int32) (a2 : Int32) (a4 : Int32) (a5 : Int32) (a6 : Int32) (w : am_W) , r37 a1 a2 a4 a5 a6 w = some o → am_gi (D + 6) 225 o (37, [(0, .ref 53), (1, .int a1), (2, .int a2), (4, .int a4), (5, .int a5), (6, .int a6)], [], ww w, 0, 0)) (a1 : Int32) (a2 : Int32) (a4 : Int32) (a5 : Int32) (a6 : Int32) (w : am_W) (H : F_Mod_kinds_37 r37 a1 a2 a4 a5 a6 w = some o) : am_gi (D + 6) 225 o (37, [(0, .ref 53), (1, .int a1), (2, .int a2), (4, .int a4), (5, .int a5), (6, .int a6)], [], ww w, 0, 0) := by
  unfold F_Mod_kinds_37 at H
  refine am_go_blk 3 ⟨fun hc => ?_, fun hc => ?_⟩
  · have H := am_it hc H
    show am_gi (D + 6) 225 o (80, [(0, .ref 53), (2, .int a2), (4, .int a4), (5, .int a5)], [], ww w, 0, 0)
    obtain ⟨hc, H⟩ := am_ckE H
    obtain ⟨w3, ew3, H⟩ := am_ltE H
    refine am_go_blk 5 ⟨am_inv hc, am_hp (ww_s54 ew3) (?_ : am_gi (D + 6) 225 o (88, [(0, .ref 53), (2, .int a2), (4, .int a4), (5, .int a5)], [], ww w3, 0, 0))⟩
    exact am_go_blk 2 ⟨rfl, am_fi H⟩
  · have H := am_ie hc H
    show am_gi (D + 6) 225 o (44, [(0, .ref 53), (1, .int a1), (2, .int a2), (4, .int a4), (5, .int a5), (6, .int a6)], [], ww w, 0, 0)
    obtain ⟨hc, H⟩ := am_ckE H
    obtain ⟨w4, ew4, H⟩ := am_ltE H
    refine am_go_blk 5 ⟨am_inv hc, am_hp (ww_s54 ew4) (?_ : am_gi (D + 6) 225 o (52, [(0, .ref 53), (1, .int a1), (2, .int a2), (4, .int a4), (5, .int a5), (6, .int a6)], [], ww w4, 0, 0))⟩
    obtain ⟨q5, hqq5, H⟩ := am_bnE H
    refine am_go_blk 3 (?_ : am_gi (D + 6) 225 o (56, [(0, .ref 53), (1, .int a1), (2, .int a2), (4, .int a4), (5, .int a5), (6, .int a6)], [.int a1, .ref 53, .int a5], ww w4, 0, 0))
    refine am_invd rfl rfl rfl rfl (am_calli rfl (M_Mod_judged (D := D) hqq5) (?_ : am_gi (D + 6) 225 o (59, [(0, .ref 53), (1, .int a1), (2, .int a2), (4, .int a4), (5, .int a5), (6, .int a6)], [.int q5.1, .int a5], ww q5.2, 0, 0)))
    refine am_go_blk 2 ⟨fun hc => ?_, fun hc => ?_⟩
    · have H := am_ie hc H
      show am_gi (D + 6) 225 o (70, [(0, .ref 53), (1, .int a1), (2, .int a2), (4, .int a4), (6, .int a6)], [.int a5], ww q5.2, 0, 0)
      exact am_go_blk 1 (T_Mod_kinds_71 Hr37 a1 a2 a4 a6 (nI 0) a5 q5.2 H)
    · have H := am_it hc H
      show am_gi (D + 6) 225 o (63, [(0, .ref 53), (1, .int a1), (2, .int a2), (4, .int a4), (5, .int a5), (6, .int a6)], [.int a5], ww q5.2, 0, 0)
      exact am_go_blk 4 (T_Mod_kinds_71 Hr37 a1 a2 a4 a6 ((nI 1) <<< (a6 &&& 31)) a5 q5.2 H)
theorem TL_Mod_kinds_37 {D : Nat} {o : Int32 × am_W} : ∀ (n : Nat) (a1 : Int32) (a2 : Int32) (a4 : Int32) (a5 : Int32) (a6 : Int32) (w : am_W) , L_Mod_kinds_37 n a1 a2 a4 a5 a6 w = some o → am_gi (D + 6) 225 o (37, [(0, .ref 53), (1, .int a1), (2, .int a2), (4, .int a4), (5, .int a5), (6, .int a6)], [], ww w, 0, 0)
  | 0, _, _, _, _, _, _, H => by cases H
  | n + 1, a1, a2, a4, a5, a6, w, H => T_Mod_kinds_37 (TL_Mod_kinds_37 n) a1 a2 a4 a5 a6 w H
theorem T_Mod_kinds {D : Nat} {o : Int32 × am_W} (a1 : Int32) (a2 : Int32) (w : am_W) (H : F_Mod_kinds a1 a2 w = some o) : am_gi (D + 6) 225 o (0, [(0, .ref 53), (1, .int a1), (2, .int a2)], [], ww w, 0, 0) := by
  unfold F_Mod_kinds at H
  obtain ⟨q1, hqq1, H⟩ := am_bnE H
  refine am_go_blk 2 (?_ : am_gi (D + 6) 225 o (2, [(0, .ref 53), (1, .int a1), (2, .int a2)], [.int a1, .ref 53], ww w, 0, 0))
  refine am_invd rfl rfl rfl rfl (am_calli rfl (M_Mod_sheetWrong (D := D + 4) hqq1) (?_ : am_gi (D + 6) 225 o (5, [(0, .ref 53), (1, .int a1), (2, .int a2)], [.int q1.1], ww q1.2, 0, 0)))
  refine am_go_blk 3 ⟨fun hc => ?_, fun hc => ?_⟩
  · have H := am_it hc H
    show am_gi (D + 6) 225 o (12, [(0, .ref 53), (1, .int a1), (2, .int a2)], [], ww q1.2, 0, 0)
    obtain ⟨q2, hqq2, H⟩ := am_bnE H
    refine am_go_blk 2 (?_ : am_gi (D + 6) 225 o (14, [(0, .ref 53), (1, .int a1), (2, .int a2)], [.int a2, .ref 53], ww q1.2, 0, 0))
    refine am_invd rfl rfl rfl rfl (am_calli rfl (M_Mod_isThing (D := D + 4) hqq2) (?_ : am_gi (D + 6) 225 o (17, [(0, .ref 53), (1, .int a1), (2, .int a2)], [.int q2.1], ww q2.2, 0, 0)))
    refine am_go_blk 1 ⟨fun hc => ?_, fun hc => ?_⟩
    · have H := am_ie hc H
      show am_gi (D + 6) 225 o (23, [(0, .ref 53), (1, .int a1), (2, .int a2)], [], ww q2.2, 0, 0)
      obtain ⟨hc, H⟩ := am_ckE H
      refine am_go_blk 4 ⟨am_inv hc, (?_ : am_gi (D + 6) 225 o (29, [(0, .ref 53), (1, .int a1), (2, .int a2)], [.int (q2.2.1 54 a2.toNatClampNeg)], ww q2.2, 0, 0))⟩
      exact am_go_blk 5 (TL_Mod_kinds_37 am_NF a1 a2 (q2.2.1 54 a2.toNatClampNeg) (nI 0) (nI 0) q2.2 H)
    · have H := am_it hc H
      show am_gi (D + 6) 225 o (20, [(0, .ref 53), (1, .int a1), (2, .int a2)], [], ww q2.2, 0, 0)
      exact am_go_blk 2 ⟨rfl, am_fi H⟩
  · have H := am_ie hc H
    show am_gi (D + 6) 225 o (10, [(3, .int q1.1), (0, .ref 53), (1, .int a1), (2, .int a2)], [], ww q1.2, 0, 0)
    exact am_go_blk 2 ⟨rfl, am_fi H⟩
theorem M_Mod_kinds {D : Nat} {o : Int32 × am_W} {a1 : Int32} {a2 : Int32} {w : am_W} (H : F_Mod_kinds a1 a2 w = some o) : am_run (D + 7) 225 [.ref 53, .int a1, .int a2] (ww w) (some (.int o.1)) (ww o.2) 0 0 :=
  am_run_of rfl (T_Mod_kinds a1 a2 w H)
def F_Mod_laws_123 (r39 : Int32 → Int32 → Int32 → Int32 → am_W → Option (Int32 × am_W)) (a1 : Int32) (a3 : Int32) (a5 : Int32) (s0 : Int32) (s1 : Int32) (w : am_W) : Option (Int32 × am_W) :=
  r39 a1 a3 (s1 ||| s0) (a5 + (nI 1)) w
def F_Mod_laws_100 (r39 : Int32 → Int32 → Int32 → Int32 → am_W → Option (Int32 × am_W)) (r60 : Int32 → Int32 → Int32 → Int32 → Int32 → Int32 → am_W → Option (Int32 × am_W)) (a1 : Int32) (a3 : Int32) (a4 : Int32) (a5 : Int32) (a7 : Int32) (s0 : Int32) (w : am_W) : Option (Int32 × am_W) :=
  r60 a1 a3 a4 a5 s0 (a7 + (nI 1)) w
def F_Mod_laws_99 (r39 : Int32 → Int32 → Int32 → Int32 → am_W → Option (Int32 × am_W)) (r60 : Int32 → Int32 → Int32 → Int32 → Int32 → Int32 → am_W → Option (Int32 × am_W)) (a1 : Int32) (a3 : Int32) (a4 : Int32) (a5 : Int32) (a7 : Int32) (w : am_W) : Option (Int32 × am_W) :=
  F_Mod_laws_100 r39 r60 a1 a3 a4 a5 a7 (nI 0) w
def F_Mod_laws_60 (r39 : Int32 → Int32 → Int32 → Int32 → am_W → Option (Int32 × am_W)) (r60 : Int32 → Int32 → Int32 → Int32 → Int32 → Int32 → am_W → Option (Int32 × am_W)) (a1 : Int32) (a3 : Int32) (a4 : Int32) (a5 : Int32) (a6 : Int32) (a7 : Int32) (w : am_W) : Option (Int32 × am_W) :=
  if (w.1 53 5) ≤ a7 then (if a6 = 0 then (F_Mod_laws_123 r39 a1 a3 a5 (nI 0) a4 w) else (F_Mod_laws_123 r39 a1 a3 a5 ((nI 1) <<< (a5 &&& 31)) a4 w)) else (if a6 = 0 then (F_Mod_laws_99 r39 r60 a1 a3 a4 a5 a7 w) else ((F_Mod_sawsOf a7 w).bind fun q4 => am_ck (am_in (((nI 40) * a1) + a7) 160) (if q4.1 = (q4.2.1 64 (((nI 40) * a1) + a7).toNatClampNeg) then (F_Mod_laws_100 r39 r60 a1 a3 a4 a5 a7 (nI 1) q4.2) else (F_Mod_laws_99 r39 r60 a1 a3 a4 a5 a7 q4.2))))
def L_Mod_laws_60 (r39 : Int32 → Int32 → Int32 → Int32 → am_W → Option (Int32 × am_W)) : Nat → Int32 → Int32 → Int32 → Int32 → Int32 → Int32 → am_W → Option (Int32 × am_W)
  | 0, _, _, _, _, _, _, _ => none
  | n + 1, a1, a3, a4, a5, a6, a7, w => F_Mod_laws_60 r39 (L_Mod_laws_60 r39 n) a1 a3 a4 a5 a6 a7 w
def F_Mod_laws_39 (r39 : Int32 → Int32 → Int32 → Int32 → am_W → Option (Int32 × am_W)) (a1 : Int32) (a3 : Int32) (a4 : Int32) (a5 : Int32) (w : am_W) : Option (Int32 × am_W) :=
  if (w.1 53 12) ≤ a5 then (am_lt (wsf w 53 13 a3) fun w2 => some (a4, w2)) else (am_lt (wsf w 53 13 a5) fun w3 => L_Mod_laws_60 r39 am_NF a1 a3 a4 a5 (nI 1) (nI 0) w3)
def L_Mod_laws_39 : Nat → Int32 → Int32 → Int32 → Int32 → am_W → Option (Int32 × am_W)
  | 0, _, _, _, _, _ => none
  | n + 1, a1, a3, a4, a5, w => F_Mod_laws_39 (L_Mod_laws_39 n) a1 a3 a4 a5 w
def F_Mod_laws (a1 : Int32) (w : am_W) : Option (Int32 × am_W) :=
  (F_Mod_sheetWrong a1 w).bind fun q1 => if q1.1 = 0 then (am_ck (am_in a1 4) (if (q1.2.1 63 a1.toNatClampNeg) = (q1.2.1 53 5) then (L_Mod_laws_39 am_NF a1 (q1.2.1 53 13) (nI 0) (nI 0) q1.2) else (some ((-nI 2), q1.2)))) else (some (q1.1, q1.2))
theorem T_Mod_laws_123 {D : Nat} {o : Int32 × am_W} {r39 : Int32 → Int32 → Int32 → Int32 → am_W → Option (Int32 × am_W)} (Hr39 : ∀ (a1 : Int32) (a3 : Int32) (a4 : Int32) (a5 : Int32) (w : am_W) , r39 a1 a3 a4 a5 w = some o → am_gi (D + 4) 226 o (39, [(0, .ref 53), (1, .int a1), (3, .int a3), (4, .int a4), (5, .int a5)], [], ww w, 0, 0)) (a1 : Int32) (a3 : Int32) (a5 : Int32) (s0 : Int32) (s1 : Int32) (w : am_W) (H : F_Mod_laws_123 r39 a1 a3 a5 s0 s1 w = some o) : am_gi (D + 4) 226 o (123, [(0, .ref 53), (1, .int a1), (3, .int a3), (5, .int a5)], [.int s0, .int s1], ww w, 0, 0) := by
  unfold F_Mod_laws_123 at H
  exact am_go_blk 4 (Hr39 a1 a3 (s1 ||| s0) (a5 + (nI 1)) w H)
theorem T_Mod_laws_100 {D : Nat} {o : Int32 × am_W} {r39 : Int32 → Int32 → Int32 → Int32 → am_W → Option (Int32 × am_W)} {r60 : Int32 → Int32 → Int32 → Int32 → Int32 → Int32 → am_W → Option (Int32 × am_W)} (Hr39 : ∀ (a1 : Int32) (a3 : Int32) (a4 : Int32) (a5 : Int32) (w : am_W) , r39 a1 a3 a4 a5 w = some o → am_gi (D + 4) 226 o (39, [(0, .ref 53), (1, .int a1), (3, .int a3), (4, .int a4), (5, .int a5)], [], ww w, 0, 0)) (Hr60 : ∀ (a1 : Int32) (a3 : Int32) (a4 : Int32) (a5 : Int32) (a6 : Int32) (a7 : Int32) (w : am_W) , r60 a1 a3 a4 a5 a6 a7 w = some o → am_gi (D + 4) 226 o (60, [(0, .ref 53), (1, .int a1), (3, .int a3), (4, .int a4), (5, .int a5), (6, .int a6), (7, .int a7)], [], ww w, 0, 0)) (a1 : Int32) (a3 : Int32) (a4 : Int32) (a5 : Int32) (a7 : Int32) (s0 : Int32) (w : am_W) (H : F_Mod_laws_100 r39 r60 a1 a3 a4 a5 a7 s0 w = some o) : am_gi (D + 4) 226 o (100, [(0, .ref 53), (1, .int a1), (3, .int a3), (4, .int a4), (5, .int a5), (7, .int a7)], [.int s0], ww w, 0, 0) := by
  unfold F_Mod_laws_100 at H
  exact am_go_blk 3 (Hr60 a1 a3 a4 a5 s0 (a7 + (nI 1)) w H)
theorem T_Mod_laws_99 {D : Nat} {o : Int32 × am_W} {r39 : Int32 → Int32 → Int32 → Int32 → am_W → Option (Int32 × am_W)} {r60 : Int32 → Int32 → Int32 → Int32 → Int32 → Int32 → am_W → Option (Int32 × am_W)} (Hr39 : ∀ (a1 : Int32) (a3 : Int32) (a4 : Int32) (a5 : Int32) (w : am_W) , r39 a1 a3 a4 a5 w = some o → am_gi (D + 4) 226 o (39, [(0, .ref 53), (1, .int a1), (3, .int a3), (4, .int a4), (5, .int a5)], [], ww w, 0, 0)) (Hr60 : ∀ (a1 : Int32) (a3 : Int32) (a4 : Int32) (a5 : Int32) (a6 : Int32) (a7 : Int32) (w : am_W) , r60 a1 a3 a4 a5 a6 a7 w = some o → am_gi (D + 4) 226 o (60, [(0, .ref 53), (1, .int a1), (3, .int a3), (4, .int a4), (5, .int a5), (6, .int a6), (7, .int a7)], [], ww w, 0, 0)) (a1 : Int32) (a3 : Int32) (a4 : Int32) (a5 : Int32) (a7 : Int32) (w : am_W) (H : F_Mod_laws_99 r39 r60 a1 a3 a4 a5 a7 w = some o) : am_gi (D + 4) 226 o (99, [(0, .ref 53), (1, .int a1), (3, .int a3), (4, .int a4), (5, .int a5), (7, .int a7)], [], ww w, 0, 0) := by
  unfold F_Mod_laws_99 at H
  exact am_go_blk 1 (T_Mod_laws_100 Hr39 Hr60 a1 a3 a4 a5 a7 (nI 0) w H)
theorem T_Mod_laws_60 {D : Nat} {o : Int32 × am_W} {r39 : Int32 → Int32 → Int32 → Int32 → am_W → Option (Int32 × am_W)} {r60 : Int32 → Int32 → Int32 → Int32 → Int32 → Int32 → am_W → Option (Int32 × am_W)} (Hr39 : ∀ (a1 : Int32) (a3 : Int32) (a4 : Int32) (a5 : Int32) (w : am_W) , r39 a1 a3 a4 a5 w = some o → am_gi (D + 4) 226 o (39, [(0, .ref 53), (1, .int a1), (3, .int a3), (4, .int a4), (5, .int a5)], [], ww w, 0, 0)) (Hr60 : ∀ (a1 : Int32) (a3 : Int32) (a4 : Int32) (a5 : Int32) (a6 : Int32) (a7 : Int32) (w : am_W) , r60 a1 a3 a4 a5 a6 a7 w = some o → am_gi (D + 4) 226 o (60, [(0, .ref 53), (1, .int a1), (3, .int a3), (4, .int a4), (5, .int a5), (6, .int a6), (7, .int a7)], [], ww w, 0, 0)) (a1 : Int32) (a3 : Int32) (a4 : Int32) (a5 : Int32) (a6 : Int32) (a7 : Int32) (w : am_W) (H : F_Mod_laws_60 r39 r60 a1 a3 a4 a5 a6 a7 w = some o) : am_gi (D + 4) 226 o (60, [(0, .ref 53), (1, .int a1), (3, .int a3), (4, .int a4), (5, .int a5), (6, .int a6), (7, .int a7)], [], ww w, 0, 0) := by
  unfold F_Mod_laws_60 at H
  refine am_go_blk 4 ⟨fun hc => ?_, fun hc => ?_⟩
  · have H := am_it hc H
    show am_gi (D + 4) 226 o (108, [(0, .ref 53), (1, .int a1), (3, .int a3), (4, .int a4), (5, .int a5), (6, .int a6)], [], ww w, 0, 0)
    refine am_go_blk 3 ⟨fun hc => ?_, fun hc => ?_⟩
    · have H := am_it hc H
      show am_gi (D + 4) 226 o (122, [(0, .ref 53), (1, .int a1), (3, .int a3), (5, .int a5)], [.int a4], ww w, 0, 0)
      exact am_go_blk 1 (T_Mod_laws_123 Hr39 a1 a3 a5 (nI 0) a4 w H)
    · have H := am_ie hc H
      show am_gi (D + 4) 226 o (115, [(0, .ref 53), (1, .int a1), (3, .int a3), (4, .int a4), (5, .int a5), (6, .int a6)], [.int a4], ww w, 0, 0)
      exact am_go_blk 4 (T_Mod_laws_123 Hr39 a1 a3 a5 ((nI 1) <<< (a5 &&& 31)) a4 w H)
  · have H := am_ie hc H
    show am_gi (D + 4) 226 o (69, [(0, .ref 53), (1, .int a1), (3, .int a3), (4, .int a4), (5, .int a5), (6, .int a6), (7, .int a7)], [], ww w, 0, 0)
    refine am_go_blk 2 ⟨fun hc => ?_, fun hc => ?_⟩
    · have H := am_it hc H
      exact T_Mod_laws_99 Hr39 Hr60 a1 a3 a4 a5 a7 w H
    · have H := am_ie hc H
      show am_gi (D + 4) 226 o (74, [(0, .ref 53), (1, .int a1), (3, .int a3), (4, .int a4), (5, .int a5), (6, .int a6), (7, .int a7)], [], ww w, 0, 0)
      obtain ⟨q4, hqq4, H⟩ := am_bnE H
      refine am_go_blk 2 (?_ : am_gi (D + 4) 226 o (77, [(0, .ref 53), (1, .int a1), (3, .int a3), (4, .int a4), (5, .int a5), (6, .int a6), (7, .int a7)], [.int a7, .ref 53], ww w, 0, 0))
      refine am_invd rfl rfl rfl rfl (am_calli rfl (M_Mod_sawsOf (D := D) hqq4) (?_ : am_gi (D + 4) 226 o (80, [(0, .ref 53), (1, .int a1), (3, .int a3), (4, .int a4), (5, .int a5), (6, .int a6), (7, .int a7)], [.int q4.1], ww q4.2, 0, 0)))
      obtain ⟨hc, H⟩ := am_ckE H
      refine am_go_blk 8 ⟨am_inv hc, (?_ : am_gi (D + 4) 226 o (92, [(0, .ref 53), (1, .int a1), (3, .int a3), (4, .int a4), (5, .int a5), (6, .int a6), (7, .int a7)], [.int (q4.2.1 64 (((nI 40) * a1) + a7).toNatClampNeg), .int q4.1], ww q4.2, 0, 0))⟩
      refine am_go_blk 1 ⟨fun hc => ?_, fun hc => ?_⟩
      · have H := am_ie hc H
        exact T_Mod_laws_99 Hr39 Hr60 a1 a3 a4 a5 a7 q4.2 H
      · have H := am_it hc H
        show am_gi (D + 4) 226 o (95, [(0, .ref 53), (1, .int a1), (3, .int a3), (4, .int a4), (5, .int a5), (6, .int a6), (7, .int a7)], [], ww q4.2, 0, 0)
        exact am_go_blk 2 (T_Mod_laws_100 Hr39 Hr60 a1 a3 a4 a5 a7 (nI 1) q4.2 H)
theorem TL_Mod_laws_60 {D : Nat} {o : Int32 × am_W} {r39 : Int32 → Int32 → Int32 → Int32 → am_W → Option (Int32 × am_W)} (Hr39 : ∀ (a1 : Int32) (a3 : Int32) (a4 : Int32) (a5 : Int32) (w : am_W) , r39 a1 a3 a4 a5 w = some o → am_gi (D + 4) 226 o (39, [(0, .ref 53), (1, .int a1), (3, .int a3), (4, .int a4), (5, .int a5)], [], ww w, 0, 0)) : ∀ (n : Nat) (a1 : Int32) (a3 : Int32) (a4 : Int32) (a5 : Int32) (a6 : Int32) (a7 : Int32) (w : am_W) , L_Mod_laws_60 r39 n a1 a3 a4 a5 a6 a7 w = some o → am_gi (D + 4) 226 o (60, [(0, .ref 53), (1, .int a1), (3, .int a3), (4, .int a4), (5, .int a5), (6, .int a6), (7, .int a7)], [], ww w, 0, 0)
  | 0, _, _, _, _, _, _, _, H => by cases H
  | n + 1, a1, a3, a4, a5, a6, a7, w, H => T_Mod_laws_60 Hr39 (TL_Mod_laws_60 Hr39 n) a1 a3 a4 a5 a6 a7 w H
theorem T_Mod_laws_39 {D : Nat} {o : Int32 × am_W} {r39 : Int32 → Int32 → Int32 → Int32 → am_W → Option (Int32 × am_W)} (Hr39 : ∀ (a1 : Int32) (a3 : Int32) (a4 : Int32) (a5 : Int32) (w : am_W) , r39 a1 a3 a4 a5 w = some o → am_gi (D + 4) 226 o (39, [(0, .ref 53), (1, .int a1), (3, .int a3), (4, .int a4), (5, .int a5)], [], ww w, 0, 0)) (a1 : Int32) (a3 : Int32) (a4 : Int32) (a5 : Int32) (w : am_W) (H : F_Mod_laws_39 r39 a1 a3 a4 a5 w = some o) : am_gi (D + 4) 226 o (39, [(0, .ref 53), (1, .int a1), (3, .int a3), (4, .int a4), (5, .int a5)], [], ww w, 0, 0) := by
  unfold F_Mod_laws_39 at H
  refine am_go_blk 4 ⟨fun hc => ?_, fun hc => ?_⟩
  · have H := am_it hc H
    show am_gi (D + 4) 226 o (132, [(0, .ref 53), (3, .int a3), (4, .int a4)], [], ww w, 0, 0)
    obtain ⟨w2, ew2, H⟩ := am_ltE H
    refine am_go_blk 3 ⟨rfl, rfl, am_hp (ww_f53_13 ew2) (?_ : am_gi (D + 4) 226 o (137, [(0, .ref 53), (3, .int a3), (4, .int a4)], [], ww w2, 0, 0))⟩
    exact am_go_blk 2 ⟨rfl, am_fi H⟩
  · have H := am_ie hc H
    show am_gi (D + 4) 226 o (48, [(0, .ref 53), (1, .int a1), (3, .int a3), (4, .int a4), (5, .int a5)], [], ww w, 0, 0)
    obtain ⟨w3, ew3, H⟩ := am_ltE H
    refine am_go_blk 3 ⟨rfl, rfl, am_hp (ww_f53_13 ew3) (?_ : am_gi (D + 4) 226 o (54, [(0, .ref 53), (1, .int a1), (3, .int a3), (4, .int a4), (5, .int a5)], [], ww w3, 0, 0))⟩
    exact am_go_blk 4 (TL_Mod_laws_60 Hr39 am_NF a1 a3 a4 a5 (nI 1) (nI 0) w3 H)
theorem TL_Mod_laws_39 {D : Nat} {o : Int32 × am_W} : ∀ (n : Nat) (a1 : Int32) (a3 : Int32) (a4 : Int32) (a5 : Int32) (w : am_W) , L_Mod_laws_39 n a1 a3 a4 a5 w = some o → am_gi (D + 4) 226 o (39, [(0, .ref 53), (1, .int a1), (3, .int a3), (4, .int a4), (5, .int a5)], [], ww w, 0, 0)
  | 0, _, _, _, _, _, H => by cases H
  | n + 1, a1, a3, a4, a5, w, H => T_Mod_laws_39 (TL_Mod_laws_39 n) a1 a3 a4 a5 w H
theorem T_Mod_laws {D : Nat} {o : Int32 × am_W} (a1 : Int32) (w : am_W) (H : F_Mod_laws a1 w = some o) : am_gi (D + 4) 226 o (0, [(0, .ref 53), (1, .int a1)], [], ww w, 0, 0) := by
  unfold F_Mod_laws at H
  obtain ⟨q1, hqq1, H⟩ := am_bnE H
  refine am_go_blk 2 (?_ : am_gi (D + 4) 226 o (2, [(0, .ref 53), (1, .int a1)], [.int a1, .ref 53], ww w, 0, 0))
  refine am_invd rfl rfl rfl rfl (am_calli rfl (M_Mod_sheetWrong (D := D + 2) hqq1) (?_ : am_gi (D + 4) 226 o (5, [(0, .ref 53), (1, .int a1)], [.int q1.1], ww q1.2, 0, 0)))
  refine am_go_blk 3 ⟨fun hc => ?_, fun hc => ?_⟩
  · have H := am_it hc H
    show am_gi (D + 4) 226 o (12, [(0, .ref 53), (1, .int a1)], [], ww q1.2, 0, 0)
    obtain ⟨hc, H⟩ := am_ckE H
    refine am_go_blk 4 ⟨am_inv hc, (?_ : am_gi (D + 4) 226 o (18, [(0, .ref 53), (1, .int a1)], [.int (q1.2.1 63 a1.toNatClampNeg)], ww q1.2, 0, 0))⟩
    refine am_go_blk 3 ⟨fun hc => ?_, fun hc => ?_⟩
    · have H := am_it hc H
      show am_gi (D + 4) 226 o (28, [(0, .ref 53), (1, .int a1)], [], ww q1.2, 0, 0)
      exact am_go_blk 7 (TL_Mod_laws_39 am_NF a1 (q1.2.1 53 13) (nI 0) (nI 0) q1.2 H)
    · have H := am_ie hc H
      show am_gi (D + 4) 226 o (25, [(0, .ref 53), (1, .int a1)], [], ww q1.2, 0, 0)
      exact am_go_blk 2 ⟨rfl, am_fi H⟩
  · have H := am_ie hc H
    show am_gi (D + 4) 226 o (10, [(2, .int q1.1), (0, .ref 53), (1, .int a1)], [], ww q1.2, 0, 0)
    exact am_go_blk 2 ⟨rfl, am_fi H⟩
theorem M_Mod_laws {D : Nat} {o : Int32 × am_W} {a1 : Int32} {w : am_W} (H : F_Mod_laws a1 w = some o) : am_run (D + 5) 226 [.ref 53, .int a1] (ww w) (some (.int o.1)) (ww o.2) 0 0 :=
  am_run_of rfl (T_Mod_laws a1 w H)
def F_Mod_film_69 (r35 : Int32 → Int32 → am_W → Option (Int32 × am_W)) (a1 : Int32) (a2 : Int32) (s0 : Int32) (s1 : Int32) (w : am_W) : Option (Int32 × am_W) :=
  am_ck (am_in s1 160) (am_lt (wst w 64 s1 s0) fun w5 => r35 a1 (a2 + (nI 1)) w5)
def F_Mod_film_35 (r35 : Int32 → Int32 → am_W → Option (Int32 × am_W)) (a1 : Int32) (a2 : Int32) (w : am_W) : Option (Int32 × am_W) :=
  if (nI 40) ≤ a2 then (some ((w.1 53 0), w)) else (if (w.1 53 0) ≤ a2 then (F_Mod_film_69 r35 a1 a2 (nI 0) (((nI 40) * a1) + a2) w) else (am_ck (am_in a2 8) (F_Mod_film_69 r35 a1 a2 (w.1 72 a2.toNatClampNeg) (((nI 40) * a1) + a2) w)))
def L_Mod_film_35 : Nat → Int32 → Int32 → am_W → Option (Int32 × am_W)
  | 0, _, _, _ => none
  | n + 1, a1, a2, w => F_Mod_film_35 (L_Mod_film_35 n) a1 a2 w
def F_Mod_film (a1 : Int32) (w : am_W) : Option (Int32 × am_W) :=
  (F_Mod_in a1 (nI 0) (nI 3) w).bind fun q1 => if q1.1 = 0 then (some ((-nI 2), q1.2)) else ((F_Mod_lives q1.2).bind fun w2 => am_ck (am_in a1 4) (am_lt (wst w2 62 a1 (nI 2)) fun w3 => am_ck (am_in a1 4) (am_lt (wst w3 63 a1 (w3.1 53 0)) fun w4 => L_Mod_film_35 am_NF a1 (nI 0) w4)))
theorem T_Mod_film_69 {D : Nat} {o : Int32 × am_W} {r35 : Int32 → Int32 → am_W → Option (Int32 × am_W)} (Hr35 : ∀ (a1 : Int32) (a2 : Int32) (w : am_W) , r35 a1 a2 w = some o → am_gi (D + 7) 227 o (35, [(0, .ref 53), (1, .int a1), (2, .int a2)], [], ww w, 0, 0)) (a1 : Int32) (a2 : Int32) (s0 : Int32) (s1 : Int32) (w : am_W) (H : F_Mod_film_69 r35 a1 a2 s0 s1 w = some o) : am_gi (D + 7) 227 o (69, [(0, .ref 53), (1, .int a1), (2, .int a2)], [.int s0, .int s1, .ref 64], ww w, 0, 0) := by
  unfold F_Mod_film_69 at H
  obtain ⟨hc, H⟩ := am_ckE H
  obtain ⟨w5, ew5, H⟩ := am_ltE H
  refine am_go_blk 1 ⟨am_inv hc, am_hp (ww_s64 ew5) (?_ : am_gi (D + 7) 227 o (70, [(0, .ref 53), (1, .int a1), (2, .int a2)], [], ww w5, 0, 0))⟩
  exact am_go_blk 2 (Hr35 a1 (a2 + (nI 1)) w5 H)
theorem T_Mod_film_35 {D : Nat} {o : Int32 × am_W} {r35 : Int32 → Int32 → am_W → Option (Int32 × am_W)} (Hr35 : ∀ (a1 : Int32) (a2 : Int32) (w : am_W) , r35 a1 a2 w = some o → am_gi (D + 7) 227 o (35, [(0, .ref 53), (1, .int a1), (2, .int a2)], [], ww w, 0, 0)) (a1 : Int32) (a2 : Int32) (w : am_W) (H : F_Mod_film_35 r35 a1 a2 w = some o) : am_gi (D + 7) 227 o (35, [(0, .ref 53), (1, .int a1), (2, .int a2)], [], ww w, 0, 0) := by
  unfold F_Mod_film_35 at H
  refine am_go_blk 3 ⟨fun hc => ?_, fun hc => ?_⟩
  · have H := am_it hc H
    show am_gi (D + 7) 227 o (76, [(0, .ref 53)], [], ww w, 0, 0)
    exact am_go_blk 3 ⟨rfl, am_fi H⟩
  · have H := am_ie hc H
    show am_gi (D + 7) 227 o (41, [(0, .ref 53), (1, .int a1), (2, .int a2)], [], ww w, 0, 0)
    refine am_go_blk 11 ⟨fun hc => ?_, fun hc => ?_⟩
    · have H := am_it hc H
      show am_gi (D + 7) 227 o (68, [(0, .ref 53), (1, .int a1), (2, .int a2)], [.int (((nI 40) * a1) + a2), .ref 64], ww w, 0, 0)
      exact am_go_blk 1 (T_Mod_film_69 Hr35 a1 a2 (nI 0) (((nI 40) * a1) + a2) w H)
    · have H := am_ie hc H
      show am_gi (D + 7) 227 o (59, [(0, .ref 53), (1, .int a1), (2, .int a2)], [.int (((nI 40) * a1) + a2), .ref 64], ww w, 0, 0)
      obtain ⟨hc, H⟩ := am_ckE H
      refine am_go_blk 4 ⟨am_inv hc, (?_ : am_gi (D + 7) 227 o (65, [(0, .ref 53), (1, .int a1), (2, .int a2)], [.int (w.1 72 a2.toNatClampNeg), .int (((nI 40) * a1) + a2), .ref 64], ww w, 0, 0))⟩
      exact am_go_blk 1 (T_Mod_film_69 Hr35 a1 a2 (w.1 72 a2.toNatClampNeg) (((nI 40) * a1) + a2) w H)
theorem TL_Mod_film_35 {D : Nat} {o : Int32 × am_W} : ∀ (n : Nat) (a1 : Int32) (a2 : Int32) (w : am_W) , L_Mod_film_35 n a1 a2 w = some o → am_gi (D + 7) 227 o (35, [(0, .ref 53), (1, .int a1), (2, .int a2)], [], ww w, 0, 0)
  | 0, _, _, _, H => by cases H
  | n + 1, a1, a2, w, H => T_Mod_film_35 (TL_Mod_film_35 n) a1 a2 w H
theorem T_Mod_film {D : Nat} {o : Int32 × am_W} (a1 : Int32) (w : am_W) (H : F_Mod_film a1 w = some o) : am_gi (D + 7) 227 o (0, [(0, .ref 53), (1, .int a1)], [], ww w, 0, 0) := by
  unfold F_Mod_film at H
  obtain ⟨q1, hqq1, H⟩ := am_bnE H
  refine am_go_blk 3 (?_ : am_gi (D + 7) 227 o (3, [(0, .ref 53), (1, .int a1)], [.int (nI 3), .int (nI 0), .int a1], ww w, 0, 0))
  refine am_cls rfl rfl rfl (am_calli rfl (M_Mod_in (D := D + 6) hqq1) (?_ : am_gi (D + 7) 227 o (6, [(0, .ref 53), (1, .int a1)], [.int q1.1], ww q1.2, 0, 0)))
  refine am_go_blk 1 ⟨fun hc => ?_, fun hc => ?_⟩
  · have H := am_ie hc H
    show am_gi (D + 7) 227 o (12, [(0, .ref 53), (1, .int a1)], [], ww q1.2, 0, 0)
    obtain ⟨w2, hqw2, H⟩ := am_bnE H
    refine am_go_blk 1 (?_ : am_gi (D + 7) 227 o (13, [(0, .ref 53), (1, .int a1)], [.ref 53], ww q1.2, 0, 0))
    refine am_invd rfl rfl rfl rfl (am_callv rfl (M_Mod_lives (D := D) hqw2) (?_ : am_gi (D + 7) 227 o (16, [(0, .ref 53), (1, .int a1)], [], ww w2, 0, 0)))
    obtain ⟨hc, H⟩ := am_ckE H
    obtain ⟨w3, ew3, H⟩ := am_ltE H
    refine am_go_blk 5 ⟨am_inv hc, am_hp (ww_s62 ew3) (?_ : am_gi (D + 7) 227 o (23, [(0, .ref 53), (1, .int a1)], [], ww w3, 0, 0))⟩
    obtain ⟨hc, H⟩ := am_ckE H
    obtain ⟨w4, ew4, H⟩ := am_ltE H
    refine am_go_blk 6 ⟨am_inv hc, am_hp (ww_s63 ew4) (?_ : am_gi (D + 7) 227 o (33, [(0, .ref 53), (1, .int a1)], [], ww w4, 0, 0))⟩
    exact am_go_blk 2 (TL_Mod_film_35 am_NF a1 (nI 0) w4 H)
  · have H := am_it hc H
    show am_gi (D + 7) 227 o (9, [(0, .ref 53), (1, .int a1)], [], ww q1.2, 0, 0)
    exact am_go_blk 2 ⟨rfl, am_fi H⟩
theorem M_Mod_film {D : Nat} {o : Int32 × am_W} {a1 : Int32} {w : am_W} (H : F_Mod_film a1 w = some o) : am_run (D + 8) 227 [.ref 53, .int a1] (ww w) (some (.int o.1)) (ww o.2) 0 0 :=
  am_run_of rfl (T_Mod_film a1 w H)
