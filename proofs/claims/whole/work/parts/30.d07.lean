/-! ===== the methods as functions, and that each does what its function says: Mod_waitsFor .. Mod_sawsFor ===== -/
def F_Mod_waitsFor_37 (r4 : Int32 → Int32 → Int32 → am_W → Option (Int32 × am_W)) (a1 : Int32) (a3 : Int32) (s0 : Int32) (s1 : Int32) (w : am_W) : Option (Int32 × am_W) :=
  r4 a1 (s1 ||| s0) (a3 + (nI 1)) w
def F_Mod_waitsFor_4 (r4 : Int32 → Int32 → Int32 → am_W → Option (Int32 × am_W)) (a1 : Int32) (a2 : Int32) (a3 : Int32) (w : am_W) : Option (Int32 × am_W) :=
  if (w.1 53 5) ≤ a3 then (some (a2, w)) else ((F_Mod_holdsNow a1 w).bind fun q1 => if ((q1.1 >>> (a3 &&& 31)) &&& (nI 1)) = (nI 1) then ((F_Mod_owner a3 q1.2).bind fun q2 => F_Mod_waitsFor_37 r4 a1 a3 ((nI 1) <<< (q2.1 &&& 31)) a2 q2.2) else (F_Mod_waitsFor_37 r4 a1 a3 (nI 0) a2 q1.2))
def L_Mod_waitsFor_4 : Nat → Int32 → Int32 → Int32 → am_W → Option (Int32 × am_W)
  | 0, _, _, _, _ => none
  | n + 1, a1, a2, a3, w => F_Mod_waitsFor_4 (L_Mod_waitsFor_4 n) a1 a2 a3 w
def F_Mod_waitsFor (a1 : Int32) (w : am_W) : Option (Int32 × am_W) :=
  L_Mod_waitsFor_4 am_NF a1 (nI 0) (nI 0) w
theorem T_Mod_waitsFor_37 {D : Nat} {o : Int32 × am_W} {r4 : Int32 → Int32 → Int32 → am_W → Option (Int32 × am_W)} (Hr4 : ∀ (a1 : Int32) (a2 : Int32) (a3 : Int32) (w : am_W) , r4 a1 a2 a3 w = some o → am_gi (D + 4) 187 o (4, [(0, .ref 53), (1, .int a1), (2, .int a2), (3, .int a3)], [], ww w, 0, 0)) (a1 : Int32) (a3 : Int32) (s0 : Int32) (s1 : Int32) (w : am_W) (H : F_Mod_waitsFor_37 r4 a1 a3 s0 s1 w = some o) : am_gi (D + 4) 187 o (37, [(0, .ref 53), (1, .int a1), (3, .int a3)], [.int s0, .int s1], ww w, 0, 0) := by
  unfold F_Mod_waitsFor_37 at H
  exact am_go_blk 4 (Hr4 a1 (s1 ||| s0) (a3 + (nI 1)) w H)
theorem T_Mod_waitsFor_4 {D : Nat} {o : Int32 × am_W} {r4 : Int32 → Int32 → Int32 → am_W → Option (Int32 × am_W)} (Hr4 : ∀ (a1 : Int32) (a2 : Int32) (a3 : Int32) (w : am_W) , r4 a1 a2 a3 w = some o → am_gi (D + 4) 187 o (4, [(0, .ref 53), (1, .int a1), (2, .int a2), (3, .int a3)], [], ww w, 0, 0)) (a1 : Int32) (a2 : Int32) (a3 : Int32) (w : am_W) (H : F_Mod_waitsFor_4 r4 a1 a2 a3 w = some o) : am_gi (D + 4) 187 o (4, [(0, .ref 53), (1, .int a1), (2, .int a2), (3, .int a3)], [], ww w, 0, 0) := by
  unfold F_Mod_waitsFor_4 at H
  refine am_go_blk 4 ⟨fun hc => ?_, fun hc => ?_⟩
  · have H := am_it hc H
    show am_gi (D + 4) 187 o (45, [(2, .int a2)], [], ww w, 0, 0)
    exact am_go_blk 2 ⟨rfl, am_fi H⟩
  · have H := am_ie hc H
    show am_gi (D + 4) 187 o (12, [(0, .ref 53), (1, .int a1), (2, .int a2), (3, .int a3)], [], ww w, 0, 0)
    obtain ⟨q1, hqq1, H⟩ := am_bnE H
    refine am_go_blk 3 (?_ : am_gi (D + 4) 187 o (15, [(0, .ref 53), (1, .int a1), (2, .int a2), (3, .int a3)], [.int a1, .ref 53, .int a2], ww w, 0, 0))
    refine am_invd rfl rfl rfl rfl (am_calli rfl (M_Mod_holdsNow (D := D) hqq1) (?_ : am_gi (D + 4) 187 o (18, [(0, .ref 53), (1, .int a1), (2, .int a2), (3, .int a3)], [.int q1.1, .int a2], ww q1.2, 0, 0)))
    refine am_go_blk 6 ⟨fun hc => ?_, fun hc => ?_⟩
    · have H := am_ie hc H
      show am_gi (D + 4) 187 o (36, [(0, .ref 53), (1, .int a1), (3, .int a3)], [.int a2], ww q1.2, 0, 0)
      exact am_go_blk 1 (T_Mod_waitsFor_37 Hr4 a1 a3 (nI 0) a2 q1.2 H)
    · have H := am_it hc H
      show am_gi (D + 4) 187 o (26, [(0, .ref 53), (1, .int a1), (2, .int a2), (3, .int a3)], [.int a2], ww q1.2, 0, 0)
      obtain ⟨q2, hqq2, H⟩ := am_bnE H
      refine am_go_blk 3 (?_ : am_gi (D + 4) 187 o (29, [(0, .ref 53), (1, .int a1), (2, .int a2), (3, .int a3)], [.int a3, .ref 53, .int (nI 1), .int a2], ww q1.2, 0, 0))
      refine am_invd rfl rfl rfl rfl (am_calli rfl (M_Mod_owner (D := D + 3) hqq2) (?_ : am_gi (D + 4) 187 o (32, [(0, .ref 53), (1, .int a1), (2, .int a2), (3, .int a3)], [.int q2.1, .int (nI 1), .int a2], ww q2.2, 0, 0)))
      exact am_go_blk 2 (T_Mod_waitsFor_37 Hr4 a1 a3 ((nI 1) <<< (q2.1 &&& 31)) a2 q2.2 H)
theorem TL_Mod_waitsFor_4 {D : Nat} {o : Int32 × am_W} : ∀ (n : Nat) (a1 : Int32) (a2 : Int32) (a3 : Int32) (w : am_W) , L_Mod_waitsFor_4 n a1 a2 a3 w = some o → am_gi (D + 4) 187 o (4, [(0, .ref 53), (1, .int a1), (2, .int a2), (3, .int a3)], [], ww w, 0, 0)
  | 0, _, _, _, _, H => by cases H
  | n + 1, a1, a2, a3, w, H => T_Mod_waitsFor_4 (TL_Mod_waitsFor_4 n) a1 a2 a3 w H
theorem T_Mod_waitsFor {D : Nat} {o : Int32 × am_W} (a1 : Int32) (w : am_W) (H : F_Mod_waitsFor a1 w = some o) : am_gi (D + 4) 187 o (0, [(0, .ref 53), (1, .int a1)], [], ww w, 0, 0) := by
  unfold F_Mod_waitsFor at H
  exact am_go_blk 4 (TL_Mod_waitsFor_4 am_NF a1 (nI 0) (nI 0) w H)
theorem M_Mod_waitsFor {D : Nat} {o : Int32 × am_W} {a1 : Int32} {w : am_W} (H : F_Mod_waitsFor a1 w = some o) : am_run (D + 5) 187 [.ref 53, .int a1] (ww w) (some (.int o.1)) (ww o.2) 0 0 :=
  am_run_of rfl (T_Mod_waitsFor a1 w H)
def F_Mod_waits_18 (s0 : Int32) (w : am_W) : Option (Int32 × am_W) :=
  some (s0, w)
def F_Mod_waits (a1 : Int32) (w : am_W) : Option (Int32 × am_W) :=
  (F_Mod_isThing a1 w).bind fun q1 => if q1.1 = 0 then (F_Mod_waits_18 (-nI 5) q1.2) else ((F_Mod_waitsFor a1 q1.2).bind fun q2 => F_Mod_waits_18 q2.1 q2.2)
theorem T_Mod_waits_18 {D : Nat} {o : Int32 × am_W} (s0 : Int32) (w : am_W) (H : F_Mod_waits_18 s0 w = some o) : am_gi (D + 5) 188 o (18, [], [.int s0], ww w, 0, 0) := by
  unfold F_Mod_waits_18 at H
  exact am_go_blk 1 ⟨rfl, am_fi H⟩
theorem T_Mod_waits {D : Nat} {o : Int32 × am_W} (a1 : Int32) (w : am_W) (H : F_Mod_waits a1 w = some o) : am_gi (D + 5) 188 o (0, [(0, .ref 53), (1, .int a1)], [], ww w, 0, 0) := by
  unfold F_Mod_waits at H
  obtain ⟨q1, hqq1, H⟩ := am_bnE H
  refine am_go_blk 2 (?_ : am_gi (D + 5) 188 o (2, [(0, .ref 53), (1, .int a1)], [.int a1, .ref 53], ww w, 0, 0))
  refine am_invd rfl rfl rfl rfl (am_calli rfl (M_Mod_isThing (D := D + 3) hqq1) (?_ : am_gi (D + 5) 188 o (5, [(0, .ref 53), (1, .int a1)], [.int q1.1], ww q1.2, 0, 0)))
  refine am_go_blk 1 ⟨fun hc => ?_, fun hc => ?_⟩
  · have H := am_it hc H
    show am_gi (D + 5) 188 o (16, [], [], ww q1.2, 0, 0)
    exact am_go_blk 1 (T_Mod_waits_18 (-nI 5) q1.2 H)
  · have H := am_ie hc H
    show am_gi (D + 5) 188 o (8, [(0, .ref 53), (1, .int a1)], [], ww q1.2, 0, 0)
    obtain ⟨q2, hqq2, H⟩ := am_bnE H
    refine am_go_blk 2 (?_ : am_gi (D + 5) 188 o (10, [(0, .ref 53), (1, .int a1)], [.int a1, .ref 53], ww q1.2, 0, 0))
    refine am_invd rfl rfl rfl rfl (am_calli rfl (M_Mod_waitsFor (D := D) hqq2) (?_ : am_gi (D + 5) 188 o (13, [(0, .ref 53), (1, .int a1)], [.int q2.1], ww q2.2, 0, 0)))
    exact am_go_blk 1 (T_Mod_waits_18 q2.1 q2.2 H)
theorem M_Mod_waits {D : Nat} {o : Int32 × am_W} {a1 : Int32} {w : am_W} (H : F_Mod_waits a1 w = some o) : am_run (D + 6) 188 [.ref 53, .int a1] (ww w) (some (.int o.1)) (ww o.2) 0 0 :=
  am_run_of rfl (T_Mod_waits a1 w H)
def F_Mod_goneAtLast_69 (r7 : Int32 → Int32 → Int32 → am_W → Option (Int32 × am_W)) (r16 : Int32 → Int32 → Int32 → Int32 → am_W → Option (Int32 × am_W)) (a1 : Int32) (a2 : Int32) (a3 : Int32) (a4 : Int32) (w : am_W) : Option (Int32 × am_W) :=
  r16 a1 a2 a3 (a4 + (nI 1)) w
def F_Mod_goneAtLast_16 (r7 : Int32 → Int32 → Int32 → am_W → Option (Int32 × am_W)) (r16 : Int32 → Int32 → Int32 → Int32 → am_W → Option (Int32 × am_W)) (a1 : Int32) (a2 : Int32) (a3 : Int32) (a4 : Int32) (w : am_W) : Option (Int32 × am_W) :=
  if (w.1 53 0) ≤ a4 then (r7 a1 a2 a3 w) else (if ((a1 >>> (a4 &&& 31)) &&& (nI 1)) = 0 then (am_ck (am_in a4 8) (if (w.1 54 a4.toNatClampNeg) = (nI 5) then (F_Mod_goneAtLast_69 r7 r16 a1 a2 a3 a4 w) else ((F_Mod_canGo a4 w).bind fun q2 => if q2.1 = 0 then (F_Mod_goneAtLast_69 r7 r16 a1 a2 a3 a4 q2.2) else (am_lt (wsf q2.2 53 4 ((q2.2.1 53 4) ||| ((nI 1) <<< (a4 &&& 31)))) fun w3 => F_Mod_goneAtLast_69 r7 r16 a1 a2 (nI 1) a4 w3)))) else (F_Mod_goneAtLast_69 r7 r16 a1 a2 a3 a4 w))
def L_Mod_goneAtLast_16 (r7 : Int32 → Int32 → Int32 → am_W → Option (Int32 × am_W)) : Nat → Int32 → Int32 → Int32 → Int32 → am_W → Option (Int32 × am_W)
  | 0, _, _, _, _, _ => none
  | n + 1, a1, a2, a3, a4, w => F_Mod_goneAtLast_16 r7 (L_Mod_goneAtLast_16 r7 n) a1 a2 a3 a4 w
def F_Mod_goneAtLast_7 (r7 : Int32 → Int32 → Int32 → am_W → Option (Int32 × am_W)) (a1 : Int32) (a2 : Int32) (a3 : Int32) (w : am_W) : Option (Int32 × am_W) :=
  if a3 = 0 then (am_lt (wsf w 53 4 a2) fun w1 => some ((w.1 53 4), w1)) else (L_Mod_goneAtLast_16 r7 am_NF a1 a2 (nI 0) (nI 0) w)
def L_Mod_goneAtLast_7 : Nat → Int32 → Int32 → Int32 → am_W → Option (Int32 × am_W)
  | 0, _, _, _, _ => none
  | n + 1, a1, a2, a3, w => F_Mod_goneAtLast_7 (L_Mod_goneAtLast_7 n) a1 a2 a3 w
def F_Mod_goneAtLast (a1 : Int32) (w : am_W) : Option (Int32 × am_W) :=
  L_Mod_goneAtLast_7 am_NF a1 (w.1 53 4) (nI 1) w
theorem T_Mod_goneAtLast_69 {D : Nat} {o : Int32 × am_W} {r7 : Int32 → Int32 → Int32 → am_W → Option (Int32 × am_W)} {r16 : Int32 → Int32 → Int32 → Int32 → am_W → Option (Int32 × am_W)} (Hr7 : ∀ (a1 : Int32) (a2 : Int32) (a3 : Int32) (w : am_W) , r7 a1 a2 a3 w = some o → am_gi (D + 5) 189 o (7, [(0, .ref 53), (1, .int a1), (2, .int a2), (3, .int a3)], [], ww w, 0, 0)) (Hr16 : ∀ (a1 : Int32) (a2 : Int32) (a3 : Int32) (a4 : Int32) (w : am_W) , r16 a1 a2 a3 a4 w = some o → am_gi (D + 5) 189 o (16, [(0, .ref 53), (1, .int a1), (2, .int a2), (3, .int a3), (4, .int a4)], [], ww w, 0, 0)) (a1 : Int32) (a2 : Int32) (a3 : Int32) (a4 : Int32) (w : am_W) (H : F_Mod_goneAtLast_69 r7 r16 a1 a2 a3 a4 w = some o) : am_gi (D + 5) 189 o (69, [(0, .ref 53), (1, .int a1), (2, .int a2), (3, .int a3), (4, .int a4)], [], ww w, 0, 0) := by
  unfold F_Mod_goneAtLast_69 at H
  exact am_go_blk 2 (Hr16 a1 a2 a3 (a4 + (nI 1)) w H)
theorem T_Mod_goneAtLast_16 {D : Nat} {o : Int32 × am_W} {r7 : Int32 → Int32 → Int32 → am_W → Option (Int32 × am_W)} {r16 : Int32 → Int32 → Int32 → Int32 → am_W → Option (Int32 × am_W)} (Hr7 : ∀ (a1 : Int32) (a2 : Int32) (a3 : Int32) (w : am_W) , r7 a1 a2 a3 w = some o → am_gi (D + 5) 189 o (7, [(0, .ref 53), (1, .int a1), (2, .int a2), (3, .int a3)], [], ww w, 0, 0)) (Hr16 : ∀ (a1 : Int32) (a2 : Int32) (a3 : Int32) (a4 : Int32) (w : am_W) , r16 a1 a2 a3 a4 w = some o → am_gi (D + 5) 189 o (16, [(0, .ref 53), (1, .int a1), (2, .int a2), (3, .int a3), (4, .int a4)], [], ww w, 0, 0)) (a1 : Int32) (a2 : Int32) (a3 : Int32) (a4 : Int32) (w : am_W) (H : F_Mod_goneAtLast_16 r7 r16 a1 a2 a3 a4 w = some o) : am_gi (D + 5) 189 o (16, [(0, .ref 53), (1, .int a1), (2, .int a2), (3, .int a3), (4, .int a4)], [], ww w, 0, 0) := by
  unfold F_Mod_goneAtLast_16 at H
  refine am_go_blk 4 ⟨fun hc => ?_, fun hc => ?_⟩
  · have H := am_it hc H
    show am_gi (D + 5) 189 o (75, [(0, .ref 53), (1, .int a1), (2, .int a2), (3, .int a3)], [], ww w, 0, 0)
    exact am_go_blk 1 (Hr7 a1 a2 a3 w H)
  · have H := am_ie hc H
    show am_gi (D + 5) 189 o (25, [(0, .ref 53), (1, .int a1), (2, .int a2), (3, .int a3), (4, .int a4)], [], ww w, 0, 0)
    refine am_go_blk 6 ⟨fun hc => ?_, fun hc => ?_⟩
    · have H := am_ie hc H
      exact T_Mod_goneAtLast_69 Hr7 Hr16 a1 a2 a3 a4 w H
    · have H := am_it hc H
      show am_gi (D + 5) 189 o (34, [(0, .ref 53), (1, .int a1), (2, .int a2), (3, .int a3), (4, .int a4)], [], ww w, 0, 0)
      obtain ⟨hc, H⟩ := am_ckE H
      refine am_go_blk 4 ⟨am_inv hc, (?_ : am_gi (D + 5) 189 o (41, [(0, .ref 53), (1, .int a1), (2, .int a2), (3, .int a3), (4, .int a4)], [.int (w.1 54 a4.toNatClampNeg)], ww w, 0, 0))⟩
      refine am_go_blk 2 ⟨fun hc => ?_, fun hc => ?_⟩
      · have H := am_it hc H
        exact T_Mod_goneAtLast_69 Hr7 Hr16 a1 a2 a3 a4 w H
      · have H := am_ie hc H
        show am_gi (D + 5) 189 o (45, [(0, .ref 53), (1, .int a1), (2, .int a2), (3, .int a3), (4, .int a4)], [], ww w, 0, 0)
        obtain ⟨q2, hqq2, H⟩ := am_bnE H
        refine am_go_blk 2 (?_ : am_gi (D + 5) 189 o (48, [(0, .ref 53), (1, .int a1), (2, .int a2), (3, .int a3), (4, .int a4)], [.int a4, .ref 53], ww w, 0, 0))
        refine am_invd rfl rfl rfl rfl (am_calli rfl (M_Mod_canGo (D := D) hqq2) (?_ : am_gi (D + 5) 189 o (51, [(0, .ref 53), (1, .int a1), (2, .int a2), (3, .int a3), (4, .int a4)], [.int q2.1], ww q2.2, 0, 0)))
        refine am_go_blk 1 ⟨fun hc => ?_, fun hc => ?_⟩
        · have H := am_it hc H
          exact T_Mod_goneAtLast_69 Hr7 Hr16 a1 a2 a3 a4 q2.2 H
        · have H := am_ie hc H
          show am_gi (D + 5) 189 o (54, [(0, .ref 53), (1, .int a1), (2, .int a2), (3, .int a3), (4, .int a4)], [], ww q2.2, 0, 0)
          obtain ⟨w3, ew3, H⟩ := am_ltE H
          refine am_go_blk 8 ⟨rfl, rfl, am_hp (ww_f53_4 ew3) (?_ : am_gi (D + 5) 189 o (67, [(0, .ref 53), (1, .int a1), (2, .int a2), (3, .int a3), (4, .int a4)], [], ww w3, 0, 0))⟩
          exact am_go_blk 2 (T_Mod_goneAtLast_69 Hr7 Hr16 a1 a2 (nI 1) a4 w3 H)
theorem TL_Mod_goneAtLast_16 {D : Nat} {o : Int32 × am_W} {r7 : Int32 → Int32 → Int32 → am_W → Option (Int32 × am_W)} (Hr7 : ∀ (a1 : Int32) (a2 : Int32) (a3 : Int32) (w : am_W) , r7 a1 a2 a3 w = some o → am_gi (D + 5) 189 o (7, [(0, .ref 53), (1, .int a1), (2, .int a2), (3, .int a3)], [], ww w, 0, 0)) : ∀ (n : Nat) (a1 : Int32) (a2 : Int32) (a3 : Int32) (a4 : Int32) (w : am_W) , L_Mod_goneAtLast_16 r7 n a1 a2 a3 a4 w = some o → am_gi (D + 5) 189 o (16, [(0, .ref 53), (1, .int a1), (2, .int a2), (3, .int a3), (4, .int a4)], [], ww w, 0, 0)
  | 0, _, _, _, _, _, H => by cases H
  | n + 1, a1, a2, a3, a4, w, H => T_Mod_goneAtLast_16 Hr7 (TL_Mod_goneAtLast_16 Hr7 n) a1 a2 a3 a4 w H
theorem T_Mod_goneAtLast_7 {D : Nat} {o : Int32 × am_W} {r7 : Int32 → Int32 → Int32 → am_W → Option (Int32 × am_W)} (Hr7 : ∀ (a1 : Int32) (a2 : Int32) (a3 : Int32) (w : am_W) , r7 a1 a2 a3 w = some o → am_gi (D + 5) 189 o (7, [(0, .ref 53), (1, .int a1), (2, .int a2), (3, .int a3)], [], ww w, 0, 0)) (a1 : Int32) (a2 : Int32) (a3 : Int32) (w : am_W) (H : F_Mod_goneAtLast_7 r7 a1 a2 a3 w = some o) : am_gi (D + 5) 189 o (7, [(0, .ref 53), (1, .int a1), (2, .int a2), (3, .int a3)], [], ww w, 0, 0) := by
  unfold F_Mod_goneAtLast_7 at H
  refine am_go_blk 2 ⟨fun hc => ?_, fun hc => ?_⟩
  · have H := am_it hc H
    show am_gi (D + 5) 189 o (78, [(0, .ref 53), (2, .int a2)], [], ww w, 0, 0)
    obtain ⟨w1, ew1, H⟩ := am_ltE H
    refine am_go_blk 6 ⟨rfl, rfl, am_hp (ww_f53_4 ew1) (?_ : am_gi (D + 5) 189 o (89, [(4, .int (w.1 53 4)), (0, .ref 53), (2, .int a2)], [], ww w1, 0, 0))⟩
    exact am_go_blk 2 ⟨rfl, am_fi H⟩
  · have H := am_ie hc H
    show am_gi (D + 5) 189 o (11, [(0, .ref 53), (1, .int a1), (2, .int a2), (3, .int a3)], [], ww w, 0, 0)
    exact am_go_blk 4 (TL_Mod_goneAtLast_16 Hr7 am_NF a1 a2 (nI 0) (nI 0) w H)
theorem TL_Mod_goneAtLast_7 {D : Nat} {o : Int32 × am_W} : ∀ (n : Nat) (a1 : Int32) (a2 : Int32) (a3 : Int32) (w : am_W) , L_Mod_goneAtLast_7 n a1 a2 a3 w = some o → am_gi (D + 5) 189 o (7, [(0, .ref 53), (1, .int a1), (2, .int a2), (3, .int a3)], [], ww w, 0, 0)
  | 0, _, _, _, _, H => by cases H
  | n + 1, a1, a2, a3, w, H => T_Mod_goneAtLast_7 (TL_Mod_goneAtLast_7 n) a1 a2 a3 w H
theorem T_Mod_goneAtLast {D : Nat} {o : Int32 × am_W} (a1 : Int32) (w : am_W) (H : F_Mod_goneAtLast a1 w = some o) : am_gi (D + 5) 189 o (0, [(0, .ref 53), (1, .int a1)], [], ww w, 0, 0) := by
  unfold F_Mod_goneAtLast at H
  exact am_go_blk 5 (TL_Mod_goneAtLast_7 am_NF a1 (w.1 53 4) (nI 1) w H)
theorem M_Mod_goneAtLast {D : Nat} {o : Int32 × am_W} {a1 : Int32} {w : am_W} (H : F_Mod_goneAtLast a1 w = some o) : am_run (D + 6) 189 [.ref 53, .int a1] (ww w) (some (.int o.1)) (ww o.2) 0 0 :=
  am_run_of rfl (T_Mod_goneAtLast a1 w H)
def F_Mod_never (w : am_W) : Option (Int32 × am_W) :=
  (F_Mod_everything w).bind fun q1 => (F_Mod_goneAtLast (nI 0) q1.2).bind fun q2 => some ((q1.1 &&& (q2.1 ^^^ (-nI 1))), q2.2)
theorem T_Mod_never {D : Nat} {o : Int32 × am_W} (w : am_W) (H : F_Mod_never w = some o) : am_gi (D + 6) 190 o (0, [(0, .ref 53)], [], ww w, 0, 0) := by
  unfold F_Mod_never at H
  obtain ⟨q1, hqq1, H⟩ := am_bnE H
  refine am_go_blk 1 (?_ : am_gi (D + 6) 190 o (1, [(0, .ref 53)], [.ref 53], ww w, 0, 0))
  refine am_invd rfl rfl rfl rfl (am_calli rfl (M_Mod_everything (D := D + 5) hqq1) (?_ : am_gi (D + 6) 190 o (4, [(0, .ref 53)], [.int q1.1], ww q1.2, 0, 0)))
  obtain ⟨q2, hqq2, H⟩ := am_bnE H
  refine am_go_blk 2 (?_ : am_gi (D + 6) 190 o (6, [(0, .ref 53)], [.int (nI 0), .ref 53, .int q1.1], ww q1.2, 0, 0))
  refine am_invd rfl rfl rfl rfl (am_calli rfl (M_Mod_goneAtLast (D := D) hqq2) (?_ : am_gi (D + 6) 190 o (9, [(0, .ref 53)], [.int q2.1, .int q1.1], ww q2.2, 0, 0)))
  exact am_go_blk 4 ⟨rfl, am_fi H⟩
theorem M_Mod_never {D : Nat} {o : Int32 × am_W} {w : am_W} (H : F_Mod_never w = some o) : am_run (D + 7) 190 [.ref 53] (ww w) (some (.int o.1)) (ww o.2) 0 0 :=
  am_run_of rfl (T_Mod_never w H)
def F_Mod_countsOrders_126 (r38 : Int32 → Int32 → Int32 → am_W → Option (am_W)) (a1 : Int32) (a2 : Int32) (a3 : Int32) (w : am_W) : Option (am_W) :=
  r38 a1 a2 (a3 + (nI 1)) w
def F_Mod_countsOrders_120 (r38 : Int32 → Int32 → Int32 → am_W → Option (am_W)) (r54 : Int32 → Int32 → Int32 → Int32 → am_W → Option (am_W)) (a1 : Int32) (a2 : Int32) (a3 : Int32) (a4 : Int32) (w : am_W) : Option (am_W) :=
  r54 a1 a2 a3 (a4 + (nI 1)) w
def F_Mod_countsOrders_54 (r38 : Int32 → Int32 → Int32 → am_W → Option (am_W)) (r54 : Int32 → Int32 → Int32 → Int32 → am_W → Option (am_W)) (a1 : Int32) (a2 : Int32) (a3 : Int32) (a4 : Int32) (w : am_W) : Option (am_W) :=
  if (w.1 53 0) ≤ a4 then (F_Mod_countsOrders_126 r38 a1 a2 a3 w) else (am_ck (am_in a3 256) (if (lg_cmp (w.2.1 a3.toNatClampNeg) (lN 0)) ≤ 0 then (F_Mod_countsOrders_126 r38 a1 a2 a3 w) else (if a4 = a1 then (F_Mod_countsOrders_120 r38 r54 a1 a2 a3 a4 w) else (am_ck (am_in a4 8) (if (w.1 54 a4.toNatClampNeg) = (nI 5) then (F_Mod_countsOrders_120 r38 r54 a1 a2 a3 a4 w) else ((F_Mod_canGo a4 w).bind fun q4 => if q4.1 = 0 then (F_Mod_countsOrders_120 r38 r54 a1 a2 a3 a4 q4.2) else (am_ck (am_in (a3 ||| ((nI 1) <<< (a4 &&& 31))) 256) (am_ck (am_in a3 256) (am_ck (am_in (a3 ||| ((nI 1) <<< (a4 &&& 31))) 256) (am_lt (wsl q4.2 (a3 ||| ((nI 1) <<< (a4 &&& 31))) ((q4.2.2.1 (a3 ||| ((nI 1) <<< (a4 &&& 31))).toNatClampNeg) + (q4.2.2.1 a3.toNatClampNeg))) fun w5 => F_Mod_countsOrders_120 r38 r54 a1 a2 a3 a4 w5))))))))))
def L_Mod_countsOrders_54 (r38 : Int32 → Int32 → Int32 → am_W → Option (am_W)) : Nat → Int32 → Int32 → Int32 → Int32 → am_W → Option (am_W)
  | 0, _, _, _, _, _ => none
  | n + 1, a1, a2, a3, a4, w => F_Mod_countsOrders_54 r38 (L_Mod_countsOrders_54 r38 n) a1 a2 a3 a4 w
def F_Mod_countsOrders_38 (r38 : Int32 → Int32 → Int32 → am_W → Option (am_W)) (a1 : Int32) (a2 : Int32) (a3 : Int32) (w : am_W) : Option (am_W) :=
  (F_Mod_everything w).bind fun q1 => if q1.1 < a3 then (am_lt (wsf q1.2 53 4 a2) fun w2 => some w2) else (am_lt (wsf q1.2 53 4 a3) fun w3 => L_Mod_countsOrders_54 r38 am_NF a1 a2 a3 (nI 0) w3)
def L_Mod_countsOrders_38 : Nat → Int32 → Int32 → Int32 → am_W → Option (am_W)
  | 0, _, _, _, _ => none
  | n + 1, a1, a2, a3, w => F_Mod_countsOrders_38 (L_Mod_countsOrders_38 n) a1 a2 a3 w
def F_Mod_countsOrders_29 (r7 : Int32 → Int32 → Int32 → am_W → Option (am_W)) (a1 : Int32) (a2 : Int32) (a3 : Int32) (s0 : Int64) (s1 : Int32) (w : am_W) : Option (am_W) :=
  am_ck (am_in s1 256) (am_lt (wsl w s1 s0) fun w6 => r7 a1 a2 (a3 + (nI 1)) w6)
def F_Mod_countsOrders_7 (r7 : Int32 → Int32 → Int32 → am_W → Option (am_W)) (a1 : Int32) (a2 : Int32) (a3 : Int32) (w : am_W) : Option (am_W) :=
  if (nI 256) ≤ a3 then (L_Mod_countsOrders_38 am_NF a1 a2 a2 w) else (if a3 = a2 then (F_Mod_countsOrders_29 r7 a1 a2 a3 (lN 1) a3 w) else (F_Mod_countsOrders_29 r7 a1 a2 a3 (lN 0) a3 w))
def L_Mod_countsOrders_7 : Nat → Int32 → Int32 → Int32 → am_W → Option (am_W)
  | 0, _, _, _, _ => none
  | n + 1, a1, a2, a3, w => F_Mod_countsOrders_7 (L_Mod_countsOrders_7 n) a1 a2 a3 w
def F_Mod_countsOrders (a1 : Int32) (w : am_W) : Option (am_W) :=
  L_Mod_countsOrders_7 am_NF a1 (w.1 53 4) (nI 0) w
theorem T_Mod_countsOrders_126 {D : Nat} {o : am_W} {r38 : Int32 → Int32 → Int32 → am_W → Option (am_W)} (Hr38 : ∀ (a1 : Int32) (a2 : Int32) (a3 : Int32) (w : am_W) , r38 a1 a2 a3 w = some o → am_gv (D + 5) 191 o (38, [(0, .ref 53), (1, .int a1), (2, .int a2), (3, .int a3)], [], ww w, 0, 0)) (a1 : Int32) (a2 : Int32) (a3 : Int32) (w : am_W) (H : F_Mod_countsOrders_126 r38 a1 a2 a3 w = some o) : am_gv (D + 5) 191 o (126, [(0, .ref 53), (1, .int a1), (2, .int a2), (3, .int a3)], [], ww w, 0, 0) := by
  unfold F_Mod_countsOrders_126 at H
  exact am_go_blk 2 (Hr38 a1 a2 (a3 + (nI 1)) w H)
theorem T_Mod_countsOrders_120 {D : Nat} {o : am_W} {r38 : Int32 → Int32 → Int32 → am_W → Option (am_W)} {r54 : Int32 → Int32 → Int32 → Int32 → am_W → Option (am_W)} (Hr38 : ∀ (a1 : Int32) (a2 : Int32) (a3 : Int32) (w : am_W) , r38 a1 a2 a3 w = some o → am_gv (D + 5) 191 o (38, [(0, .ref 53), (1, .int a1), (2, .int a2), (3, .int a3)], [], ww w, 0, 0)) (Hr54 : ∀ (a1 : Int32) (a2 : Int32) (a3 : Int32) (a4 : Int32) (w : am_W) , r54 a1 a2 a3 a4 w = some o → am_gv (D + 5) 191 o (54, [(0, .ref 53), (1, .int a1), (2, .int a2), (3, .int a3), (4, .int a4)], [], ww w, 0, 0)) (a1 : Int32) (a2 : Int32) (a3 : Int32) (a4 : Int32) (w : am_W) (H : F_Mod_countsOrders_120 r38 r54 a1 a2 a3 a4 w = some o) : am_gv (D + 5) 191 o (120, [(0, .ref 53), (1, .int a1), (2, .int a2), (3, .int a3), (4, .int a4)], [], ww w, 0, 0) := by
  unfold F_Mod_countsOrders_120 at H
  exact am_go_blk 2 (Hr54 a1 a2 a3 (a4 + (nI 1)) w H)
theorem T_Mod_countsOrders_54 {D : Nat} {o : am_W} {r38 : Int32 → Int32 → Int32 → am_W → Option (am_W)} {r54 : Int32 → Int32 → Int32 → Int32 → am_W → Option (am_W)} (Hr38 : ∀ (a1 : Int32) (a2 : Int32) (a3 : Int32) (w : am_W) , r38 a1 a2 a3 w = some o → am_gv (D + 5) 191 o (38, [(0, .ref 53), (1, .int a1), (2, .int a2), (3, .int a3)], [], ww w, 0, 0)) (Hr54 : ∀ (a1 : Int32) (a2 : Int32) (a3 : Int32) (a4 : Int32) (w : am_W) , r54 a1 a2 a3 a4 w = some o → am_gv (D + 5) 191 o (54, [(0, .ref 53), (1, .int a1), (2, .int a2), (3, .int a3), (4, .int a4)], [], ww w, 0, 0)) (a1 : Int32) (a2 : Int32) (a3 : Int32) (a4 : Int32) (w : am_W) (H : F_Mod_countsOrders_54 r38 r54 a1 a2 a3 a4 w = some o) : am_gv (D + 5) 191 o (54, [(0, .ref 53), (1, .int a1), (2, .int a2), (3, .int a3), (4, .int a4)], [], ww w, 0, 0) := by
  unfold F_Mod_countsOrders_54 at H
  refine am_go_blk 4 ⟨fun hc => ?_, fun hc => ?_⟩
  · have H := am_it hc H
    exact T_Mod_countsOrders_126 Hr38 a1 a2 a3 w H
  · have H := am_ie hc H
    show am_gv (D + 5) 191 o (63, [(0, .ref 53), (1, .int a1), (2, .int a2), (3, .int a3), (4, .int a4)], [], ww w, 0, 0)
    obtain ⟨hc, H⟩ := am_ckE H
    refine am_go_blk 4 ⟨am_inv hc, (?_ : am_gv (D + 5) 191 o (69, [(0, .ref 53), (1, .int a1), (2, .int a2), (3, .int a3), (4, .int a4)], [.long (w.2.1 a3.toNatClampNeg)], ww w, 0, 0))⟩
    refine am_go_blk 3 ⟨fun hc => ?_, fun hc => ?_⟩
    · have H := am_it hc H
      exact T_Mod_countsOrders_126 Hr38 a1 a2 a3 w H
    · have H := am_ie hc H
      show am_gv (D + 5) 191 o (74, [(0, .ref 53), (1, .int a1), (2, .int a2), (3, .int a3), (4, .int a4)], [], ww w, 0, 0)
      refine am_go_blk 3 ⟨fun hc => ?_, fun hc => ?_⟩
      · have H := am_it hc H
        exact T_Mod_countsOrders_120 Hr38 Hr54 a1 a2 a3 a4 w H
      · have H := am_ie hc H
        show am_gv (D + 5) 191 o (80, [(0, .ref 53), (1, .int a1), (2, .int a2), (3, .int a3), (4, .int a4)], [], ww w, 0, 0)
        obtain ⟨hc, H⟩ := am_ckE H
        refine am_go_blk 4 ⟨am_inv hc, (?_ : am_gv (D + 5) 191 o (87, [(0, .ref 53), (1, .int a1), (2, .int a2), (3, .int a3), (4, .int a4)], [.int (w.1 54 a4.toNatClampNeg)], ww w, 0, 0))⟩
        refine am_go_blk 2 ⟨fun hc => ?_, fun hc => ?_⟩
        · have H := am_it hc H
          exact T_Mod_countsOrders_120 Hr38 Hr54 a1 a2 a3 a4 w H
        · have H := am_ie hc H
          show am_gv (D + 5) 191 o (91, [(0, .ref 53), (1, .int a1), (2, .int a2), (3, .int a3), (4, .int a4)], [], ww w, 0, 0)
          obtain ⟨q4, hqq4, H⟩ := am_bnE H
          refine am_go_blk 2 (?_ : am_gv (D + 5) 191 o (94, [(0, .ref 53), (1, .int a1), (2, .int a2), (3, .int a3), (4, .int a4)], [.int a4, .ref 53], ww w, 0, 0))
          refine am_invd rfl rfl rfl rfl (am_calli rfl (M_Mod_canGo (D := D) hqq4) (?_ : am_gv (D + 5) 191 o (97, [(0, .ref 53), (1, .int a1), (2, .int a2), (3, .int a3), (4, .int a4)], [.int q4.1], ww q4.2, 0, 0)))
          refine am_go_blk 1 ⟨fun hc => ?_, fun hc => ?_⟩
          · have H := am_it hc H
            exact T_Mod_countsOrders_120 Hr38 Hr54 a1 a2 a3 a4 q4.2 H
          · have H := am_ie hc H
            show am_gv (D + 5) 191 o (100, [(0, .ref 53), (1, .int a1), (2, .int a2), (3, .int a3), (4, .int a4)], [], ww q4.2, 0, 0)
            obtain ⟨hc, H⟩ := am_ckE H
            refine am_go_blk 9 ⟨am_inv hc, (?_ : am_gv (D + 5) 191 o (112, [(0, .ref 53), (1, .int a1), (2, .int a2), (3, .int a3), (4, .int a4)], [.long (q4.2.2.1 (a3 ||| ((nI 1) <<< (a4 &&& 31))).toNatClampNeg), .int (a3 ||| ((nI 1) <<< (a4 &&& 31))), .ref 70], ww q4.2, 0, 0))⟩
            obtain ⟨hc, H⟩ := am_ckE H
            refine am_go_blk 4 ⟨am_inv hc, (?_ : am_gv (D + 5) 191 o (118, [(0, .ref 53), (1, .int a1), (2, .int a2), (3, .int a3), (4, .int a4)], [.long (q4.2.2.1 a3.toNatClampNeg), .long (q4.2.2.1 (a3 ||| ((nI 1) <<< (a4 &&& 31))).toNatClampNeg), .int (a3 ||| ((nI 1) <<< (a4 &&& 31))), .ref 70], ww q4.2, 0, 0))⟩
            obtain ⟨hc, H⟩ := am_ckE H
            obtain ⟨w5, ew5, H⟩ := am_ltE H
            refine am_go_blk 2 ⟨am_inv hc, am_hp (ww_s70 ew5) (?_ : am_gv (D + 5) 191 o (120, [(0, .ref 53), (1, .int a1), (2, .int a2), (3, .int a3), (4, .int a4)], [], ww w5, 0, 0))⟩
            exact T_Mod_countsOrders_120 Hr38 Hr54 a1 a2 a3 a4 w5 H
theorem TL_Mod_countsOrders_54 {D : Nat} {o : am_W} {r38 : Int32 → Int32 → Int32 → am_W → Option (am_W)} (Hr38 : ∀ (a1 : Int32) (a2 : Int32) (a3 : Int32) (w : am_W) , r38 a1 a2 a3 w = some o → am_gv (D + 5) 191 o (38, [(0, .ref 53), (1, .int a1), (2, .int a2), (3, .int a3)], [], ww w, 0, 0)) : ∀ (n : Nat) (a1 : Int32) (a2 : Int32) (a3 : Int32) (a4 : Int32) (w : am_W) , L_Mod_countsOrders_54 r38 n a1 a2 a3 a4 w = some o → am_gv (D + 5) 191 o (54, [(0, .ref 53), (1, .int a1), (2, .int a2), (3, .int a3), (4, .int a4)], [], ww w, 0, 0)
  | 0, _, _, _, _, _, H => by cases H
  | n + 1, a1, a2, a3, a4, w, H => T_Mod_countsOrders_54 Hr38 (TL_Mod_countsOrders_54 Hr38 n) a1 a2 a3 a4 w H
theorem T_Mod_countsOrders_38 {D : Nat} {o : am_W} {r38 : Int32 → Int32 → Int32 → am_W → Option (am_W)} (Hr38 : ∀ (a1 : Int32) (a2 : Int32) (a3 : Int32) (w : am_W) , r38 a1 a2 a3 w = some o → am_gv (D + 5) 191 o (38, [(0, .ref 53), (1, .int a1), (2, .int a2), (3, .int a3)], [], ww w, 0, 0)) (a1 : Int32) (a2 : Int32) (a3 : Int32) (w : am_W) (H : F_Mod_countsOrders_38 r38 a1 a2 a3 w = some o) : am_gv (D + 5) 191 o (38, [(0, .ref 53), (1, .int a1), (2, .int a2), (3, .int a3)], [], ww w, 0, 0) := by
  unfold F_Mod_countsOrders_38 at H
  obtain ⟨q1, hqq1, H⟩ := am_bnE H
  refine am_go_blk 2 (?_ : am_gv (D + 5) 191 o (40, [(0, .ref 53), (1, .int a1), (2, .int a2), (3, .int a3)], [.ref 53, .int a3], ww w, 0, 0))
  refine am_invd rfl rfl rfl rfl (am_calli rfl (M_Mod_everything (D := D + 4) hqq1) (?_ : am_gv (D + 5) 191 o (43, [(0, .ref 53), (1, .int a1), (2, .int a2), (3, .int a3)], [.int q1.1, .int a3], ww q1.2, 0, 0)))
  refine am_go_blk 1 ⟨fun hc => ?_, fun hc => ?_⟩
  · have H := am_it hc H
    show am_gv (D + 5) 191 o (132, [(0, .ref 53), (2, .int a2)], [], ww q1.2, 0, 0)
    obtain ⟨w2, ew2, H⟩ := am_ltE H
    refine am_go_blk 3 ⟨rfl, rfl, am_hp (ww_f53_4 ew2) (?_ : am_gv (D + 5) 191 o (137, [(0, .ref 53), (2, .int a2)], [], ww w2, 0, 0))⟩
    exact am_go_blk 1 (am_fv H)
  · have H := am_ie hc H
    show am_gv (D + 5) 191 o (46, [(0, .ref 53), (1, .int a1), (2, .int a2), (3, .int a3)], [], ww q1.2, 0, 0)
    obtain ⟨w3, ew3, H⟩ := am_ltE H
    refine am_go_blk 3 ⟨rfl, rfl, am_hp (ww_f53_4 ew3) (?_ : am_gv (D + 5) 191 o (51, [(0, .ref 53), (1, .int a1), (2, .int a2), (3, .int a3)], [], ww w3, 0, 0))⟩
    exact am_go_blk 2 (TL_Mod_countsOrders_54 Hr38 am_NF a1 a2 a3 (nI 0) w3 H)
theorem TL_Mod_countsOrders_38 {D : Nat} {o : am_W} : ∀ (n : Nat) (a1 : Int32) (a2 : Int32) (a3 : Int32) (w : am_W) , L_Mod_countsOrders_38 n a1 a2 a3 w = some o → am_gv (D + 5) 191 o (38, [(0, .ref 53), (1, .int a1), (2, .int a2), (3, .int a3)], [], ww w, 0, 0)
  | 0, _, _, _, _, H => by cases H
  | n + 1, a1, a2, a3, w, H => T_Mod_countsOrders_38 (TL_Mod_countsOrders_38 n) a1 a2 a3 w H
theorem T_Mod_countsOrders_29 {D : Nat} {o : am_W} {r7 : Int32 → Int32 → Int32 → am_W → Option (am_W)} (Hr7 : ∀ (a1 : Int32) (a2 : Int32) (a3 : Int32) (w : am_W) , r7 a1 a2 a3 w = some o → am_gv (D + 5) 191 o (7, [(0, .ref 53), (1, .int a1), (2, .int a2), (3, .int a3)], [], ww w, 0, 0)) (a1 : Int32) (a2 : Int32) (a3 : Int32) (s0 : Int64) (s1 : Int32) (w : am_W) (H : F_Mod_countsOrders_29 r7 a1 a2 a3 s0 s1 w = some o) : am_gv (D + 5) 191 o (29, [(0, .ref 53), (1, .int a1), (2, .int a2), (3, .int a3)], [.long s0, .int s1, .ref 70], ww w, 0, 0) := by
  unfold F_Mod_countsOrders_29 at H
  obtain ⟨hc, H⟩ := am_ckE H
  obtain ⟨w6, ew6, H⟩ := am_ltE H
  refine am_go_blk 1 ⟨am_inv hc, am_hp (ww_s70 ew6) (?_ : am_gv (D + 5) 191 o (30, [(0, .ref 53), (1, .int a1), (2, .int a2), (3, .int a3)], [], ww w6, 0, 0))⟩
  exact am_go_blk 2 (Hr7 a1 a2 (a3 + (nI 1)) w6 H)
theorem T_Mod_countsOrders_7 {D : Nat} {o : am_W} {r7 : Int32 → Int32 → Int32 → am_W → Option (am_W)} (Hr7 : ∀ (a1 : Int32) (a2 : Int32) (a3 : Int32) (w : am_W) , r7 a1 a2 a3 w = some o → am_gv (D + 5) 191 o (7, [(0, .ref 53), (1, .int a1), (2, .int a2), (3, .int a3)], [], ww w, 0, 0)) (a1 : Int32) (a2 : Int32) (a3 : Int32) (w : am_W) (H : F_Mod_countsOrders_7 r7 a1 a2 a3 w = some o) : am_gv (D + 5) 191 o (7, [(0, .ref 53), (1, .int a1), (2, .int a2), (3, .int a3)], [], ww w, 0, 0) := by
  unfold F_Mod_countsOrders_7 at H
  refine am_go_blk 3 ⟨fun hc => ?_, fun hc => ?_⟩
  · have H := am_it hc H
    show am_gv (D + 5) 191 o (36, [(0, .ref 53), (1, .int a1), (2, .int a2)], [], ww w, 0, 0)
    exact am_go_blk 2 (TL_Mod_countsOrders_38 am_NF a1 a2 a2 w H)
  · have H := am_ie hc H
    show am_gv (D + 5) 191 o (14, [(0, .ref 53), (1, .int a1), (2, .int a2), (3, .int a3)], [], ww w, 0, 0)
    refine am_go_blk 6 ⟨fun hc => ?_, fun hc => ?_⟩
    · have H := am_ie hc H
      show am_gv (D + 5) 191 o (28, [(0, .ref 53), (1, .int a1), (2, .int a2), (3, .int a3)], [.int a3, .ref 70], ww w, 0, 0)
      exact am_go_blk 1 (T_Mod_countsOrders_29 Hr7 a1 a2 a3 (lN 0) a3 w H)
    · have H := am_it hc H
      show am_gv (D + 5) 191 o (24, [(0, .ref 53), (1, .int a1), (2, .int a2), (3, .int a3)], [.int a3, .ref 70], ww w, 0, 0)
      exact am_go_blk 2 (T_Mod_countsOrders_29 Hr7 a1 a2 a3 (lN 1) a3 w H)
theorem TL_Mod_countsOrders_7 {D : Nat} {o : am_W} : ∀ (n : Nat) (a1 : Int32) (a2 : Int32) (a3 : Int32) (w : am_W) , L_Mod_countsOrders_7 n a1 a2 a3 w = some o → am_gv (D + 5) 191 o (7, [(0, .ref 53), (1, .int a1), (2, .int a2), (3, .int a3)], [], ww w, 0, 0)
  | 0, _, _, _, _, H => by cases H
  | n + 1, a1, a2, a3, w, H => T_Mod_countsOrders_7 (TL_Mod_countsOrders_7 n) a1 a2 a3 w H
theorem T_Mod_countsOrders {D : Nat} {o : am_W} (a1 : Int32) (w : am_W) (H : F_Mod_countsOrders a1 w = some o) : am_gv (D + 5) 191 o (0, [(0, .ref 53), (1, .int a1)], [], ww w, 0, 0) := by
  unfold F_Mod_countsOrders at H
  exact am_go_blk 5 (TL_Mod_countsOrders_7 am_NF a1 (w.1 53 4) (nI 0) w H)
theorem M_Mod_countsOrders {D : Nat} {o : am_W} {a1 : Int32} {w : am_W} (H : F_Mod_countsOrders a1 w = some o) : am_run (D + 6) 191 [.ref 53, .int a1] (ww w) none (ww o) 0 0 :=
  am_run_of rfl (T_Mod_countsOrders a1 w H)
def F_Mod_isFreeBehind (a1 : Int32) (a2 : Int32) (w : am_W) : Option (Int32 × am_W) :=
  am_lt (wsf w 53 4 a2) fun w1 => (F_Mod_canGo a1 w1).bind fun q2 => am_lt (wsf q2.2 53 4 (w.1 53 4)) fun w3 => am_ck (am_bo q2.1) (some (q2.1, w3))
theorem T_Mod_isFreeBehind {D : Nat} {o : Int32 × am_W} (a1 : Int32) (a2 : Int32) (w : am_W) (H : F_Mod_isFreeBehind a1 a2 w = some o) : am_gi (D + 5) 192 o (0, [(0, .ref 53), (1, .int a1), (2, .int a2)], [], ww w, 0, 0) := by
  unfold F_Mod_isFreeBehind at H
  obtain ⟨w1, ew1, H⟩ := am_ltE H
  refine am_go_blk 6 ⟨rfl, rfl, am_hp (ww_f53_4 ew1) (?_ : am_gi (D + 5) 192 o (10, [(3, .int (w.1 53 4)), (0, .ref 53), (1, .int a1), (2, .int a2)], [], ww w1, 0, 0))⟩
  obtain ⟨q2, hqq2, H⟩ := am_bnE H
  refine am_go_blk 2 (?_ : am_gi (D + 5) 192 o (12, [(3, .int (w.1 53 4)), (0, .ref 53), (1, .int a1), (2, .int a2)], [.int a1, .ref 53], ww w1, 0, 0))
  refine am_invd rfl rfl rfl rfl (am_calli rfl (M_Mod_canGo (D := D) hqq2) (?_ : am_gi (D + 5) 192 o (15, [(3, .int (w.1 53 4)), (0, .ref 53), (1, .int a1), (2, .int a2)], [.int q2.1], ww q2.2, 0, 0)))
  obtain ⟨w3, ew3, H⟩ := am_ltE H
  refine am_go_blk 4 ⟨rfl, rfl, am_hp (ww_f53_4 ew3) (?_ : am_gi (D + 5) 192 o (22, [(4, .int q2.1), (3, .int (w.1 53 4)), (0, .ref 53), (1, .int a1), (2, .int a2)], [], ww w3, 0, 0))⟩
  obtain ⟨hc, H⟩ := am_ckE H
  exact am_go_blk 2 ⟨am_boE hc, am_fi H⟩
theorem M_Mod_isFreeBehind {D : Nat} {o : Int32 × am_W} {a1 : Int32} {a2 : Int32} {w : am_W} (H : F_Mod_isFreeBehind a1 a2 w = some o) : am_run (D + 6) 192 [.ref 53, .int a1, .int a2] (ww w) (some (.int o.1)) (ww o.2) 0 0 :=
  am_run_of rfl (T_Mod_isFreeBehind a1 a2 w H)
def F_Mod_fewestFor_69 (r9 : Int32 → Int32 → Int32 → am_W → Option (Int32 × am_W)) (a1 : Int32) (a2 : Int32) (a3 : Int32) (w : am_W) : Option (Int32 × am_W) :=
  r9 a1 a2 (a3 + (nI 1)) w
def F_Mod_fewestFor_68 (r9 : Int32 → Int32 → Int32 → am_W → Option (Int32 × am_W)) (a1 : Int32) (a3 : Int32) (s0 : Int32) (w : am_W) : Option (Int32 × am_W) :=
  F_Mod_fewestFor_69 r9 a1 s0 a3 w
def F_Mod_fewestFor_62 (r9 : Int32 → Int32 → Int32 → am_W → Option (Int32 × am_W)) (a1 : Int32) (a3 : Int32) (a4 : Int32) (w : am_W) : Option (Int32 × am_W) :=
  F_Mod_fewestFor_68 r9 a1 a3 a4 w
def F_Mod_fewestFor_9 (r9 : Int32 → Int32 → Int32 → am_W → Option (Int32 × am_W)) (a1 : Int32) (a2 : Int32) (a3 : Int32) (w : am_W) : Option (Int32 × am_W) :=
  (F_Mod_everything w).bind fun q2 => if q2.1 < a3 then (some (a2, q2.2)) else (am_ck (am_in a3 256) (if (lg_cmp (q2.2.2.1 a3.toNatClampNeg) (lN 0)) ≤ 0 then (F_Mod_fewestFor_69 r9 a1 a2 a3 q2.2) else ((F_Mod_isFreeBehind a1 a3 q2.2).bind fun q3 => if q3.1 = 0 then (F_Mod_fewestFor_69 r9 a1 a2 a3 q3.2) else ((F_Mod_ones a3 q3.2).bind fun q4 => (F_Mod_ones (q4.2.1 53 4) q4.2).bind fun q5 => if a2 = (-nI 1) then (F_Mod_fewestFor_62 r9 a1 a3 (q4.1 - q5.1) q5.2) else (if a2 ≤ (q4.1 - q5.1) then (F_Mod_fewestFor_68 r9 a1 a3 a2 q5.2) else (F_Mod_fewestFor_62 r9 a1 a3 (q4.1 - q5.1) q5.2))))))
def L_Mod_fewestFor_9 : Nat → Int32 → Int32 → Int32 → am_W → Option (Int32 × am_W)
  | 0, _, _, _, _ => none
  | n + 1, a1, a2, a3, w => F_Mod_fewestFor_9 (L_Mod_fewestFor_9 n) a1 a2 a3 w
def F_Mod_fewestFor (a1 : Int32) (w : am_W) : Option (Int32 × am_W) :=
  (F_Mod_countsOrders a1 w).bind fun w1 => L_Mod_fewestFor_9 am_NF a1 (-nI 1) (nI 0) w1
theorem T_Mod_fewestFor_69 {D : Nat} {o : Int32 × am_W} {r9 : Int32 → Int32 → Int32 → am_W → Option (Int32 × am_W)} (Hr9 : ∀ (a1 : Int32) (a2 : Int32) (a3 : Int32) (w : am_W) , r9 a1 a2 a3 w = some o → am_gi (D + 6) 193 o (9, [(0, .ref 53), (1, .int a1), (2, .int a2), (3, .int a3)], [], ww w, 0, 0)) (a1 : Int32) (a2 : Int32) (a3 : Int32) (w : am_W) (H : F_Mod_fewestFor_69 r9 a1 a2 a3 w = some o) : am_gi (D + 6) 193 o (69, [(0, .ref 53), (1, .int a1), (2, .int a2), (3, .int a3)], [], ww w, 0, 0) := by
  unfold F_Mod_fewestFor_69 at H
  exact am_go_blk 2 (Hr9 a1 a2 (a3 + (nI 1)) w H)
theorem T_Mod_fewestFor_68 {D : Nat} {o : Int32 × am_W} {r9 : Int32 → Int32 → Int32 → am_W → Option (Int32 × am_W)} (Hr9 : ∀ (a1 : Int32) (a2 : Int32) (a3 : Int32) (w : am_W) , r9 a1 a2 a3 w = some o → am_gi (D + 6) 193 o (9, [(0, .ref 53), (1, .int a1), (2, .int a2), (3, .int a3)], [], ww w, 0, 0)) (a1 : Int32) (a3 : Int32) (s0 : Int32) (w : am_W) (H : F_Mod_fewestFor_68 r9 a1 a3 s0 w = some o) : am_gi (D + 6) 193 o (68, [(0, .ref 53), (1, .int a1), (3, .int a3)], [.int s0], ww w, 0, 0) := by
  unfold F_Mod_fewestFor_68 at H
  exact am_go_blk 1 (T_Mod_fewestFor_69 Hr9 a1 s0 a3 w H)
theorem T_Mod_fewestFor_62 {D : Nat} {o : Int32 × am_W} {r9 : Int32 → Int32 → Int32 → am_W → Option (Int32 × am_W)} (Hr9 : ∀ (a1 : Int32) (a2 : Int32) (a3 : Int32) (w : am_W) , r9 a1 a2 a3 w = some o → am_gi (D + 6) 193 o (9, [(0, .ref 53), (1, .int a1), (2, .int a2), (3, .int a3)], [], ww w, 0, 0)) (a1 : Int32) (a3 : Int32) (a4 : Int32) (w : am_W) (H : F_Mod_fewestFor_62 r9 a1 a3 a4 w = some o) : am_gi (D + 6) 193 o (62, [(0, .ref 53), (1, .int a1), (3, .int a3), (4, .int a4)], [], ww w, 0, 0) := by
  unfold F_Mod_fewestFor_62 at H
  exact am_go_blk 2 (T_Mod_fewestFor_68 Hr9 a1 a3 a4 w H)
theorem T_Mod_fewestFor_9 {D : Nat} {o : Int32 × am_W} {r9 : Int32 → Int32 → Int32 → am_W → Option (Int32 × am_W)} (Hr9 : ∀ (a1 : Int32) (a2 : Int32) (a3 : Int32) (w : am_W) , r9 a1 a2 a3 w = some o → am_gi (D + 6) 193 o (9, [(0, .ref 53), (1, .int a1), (2, .int a2), (3, .int a3)], [], ww w, 0, 0)) (a1 : Int32) (a2 : Int32) (a3 : Int32) (w : am_W) (H : F_Mod_fewestFor_9 r9 a1 a2 a3 w = some o) : am_gi (D + 6) 193 o (9, [(0, .ref 53), (1, .int a1), (2, .int a2), (3, .int a3)], [], ww w, 0, 0) := by
  unfold F_Mod_fewestFor_9 at H
  obtain ⟨q2, hqq2, H⟩ := am_bnE H
  refine am_go_blk 2 (?_ : am_gi (D + 6) 193 o (11, [(0, .ref 53), (1, .int a1), (2, .int a2), (3, .int a3)], [.ref 53, .int a3], ww w, 0, 0))
  refine am_invd rfl rfl rfl rfl (am_calli rfl (M_Mod_everything (D := D + 5) hqq2) (?_ : am_gi (D + 6) 193 o (14, [(0, .ref 53), (1, .int a1), (2, .int a2), (3, .int a3)], [.int q2.1, .int a3], ww q2.2, 0, 0)))
  refine am_go_blk 1 ⟨fun hc => ?_, fun hc => ?_⟩
  · have H := am_it hc H
    show am_gi (D + 6) 193 o (75, [(2, .int a2)], [], ww q2.2, 0, 0)
    exact am_go_blk 2 ⟨rfl, am_fi H⟩
  · have H := am_ie hc H
    show am_gi (D + 6) 193 o (17, [(0, .ref 53), (1, .int a1), (2, .int a2), (3, .int a3)], [], ww q2.2, 0, 0)
    obtain ⟨hc, H⟩ := am_ckE H
    refine am_go_blk 4 ⟨am_inv hc, (?_ : am_gi (D + 6) 193 o (23, [(0, .ref 53), (1, .int a1), (2, .int a2), (3, .int a3)], [.long (q2.2.2.1 a3.toNatClampNeg)], ww q2.2, 0, 0))⟩
    refine am_go_blk 3 ⟨fun hc => ?_, fun hc => ?_⟩
    · have H := am_it hc H
      exact T_Mod_fewestFor_69 Hr9 a1 a2 a3 q2.2 H
    · have H := am_ie hc H
      show am_gi (D + 6) 193 o (28, [(0, .ref 53), (1, .int a1), (2, .int a2), (3, .int a3)], [], ww q2.2, 0, 0)
      obtain ⟨q3, hqq3, H⟩ := am_bnE H
      refine am_go_blk 3 (?_ : am_gi (D + 6) 193 o (31, [(0, .ref 53), (1, .int a1), (2, .int a2), (3, .int a3)], [.int a3, .int a1, .ref 53], ww q2.2, 0, 0))
      refine am_invd rfl rfl rfl rfl (am_calli rfl (M_Mod_isFreeBehind (D := D) hqq3) (?_ : am_gi (D + 6) 193 o (34, [(0, .ref 53), (1, .int a1), (2, .int a2), (3, .int a3)], [.int q3.1], ww q3.2, 0, 0)))
      refine am_go_blk 1 ⟨fun hc => ?_, fun hc => ?_⟩
      · have H := am_it hc H
        exact T_Mod_fewestFor_69 Hr9 a1 a2 a3 q3.2 H
      · have H := am_ie hc H
        show am_gi (D + 6) 193 o (37, [(0, .ref 53), (1, .int a1), (2, .int a2), (3, .int a3)], [], ww q3.2, 0, 0)
        obtain ⟨q4, hqq4, H⟩ := am_bnE H
        refine am_go_blk 1 (?_ : am_gi (D + 6) 193 o (38, [(0, .ref 53), (1, .int a1), (2, .int a2), (3, .int a3)], [.int a3], ww q3.2, 0, 0))
        refine am_cls rfl rfl rfl (am_calli rfl (M_Mod_ones (D := D + 5) hqq4) (?_ : am_gi (D + 6) 193 o (41, [(0, .ref 53), (1, .int a1), (2, .int a2), (3, .int a3)], [.int q4.1], ww q4.2, 0, 0)))
        obtain ⟨q5, hqq5, H⟩ := am_bnE H
        refine am_go_blk 2 (?_ : am_gi (D + 6) 193 o (45, [(0, .ref 53), (1, .int a1), (2, .int a2), (3, .int a3)], [.int (q4.2.1 53 4), .int q4.1], ww q4.2, 0, 0))
        refine am_cls rfl rfl rfl (am_calli rfl (M_Mod_ones (D := D + 5) hqq5) (?_ : am_gi (D + 6) 193 o (48, [(0, .ref 53), (1, .int a1), (2, .int a2), (3, .int a3)], [.int q5.1, .int q4.1], ww q5.2, 0, 0)))
        refine am_go_blk 5 ⟨fun hc => ?_, fun hc => ?_⟩
        · have H := am_it hc H
          exact T_Mod_fewestFor_62 Hr9 a1 a3 (q4.1 - q5.1) q5.2 H
        · have H := am_ie hc H
          show am_gi (D + 6) 193 o (56, [(4, .int (q4.1 - q5.1)), (0, .ref 53), (1, .int a1), (2, .int a2), (3, .int a3)], [], ww q5.2, 0, 0)
          refine am_go_blk 3 ⟨fun hc => ?_, fun hc => ?_⟩
          · have H := am_it hc H
            show am_gi (D + 6) 193 o (67, [(0, .ref 53), (1, .int a1), (2, .int a2), (3, .int a3)], [], ww q5.2, 0, 0)
            exact am_go_blk 1 (T_Mod_fewestFor_68 Hr9 a1 a3 a2 q5.2 H)
          · have H := am_ie hc H
            exact T_Mod_fewestFor_62 Hr9 a1 a3 (q4.1 - q5.1) q5.2 H
theorem TL_Mod_fewestFor_9 {D : Nat} {o : Int32 × am_W} : ∀ (n : Nat) (a1 : Int32) (a2 : Int32) (a3 : Int32) (w : am_W) , L_Mod_fewestFor_9 n a1 a2 a3 w = some o → am_gi (D + 6) 193 o (9, [(0, .ref 53), (1, .int a1), (2, .int a2), (3, .int a3)], [], ww w, 0, 0)
  | 0, _, _, _, _, H => by cases H
  | n + 1, a1, a2, a3, w, H => T_Mod_fewestFor_9 (TL_Mod_fewestFor_9 n) a1 a2 a3 w H
theorem T_Mod_fewestFor {D : Nat} {o : Int32 × am_W} (a1 : Int32) (w : am_W) (H : F_Mod_fewestFor a1 w = some o) : am_gi (D + 6) 193 o (0, [(0, .ref 53), (1, .int a1)], [], ww w, 0, 0) := by
  unfold F_Mod_fewestFor at H
  obtain ⟨w1, hqw1, H⟩ := am_bnE H
  refine am_go_blk 2 (?_ : am_gi (D + 6) 193 o (2, [(0, .ref 53), (1, .int a1)], [.int a1, .ref 53], ww w, 0, 0))
  refine am_invd rfl rfl rfl rfl (am_callv rfl (M_Mod_countsOrders (D := D) hqw1) (?_ : am_gi (D + 6) 193 o (5, [(0, .ref 53), (1, .int a1)], [], ww w1, 0, 0)))
  exact am_go_blk 4 (TL_Mod_fewestFor_9 am_NF a1 (-nI 1) (nI 0) w1 H)
theorem M_Mod_fewestFor {D : Nat} {o : Int32 × am_W} {a1 : Int32} {w : am_W} (H : F_Mod_fewestFor a1 w = some o) : am_run (D + 7) 193 [.ref 53, .int a1] (ww w) (some (.int o.1)) (ww o.2) 0 0 :=
  am_run_of rfl (T_Mod_fewestFor a1 w H)
def F_Mod_neededFor_64 (r4 : Int32 → Int32 → Int32 → am_W → Option (Int32 × am_W)) (a1 : Int32) (a3 : Int32) (s0 : Int32) (s1 : Int32) (w : am_W) : Option (Int32 × am_W) :=
  r4 a1 (s1 ||| s0) (a3 + (nI 1)) w
def F_Mod_neededFor_49 (r4 : Int32 → Int32 → Int32 → am_W → Option (Int32 × am_W)) (a1 : Int32) (a2 : Int32) (a3 : Int32) (s0 : Int32) (w : am_W) : Option (Int32 × am_W) :=
  if s0 = 0 then (F_Mod_neededFor_64 r4 a1 a3 (nI 0) a2 w) else (F_Mod_neededFor_64 r4 a1 a3 ((nI 1) <<< (a3 &&& 31)) a2 w)
def F_Mod_neededFor_48 (r4 : Int32 → Int32 → Int32 → am_W → Option (Int32 × am_W)) (a1 : Int32) (a2 : Int32) (a3 : Int32) (w : am_W) : Option (Int32 × am_W) :=
  F_Mod_neededFor_49 r4 a1 a2 a3 (nI 0) w
def F_Mod_neededFor_4 (r4 : Int32 → Int32 → Int32 → am_W → Option (Int32 × am_W)) (a1 : Int32) (a2 : Int32) (a3 : Int32) (w : am_W) : Option (Int32 × am_W) :=
  if (w.1 53 0) ≤ a3 then (some (a2, w)) else (if a3 = a1 then (F_Mod_neededFor_48 r4 a1 a2 a3 w) else ((F_Mod_isGone a3 w).bind fun q1 => if q1.1 = 0 then ((F_Mod_goneAtLast (((nI 1) <<< (a1 &&& 31)) ||| ((nI 1) <<< (a3 &&& 31))) q1.2).bind fun q2 => (F_Mod_isFreeBehind a1 q2.1 q2.2).bind fun q3 => if q3.1 = 0 then (F_Mod_neededFor_49 r4 a1 a2 a3 (nI 1) q3.2) else (F_Mod_neededFor_48 r4 a1 a2 a3 q3.2)) else (F_Mod_neededFor_48 r4 a1 a2 a3 q1.2)))
def L_Mod_neededFor_4 : Nat → Int32 → Int32 → Int32 → am_W → Option (Int32 × am_W)
  | 0, _, _, _, _ => none
  | n + 1, a1, a2, a3, w => F_Mod_neededFor_4 (L_Mod_neededFor_4 n) a1 a2 a3 w
def F_Mod_neededFor (a1 : Int32) (w : am_W) : Option (Int32 × am_W) :=
  L_Mod_neededFor_4 am_NF a1 (nI 0) (nI 0) w
theorem T_Mod_neededFor_64 {D : Nat} {o : Int32 × am_W} {r4 : Int32 → Int32 → Int32 → am_W → Option (Int32 × am_W)} (Hr4 : ∀ (a1 : Int32) (a2 : Int32) (a3 : Int32) (w : am_W) , r4 a1 a2 a3 w = some o → am_gi (D + 6) 194 o (4, [(0, .ref 53), (1, .int a1), (2, .int a2), (3, .int a3)], [], ww w, 0, 0)) (a1 : Int32) (a3 : Int32) (s0 : Int32) (s1 : Int32) (w : am_W) (H : F_Mod_neededFor_64 r4 a1 a3 s0 s1 w = some o) : am_gi (D + 6) 194 o (64, [(0, .ref 53), (1, .int a1), (3, .int a3)], [.int s0, .int s1], ww w, 0, 0) := by
  unfold F_Mod_neededFor_64 at H
  exact am_go_blk 4 (Hr4 a1 (s1 ||| s0) (a3 + (nI 1)) w H)
theorem T_Mod_neededFor_49 {D : Nat} {o : Int32 × am_W} {r4 : Int32 → Int32 → Int32 → am_W → Option (Int32 × am_W)} (Hr4 : ∀ (a1 : Int32) (a2 : Int32) (a3 : Int32) (w : am_W) , r4 a1 a2 a3 w = some o → am_gi (D + 6) 194 o (4, [(0, .ref 53), (1, .int a1), (2, .int a2), (3, .int a3)], [], ww w, 0, 0)) (a1 : Int32) (a2 : Int32) (a3 : Int32) (s0 : Int32) (w : am_W) (H : F_Mod_neededFor_49 r4 a1 a2 a3 s0 w = some o) : am_gi (D + 6) 194 o (49, [(0, .ref 53), (1, .int a1), (2, .int a2), (3, .int a3)], [.int s0], ww w, 0, 0) := by
  unfold F_Mod_neededFor_49 at H
  refine am_go_blk 4 ⟨fun hc => ?_, fun hc => ?_⟩
  · have H := am_it hc H
    show am_gi (D + 6) 194 o (63, [(0, .ref 53), (1, .int a1), (3, .int a3)], [.int a2], ww w, 0, 0)
    exact am_go_blk 1 (T_Mod_neededFor_64 Hr4 a1 a3 (nI 0) a2 w H)
  · have H := am_ie hc H
    show am_gi (D + 6) 194 o (57, [(4, .int s0), (0, .ref 53), (1, .int a1), (2, .int a2), (3, .int a3)], [.int a2], ww w, 0, 0)
    exact am_go_blk 4 (T_Mod_neededFor_64 Hr4 a1 a3 ((nI 1) <<< (a3 &&& 31)) a2 w H)
theorem T_Mod_neededFor_48 {D : Nat} {o : Int32 × am_W} {r4 : Int32 → Int32 → Int32 → am_W → Option (Int32 × am_W)} (Hr4 : ∀ (a1 : Int32) (a2 : Int32) (a3 : Int32) (w : am_W) , r4 a1 a2 a3 w = some o → am_gi (D + 6) 194 o (4, [(0, .ref 53), (1, .int a1), (2, .int a2), (3, .int a3)], [], ww w, 0, 0)) (a1 : Int32) (a2 : Int32) (a3 : Int32) (w : am_W) (H : F_Mod_neededFor_48 r4 a1 a2 a3 w = some o) : am_gi (D + 6) 194 o (48, [(0, .ref 53), (1, .int a1), (2, .int a2), (3, .int a3)], [], ww w, 0, 0) := by
  unfold F_Mod_neededFor_48 at H
  exact am_go_blk 1 (T_Mod_neededFor_49 Hr4 a1 a2 a3 (nI 0) w H)
theorem T_Mod_neededFor_4 {D : Nat} {o : Int32 × am_W} {r4 : Int32 → Int32 → Int32 → am_W → Option (Int32 × am_W)} (Hr4 : ∀ (a1 : Int32) (a2 : Int32) (a3 : Int32) (w : am_W) , r4 a1 a2 a3 w = some o → am_gi (D + 6) 194 o (4, [(0, .ref 53), (1, .int a1), (2, .int a2), (3, .int a3)], [], ww w, 0, 0)) (a1 : Int32) (a2 : Int32) (a3 : Int32) (w : am_W) (H : F_Mod_neededFor_4 r4 a1 a2 a3 w = some o) : am_gi (D + 6) 194 o (4, [(0, .ref 53), (1, .int a1), (2, .int a2), (3, .int a3)], [], ww w, 0, 0) := by
  unfold F_Mod_neededFor_4 at H
  refine am_go_blk 4 ⟨fun hc => ?_, fun hc => ?_⟩
  · have H := am_it hc H
    show am_gi (D + 6) 194 o (72, [(2, .int a2)], [], ww w, 0, 0)
    exact am_go_blk 2 ⟨rfl, am_fi H⟩
  · have H := am_ie hc H
    show am_gi (D + 6) 194 o (12, [(0, .ref 53), (1, .int a1), (2, .int a2), (3, .int a3)], [], ww w, 0, 0)
    refine am_go_blk 3 ⟨fun hc => ?_, fun hc => ?_⟩
    · have H := am_it hc H
      exact T_Mod_neededFor_48 Hr4 a1 a2 a3 w H
    · have H := am_ie hc H
      show am_gi (D + 6) 194 o (17, [(0, .ref 53), (1, .int a1), (2, .int a2), (3, .int a3)], [], ww w, 0, 0)
      obtain ⟨q1, hqq1, H⟩ := am_bnE H
      refine am_go_blk 2 (?_ : am_gi (D + 6) 194 o (19, [(0, .ref 53), (1, .int a1), (2, .int a2), (3, .int a3)], [.int a3, .ref 53], ww w, 0, 0))
      refine am_invd rfl rfl rfl rfl (am_calli rfl (M_Mod_isGone (D := D + 5) hqq1) (?_ : am_gi (D + 6) 194 o (22, [(0, .ref 53), (1, .int a1), (2, .int a2), (3, .int a3)], [.int q1.1], ww q1.2, 0, 0)))
      refine am_go_blk 1 ⟨fun hc => ?_, fun hc => ?_⟩
      · have H := am_ie hc H
        exact T_Mod_neededFor_48 Hr4 a1 a2 a3 q1.2 H
      · have H := am_it hc H
        show am_gi (D + 6) 194 o (25, [(0, .ref 53), (1, .int a1), (2, .int a2), (3, .int a3)], [], ww q1.2, 0, 0)
        obtain ⟨q2, hqq2, H⟩ := am_bnE H
        refine am_go_blk 10 (?_ : am_gi (D + 6) 194 o (35, [(0, .ref 53), (1, .int a1), (2, .int a2), (3, .int a3)], [.int (((nI 1) <<< (a1 &&& 31)) ||| ((nI 1) <<< (a3 &&& 31))), .ref 53, .int a1, .ref 53], ww q1.2, 0, 0))
        refine am_invd rfl rfl rfl rfl (am_calli rfl (M_Mod_goneAtLast (D := D) hqq2) (?_ : am_gi (D + 6) 194 o (38, [(0, .ref 53), (1, .int a1), (2, .int a2), (3, .int a3)], [.int q2.1, .int a1, .ref 53], ww q2.2, 0, 0)))
        obtain ⟨q3, hqq3, H⟩ := am_bnE H
        refine am_invd rfl rfl rfl rfl (am_calli rfl (M_Mod_isFreeBehind (D := D) hqq3) (?_ : am_gi (D + 6) 194 o (41, [(0, .ref 53), (1, .int a1), (2, .int a2), (3, .int a3)], [.int q3.1], ww q3.2, 0, 0)))
        refine am_go_blk 1 ⟨fun hc => ?_, fun hc => ?_⟩
        · have H := am_ie hc H
          exact T_Mod_neededFor_48 Hr4 a1 a2 a3 q3.2 H
        · have H := am_it hc H
          show am_gi (D + 6) 194 o (44, [(0, .ref 53), (1, .int a1), (2, .int a2), (3, .int a3)], [], ww q3.2, 0, 0)
          exact am_go_blk 2 (T_Mod_neededFor_49 Hr4 a1 a2 a3 (nI 1) q3.2 H)
theorem TL_Mod_neededFor_4 {D : Nat} {o : Int32 × am_W} : ∀ (n : Nat) (a1 : Int32) (a2 : Int32) (a3 : Int32) (w : am_W) , L_Mod_neededFor_4 n a1 a2 a3 w = some o → am_gi (D + 6) 194 o (4, [(0, .ref 53), (1, .int a1), (2, .int a2), (3, .int a3)], [], ww w, 0, 0)
  | 0, _, _, _, _, H => by cases H
  | n + 1, a1, a2, a3, w, H => T_Mod_neededFor_4 (TL_Mod_neededFor_4 n) a1 a2 a3 w H
theorem T_Mod_neededFor {D : Nat} {o : Int32 × am_W} (a1 : Int32) (w : am_W) (H : F_Mod_neededFor a1 w = some o) : am_gi (D + 6) 194 o (0, [(0, .ref 53), (1, .int a1)], [], ww w, 0, 0) := by
  unfold F_Mod_neededFor at H
  exact am_go_blk 4 (TL_Mod_neededFor_4 am_NF a1 (nI 0) (nI 0) w H)
theorem M_Mod_neededFor {D : Nat} {o : Int32 × am_W} {a1 : Int32} {w : am_W} (H : F_Mod_neededFor a1 w = some o) : am_run (D + 7) 194 [.ref 53, .int a1] (ww w) (some (.int o.1)) (ww o.2) 0 0 :=
  am_run_of rfl (T_Mod_neededFor a1 w H)
def F_Mod_first_62 (s0 : Int32) (w : am_W) : Option (Int32 × am_W) :=
  some (s0, w)
def F_Mod_first (a1 : Int32) (a2 : Int32) (w : am_W) : Option (Int32 × am_W) :=
  (F_Mod_isThing a1 w).bind fun q1 => if q1.1 = 0 then (some ((-nI 5), q1.2)) else ((F_Mod_in a2 (nI 0) (nI 1) q1.2).bind fun q2 => if q2.1 = 0 then (some ((-nI 7), q2.2)) else ((F_Mod_isGone a1 q2.2).bind fun q3 => if q3.1 = 0 then ((F_Mod_fewestFor a1 q3.2).bind fun q4 => if q4.1 = (-nI 1) then (F_Mod_first_62 (-nI 1) q4.2) else (if a2 = 0 then ((F_Mod_neededFor a1 q4.2).bind fun q5 => F_Mod_first_62 q5.1 q5.2) else (F_Mod_first_62 q4.1 q4.2))) else (some ((-nI 3), q3.2))))
theorem T_Mod_first_62 {D : Nat} {o : Int32 × am_W} (s0 : Int32) (w : am_W) (H : F_Mod_first_62 s0 w = some o) : am_gi (D + 7) 195 o (62, [], [.int s0], ww w, 0, 0) := by
  unfold F_Mod_first_62 at H
  exact am_go_blk 1 ⟨rfl, am_fi H⟩
theorem T_Mod_first {D : Nat} {o : Int32 × am_W} (a1 : Int32) (a2 : Int32) (w : am_W) (H : F_Mod_first a1 a2 w = some o) : am_gi (D + 7) 195 o (0, [(0, .ref 53), (1, .int a1), (2, .int a2)], [], ww w, 0, 0) := by
  unfold F_Mod_first at H
  obtain ⟨q1, hqq1, H⟩ := am_bnE H
  refine am_go_blk 2 (?_ : am_gi (D + 7) 195 o (2, [(0, .ref 53), (1, .int a1), (2, .int a2)], [.int a1, .ref 53], ww w, 0, 0))
  refine am_invd rfl rfl rfl rfl (am_calli rfl (M_Mod_isThing (D := D + 5) hqq1) (?_ : am_gi (D + 7) 195 o (5, [(0, .ref 53), (1, .int a1), (2, .int a2)], [.int q1.1], ww q1.2, 0, 0)))
  refine am_go_blk 1 ⟨fun hc => ?_, fun hc => ?_⟩
  · have H := am_ie hc H
    show am_gi (D + 7) 195 o (11, [(0, .ref 53), (1, .int a1), (2, .int a2)], [], ww q1.2, 0, 0)
    obtain ⟨q2, hqq2, H⟩ := am_bnE H
    refine am_go_blk 3 (?_ : am_gi (D + 7) 195 o (14, [(0, .ref 53), (1, .int a1), (2, .int a2)], [.int (nI 1), .int (nI 0), .int a2], ww q1.2, 0, 0))
    refine am_cls rfl rfl rfl (am_calli rfl (M_Mod_in (D := D + 6) hqq2) (?_ : am_gi (D + 7) 195 o (17, [(0, .ref 53), (1, .int a1), (2, .int a2)], [.int q2.1], ww q2.2, 0, 0)))
    refine am_go_blk 1 ⟨fun hc => ?_, fun hc => ?_⟩
    · have H := am_ie hc H
      show am_gi (D + 7) 195 o (23, [(0, .ref 53), (1, .int a1), (2, .int a2)], [], ww q2.2, 0, 0)
      obtain ⟨q3, hqq3, H⟩ := am_bnE H
      refine am_go_blk 2 (?_ : am_gi (D + 7) 195 o (25, [(0, .ref 53), (1, .int a1), (2, .int a2)], [.int a1, .ref 53], ww q2.2, 0, 0))
      refine am_invd rfl rfl rfl rfl (am_calli rfl (M_Mod_isGone (D := D + 6) hqq3) (?_ : am_gi (D + 7) 195 o (28, [(0, .ref 53), (1, .int a1), (2, .int a2)], [.int q3.1], ww q3.2, 0, 0)))
      refine am_go_blk 1 ⟨fun hc => ?_, fun hc => ?_⟩
      · have H := am_it hc H
        show am_gi (D + 7) 195 o (34, [(0, .ref 53), (1, .int a1), (2, .int a2)], [], ww q3.2, 0, 0)
        obtain ⟨q4, hqq4, H⟩ := am_bnE H
        refine am_go_blk 2 (?_ : am_gi (D + 7) 195 o (36, [(0, .ref 53), (1, .int a1), (2, .int a2)], [.int a1, .ref 53], ww q3.2, 0, 0))
        refine am_invd rfl rfl rfl rfl (am_calli rfl (M_Mod_fewestFor (D := D) hqq4) (?_ : am_gi (D + 7) 195 o (39, [(0, .ref 53), (1, .int a1), (2, .int a2)], [.int q4.1], ww q4.2, 0, 0)))
        refine am_go_blk 4 ⟨fun hc => ?_, fun hc => ?_⟩
        · have H := am_ie hc H
          show am_gi (D + 7) 195 o (49, [(0, .ref 53), (1, .int a1), (2, .int a2), (3, .int q4.1)], [], ww q4.2, 0, 0)
          refine am_go_blk 2 ⟨fun hc => ?_, fun hc => ?_⟩
          · have H := am_ie hc H
            show am_gi (D + 7) 195 o (61, [(3, .int q4.1)], [], ww q4.2, 0, 0)
            exact am_go_blk 1 (T_Mod_first_62 q4.1 q4.2 H)
          · have H := am_it hc H
            show am_gi (D + 7) 195 o (53, [(0, .ref 53), (1, .int a1), (2, .int a2), (3, .int q4.1)], [], ww q4.2, 0, 0)
            obtain ⟨q5, hqq5, H⟩ := am_bnE H
            refine am_go_blk 2 (?_ : am_gi (D + 7) 195 o (55, [(0, .ref 53), (1, .int a1), (2, .int a2), (3, .int q4.1)], [.int a1, .ref 53], ww q4.2, 0, 0))
            refine am_invd rfl rfl rfl rfl (am_calli rfl (M_Mod_neededFor (D := D) hqq5) (?_ : am_gi (D + 7) 195 o (58, [(0, .ref 53), (1, .int a1), (2, .int a2), (3, .int q4.1)], [.int q5.1], ww q5.2, 0, 0)))
            exact am_go_blk 1 (T_Mod_first_62 q5.1 q5.2 H)
        · have H := am_it hc H
          show am_gi (D + 7) 195 o (45, [(3, .int q4.1), (0, .ref 53), (1, .int a1), (2, .int a2)], [], ww q4.2, 0, 0)
          exact am_go_blk 2 (T_Mod_first_62 (-nI 1) q4.2 H)
      · have H := am_ie hc H
        show am_gi (D + 7) 195 o (31, [(0, .ref 53), (1, .int a1), (2, .int a2)], [], ww q3.2, 0, 0)
        exact am_go_blk 2 ⟨rfl, am_fi H⟩
    · have H := am_it hc H
      show am_gi (D + 7) 195 o (20, [(0, .ref 53), (1, .int a1), (2, .int a2)], [], ww q2.2, 0, 0)
      exact am_go_blk 2 ⟨rfl, am_fi H⟩
  · have H := am_it hc H
    show am_gi (D + 7) 195 o (8, [(0, .ref 53), (1, .int a1), (2, .int a2)], [], ww q1.2, 0, 0)
    exact am_go_blk 2 ⟨rfl, am_fi H⟩
theorem M_Mod_first {D : Nat} {o : Int32 × am_W} {a1 : Int32} {a2 : Int32} {w : am_W} (H : F_Mod_first a1 a2 w = some o) : am_run (D + 8) 195 [.ref 53, .int a1, .int a2] (ww w) (some (.int o.1)) (ww o.2) 0 0 :=
  am_run_of rfl (T_Mod_first a1 a2 w H)
def F_Mod_ring_271 (s0 : Int32) (w : am_W) : Option (Int32 × am_W) :=
  some (s0, w)
def F_Mod_ring_233 (r71 : Int32 → Int32 → Int32 → Int32 → am_W → Option (Int32 × am_W)) (r83 : Int32 → Int32 → Int32 → Int32 → Int32 → am_W → Option (Int32 × am_W)) (r184 : Int32 → Int32 → Int32 → Int32 → Int32 → Int32 → Int32 → am_W → Option (Int32 × am_W)) (a1 : Int32) (a2 : Int32) (a3 : Int32) (a4 : Int32) (a5 : Int32) (a6 : Int32) (a8 : Int32) (w : am_W) : Option (Int32 × am_W) :=
  r184 a1 a2 a3 a4 a5 a6 (a8 + (nI 1)) w
def F_Mod_ring_184 (r71 : Int32 → Int32 → Int32 → Int32 → am_W → Option (Int32 × am_W)) (r83 : Int32 → Int32 → Int32 → Int32 → Int32 → am_W → Option (Int32 × am_W)) (r184 : Int32 → Int32 → Int32 → Int32 → Int32 → Int32 → Int32 → am_W → Option (Int32 × am_W)) (a1 : Int32) (a2 : Int32) (a3 : Int32) (a4 : Int32) (a5 : Int32) (a6 : Int32) (a8 : Int32) (w : am_W) : Option (Int32 × am_W) :=
  if (w.1 53 0) ≤ a8 then (r83 a1 a2 a3 a4 (a5 + (nI 1)) w) else (if ((a6 >>> (a8 &&& 31)) &&& (nI 1)) = (nI 1) then (if ((a4 >>> (a8 &&& 31)) &&& (nI 1)) = 0 then (am_ck (am_in (a4 ||| ((nI 1) <<< (a8 &&& 31))) 256) (am_ck (am_in (a4 ||| ((nI 1) <<< (a8 &&& 31))) 256) (am_lt (wst w 71 (a4 ||| ((nI 1) <<< (a8 &&& 31))) ((w.1 71 (a4 ||| ((nI 1) <<< (a8 &&& 31))).toNatClampNeg) ||| ((nI 1) <<< (a8 &&& 31)))) fun w5 => F_Mod_ring_233 r71 r83 r184 a1 a2 a3 a4 a5 a6 a8 w5))) else (F_Mod_ring_233 r71 r83 r184 a1 a2 a3 a4 a5 a6 a8 w)) else (F_Mod_ring_233 r71 r83 r184 a1 a2 a3 a4 a5 a6 a8 w))
def L_Mod_ring_184 (r71 : Int32 → Int32 → Int32 → Int32 → am_W → Option (Int32 × am_W)) (r83 : Int32 → Int32 → Int32 → Int32 → Int32 → am_W → Option (Int32 × am_W)) : Nat → Int32 → Int32 → Int32 → Int32 → Int32 → Int32 → Int32 → am_W → Option (Int32 × am_W)
  | 0, _, _, _, _, _, _, _, _ => none
  | n + 1, a1, a2, a3, a4, a5, a6, a8, w => F_Mod_ring_184 r71 r83 (L_Mod_ring_184 r71 r83 n) a1 a2 a3 a4 a5 a6 a8 w
def F_Mod_ring_180 (r71 : Int32 → Int32 → Int32 → Int32 → am_W → Option (Int32 × am_W)) (r83 : Int32 → Int32 → Int32 → Int32 → Int32 → am_W → Option (Int32 × am_W)) (a1 : Int32) (a2 : Int32) (a4 : Int32) (a5 : Int32) (a6 : Int32) (s0 : Int32) (w : am_W) : Option (Int32 × am_W) :=
  L_Mod_ring_184 r71 r83 am_NF a1 a2 s0 a4 a5 a6 (nI 0) w
def F_Mod_ring_179 (r71 : Int32 → Int32 → Int32 → Int32 → am_W → Option (Int32 × am_W)) (r83 : Int32 → Int32 → Int32 → Int32 → Int32 → am_W → Option (Int32 × am_W)) (a1 : Int32) (a2 : Int32) (a3 : Int32) (a4 : Int32) (a5 : Int32) (a6 : Int32) (w : am_W) : Option (Int32 × am_W) :=
  F_Mod_ring_180 r71 r83 a1 a2 a4 a5 a6 a3 w
def F_Mod_ring_174 (r71 : Int32 → Int32 → Int32 → Int32 → am_W → Option (Int32 × am_W)) (r83 : Int32 → Int32 → Int32 → Int32 → Int32 → am_W → Option (Int32 × am_W)) (a1 : Int32) (a2 : Int32) (a4 : Int32) (a5 : Int32) (a6 : Int32) (w : am_W) : Option (Int32 × am_W) :=
  F_Mod_ring_180 r71 r83 a1 a2 a4 a5 a6 a4 w
def F_Mod_ring_151 (r71 : Int32 → Int32 → Int32 → Int32 → am_W → Option (Int32 × am_W)) (r83 : Int32 → Int32 → Int32 → Int32 → Int32 → am_W → Option (Int32 × am_W)) (a1 : Int32) (a2 : Int32) (a3 : Int32) (a4 : Int32) (a5 : Int32) (a6 : Int32) (s0 : Int32) (w : am_W) : Option (Int32 × am_W) :=
  if s0 = 0 then (F_Mod_ring_179 r71 r83 a1 a2 a3 a4 a5 a6 w) else (if a3 = 0 then (F_Mod_ring_174 r71 r83 a1 a2 a4 a5 a6 w) else ((F_Mod_ones a4 w).bind fun q6 => (F_Mod_ones a3 q6.2).bind fun q7 => if q7.1 ≤ q6.1 then (F_Mod_ring_179 r71 r83 a1 a2 a3 a4 a5 a6 q7.2) else (F_Mod_ring_174 r71 r83 a1 a2 a4 a5 a6 q7.2)))
def F_Mod_ring_150 (r71 : Int32 → Int32 → Int32 → Int32 → am_W → Option (Int32 × am_W)) (r83 : Int32 → Int32 → Int32 → Int32 → Int32 → am_W → Option (Int32 × am_W)) (a1 : Int32) (a2 : Int32) (a3 : Int32) (a4 : Int32) (a5 : Int32) (a6 : Int32) (w : am_W) : Option (Int32 × am_W) :=
  F_Mod_ring_151 r71 r83 a1 a2 a3 a4 a5 a6 (nI 0) w
def F_Mod_ring_125 (r71 : Int32 → Int32 → Int32 → Int32 → am_W → Option (Int32 × am_W)) (r83 : Int32 → Int32 → Int32 → Int32 → Int32 → am_W → Option (Int32 × am_W)) (a1 : Int32) (a2 : Int32) (a3 : Int32) (a4 : Int32) (a5 : Int32) (s0 : Int32) (w : am_W) : Option (Int32 × am_W) :=
  if ((s0 >>> (a1 &&& 31)) &&& (nI 1)) = (nI 1) then ((F_Mod_ones a4 w).bind fun q8 => if q8.1 ≤ (nI 1) then (F_Mod_ring_150 r71 r83 a1 a2 a3 a4 a5 s0 q8.2) else (F_Mod_ring_151 r71 r83 a1 a2 a3 a4 a5 s0 (nI 1) q8.2)) else (F_Mod_ring_150 r71 r83 a1 a2 a3 a4 a5 s0 w)
def F_Mod_ring_83 (r71 : Int32 → Int32 → Int32 → Int32 → am_W → Option (Int32 × am_W)) (r83 : Int32 → Int32 → Int32 → Int32 → Int32 → am_W → Option (Int32 × am_W)) (a1 : Int32) (a2 : Int32) (a3 : Int32) (a4 : Int32) (a5 : Int32) (w : am_W) : Option (Int32 × am_W) :=
  if (w.1 53 0) ≤ a5 then (r71 a1 a2 a3 (a4 + (nI 1)) w) else (am_ck (am_in a4 256) (if (((w.1 71 a4.toNatClampNeg) >>> (a5 &&& 31)) &&& (nI 1)) = (nI 1) then ((F_Mod_waitsFor a5 w).bind fun q9 => F_Mod_ring_125 r71 r83 a1 a2 a3 a4 a5 (q9.1 &&& ((q9.2.1 53 4) ^^^ (-nI 1))) q9.2) else (F_Mod_ring_125 r71 r83 a1 a2 a3 a4 a5 (nI 0) w)))
def L_Mod_ring_83 (r71 : Int32 → Int32 → Int32 → Int32 → am_W → Option (Int32 × am_W)) : Nat → Int32 → Int32 → Int32 → Int32 → Int32 → am_W → Option (Int32 × am_W)
  | 0, _, _, _, _, _, _ => none
  | n + 1, a1, a2, a3, a4, a5, w => F_Mod_ring_83 r71 (L_Mod_ring_83 r71 n) a1 a2 a3 a4 a5 w
def F_Mod_ring_71 (r71 : Int32 → Int32 → Int32 → Int32 → am_W → Option (Int32 × am_W)) (a1 : Int32) (a2 : Int32) (a3 : Int32) (a4 : Int32) (w : am_W) : Option (Int32 × am_W) :=
  (F_Mod_everything w).bind fun q3 => if q3.1 < a4 then (if a3 = 0 then (F_Mod_ring_271 (-nI 1) q3.2) else (if a2 = 0 then ((F_Mod_ones a3 q3.2).bind fun q4 => F_Mod_ring_271 q4.1 q4.2) else (F_Mod_ring_271 a3 q3.2))) else (L_Mod_ring_83 r71 am_NF a1 a2 a3 a4 (nI 0) q3.2)
def L_Mod_ring_71 : Nat → Int32 → Int32 → Int32 → Int32 → am_W → Option (Int32 × am_W)
  | 0, _, _, _, _, _ => none
  | n + 1, a1, a2, a3, a4, w => F_Mod_ring_71 (L_Mod_ring_71 n) a1 a2 a3 a4 w
def F_Mod_ring_59 (r25 : Int32 → Int32 → Int32 → am_W → Option (Int32 × am_W)) (a1 : Int32) (a2 : Int32) (a3 : Int32) (s0 : Int32) (s1 : Int32) (w : am_W) : Option (Int32 × am_W) :=
  am_ck (am_in s1 256) (am_lt (wst w 71 s1 s0) fun w10 => r25 a1 a2 (a3 + (nI 1)) w10)
def F_Mod_ring_58 (r25 : Int32 → Int32 → Int32 → am_W → Option (Int32 × am_W)) (a1 : Int32) (a2 : Int32) (a3 : Int32) (s0 : Int32) (w : am_W) : Option (Int32 × am_W) :=
  F_Mod_ring_59 r25 a1 a2 a3 (nI 0) s0 w
def F_Mod_ring_25 (r25 : Int32 → Int32 → Int32 → am_W → Option (Int32 × am_W)) (a1 : Int32) (a2 : Int32) (a3 : Int32) (w : am_W) : Option (Int32 × am_W) :=
  if (nI 256) ≤ a3 then (L_Mod_ring_71 am_NF a1 a2 (nI 0) (nI 0) w) else (if a3 = ((nI 1) <<< (a1 &&& 31)) then ((F_Mod_isGone a1 w).bind fun q11 => if q11.1 = 0 then (F_Mod_ring_59 r25 a1 a2 a3 ((nI 1) <<< (a1 &&& 31)) a3 q11.2) else (F_Mod_ring_58 r25 a1 a2 a3 a3 q11.2)) else (F_Mod_ring_58 r25 a1 a2 a3 a3 w))
def L_Mod_ring_25 : Nat → Int32 → Int32 → Int32 → am_W → Option (Int32 × am_W)
  | 0, _, _, _, _ => none
  | n + 1, a1, a2, a3, w => F_Mod_ring_25 (L_Mod_ring_25 n) a1 a2 a3 w
def F_Mod_ring (a1 : Int32) (a2 : Int32) (w : am_W) : Option (Int32 × am_W) :=
  (F_Mod_isThing a1 w).bind fun q1 => if q1.1 = 0 then (some ((-nI 5), q1.2)) else ((F_Mod_in a2 (nI 0) (nI 1) q1.2).bind fun q2 => if q2.1 = 0 then (some ((-nI 7), q2.2)) else (L_Mod_ring_25 am_NF a1 a2 (nI 0) q2.2))
theorem T_Mod_ring_271 {D : Nat} {o : Int32 × am_W} (s0 : Int32) (w : am_W) (H : F_Mod_ring_271 s0 w = some o) : am_gi (D + 5) 196 o (271, [], [.int s0], ww w, 0, 0) := by
  unfold F_Mod_ring_271 at H
  exact am_go_blk 1 ⟨rfl, am_fi H⟩
theorem T_Mod_ring_233 {D : Nat} {o : Int32 × am_W} {r71 : Int32 → Int32 → Int32 → Int32 → am_W → Option (Int32 × am_W)} {r83 : Int32 → Int32 → Int32 → Int32 → Int32 → am_W → Option (Int32 × am_W)} {r184 : Int32 → Int32 → Int32 → Int32 → Int32 → Int32 → Int32 → am_W → Option (Int32 × am_W)} (Hr71 : ∀ (a1 : Int32) (a2 : Int32) (a3 : Int32) (a4 : Int32) (w : am_W) , r71 a1 a2 a3 a4 w = some o → am_gi (D + 5) 196 o (71, [(0, .ref 53), (1, .int a1), (2, .int a2), (3, .int a3), (4, .int a4)], [], ww w, 0, 0)) (Hr83 : ∀ (a1 : Int32) (a2 : Int32) (a3 : Int32) (a4 : Int32) (a5 : Int32) (w : am_W) , r83 a1 a2 a3 a4 a5 w = some o → am_gi (D + 5) 196 o (83, [(0, .ref 53), (1, .int a1), (2, .int a2), (3, .int a3), (4, .int a4), (5, .int a5)], [], ww w, 0, 0)) (Hr184 : ∀ (a1 : Int32) (a2 : Int32) (a3 : Int32) (a4 : Int32) (a5 : Int32) (a6 : Int32) (a8 : Int32) (w : am_W) , r184 a1 a2 a3 a4 a5 a6 a8 w = some o → am_gi (D + 5) 196 o (184, [(0, .ref 53), (1, .int a1), (2, .int a2), (3, .int a3), (4, .int a4), (5, .int a5), (6, .int a6), (8, .int a8)], [], ww w, 0, 0)) (a1 : Int32) (a2 : Int32) (a3 : Int32) (a4 : Int32) (a5 : Int32) (a6 : Int32) (a8 : Int32) (w : am_W) (H : F_Mod_ring_233 r71 r83 r184 a1 a2 a3 a4 a5 a6 a8 w = some o) : am_gi (D + 5) 196 o (233, [(0, .ref 53), (1, .int a1), (2, .int a2), (3, .int a3), (4, .int a4), (5, .int a5), (6, .int a6), (8, .int a8)], [], ww w, 0, 0) := by
  unfold F_Mod_ring_233 at H
  exact am_go_blk 2 (Hr184 a1 a2 a3 a4 a5 a6 (a8 + (nI 1)) w H)
theorem T_Mod_ring_184 {D : Nat} {o : Int32 × am_W} {r71 : Int32 → Int32 → Int32 → Int32 → am_W → Option (Int32 × am_W)} {r83 : Int32 → Int32 → Int32 → Int32 → Int32 → am_W → Option (Int32 × am_W)} {r184 : Int32 → Int32 → Int32 → Int32 → Int32 → Int32 → Int32 → am_W → Option (Int32 × am_W)} (Hr71 : ∀ (a1 : Int32) (a2 : Int32) (a3 : Int32) (a4 : Int32) (w : am_W) , r71 a1 a2 a3 a4 w = some o → am_gi (D + 5) 196 o (71, [(0, .ref 53), (1, .int a1), (2, .int a2), (3, .int a3), (4, .int a4)], [], ww w, 0, 0)) (Hr83 : ∀ (a1 : Int32) (a2 : Int32) (a3 : Int32) (a4 : Int32) (a5 : Int32) (w : am_W) , r83 a1 a2 a3 a4 a5 w = some o → am_gi (D + 5) 196 o (83, [(0, .ref 53), (1, .int a1), (2, .int a2), (3, .int a3), (4, .int a4), (5, .int a5)], [], ww w, 0, 0)) (Hr184 : ∀ (a1 : Int32) (a2 : Int32) (a3 : Int32) (a4 : Int32) (a5 : Int32) (a6 : Int32) (a8 : Int32) (w : am_W) , r184 a1 a2 a3 a4 a5 a6 a8 w = some o → am_gi (D + 5) 196 o (184, [(0, .ref 53), (1, .int a1), (2, .int a2), (3, .int a3), (4, .int a4), (5, .int a5), (6, .int a6), (8, .int a8)], [], ww w, 0, 0)) (a1 : Int32) (a2 : Int32) (a3 : Int32) (a4 : Int32) (a5 : Int32) (a6 : Int32) (a8 : Int32) (w : am_W) (H : F_Mod_ring_184 r71 r83 r184 a1 a2 a3 a4 a5 a6 a8 w = some o) : am_gi (D + 5) 196 o (184, [(0, .ref 53), (1, .int a1), (2, .int a2), (3, .int a3), (4, .int a4), (5, .int a5), (6, .int a6), (8, .int a8)], [], ww w, 0, 0) := by
  unfold F_Mod_ring_184 at H
  refine am_go_blk 4 ⟨fun hc => ?_, fun hc => ?_⟩
  · have H := am_it hc H
    show am_gi (D + 5) 196 o (239, [(0, .ref 53), (1, .int a1), (2, .int a2), (3, .int a3), (4, .int a4), (5, .int a5)], [], ww w, 0, 0)
    exact am_go_blk 2 (Hr83 a1 a2 a3 a4 (a5 + (nI 1)) w H)
  · have H := am_ie hc H
    show am_gi (D + 5) 196 o (193, [(0, .ref 53), (1, .int a1), (2, .int a2), (3, .int a3), (4, .int a4), (5, .int a5), (6, .int a6), (8, .int a8)], [], ww w, 0, 0)
    refine am_go_blk 7 ⟨fun hc => ?_, fun hc => ?_⟩
    · have H := am_ie hc H
      exact T_Mod_ring_233 Hr71 Hr83 Hr184 a1 a2 a3 a4 a5 a6 a8 w H
    · have H := am_it hc H
      show am_gi (D + 5) 196 o (204, [(0, .ref 53), (1, .int a1), (2, .int a2), (3, .int a3), (4, .int a4), (5, .int a5), (6, .int a6), (8, .int a8)], [], ww w, 0, 0)
      refine am_go_blk 6 ⟨fun hc => ?_, fun hc => ?_⟩
      · have H := am_ie hc H
        exact T_Mod_ring_233 Hr71 Hr83 Hr184 a1 a2 a3 a4 a5 a6 a8 w H
      · have H := am_it hc H
        show am_gi (D + 5) 196 o (214, [(0, .ref 53), (1, .int a1), (2, .int a2), (3, .int a3), (4, .int a4), (5, .int a5), (6, .int a6), (8, .int a8)], [], ww w, 0, 0)
        obtain ⟨hc, H⟩ := am_ckE H
        refine am_go_blk 9 ⟨am_inv hc, (?_ : am_gi (D + 5) 196 o (227, [(0, .ref 53), (1, .int a1), (2, .int a2), (3, .int a3), (4, .int a4), (5, .int a5), (6, .int a6), (8, .int a8)], [.int (w.1 71 (a4 ||| ((nI 1) <<< (a8 &&& 31))).toNatClampNeg), .int (a4 ||| ((nI 1) <<< (a8 &&& 31))), .ref 71], ww w, 0, 0))⟩
        obtain ⟨hc, H⟩ := am_ckE H
        obtain ⟨w5, ew5, H⟩ := am_ltE H
        refine am_go_blk 5 ⟨am_inv hc, am_hp (ww_s71 ew5) (?_ : am_gi (D + 5) 196 o (233, [(0, .ref 53), (1, .int a1), (2, .int a2), (3, .int a3), (4, .int a4), (5, .int a5), (6, .int a6), (8, .int a8)], [], ww w5, 0, 0))⟩
        exact T_Mod_ring_233 Hr71 Hr83 Hr184 a1 a2 a3 a4 a5 a6 a8 w5 H
theorem TL_Mod_ring_184 {D : Nat} {o : Int32 × am_W} {r71 : Int32 → Int32 → Int32 → Int32 → am_W → Option (Int32 × am_W)} {r83 : Int32 → Int32 → Int32 → Int32 → Int32 → am_W → Option (Int32 × am_W)} (Hr71 : ∀ (a1 : Int32) (a2 : Int32) (a3 : Int32) (a4 : Int32) (w : am_W) , r71 a1 a2 a3 a4 w = some o → am_gi (D + 5) 196 o (71, [(0, .ref 53), (1, .int a1), (2, .int a2), (3, .int a3), (4, .int a4)], [], ww w, 0, 0)) (Hr83 : ∀ (a1 : Int32) (a2 : Int32) (a3 : Int32) (a4 : Int32) (a5 : Int32) (w : am_W) , r83 a1 a2 a3 a4 a5 w = some o → am_gi (D + 5) 196 o (83, [(0, .ref 53), (1, .int a1), (2, .int a2), (3, .int a3), (4, .int a4), (5, .int a5)], [], ww w, 0, 0)) : ∀ (n : Nat) (a1 : Int32) (a2 : Int32) (a3 : Int32) (a4 : Int32) (a5 : Int32) (a6 : Int32) (a8 : Int32) (w : am_W) , L_Mod_ring_184 r71 r83 n a1 a2 a3 a4 a5 a6 a8 w = some o → am_gi (D + 5) 196 o (184, [(0, .ref 53), (1, .int a1), (2, .int a2), (3, .int a3), (4, .int a4), (5, .int a5), (6, .int a6), (8, .int a8)], [], ww w, 0, 0)
  | 0, _, _, _, _, _, _, _, _, H => by cases H
  | n + 1, a1, a2, a3, a4, a5, a6, a8, w, H => T_Mod_ring_184 Hr71 Hr83 (TL_Mod_ring_184 Hr71 Hr83 n) a1 a2 a3 a4 a5 a6 a8 w H
theorem T_Mod_ring_180 {D : Nat} {o : Int32 × am_W} {r71 : Int32 → Int32 → Int32 → Int32 → am_W → Option (Int32 × am_W)} {r83 : Int32 → Int32 → Int32 → Int32 → Int32 → am_W → Option (Int32 × am_W)} (Hr71 : ∀ (a1 : Int32) (a2 : Int32) (a3 : Int32) (a4 : Int32) (w : am_W) , r71 a1 a2 a3 a4 w = some o → am_gi (D + 5) 196 o (71, [(0, .ref 53), (1, .int a1), (2, .int a2), (3, .int a3), (4, .int a4)], [], ww w, 0, 0)) (Hr83 : ∀ (a1 : Int32) (a2 : Int32) (a3 : Int32) (a4 : Int32) (a5 : Int32) (w : am_W) , r83 a1 a2 a3 a4 a5 w = some o → am_gi (D + 5) 196 o (83, [(0, .ref 53), (1, .int a1), (2, .int a2), (3, .int a3), (4, .int a4), (5, .int a5)], [], ww w, 0, 0)) (a1 : Int32) (a2 : Int32) (a4 : Int32) (a5 : Int32) (a6 : Int32) (s0 : Int32) (w : am_W) (H : F_Mod_ring_180 r71 r83 a1 a2 a4 a5 a6 s0 w = some o) : am_gi (D + 5) 196 o (180, [(0, .ref 53), (1, .int a1), (2, .int a2), (4, .int a4), (5, .int a5), (6, .int a6)], [.int s0], ww w, 0, 0) := by
  unfold F_Mod_ring_180 at H
  exact am_go_blk 3 (TL_Mod_ring_184 Hr71 Hr83 am_NF a1 a2 s0 a4 a5 a6 (nI 0) w H)
theorem T_Mod_ring_179 {D : Nat} {o : Int32 × am_W} {r71 : Int32 → Int32 → Int32 → Int32 → am_W → Option (Int32 × am_W)} {r83 : Int32 → Int32 → Int32 → Int32 → Int32 → am_W → Option (Int32 × am_W)} (Hr71 : ∀ (a1 : Int32) (a2 : Int32) (a3 : Int32) (a4 : Int32) (w : am_W) , r71 a1 a2 a3 a4 w = some o → am_gi (D + 5) 196 o (71, [(0, .ref 53), (1, .int a1), (2, .int a2), (3, .int a3), (4, .int a4)], [], ww w, 0, 0)) (Hr83 : ∀ (a1 : Int32) (a2 : Int32) (a3 : Int32) (a4 : Int32) (a5 : Int32) (w : am_W) , r83 a1 a2 a3 a4 a5 w = some o → am_gi (D + 5) 196 o (83, [(0, .ref 53), (1, .int a1), (2, .int a2), (3, .int a3), (4, .int a4), (5, .int a5)], [], ww w, 0, 0)) (a1 : Int32) (a2 : Int32) (a3 : Int32) (a4 : Int32) (a5 : Int32) (a6 : Int32) (w : am_W) (H : F_Mod_ring_179 r71 r83 a1 a2 a3 a4 a5 a6 w = some o) : am_gi (D + 5) 196 o (179, [(0, .ref 53), (1, .int a1), (2, .int a2), (3, .int a3), (4, .int a4), (5, .int a5), (6, .int a6)], [], ww w, 0, 0) := by
  unfold F_Mod_ring_179 at H
  exact am_go_blk 1 (T_Mod_ring_180 Hr71 Hr83 a1 a2 a4 a5 a6 a3 w H)
theorem T_Mod_ring_174 {D : Nat} {o : Int32 × am_W} {r71 : Int32 → Int32 → Int32 → Int32 → am_W → Option (Int32 × am_W)} {r83 : Int32 → Int32 → Int32 → Int32 → Int32 → am_W → Option (Int32 × am_W)} (Hr71 : ∀ (a1 : Int32) (a2 : Int32) (a3 : Int32) (a4 : Int32) (w : am_W) , r71 a1 a2 a3 a4 w = some o → am_gi (D + 5) 196 o (71, [(0, .ref 53), (1, .int a1), (2, .int a2), (3, .int a3), (4, .int a4)], [], ww w, 0, 0)) (Hr83 : ∀ (a1 : Int32) (a2 : Int32) (a3 : Int32) (a4 : Int32) (a5 : Int32) (w : am_W) , r83 a1 a2 a3 a4 a5 w = some o → am_gi (D + 5) 196 o (83, [(0, .ref 53), (1, .int a1), (2, .int a2), (3, .int a3), (4, .int a4), (5, .int a5)], [], ww w, 0, 0)) (a1 : Int32) (a2 : Int32) (a4 : Int32) (a5 : Int32) (a6 : Int32) (w : am_W) (H : F_Mod_ring_174 r71 r83 a1 a2 a4 a5 a6 w = some o) : am_gi (D + 5) 196 o (174, [(0, .ref 53), (1, .int a1), (2, .int a2), (4, .int a4), (5, .int a5), (6, .int a6)], [], ww w, 0, 0) := by
  unfold F_Mod_ring_174 at H
  exact am_go_blk 2 (T_Mod_ring_180 Hr71 Hr83 a1 a2 a4 a5 a6 a4 w H)
theorem T_Mod_ring_151 {D : Nat} {o : Int32 × am_W} {r71 : Int32 → Int32 → Int32 → Int32 → am_W → Option (Int32 × am_W)} {r83 : Int32 → Int32 → Int32 → Int32 → Int32 → am_W → Option (Int32 × am_W)} (Hr71 : ∀ (a1 : Int32) (a2 : Int32) (a3 : Int32) (a4 : Int32) (w : am_W) , r71 a1 a2 a3 a4 w = some o → am_gi (D + 5) 196 o (71, [(0, .ref 53), (1, .int a1), (2, .int a2), (3, .int a3), (4, .int a4)], [], ww w, 0, 0)) (Hr83 : ∀ (a1 : Int32) (a2 : Int32) (a3 : Int32) (a4 : Int32) (a5 : Int32) (w : am_W) , r83 a1 a2 a3 a4 a5 w = some o → am_gi (D + 5) 196 o (83, [(0, .ref 53), (1, .int a1), (2, .int a2), (3, .int a3), (4, .int a4), (5, .int a5)], [], ww w, 0, 0)) (a1 : Int32) (a2 : Int32) (a3 : Int32) (a4 : Int32) (a5 : Int32) (a6 : Int32) (s0 : Int32) (w : am_W) (H : F_Mod_ring_151 r71 r83 a1 a2 a3 a4 a5 a6 s0 w = some o) : am_gi (D + 5) 196 o (151, [(0, .ref 53), (1, .int a1), (2, .int a2), (3, .int a3), (4, .int a4), (5, .int a5), (6, .int a6)], [.int s0], ww w, 0, 0) := by
  unfold F_Mod_ring_151 at H
  refine am_go_blk 3 ⟨fun hc => ?_, fun hc => ?_⟩
  · have H := am_it hc H
    exact T_Mod_ring_179 Hr71 Hr83 a1 a2 a3 a4 a5 a6 w H
  · have H := am_ie hc H
    show am_gi (D + 5) 196 o (158, [(7, .int s0), (0, .ref 53), (1, .int a1), (2, .int a2), (3, .int a3), (4, .int a4), (5, .int a5), (6, .int a6)], [], ww w, 0, 0)
    refine am_go_blk 2 ⟨fun hc => ?_, fun hc => ?_⟩
    · have H := am_it hc H
      exact T_Mod_ring_174 Hr71 Hr83 a1 a2 a4 a5 a6 w H
    · have H := am_ie hc H
      show am_gi (D + 5) 196 o (162, [(7, .int s0), (0, .ref 53), (1, .int a1), (2, .int a2), (3, .int a3), (4, .int a4), (5, .int a5), (6, .int a6)], [], ww w, 0, 0)
      obtain ⟨q6, hqq6, H⟩ := am_bnE H
      refine am_go_blk 1 (?_ : am_gi (D + 5) 196 o (164, [(7, .int s0), (0, .ref 53), (1, .int a1), (2, .int a2), (3, .int a3), (4, .int a4), (5, .int a5), (6, .int a6)], [.int a4], ww w, 0, 0))
      refine am_cls rfl rfl rfl (am_calli rfl (M_Mod_ones (D := D + 4) hqq6) (?_ : am_gi (D + 5) 196 o (167, [(7, .int s0), (0, .ref 53), (1, .int a1), (2, .int a2), (3, .int a3), (4, .int a4), (5, .int a5), (6, .int a6)], [.int q6.1], ww q6.2, 0, 0)))
      obtain ⟨q7, hqq7, H⟩ := am_bnE H
      refine am_go_blk 1 (?_ : am_gi (D + 5) 196 o (168, [(7, .int s0), (0, .ref 53), (1, .int a1), (2, .int a2), (3, .int a3), (4, .int a4), (5, .int a5), (6, .int a6)], [.int a3, .int q6.1], ww q6.2, 0, 0))
      refine am_cls rfl rfl rfl (am_calli rfl (M_Mod_ones (D := D + 4) hqq7) (?_ : am_gi (D + 5) 196 o (171, [(7, .int s0), (0, .ref 53), (1, .int a1), (2, .int a2), (3, .int a3), (4, .int a4), (5, .int a5), (6, .int a6)], [.int q7.1, .int q6.1], ww q7.2, 0, 0)))
      refine am_go_blk 1 ⟨fun hc => ?_, fun hc => ?_⟩
      · have H := am_it hc H
        exact T_Mod_ring_179 Hr71 Hr83 a1 a2 a3 a4 a5 a6 q7.2 H
      · have H := am_ie hc H
        exact T_Mod_ring_174 Hr71 Hr83 a1 a2 a4 a5 a6 q7.2 H
theorem T_Mod_ring_150 {D : Nat} {o : Int32 × am_W} {r71 : Int32 → Int32 → Int32 → Int32 → am_W → Option (Int32 × am_W)} {r83 : Int32 → Int32 → Int32 → Int32 → Int32 → am_W → Option (Int32 × am_W)} (Hr71 : ∀ (a1 : Int32) (a2 : Int32) (a3 : Int32) (a4 : Int32) (w : am_W) , r71 a1 a2 a3 a4 w = some o → am_gi (D + 5) 196 o (71, [(0, .ref 53), (1, .int a1), (2, .int a2), (3, .int a3), (4, .int a4)], [], ww w, 0, 0)) (Hr83 : ∀ (a1 : Int32) (a2 : Int32) (a3 : Int32) (a4 : Int32) (a5 : Int32) (w : am_W) , r83 a1 a2 a3 a4 a5 w = some o → am_gi (D + 5) 196 o (83, [(0, .ref 53), (1, .int a1), (2, .int a2), (3, .int a3), (4, .int a4), (5, .int a5)], [], ww w, 0, 0)) (a1 : Int32) (a2 : Int32) (a3 : Int32) (a4 : Int32) (a5 : Int32) (a6 : Int32) (w : am_W) (H : F_Mod_ring_150 r71 r83 a1 a2 a3 a4 a5 a6 w = some o) : am_gi (D + 5) 196 o (150, [(0, .ref 53), (1, .int a1), (2, .int a2), (3, .int a3), (4, .int a4), (5, .int a5), (6, .int a6)], [], ww w, 0, 0) := by
  unfold F_Mod_ring_150 at H
  exact am_go_blk 1 (T_Mod_ring_151 Hr71 Hr83 a1 a2 a3 a4 a5 a6 (nI 0) w H)
theorem T_Mod_ring_125 {D : Nat} {o : Int32 × am_W} {r71 : Int32 → Int32 → Int32 → Int32 → am_W → Option (Int32 × am_W)} {r83 : Int32 → Int32 → Int32 → Int32 → Int32 → am_W → Option (Int32 × am_W)} (Hr71 : ∀ (a1 : Int32) (a2 : Int32) (a3 : Int32) (a4 : Int32) (w : am_W) , r71 a1 a2 a3 a4 w = some o → am_gi (D + 5) 196 o (71, [(0, .ref 53), (1, .int a1), (2, .int a2), (3, .int a3), (4, .int a4)], [], ww w, 0, 0)) (Hr83 : ∀ (a1 : Int32) (a2 : Int32) (a3 : Int32) (a4 : Int32) (a5 : Int32) (w : am_W) , r83 a1 a2 a3 a4 a5 w = some o → am_gi (D + 5) 196 o (83, [(0, .ref 53), (1, .int a1), (2, .int a2), (3, .int a3), (4, .int a4), (5, .int a5)], [], ww w, 0, 0)) (a1 : Int32) (a2 : Int32) (a3 : Int32) (a4 : Int32) (a5 : Int32) (s0 : Int32) (w : am_W) (H : F_Mod_ring_125 r71 r83 a1 a2 a3 a4 a5 s0 w = some o) : am_gi (D + 5) 196 o (125, [(0, .ref 53), (1, .int a1), (2, .int a2), (3, .int a3), (4, .int a4), (5, .int a5)], [.int s0], ww w, 0, 0) := by
  unfold F_Mod_ring_125 at H
  refine am_go_blk 8 ⟨fun hc => ?_, fun hc => ?_⟩
  · have H := am_ie hc H
    exact T_Mod_ring_150 Hr71 Hr83 a1 a2 a3 a4 a5 s0 w H
  · have H := am_it hc H
    show am_gi (D + 5) 196 o (137, [(6, .int s0), (0, .ref 53), (1, .int a1), (2, .int a2), (3, .int a3), (4, .int a4), (5, .int a5)], [], ww w, 0, 0)
    obtain ⟨q8, hqq8, H⟩ := am_bnE H
    refine am_go_blk 1 (?_ : am_gi (D + 5) 196 o (139, [(6, .int s0), (0, .ref 53), (1, .int a1), (2, .int a2), (3, .int a3), (4, .int a4), (5, .int a5)], [.int a4], ww w, 0, 0))
    refine am_cls rfl rfl rfl (am_calli rfl (M_Mod_ones (D := D + 4) hqq8) (?_ : am_gi (D + 5) 196 o (142, [(6, .int s0), (0, .ref 53), (1, .int a1), (2, .int a2), (3, .int a3), (4, .int a4), (5, .int a5)], [.int q8.1], ww q8.2, 0, 0)))
    refine am_go_blk 2 ⟨fun hc => ?_, fun hc => ?_⟩
    · have H := am_it hc H
      exact T_Mod_ring_150 Hr71 Hr83 a1 a2 a3 a4 a5 s0 q8.2 H
    · have H := am_ie hc H
      show am_gi (D + 5) 196 o (146, [(6, .int s0), (0, .ref 53), (1, .int a1), (2, .int a2), (3, .int a3), (4, .int a4), (5, .int a5)], [], ww q8.2, 0, 0)
      exact am_go_blk 2 (T_Mod_ring_151 Hr71 Hr83 a1 a2 a3 a4 a5 s0 (nI 1) q8.2 H)
theorem T_Mod_ring_83 {D : Nat} {o : Int32 × am_W} {r71 : Int32 → Int32 → Int32 → Int32 → am_W → Option (Int32 × am_W)} {r83 : Int32 → Int32 → Int32 → Int32 → Int32 → am_W → Option (Int32 × am_W)} (Hr71 : ∀ (a1 : Int32) (a2 : Int32) (a3 : Int32) (a4 : Int32) (w : am_W) , r71 a1 a2 a3 a4 w = some o → am_gi (D + 5) 196 o (71, [(0, .ref 53), (1, .int a1), (2, .int a2), (3, .int a3), (4, .int a4)], [], ww w, 0, 0)) (Hr83 : ∀ (a1 : Int32) (a2 : Int32) (a3 : Int32) (a4 : Int32) (a5 : Int32) (w : am_W) , r83 a1 a2 a3 a4 a5 w = some o → am_gi (D + 5) 196 o (83, [(0, .ref 53), (1, .int a1), (2, .int a2), (3, .int a3), (4, .int a4), (5, .int a5)], [], ww w, 0, 0)) (a1 : Int32) (a2 : Int32) (a3 : Int32) (a4 : Int32) (a5 : Int32) (w : am_W) (H : F_Mod_ring_83 r71 r83 a1 a2 a3 a4 a5 w = some o) : am_gi (D + 5) 196 o (83, [(0, .ref 53), (1, .int a1), (2, .int a2), (3, .int a3), (4, .int a4), (5, .int a5)], [], ww w, 0, 0) := by
  unfold F_Mod_ring_83 at H
  refine am_go_blk 4 ⟨fun hc => ?_, fun hc => ?_⟩
  · have H := am_it hc H
    show am_gi (D + 5) 196 o (245, [(0, .ref 53), (1, .int a1), (2, .int a2), (3, .int a3), (4, .int a4)], [], ww w, 0, 0)
    exact am_go_blk 2 (Hr71 a1 a2 a3 (a4 + (nI 1)) w H)
  · have H := am_ie hc H
    show am_gi (D + 5) 196 o (92, [(0, .ref 53), (1, .int a1), (2, .int a2), (3, .int a3), (4, .int a4), (5, .int a5)], [], ww w, 0, 0)
    obtain ⟨hc, H⟩ := am_ckE H
    refine am_go_blk 4 ⟨am_inv hc, (?_ : am_gi (D + 5) 196 o (99, [(0, .ref 53), (1, .int a1), (2, .int a2), (3, .int a3), (4, .int a4), (5, .int a5)], [.int (w.1 71 a4.toNatClampNeg)], ww w, 0, 0))⟩
    refine am_go_blk 6 ⟨fun hc => ?_, fun hc => ?_⟩
    · have H := am_ie hc H
      show am_gi (D + 5) 196 o (124, [(0, .ref 53), (1, .int a1), (2, .int a2), (3, .int a3), (4, .int a4), (5, .int a5)], [], ww w, 0, 0)
      exact am_go_blk 1 (T_Mod_ring_125 Hr71 Hr83 a1 a2 a3 a4 a5 (nI 0) w H)
    · have H := am_it hc H
      show am_gi (D + 5) 196 o (108, [(0, .ref 53), (1, .int a1), (2, .int a2), (3, .int a3), (4, .int a4), (5, .int a5)], [], ww w, 0, 0)
      obtain ⟨q9, hqq9, H⟩ := am_bnE H
      refine am_go_blk 2 (?_ : am_gi (D + 5) 196 o (111, [(0, .ref 53), (1, .int a1), (2, .int a2), (3, .int a3), (4, .int a4), (5, .int a5)], [.int a5, .ref 53], ww w, 0, 0))
      refine am_invd rfl rfl rfl rfl (am_calli rfl (M_Mod_waitsFor (D := D) hqq9) (?_ : am_gi (D + 5) 196 o (114, [(0, .ref 53), (1, .int a1), (2, .int a2), (3, .int a3), (4, .int a4), (5, .int a5)], [.int q9.1], ww q9.2, 0, 0)))
      exact am_go_blk 6 (T_Mod_ring_125 Hr71 Hr83 a1 a2 a3 a4 a5 (q9.1 &&& ((q9.2.1 53 4) ^^^ (-nI 1))) q9.2 H)
theorem TL_Mod_ring_83 {D : Nat} {o : Int32 × am_W} {r71 : Int32 → Int32 → Int32 → Int32 → am_W → Option (Int32 × am_W)} (Hr71 : ∀ (a1 : Int32) (a2 : Int32) (a3 : Int32) (a4 : Int32) (w : am_W) , r71 a1 a2 a3 a4 w = some o → am_gi (D + 5) 196 o (71, [(0, .ref 53), (1, .int a1), (2, .int a2), (3, .int a3), (4, .int a4)], [], ww w, 0, 0)) : ∀ (n : Nat) (a1 : Int32) (a2 : Int32) (a3 : Int32) (a4 : Int32) (a5 : Int32) (w : am_W) , L_Mod_ring_83 r71 n a1 a2 a3 a4 a5 w = some o → am_gi (D + 5) 196 o (83, [(0, .ref 53), (1, .int a1), (2, .int a2), (3, .int a3), (4, .int a4), (5, .int a5)], [], ww w, 0, 0)
  | 0, _, _, _, _, _, _, H => by cases H
  | n + 1, a1, a2, a3, a4, a5, w, H => T_Mod_ring_83 Hr71 (TL_Mod_ring_83 Hr71 n) a1 a2 a3 a4 a5 w H
theorem T_Mod_ring_71 {D : Nat} {o : Int32 × am_W} {r71 : Int32 → Int32 → Int32 → Int32 → am_W → Option (Int32 × am_W)} (Hr71 : ∀ (a1 : Int32) (a2 : Int32) (a3 : Int32) (a4 : Int32) (w : am_W) , r71 a1 a2 a3 a4 w = some o → am_gi (D + 5) 196 o (71, [(0, .ref 53), (1, .int a1), (2, .int a2), (3, .int a3), (4, .int a4)], [], ww w, 0, 0)) (a1 : Int32) (a2 : Int32) (a3 : Int32) (a4 : Int32) (w : am_W) (H : F_Mod_ring_71 r71 a1 a2 a3 a4 w = some o) : am_gi (D + 5) 196 o (71, [(0, .ref 53), (1, .int a1), (2, .int a2), (3, .int a3), (4, .int a4)], [], ww w, 0, 0) := by
  unfold F_Mod_ring_71 at H
  obtain ⟨q3, hqq3, H⟩ := am_bnE H
  refine am_go_blk 2 (?_ : am_gi (D + 5) 196 o (74, [(0, .ref 53), (1, .int a1), (2, .int a2), (3, .int a3), (4, .int a4)], [.ref 53, .int a4], ww w, 0, 0))
  refine am_invd rfl rfl rfl rfl (am_calli rfl (M_Mod_everything (D := D + 4) hqq3) (?_ : am_gi (D + 5) 196 o (77, [(0, .ref 53), (1, .int a1), (2, .int a2), (3, .int a3), (4, .int a4)], [.int q3.1, .int a4], ww q3.2, 0, 0)))
  refine am_go_blk 1 ⟨fun hc => ?_, fun hc => ?_⟩
  · have H := am_it hc H
    show am_gi (D + 5) 196 o (251, [(2, .int a2), (3, .int a3)], [], ww q3.2, 0, 0)
    refine am_go_blk 2 ⟨fun hc => ?_, fun hc => ?_⟩
    · have H := am_ie hc H
      show am_gi (D + 5) 196 o (259, [(2, .int a2), (3, .int a3)], [], ww q3.2, 0, 0)
      refine am_go_blk 2 ⟨fun hc => ?_, fun hc => ?_⟩
      · have H := am_ie hc H
        show am_gi (D + 5) 196 o (270, [(3, .int a3)], [], ww q3.2, 0, 0)
        exact am_go_blk 1 (T_Mod_ring_271 a3 q3.2 H)
      · have H := am_it hc H
        show am_gi (D + 5) 196 o (263, [(2, .int a2), (3, .int a3)], [], ww q3.2, 0, 0)
        obtain ⟨q4, hqq4, H⟩ := am_bnE H
        refine am_go_blk 1 (?_ : am_gi (D + 5) 196 o (264, [(2, .int a2), (3, .int a3)], [.int a3], ww q3.2, 0, 0))
        refine am_cls rfl rfl rfl (am_calli rfl (M_Mod_ones (D := D + 4) hqq4) (?_ : am_gi (D + 5) 196 o (267, [(2, .int a2), (3, .int a3)], [.int q4.1], ww q4.2, 0, 0)))
        exact am_go_blk 1 (T_Mod_ring_271 q4.1 q4.2 H)
    · have H := am_it hc H
      show am_gi (D + 5) 196 o (255, [(2, .int a2), (3, .int a3)], [], ww q3.2, 0, 0)
      exact am_go_blk 2 (T_Mod_ring_271 (-nI 1) q3.2 H)
  · have H := am_ie hc H
    show am_gi (D + 5) 196 o (80, [(0, .ref 53), (1, .int a1), (2, .int a2), (3, .int a3), (4, .int a4)], [], ww q3.2, 0, 0)
    exact am_go_blk 2 (TL_Mod_ring_83 Hr71 am_NF a1 a2 a3 a4 (nI 0) q3.2 H)
theorem TL_Mod_ring_71 {D : Nat} {o : Int32 × am_W} : ∀ (n : Nat) (a1 : Int32) (a2 : Int32) (a3 : Int32) (a4 : Int32) (w : am_W) , L_Mod_ring_71 n a1 a2 a3 a4 w = some o → am_gi (D + 5) 196 o (71, [(0, .ref 53), (1, .int a1), (2, .int a2), (3, .int a3), (4, .int a4)], [], ww w, 0, 0)
  | 0, _, _, _, _, _, H => by cases H
  | n + 1, a1, a2, a3, a4, w, H => T_Mod_ring_71 (TL_Mod_ring_71 n) a1 a2 a3 a4 w H
theorem T_Mod_ring_59 {D : Nat} {o : Int32 × am_W} {r25 : Int32 → Int32 → Int32 → am_W → Option (Int32 × am_W)} (Hr25 : ∀ (a1 : Int32) (a2 : Int32) (a3 : Int32) (w : am_W) , r25 a1 a2 a3 w = some o → am_gi (D + 5) 196 o (25, [(0, .ref 53), (1, .int a1), (2, .int a2), (3, .int a3)], [], ww w, 0, 0)) (a1 : Int32) (a2 : Int32) (a3 : Int32) (s0 : Int32) (s1 : Int32) (w : am_W) (H : F_Mod_ring_59 r25 a1 a2 a3 s0 s1 w = some o) : am_gi (D + 5) 196 o (59, [(0, .ref 53), (1, .int a1), (2, .int a2), (3, .int a3)], [.int s0, .int s1, .ref 71], ww w, 0, 0) := by
  unfold F_Mod_ring_59 at H
  obtain ⟨hc, H⟩ := am_ckE H
  obtain ⟨w10, ew10, H⟩ := am_ltE H
  refine am_go_blk 1 ⟨am_inv hc, am_hp (ww_s71 ew10) (?_ : am_gi (D + 5) 196 o (60, [(0, .ref 53), (1, .int a1), (2, .int a2), (3, .int a3)], [], ww w10, 0, 0))⟩
  exact am_go_blk 2 (Hr25 a1 a2 (a3 + (nI 1)) w10 H)
theorem T_Mod_ring_58 {D : Nat} {o : Int32 × am_W} {r25 : Int32 → Int32 → Int32 → am_W → Option (Int32 × am_W)} (Hr25 : ∀ (a1 : Int32) (a2 : Int32) (a3 : Int32) (w : am_W) , r25 a1 a2 a3 w = some o → am_gi (D + 5) 196 o (25, [(0, .ref 53), (1, .int a1), (2, .int a2), (3, .int a3)], [], ww w, 0, 0)) (a1 : Int32) (a2 : Int32) (a3 : Int32) (s0 : Int32) (w : am_W) (H : F_Mod_ring_58 r25 a1 a2 a3 s0 w = some o) : am_gi (D + 5) 196 o (58, [(0, .ref 53), (1, .int a1), (2, .int a2), (3, .int a3)], [.int s0, .ref 71], ww w, 0, 0) := by
  unfold F_Mod_ring_58 at H
  exact am_go_blk 1 (T_Mod_ring_59 Hr25 a1 a2 a3 (nI 0) s0 w H)
theorem T_Mod_ring_25 {D : Nat} {o : Int32 × am_W} {r25 : Int32 → Int32 → Int32 → am_W → Option (Int32 × am_W)} (Hr25 : ∀ (a1 : Int32) (a2 : Int32) (a3 : Int32) (w : am_W) , r25 a1 a2 a3 w = some o → am_gi (D + 5) 196 o (25, [(0, .ref 53), (1, .int a1), (2, .int a2), (3, .int a3)], [], ww w, 0, 0)) (a1 : Int32) (a2 : Int32) (a3 : Int32) (w : am_W) (H : F_Mod_ring_25 r25 a1 a2 a3 w = some o) : am_gi (D + 5) 196 o (25, [(0, .ref 53), (1, .int a1), (2, .int a2), (3, .int a3)], [], ww w, 0, 0) := by
  unfold F_Mod_ring_25 at H
  refine am_go_blk 3 ⟨fun hc => ?_, fun hc => ?_⟩
  · have H := am_it hc H
    show am_gi (D + 5) 196 o (66, [(0, .ref 53), (1, .int a1), (2, .int a2)], [], ww w, 0, 0)
    exact am_go_blk 4 (TL_Mod_ring_71 am_NF a1 a2 (nI 0) (nI 0) w H)
  · have H := am_ie hc H
    show am_gi (D + 5) 196 o (32, [(0, .ref 53), (1, .int a1), (2, .int a2), (3, .int a3)], [], ww w, 0, 0)
    refine am_go_blk 8 ⟨fun hc => ?_, fun hc => ?_⟩
    · have H := am_ie hc H
      exact T_Mod_ring_58 Hr25 a1 a2 a3 a3 w H
    · have H := am_it hc H
      show am_gi (D + 5) 196 o (44, [(0, .ref 53), (1, .int a1), (2, .int a2), (3, .int a3)], [.int a3, .ref 71], ww w, 0, 0)
      obtain ⟨q11, hqq11, H⟩ := am_bnE H
      refine am_go_blk 2 (?_ : am_gi (D + 5) 196 o (46, [(0, .ref 53), (1, .int a1), (2, .int a2), (3, .int a3)], [.int a1, .ref 53, .int a3, .ref 71], ww w, 0, 0))
      refine am_invd rfl rfl rfl rfl (am_calli rfl (M_Mod_isGone (D := D + 4) hqq11) (?_ : am_gi (D + 5) 196 o (49, [(0, .ref 53), (1, .int a1), (2, .int a2), (3, .int a3)], [.int q11.1, .int a3, .ref 71], ww q11.2, 0, 0)))
      refine am_go_blk 1 ⟨fun hc => ?_, fun hc => ?_⟩
      · have H := am_ie hc H
        exact T_Mod_ring_58 Hr25 a1 a2 a3 a3 q11.2 H
      · have H := am_it hc H
        show am_gi (D + 5) 196 o (52, [(0, .ref 53), (1, .int a1), (2, .int a2), (3, .int a3)], [.int a3, .ref 71], ww q11.2, 0, 0)
        exact am_go_blk 4 (T_Mod_ring_59 Hr25 a1 a2 a3 ((nI 1) <<< (a1 &&& 31)) a3 q11.2 H)
theorem TL_Mod_ring_25 {D : Nat} {o : Int32 × am_W} : ∀ (n : Nat) (a1 : Int32) (a2 : Int32) (a3 : Int32) (w : am_W) , L_Mod_ring_25 n a1 a2 a3 w = some o → am_gi (D + 5) 196 o (25, [(0, .ref 53), (1, .int a1), (2, .int a2), (3, .int a3)], [], ww w, 0, 0)
  | 0, _, _, _, _, H => by cases H
  | n + 1, a1, a2, a3, w, H => T_Mod_ring_25 (TL_Mod_ring_25 n) a1 a2 a3 w H
theorem T_Mod_ring {D : Nat} {o : Int32 × am_W} (a1 : Int32) (a2 : Int32) (w : am_W) (H : F_Mod_ring a1 a2 w = some o) : am_gi (D + 5) 196 o (0, [(0, .ref 53), (1, .int a1), (2, .int a2)], [], ww w, 0, 0) := by
  unfold F_Mod_ring at H
  obtain ⟨q1, hqq1, H⟩ := am_bnE H
  refine am_go_blk 2 (?_ : am_gi (D + 5) 196 o (2, [(0, .ref 53), (1, .int a1), (2, .int a2)], [.int a1, .ref 53], ww w, 0, 0))
  refine am_invd rfl rfl rfl rfl (am_calli rfl (M_Mod_isThing (D := D + 3) hqq1) (?_ : am_gi (D + 5) 196 o (5, [(0, .ref 53), (1, .int a1), (2, .int a2)], [.int q1.1], ww q1.2, 0, 0)))
  refine am_go_blk 1 ⟨fun hc => ?_, fun hc => ?_⟩
  · have H := am_ie hc H
    show am_gi (D + 5) 196 o (11, [(0, .ref 53), (1, .int a1), (2, .int a2)], [], ww q1.2, 0, 0)
    obtain ⟨q2, hqq2, H⟩ := am_bnE H
    refine am_go_blk 3 (?_ : am_gi (D + 5) 196 o (14, [(0, .ref 53), (1, .int a1), (2, .int a2)], [.int (nI 1), .int (nI 0), .int a2], ww q1.2, 0, 0))
    refine am_cls rfl rfl rfl (am_calli rfl (M_Mod_in (D := D + 4) hqq2) (?_ : am_gi (D + 5) 196 o (17, [(0, .ref 53), (1, .int a1), (2, .int a2)], [.int q2.1], ww q2.2, 0, 0)))
    refine am_go_blk 1 ⟨fun hc => ?_, fun hc => ?_⟩
    · have H := am_ie hc H
      show am_gi (D + 5) 196 o (23, [(0, .ref 53), (1, .int a1), (2, .int a2)], [], ww q2.2, 0, 0)
      exact am_go_blk 2 (TL_Mod_ring_25 am_NF a1 a2 (nI 0) q2.2 H)
    · have H := am_it hc H
      show am_gi (D + 5) 196 o (20, [(0, .ref 53), (1, .int a1), (2, .int a2)], [], ww q2.2, 0, 0)
      exact am_go_blk 2 ⟨rfl, am_fi H⟩
  · have H := am_it hc H
    show am_gi (D + 5) 196 o (8, [(0, .ref 53), (1, .int a1), (2, .int a2)], [], ww q1.2, 0, 0)
    exact am_go_blk 2 ⟨rfl, am_fi H⟩
theorem M_Mod_ring {D : Nat} {o : Int32 × am_W} {a1 : Int32} {a2 : Int32} {w : am_W} (H : F_Mod_ring a1 a2 w = some o) : am_run (D + 6) 196 [.ref 53, .int a1, .int a2] (ww w) (some (.int o.1)) (ww o.2) 0 0 :=
  am_run_of rfl (T_Mod_ring a1 a2 w H)
def F_Mod_rows (a1 : Int32) (w : am_W) : Option (Int64 × am_W) :=
  (F_Mod_everything w).bind fun q1 => (F_Mod_in a1 (nI 0) q1.1 q1.2).bind fun q2 => if q2.1 = 0 then (some ((-lN 4611686018427387904), q2.2)) else ((F_Mod_countsOrders (-nI 1) q2.2).bind fun w3 => am_ck (am_in a1 256) (some ((w3.2.1 a1.toNatClampNeg), w3)))
theorem T_Mod_rows {D : Nat} {o : Int64 × am_W} (a1 : Int32) (w : am_W) (H : F_Mod_rows a1 w = some o) : am_gj (D + 6) 197 o (0, [(0, .ref 53), (1, .int a1)], [], ww w, 0, 0) := by
  unfold F_Mod_rows at H
  obtain ⟨q1, hqq1, H⟩ := am_bnE H
  refine am_go_blk 3 (?_ : am_gj (D + 6) 197 o (3, [(0, .ref 53), (1, .int a1)], [.ref 53, .int (nI 0), .int a1], ww w, 0, 0))
  refine am_invd rfl rfl rfl rfl (am_calli rfl (M_Mod_everything (D := D + 5) hqq1) (?_ : am_gj (D + 6) 197 o (6, [(0, .ref 53), (1, .int a1)], [.int q1.1, .int (nI 0), .int a1], ww q1.2, 0, 0)))
  obtain ⟨q2, hqq2, H⟩ := am_bnE H
  refine am_cls rfl rfl rfl (am_calli rfl (M_Mod_in (D := D + 5) hqq2) (?_ : am_gj (D + 6) 197 o (9, [(0, .ref 53), (1, .int a1)], [.int q2.1], ww q2.2, 0, 0)))
  refine am_go_blk 1 ⟨fun hc => ?_, fun hc => ?_⟩
  · have H := am_ie hc H
    show am_gj (D + 6) 197 o (16, [(0, .ref 53), (1, .int a1)], [], ww q2.2, 0, 0)
    obtain ⟨w3, hqw3, H⟩ := am_bnE H
    refine am_go_blk 2 (?_ : am_gj (D + 6) 197 o (18, [(0, .ref 53), (1, .int a1)], [.int (-nI 1), .ref 53], ww q2.2, 0, 0))
    refine am_invd rfl rfl rfl rfl (am_callv rfl (M_Mod_countsOrders (D := D) hqw3) (?_ : am_gj (D + 6) 197 o (21, [(0, .ref 53), (1, .int a1)], [], ww w3, 0, 0)))
    obtain ⟨hc, H⟩ := am_ckE H
    refine am_go_blk 4 ⟨am_inv hc, (?_ : am_gj (D + 6) 197 o (27, [(0, .ref 53), (1, .int a1)], [.long (w3.2.1 a1.toNatClampNeg)], ww w3, 0, 0))⟩
    exact am_go_blk 1 (am_fj H)
  · have H := am_it hc H
    show am_gj (D + 6) 197 o (12, [(0, .ref 53), (1, .int a1)], [], ww q2.2, 0, 0)
    exact am_go_blk 2 (am_fj H)
theorem M_Mod_rows {D : Nat} {o : Int64 × am_W} {a1 : Int32} {w : am_W} (H : F_Mod_rows a1 w = some o) : am_run (D + 7) 197 [.ref 53, .int a1] (ww w) (some (.long o.1)) (ww o.2) 0 0 :=
  am_run_of rfl (T_Mod_rows a1 w H)
def F_Mod_ways (w : am_W) : Option (Int64 × am_W) :=
  (F_Mod_countsOrders (-nI 1) w).bind fun w1 => (F_Mod_goneAtLast (nI 0) w1).bind fun q2 => am_ck (am_in q2.1 256) (some ((q2.2.2.1 q2.1.toNatClampNeg), q2.2))
theorem T_Mod_ways {D : Nat} {o : Int64 × am_W} (w : am_W) (H : F_Mod_ways w = some o) : am_gj (D + 6) 198 o (0, [(0, .ref 53)], [], ww w, 0, 0) := by
  unfold F_Mod_ways at H
  obtain ⟨w1, hqw1, H⟩ := am_bnE H
  refine am_go_blk 2 (?_ : am_gj (D + 6) 198 o (2, [(0, .ref 53)], [.int (-nI 1), .ref 53], ww w, 0, 0))
  refine am_invd rfl rfl rfl rfl (am_callv rfl (M_Mod_countsOrders (D := D) hqw1) (?_ : am_gj (D + 6) 198 o (5, [(0, .ref 53)], [], ww w1, 0, 0)))
  obtain ⟨q2, hqq2, H⟩ := am_bnE H
  refine am_go_blk 4 (?_ : am_gj (D + 6) 198 o (11, [(0, .ref 53)], [.int (nI 0), .ref 53, .ref 70], ww w1, 0, 0))
  refine am_invd rfl rfl rfl rfl (am_calli rfl (M_Mod_goneAtLast (D := D) hqq2) (?_ : am_gj (D + 6) 198 o (14, [(0, .ref 53)], [.int q2.1, .ref 70], ww q2.2, 0, 0)))
  obtain ⟨hc, H⟩ := am_ckE H
  refine am_go_blk 1 ⟨am_inv hc, (?_ : am_gj (D + 6) 198 o (15, [(0, .ref 53)], [.long (q2.2.2.1 q2.1.toNatClampNeg)], ww q2.2, 0, 0))⟩
  exact am_go_blk 1 (am_fj H)
theorem M_Mod_ways {D : Nat} {o : Int64 × am_W} {w : am_W} (H : F_Mod_ways w = some o) : am_run (D + 7) 198 [.ref 53] (ww w) (some (.long o.1)) (ww o.2) 0 0 :=
  am_run_of rfl (T_Mod_ways w H)
def F_Mod_leastFree_30 (r2 : Int32 → am_W → Option (Int32 × am_W)) (a1 : Int32) (w : am_W) : Option (Int32 × am_W) :=
  r2 (a1 + (nI 1)) w
def F_Mod_leastFree_2 (r2 : Int32 → am_W → Option (Int32 × am_W)) (a1 : Int32) (w : am_W) : Option (Int32 × am_W) :=
  if (w.1 53 0) ≤ a1 then (some ((-nI 1), w)) else (am_ck (am_in a1 8) (if (w.1 54 a1.toNatClampNeg) = (nI 5) then (F_Mod_leastFree_30 r2 a1 w) else ((F_Mod_canGo a1 w).bind fun q1 => if q1.1 = 0 then (F_Mod_leastFree_30 r2 a1 q1.2) else (some (a1, q1.2)))))
def L_Mod_leastFree_2 : Nat → Int32 → am_W → Option (Int32 × am_W)
  | 0, _, _ => none
  | n + 1, a1, w => F_Mod_leastFree_2 (L_Mod_leastFree_2 n) a1 w
def F_Mod_leastFree (w : am_W) : Option (Int32 × am_W) :=
  L_Mod_leastFree_2 am_NF (nI 0) w
theorem T_Mod_leastFree_30 {D : Nat} {o : Int32 × am_W} {r2 : Int32 → am_W → Option (Int32 × am_W)} (Hr2 : ∀ (a1 : Int32) (w : am_W) , r2 a1 w = some o → am_gi (D + 5) 200 o (2, [(0, .ref 53), (1, .int a1)], [], ww w, 0, 0)) (a1 : Int32) (w : am_W) (H : F_Mod_leastFree_30 r2 a1 w = some o) : am_gi (D + 5) 200 o (30, [(0, .ref 53), (1, .int a1)], [], ww w, 0, 0) := by
  unfold F_Mod_leastFree_30 at H
  exact am_go_blk 2 (Hr2 (a1 + (nI 1)) w H)
theorem T_Mod_leastFree_2 {D : Nat} {o : Int32 × am_W} {r2 : Int32 → am_W → Option (Int32 × am_W)} (Hr2 : ∀ (a1 : Int32) (w : am_W) , r2 a1 w = some o → am_gi (D + 5) 200 o (2, [(0, .ref 53), (1, .int a1)], [], ww w, 0, 0)) (a1 : Int32) (w : am_W) (H : F_Mod_leastFree_2 r2 a1 w = some o) : am_gi (D + 5) 200 o (2, [(0, .ref 53), (1, .int a1)], [], ww w, 0, 0) := by
  unfold F_Mod_leastFree_2 at H
  refine am_go_blk 4 ⟨fun hc => ?_, fun hc => ?_⟩
  · have H := am_it hc H
    show am_gi (D + 5) 200 o (36, [], [], ww w, 0, 0)
    exact am_go_blk 2 ⟨rfl, am_fi H⟩
  · have H := am_ie hc H
    show am_gi (D + 5) 200 o (10, [(0, .ref 53), (1, .int a1)], [], ww w, 0, 0)
    obtain ⟨hc, H⟩ := am_ckE H
    refine am_go_blk 4 ⟨am_inv hc, (?_ : am_gi (D + 5) 200 o (16, [(0, .ref 53), (1, .int a1)], [.int (w.1 54 a1.toNatClampNeg)], ww w, 0, 0))⟩
    refine am_go_blk 2 ⟨fun hc => ?_, fun hc => ?_⟩
    · have H := am_it hc H
      exact T_Mod_leastFree_30 Hr2 a1 w H
    · have H := am_ie hc H
      show am_gi (D + 5) 200 o (20, [(0, .ref 53), (1, .int a1)], [], ww w, 0, 0)
      obtain ⟨q1, hqq1, H⟩ := am_bnE H
      refine am_go_blk 2 (?_ : am_gi (D + 5) 200 o (22, [(0, .ref 53), (1, .int a1)], [.int a1, .ref 53], ww w, 0, 0))
      refine am_invd rfl rfl rfl rfl (am_calli rfl (M_Mod_canGo (D := D) hqq1) (?_ : am_gi (D + 5) 200 o (25, [(0, .ref 53), (1, .int a1)], [.int q1.1], ww q1.2, 0, 0)))
      refine am_go_blk 1 ⟨fun hc => ?_, fun hc => ?_⟩
      · have H := am_it hc H
        exact T_Mod_leastFree_30 Hr2 a1 q1.2 H
      · have H := am_ie hc H
        show am_gi (D + 5) 200 o (28, [(0, .ref 53), (1, .int a1)], [], ww q1.2, 0, 0)
        exact am_go_blk 2 ⟨rfl, am_fi H⟩
theorem TL_Mod_leastFree_2 {D : Nat} {o : Int32 × am_W} : ∀ (n : Nat) (a1 : Int32) (w : am_W) , L_Mod_leastFree_2 n a1 w = some o → am_gi (D + 5) 200 o (2, [(0, .ref 53), (1, .int a1)], [], ww w, 0, 0)
  | 0, _, _, H => by cases H
  | n + 1, a1, w, H => T_Mod_leastFree_2 (TL_Mod_leastFree_2 n) a1 w H
theorem T_Mod_leastFree {D : Nat} {o : Int32 × am_W} (w : am_W) (H : F_Mod_leastFree w = some o) : am_gi (D + 5) 200 o (0, [(0, .ref 53)], [], ww w, 0, 0) := by
  unfold F_Mod_leastFree at H
  exact am_go_blk 2 (TL_Mod_leastFree_2 am_NF (nI 0) w H)
theorem M_Mod_leastFree {D : Nat} {o : Int32 × am_W} {w : am_W} (H : F_Mod_leastFree w = some o) : am_run (D + 6) 200 [.ref 53] (ww w) (some (.int o.1)) (ww o.2) 0 0 :=
  am_run_of rfl (T_Mod_leastFree w H)
def F_Mod_row_12 (r12 : Int32 → Int32 → Int32 → am_W → Option (Int32 × am_W)) (a1 : Int32) (a2 : Int32) (a3 : Int32) (w : am_W) : Option (Int32 × am_W) :=
  if a3 = (-nI 1) then (am_lt (wsf w 53 4 a1) fun w2 => some (a2, w2)) else (am_lt (wsf w 53 4 ((w.1 53 4) ||| ((nI 1) <<< (a3 &&& 31)))) fun w3 => (F_Mod_leastFree w3).bind fun q4 => r12 a1 ((((nI 10) * a2) + a3) + (nI 1)) q4.1 q4.2)
def L_Mod_row_12 : Nat → Int32 → Int32 → Int32 → am_W → Option (Int32 × am_W)
  | 0, _, _, _, _ => none
  | n + 1, a1, a2, a3, w => F_Mod_row_12 (L_Mod_row_12 n) a1 a2 a3 w
def F_Mod_row (w : am_W) : Option (Int32 × am_W) :=
  (F_Mod_leastFree w).bind fun q1 => L_Mod_row_12 am_NF (w.1 53 4) (nI 0) q1.1 q1.2
theorem T_Mod_row_12 {D : Nat} {o : Int32 × am_W} {r12 : Int32 → Int32 → Int32 → am_W → Option (Int32 × am_W)} (Hr12 : ∀ (a1 : Int32) (a2 : Int32) (a3 : Int32) (w : am_W) , r12 a1 a2 a3 w = some o → am_gi (D + 6) 199 o (12, [(0, .ref 53), (1, .int a1), (2, .int a2), (3, .int a3)], [], ww w, 0, 0)) (a1 : Int32) (a2 : Int32) (a3 : Int32) (w : am_W) (H : F_Mod_row_12 r12 a1 a2 a3 w = some o) : am_gi (D + 6) 199 o (12, [(0, .ref 53), (1, .int a1), (2, .int a2), (3, .int a3)], [], ww w, 0, 0) := by
  unfold F_Mod_row_12 at H
  refine am_go_blk 3 ⟨fun hc => ?_, fun hc => ?_⟩
  · have H := am_it hc H
    show am_gi (D + 6) 199 o (46, [(0, .ref 53), (1, .int a1), (2, .int a2)], [], ww w, 0, 0)
    obtain ⟨w2, ew2, H⟩ := am_ltE H
    refine am_go_blk 3 ⟨rfl, rfl, am_hp (ww_f53_4 ew2) (?_ : am_gi (D + 6) 199 o (51, [(0, .ref 53), (1, .int a1), (2, .int a2)], [], ww w2, 0, 0))⟩
    exact am_go_blk 2 ⟨rfl, am_fi H⟩
  · have H := am_ie hc H
    show am_gi (D + 6) 199 o (17, [(0, .ref 53), (1, .int a1), (2, .int a2), (3, .int a3)], [], ww w, 0, 0)
    obtain ⟨w3, ew3, H⟩ := am_ltE H
    refine am_go_blk 8 ⟨rfl, rfl, am_hp (ww_f53_4 ew3) (?_ : am_gi (D + 6) 199 o (29, [(0, .ref 53), (1, .int a1), (2, .int a2), (3, .int a3)], [], ww w3, 0, 0))⟩
    obtain ⟨q4, hqq4, H⟩ := am_bnE H
    refine am_go_blk 9 (?_ : am_gi (D + 6) 199 o (39, [(2, .int ((((nI 10) * a2) + a3) + (nI 1))), (0, .ref 53), (1, .int a1), (3, .int a3)], [.ref 53], ww w3, 0, 0))
    refine am_invd rfl rfl rfl rfl (am_calli rfl (M_Mod_leastFree (D := D) hqq4) (?_ : am_gi (D + 6) 199 o (42, [(2, .int ((((nI 10) * a2) + a3) + (nI 1))), (0, .ref 53), (1, .int a1), (3, .int a3)], [.int q4.1], ww q4.2, 0, 0)))
    exact am_go_blk 2 (Hr12 a1 ((((nI 10) * a2) + a3) + (nI 1)) q4.1 q4.2 H)
theorem TL_Mod_row_12 {D : Nat} {o : Int32 × am_W} : ∀ (n : Nat) (a1 : Int32) (a2 : Int32) (a3 : Int32) (w : am_W) , L_Mod_row_12 n a1 a2 a3 w = some o → am_gi (D + 6) 199 o (12, [(0, .ref 53), (1, .int a1), (2, .int a2), (3, .int a3)], [], ww w, 0, 0)
  | 0, _, _, _, _, H => by cases H
  | n + 1, a1, a2, a3, w, H => T_Mod_row_12 (TL_Mod_row_12 n) a1 a2 a3 w H
theorem T_Mod_row {D : Nat} {o : Int32 × am_W} (w : am_W) (H : F_Mod_row w = some o) : am_gi (D + 6) 199 o (0, [(0, .ref 53)], [], ww w, 0, 0) := by
  unfold F_Mod_row at H
  obtain ⟨q1, hqq1, H⟩ := am_bnE H
  refine am_go_blk 6 (?_ : am_gi (D + 6) 199 o (8, [(2, .int (nI 0)), (1, .int (w.1 53 4)), (0, .ref 53)], [.ref 53], ww w, 0, 0))
  refine am_invd rfl rfl rfl rfl (am_calli rfl (M_Mod_leastFree (D := D) hqq1) (?_ : am_gi (D + 6) 199 o (11, [(2, .int (nI 0)), (1, .int (w.1 53 4)), (0, .ref 53)], [.int q1.1], ww q1.2, 0, 0)))
  exact am_go_blk 1 (TL_Mod_row_12 am_NF (w.1 53 4) (nI 0) q1.1 q1.2 H)
theorem M_Mod_row {D : Nat} {o : Int32 × am_W} {w : am_W} (H : F_Mod_row w = some o) : am_run (D + 7) 199 [.ref 53] (ww w) (some (.int o.1)) (ww o.2) 0 0 :=
  am_run_of rfl (T_Mod_row w H)
def F_Mod_goesIn_45 (s0 : Int32) (w : am_W) : Option (Int32 × am_W) :=
  am_ck (am_bo s0) (some (s0, w))
def F_Mod_goesIn (a1 : Int32) (a2 : Int32) (w : am_W) : Option (Int32 × am_W) :=
  am_ck (am_in a1 8) (if (w.1 54 a1.toNatClampNeg) = (nI 3) then (am_ck (am_in a1 8) ((F_Mod_in a2 (nI 6) ((nI 6) + ((nI 2) * (w.1 55 a1.toNatClampNeg))) w).bind fun q1 => F_Mod_goesIn_45 q1.1 q1.2)) else (am_ck (am_in a1 8) (if (w.1 54 a1.toNatClampNeg) = (nI 5) then (F_Mod_goesIn_45 (nI 0) w) else (F_Mod_goesIn_45 (nI 1) w))))
theorem T_Mod_goesIn_45 {D : Nat} {o : Int32 × am_W} (s0 : Int32) (w : am_W) (H : F_Mod_goesIn_45 s0 w = some o) : am_gi (D + 1) 178 o (45, [], [.int s0], ww w, 0, 0) := by
  unfold F_Mod_goesIn_45 at H
  obtain ⟨hc, H⟩ := am_ckE H
  exact am_go_blk 1 ⟨am_boE hc, am_fi H⟩
theorem T_Mod_goesIn {D : Nat} {o : Int32 × am_W} (a1 : Int32) (a2 : Int32) (w : am_W) (H : F_Mod_goesIn a1 a2 w = some o) : am_gi (D + 1) 178 o (0, [(0, .ref 53), (1, .int a1), (2, .int a2)], [], ww w, 0, 0) := by
  unfold F_Mod_goesIn at H
  obtain ⟨hc, H⟩ := am_ckE H
  refine am_go_blk 4 ⟨am_inv hc, (?_ : am_gi (D + 1) 178 o (6, [(0, .ref 53), (1, .int a1), (2, .int a2)], [.int (w.1 54 a1.toNatClampNeg)], ww w, 0, 0))⟩
  refine am_go_blk 2 ⟨fun hc => ?_, fun hc => ?_⟩
  · have H := am_ie hc H
    show am_gi (D + 1) 178 o (30, [(0, .ref 53), (1, .int a1)], [], ww w, 0, 0)
    obtain ⟨hc, H⟩ := am_ckE H
    refine am_go_blk 4 ⟨am_inv hc, (?_ : am_gi (D + 1) 178 o (36, [(0, .ref 53), (1, .int a1)], [.int (w.1 54 a1.toNatClampNeg)], ww w, 0, 0))⟩
    refine am_go_blk 2 ⟨fun hc => ?_, fun hc => ?_⟩
    · have H := am_it hc H
      show am_gi (D + 1) 178 o (44, [], [], ww w, 0, 0)
      exact am_go_blk 1 (T_Mod_goesIn_45 (nI 0) w H)
    · have H := am_ie hc H
      show am_gi (D + 1) 178 o (40, [(0, .ref 53), (1, .int a1)], [], ww w, 0, 0)
      exact am_go_blk 2 (T_Mod_goesIn_45 (nI 1) w H)
  · have H := am_it hc H
    show am_gi (D + 1) 178 o (10, [(0, .ref 53), (1, .int a1), (2, .int a2)], [], ww w, 0, 0)
    obtain ⟨hc, H⟩ := am_ckE H
    refine am_go_blk 8 ⟨am_inv hc, (?_ : am_gi (D + 1) 178 o (22, [(0, .ref 53), (1, .int a1), (2, .int a2)], [.int (w.1 55 a1.toNatClampNeg), .int (nI 2), .int (nI 6), .int (nI 6), .int a2], ww w, 0, 0))⟩
    obtain ⟨q1, hqq1, H⟩ := am_bnE H
    refine am_go_blk 2 (?_ : am_gi (D + 1) 178 o (24, [(0, .ref 53), (1, .int a1), (2, .int a2)], [.int ((nI 6) + ((nI 2) * (w.1 55 a1.toNatClampNeg))), .int (nI 6), .int a2], ww w, 0, 0))
    refine am_cls rfl rfl rfl (am_calli rfl (M_Mod_in (D := D) hqq1) (?_ : am_gi (D + 1) 178 o (27, [(0, .ref 53), (1, .int a1), (2, .int a2)], [.int q1.1], ww q1.2, 0, 0)))
    exact am_go_blk 1 (T_Mod_goesIn_45 q1.1 q1.2 H)
theorem M_Mod_goesIn {D : Nat} {o : Int32 × am_W} {a1 : Int32} {a2 : Int32} {w : am_W} (H : F_Mod_goesIn a1 a2 w = some o) : am_run (D + 2) 178 [.ref 53, .int a1, .int a2] (ww w) (some (.int o.1)) (ww o.2) 0 0 :=
  am_run_of rfl (T_Mod_goesIn a1 a2 w H)
def F_Mod_round_60 (r4 : Int32 → Int32 → Int32 → am_W → Option (Int32 × am_W)) (a1 : Int32) (a2 : Int32) (a3 : Int32) (w : am_W) : Option (Int32 × am_W) :=
  r4 a1 a2 (a3 + (nI 1)) w
def F_Mod_round_4 (r4 : Int32 → Int32 → Int32 → am_W → Option (Int32 × am_W)) (a1 : Int32) (a2 : Int32) (a3 : Int32) (w : am_W) : Option (Int32 × am_W) :=
  if (w.1 53 0) ≤ a3 then (am_ck (am_bo a2) (some (a2, w))) else (am_ck (am_in a3 8) (if a1 < (w.1 56 a3.toNatClampNeg) then (F_Mod_round_60 r4 a1 a2 a3 w) else ((F_Mod_goesIn a3 a1 w).bind fun q1 => if q1.1 = 0 then (F_Mod_round_60 r4 a1 a2 a3 q1.2) else ((F_Mod_canGo a3 q1.2).bind fun q2 => if q2.1 = 0 then (F_Mod_round_60 r4 a1 a2 a3 q2.2) else (am_lt (wsf q2.2 53 4 ((q2.2.1 53 4) ||| ((nI 1) <<< (a3 &&& 31)))) fun w3 => am_ck (am_in a3 8) (am_lt (wst w3 72 a3 a1) fun w4 => F_Mod_round_60 r4 a1 (nI 1) a3 w4))))))
def L_Mod_round_4 : Nat → Int32 → Int32 → Int32 → am_W → Option (Int32 × am_W)
  | 0, _, _, _, _ => none
  | n + 1, a1, a2, a3, w => F_Mod_round_4 (L_Mod_round_4 n) a1 a2 a3 w
def F_Mod_round (a1 : Int32) (w : am_W) : Option (Int32 × am_W) :=
  L_Mod_round_4 am_NF a1 (nI 0) (nI 0) w
theorem T_Mod_round_60 {D : Nat} {o : Int32 × am_W} {r4 : Int32 → Int32 → Int32 → am_W → Option (Int32 × am_W)} (Hr4 : ∀ (a1 : Int32) (a2 : Int32) (a3 : Int32) (w : am_W) , r4 a1 a2 a3 w = some o → am_gi (D + 5) 201 o (4, [(0, .ref 53), (1, .int a1), (2, .int a2), (3, .int a3)], [], ww w, 0, 0)) (a1 : Int32) (a2 : Int32) (a3 : Int32) (w : am_W) (H : F_Mod_round_60 r4 a1 a2 a3 w = some o) : am_gi (D + 5) 201 o (60, [(0, .ref 53), (1, .int a1), (2, .int a2), (3, .int a3)], [], ww w, 0, 0) := by
  unfold F_Mod_round_60 at H
  exact am_go_blk 2 (Hr4 a1 a2 (a3 + (nI 1)) w H)
theorem T_Mod_round_4 {D : Nat} {o : Int32 × am_W} {r4 : Int32 → Int32 → Int32 → am_W → Option (Int32 × am_W)} (Hr4 : ∀ (a1 : Int32) (a2 : Int32) (a3 : Int32) (w : am_W) , r4 a1 a2 a3 w = some o → am_gi (D + 5) 201 o (4, [(0, .ref 53), (1, .int a1), (2, .int a2), (3, .int a3)], [], ww w, 0, 0)) (a1 : Int32) (a2 : Int32) (a3 : Int32) (w : am_W) (H : F_Mod_round_4 r4 a1 a2 a3 w = some o) : am_gi (D + 5) 201 o (4, [(0, .ref 53), (1, .int a1), (2, .int a2), (3, .int a3)], [], ww w, 0, 0) := by
  unfold F_Mod_round_4 at H
  refine am_go_blk 4 ⟨fun hc => ?_, fun hc => ?_⟩
  · have H := am_it hc H
    show am_gi (D + 5) 201 o (66, [(2, .int a2)], [], ww w, 0, 0)
    obtain ⟨hc, H⟩ := am_ckE H
    exact am_go_blk 2 ⟨am_boE hc, am_fi H⟩
  · have H := am_ie hc H
    show am_gi (D + 5) 201 o (12, [(0, .ref 53), (1, .int a1), (2, .int a2), (3, .int a3)], [], ww w, 0, 0)
    obtain ⟨hc, H⟩ := am_ckE H
    refine am_go_blk 4 ⟨am_inv hc, (?_ : am_gi (D + 5) 201 o (18, [(0, .ref 53), (1, .int a1), (2, .int a2), (3, .int a3)], [.int (w.1 56 a3.toNatClampNeg)], ww w, 0, 0))⟩
    refine am_go_blk 2 ⟨fun hc => ?_, fun hc => ?_⟩
    · have H := am_it hc H
      exact T_Mod_round_60 Hr4 a1 a2 a3 w H
    · have H := am_ie hc H
      show am_gi (D + 5) 201 o (22, [(0, .ref 53), (1, .int a1), (2, .int a2), (3, .int a3)], [], ww w, 0, 0)
      obtain ⟨q1, hqq1, H⟩ := am_bnE H
      refine am_go_blk 3 (?_ : am_gi (D + 5) 201 o (25, [(0, .ref 53), (1, .int a1), (2, .int a2), (3, .int a3)], [.int a1, .int a3, .ref 53], ww w, 0, 0))
      refine am_invd rfl rfl rfl rfl (am_calli rfl (M_Mod_goesIn (D := D + 3) hqq1) (?_ : am_gi (D + 5) 201 o (28, [(0, .ref 53), (1, .int a1), (2, .int a2), (3, .int a3)], [.int q1.1], ww q1.2, 0, 0)))
      refine am_go_blk 1 ⟨fun hc => ?_, fun hc => ?_⟩
      · have H := am_it hc H
        exact T_Mod_round_60 Hr4 a1 a2 a3 q1.2 H
      · have H := am_ie hc H
        show am_gi (D + 5) 201 o (31, [(0, .ref 53), (1, .int a1), (2, .int a2), (3, .int a3)], [], ww q1.2, 0, 0)
        obtain ⟨q2, hqq2, H⟩ := am_bnE H
        refine am_go_blk 2 (?_ : am_gi (D + 5) 201 o (33, [(0, .ref 53), (1, .int a1), (2, .int a2), (3, .int a3)], [.int a3, .ref 53], ww q1.2, 0, 0))
        refine am_invd rfl rfl rfl rfl (am_calli rfl (M_Mod_canGo (D := D) hqq2) (?_ : am_gi (D + 5) 201 o (36, [(0, .ref 53), (1, .int a1), (2, .int a2), (3, .int a3)], [.int q2.1], ww q2.2, 0, 0)))
        refine am_go_blk 1 ⟨fun hc => ?_, fun hc => ?_⟩
        · have H := am_it hc H
          exact T_Mod_round_60 Hr4 a1 a2 a3 q2.2 H
        · have H := am_ie hc H
          show am_gi (D + 5) 201 o (39, [(0, .ref 53), (1, .int a1), (2, .int a2), (3, .int a3)], [], ww q2.2, 0, 0)
          obtain ⟨w3, ew3, H⟩ := am_ltE H
          refine am_go_blk 8 ⟨rfl, rfl, am_hp (ww_f53_4 ew3) (?_ : am_gi (D + 5) 201 o (51, [(0, .ref 53), (1, .int a1), (2, .int a2), (3, .int a3)], [], ww w3, 0, 0))⟩
          obtain ⟨hc, H⟩ := am_ckE H
          obtain ⟨w4, ew4, H⟩ := am_ltE H
          refine am_go_blk 5 ⟨am_inv hc, am_hp (ww_s72 ew4) (?_ : am_gi (D + 5) 201 o (58, [(0, .ref 53), (1, .int a1), (2, .int a2), (3, .int a3)], [], ww w4, 0, 0))⟩
          exact am_go_blk 2 (T_Mod_round_60 Hr4 a1 (nI 1) a3 w4 H)
theorem TL_Mod_round_4 {D : Nat} {o : Int32 × am_W} : ∀ (n : Nat) (a1 : Int32) (a2 : Int32) (a3 : Int32) (w : am_W) , L_Mod_round_4 n a1 a2 a3 w = some o → am_gi (D + 5) 201 o (4, [(0, .ref 53), (1, .int a1), (2, .int a2), (3, .int a3)], [], ww w, 0, 0)
  | 0, _, _, _, _, H => by cases H
  | n + 1, a1, a2, a3, w, H => T_Mod_round_4 (TL_Mod_round_4 n) a1 a2 a3 w H
theorem T_Mod_round {D : Nat} {o : Int32 × am_W} (a1 : Int32) (w : am_W) (H : F_Mod_round a1 w = some o) : am_gi (D + 5) 201 o (0, [(0, .ref 53), (1, .int a1)], [], ww w, 0, 0) := by
  unfold F_Mod_round at H
  exact am_go_blk 4 (TL_Mod_round_4 am_NF a1 (nI 0) (nI 0) w H)
theorem M_Mod_round {D : Nat} {o : Int32 × am_W} {a1 : Int32} {w : am_W} (H : F_Mod_round a1 w = some o) : am_run (D + 6) 201 [.ref 53, .int a1] (ww w) (some (.int o.1)) (ww o.2) 0 0 :=
  am_run_of rfl (T_Mod_round a1 w H)
def F_Mod_lives_36 (r28 : Int32 → Int32 → am_W → Option (am_W)) (r36 : Int32 → Int32 → Int32 → am_W → Option (am_W)) (a1 : Int32) (a2 : Int32) (a3 : Int32) (w : am_W) : Option (am_W) :=
  if a3 = 0 then (r28 a1 (a2 + (nI 1)) w) else ((F_Mod_round a2 w).bind fun q2 => r36 a1 a2 q2.1 q2.2)
def L_Mod_lives_36 (r28 : Int32 → Int32 → am_W → Option (am_W)) : Nat → Int32 → Int32 → Int32 → am_W → Option (am_W)
  | 0, _, _, _, _ => none
  | n + 1, a1, a2, a3, w => F_Mod_lives_36 r28 (L_Mod_lives_36 r28 n) a1 a2 a3 w
def F_Mod_lives_28 (r28 : Int32 → Int32 → am_W → Option (am_W)) (a1 : Int32) (a2 : Int32) (w : am_W) : Option (am_W) :=
  if (nI 24) ≤ a2 then (am_lt (wsf w 53 4 a1) fun w1 => some w1) else (L_Mod_lives_36 r28 am_NF a1 a2 (nI 1) w)
def L_Mod_lives_28 : Nat → Int32 → Int32 → am_W → Option (am_W)
  | 0, _, _, _ => none
  | n + 1, a1, a2, w => F_Mod_lives_28 (L_Mod_lives_28 n) a1 a2 w
def F_Mod_lives_7 (r7 : Int32 → Int32 → am_W → Option (am_W)) (a1 : Int32) (a2 : Int32) (w : am_W) : Option (am_W) :=
  if (nI 8) ≤ a2 then (L_Mod_lives_28 am_NF a1 (nI 0) w) else (am_ck (am_in a2 8) (am_lt (wst w 72 a2 (-nI 1)) fun w3 => r7 a1 (a2 + (nI 1)) w3))
def L_Mod_lives_7 : Nat → Int32 → Int32 → am_W → Option (am_W)
  | 0, _, _, _ => none
  | n + 1, a1, a2, w => F_Mod_lives_7 (L_Mod_lives_7 n) a1 a2 w
def F_Mod_lives (w : am_W) : Option (am_W) :=
  L_Mod_lives_7 am_NF (w.1 53 4) (nI 0) w
theorem T_Mod_lives_36 {D : Nat} {o : am_W} {r28 : Int32 → Int32 → am_W → Option (am_W)} {r36 : Int32 → Int32 → Int32 → am_W → Option (am_W)} (Hr28 : ∀ (a1 : Int32) (a2 : Int32) (w : am_W) , r28 a1 a2 w = some o → am_gv (D + 6) 202 o (28, [(0, .ref 53), (1, .int a1), (2, .int a2)], [], ww w, 0, 0)) (Hr36 : ∀ (a1 : Int32) (a2 : Int32) (a3 : Int32) (w : am_W) , r36 a1 a2 a3 w = some o → am_gv (D + 6) 202 o (36, [(0, .ref 53), (1, .int a1), (2, .int a2), (3, .int a3)], [], ww w, 0, 0)) (a1 : Int32) (a2 : Int32) (a3 : Int32) (w : am_W) (H : F_Mod_lives_36 r28 r36 a1 a2 a3 w = some o) : am_gv (D + 6) 202 o (36, [(0, .ref 53), (1, .int a1), (2, .int a2), (3, .int a3)], [], ww w, 0, 0) := by
  unfold F_Mod_lives_36 at H
  refine am_go_blk 2 ⟨fun hc => ?_, fun hc => ?_⟩
  · have H := am_it hc H
    show am_gv (D + 6) 202 o (49, [(0, .ref 53), (1, .int a1), (2, .int a2)], [], ww w, 0, 0)
    exact am_go_blk 2 (Hr28 a1 (a2 + (nI 1)) w H)
  · have H := am_ie hc H
    show am_gv (D + 6) 202 o (40, [(0, .ref 53), (1, .int a1), (2, .int a2), (3, .int a3)], [], ww w, 0, 0)
    obtain ⟨q2, hqq2, H⟩ := am_bnE H
    refine am_go_blk 2 (?_ : am_gv (D + 6) 202 o (42, [(0, .ref 53), (1, .int a1), (2, .int a2), (3, .int a3)], [.int a2, .ref 53], ww w, 0, 0))
    refine am_invd rfl rfl rfl rfl (am_calli rfl (M_Mod_round (D := D) hqq2) (?_ : am_gv (D + 6) 202 o (45, [(0, .ref 53), (1, .int a1), (2, .int a2), (3, .int a3)], [.int q2.1], ww q2.2, 0, 0)))
    exact am_go_blk 2 (Hr36 a1 a2 q2.1 q2.2 H)
theorem TL_Mod_lives_36 {D : Nat} {o : am_W} {r28 : Int32 → Int32 → am_W → Option (am_W)} (Hr28 : ∀ (a1 : Int32) (a2 : Int32) (w : am_W) , r28 a1 a2 w = some o → am_gv (D + 6) 202 o (28, [(0, .ref 53), (1, .int a1), (2, .int a2)], [], ww w, 0, 0)) : ∀ (n : Nat) (a1 : Int32) (a2 : Int32) (a3 : Int32) (w : am_W) , L_Mod_lives_36 r28 n a1 a2 a3 w = some o → am_gv (D + 6) 202 o (36, [(0, .ref 53), (1, .int a1), (2, .int a2), (3, .int a3)], [], ww w, 0, 0)
  | 0, _, _, _, _, H => by cases H
  | n + 1, a1, a2, a3, w, H => T_Mod_lives_36 Hr28 (TL_Mod_lives_36 Hr28 n) a1 a2 a3 w H
theorem T_Mod_lives_28 {D : Nat} {o : am_W} {r28 : Int32 → Int32 → am_W → Option (am_W)} (Hr28 : ∀ (a1 : Int32) (a2 : Int32) (w : am_W) , r28 a1 a2 w = some o → am_gv (D + 6) 202 o (28, [(0, .ref 53), (1, .int a1), (2, .int a2)], [], ww w, 0, 0)) (a1 : Int32) (a2 : Int32) (w : am_W) (H : F_Mod_lives_28 r28 a1 a2 w = some o) : am_gv (D + 6) 202 o (28, [(0, .ref 53), (1, .int a1), (2, .int a2)], [], ww w, 0, 0) := by
  unfold F_Mod_lives_28 at H
  refine am_go_blk 3 ⟨fun hc => ?_, fun hc => ?_⟩
  · have H := am_it hc H
    show am_gv (D + 6) 202 o (55, [(0, .ref 53), (1, .int a1)], [], ww w, 0, 0)
    obtain ⟨w1, ew1, H⟩ := am_ltE H
    refine am_go_blk 3 ⟨rfl, rfl, am_hp (ww_f53_4 ew1) (?_ : am_gv (D + 6) 202 o (60, [(0, .ref 53), (1, .int a1)], [], ww w1, 0, 0))⟩
    exact am_go_blk 1 (am_fv H)
  · have H := am_ie hc H
    show am_gv (D + 6) 202 o (34, [(0, .ref 53), (1, .int a1), (2, .int a2)], [], ww w, 0, 0)
    exact am_go_blk 2 (TL_Mod_lives_36 Hr28 am_NF a1 a2 (nI 1) w H)
theorem TL_Mod_lives_28 {D : Nat} {o : am_W} : ∀ (n : Nat) (a1 : Int32) (a2 : Int32) (w : am_W) , L_Mod_lives_28 n a1 a2 w = some o → am_gv (D + 6) 202 o (28, [(0, .ref 53), (1, .int a1), (2, .int a2)], [], ww w, 0, 0)
  | 0, _, _, _, H => by cases H
  | n + 1, a1, a2, w, H => T_Mod_lives_28 (TL_Mod_lives_28 n) a1 a2 w H
theorem T_Mod_lives_7 {D : Nat} {o : am_W} {r7 : Int32 → Int32 → am_W → Option (am_W)} (Hr7 : ∀ (a1 : Int32) (a2 : Int32) (w : am_W) , r7 a1 a2 w = some o → am_gv (D + 6) 202 o (7, [(0, .ref 53), (1, .int a1), (2, .int a2)], [], ww w, 0, 0)) (a1 : Int32) (a2 : Int32) (w : am_W) (H : F_Mod_lives_7 r7 a1 a2 w = some o) : am_gv (D + 6) 202 o (7, [(0, .ref 53), (1, .int a1), (2, .int a2)], [], ww w, 0, 0) := by
  unfold F_Mod_lives_7 at H
  refine am_go_blk 3 ⟨fun hc => ?_, fun hc => ?_⟩
  · have H := am_it hc H
    show am_gv (D + 6) 202 o (26, [(0, .ref 53), (1, .int a1)], [], ww w, 0, 0)
    exact am_go_blk 2 (TL_Mod_lives_28 am_NF a1 (nI 0) w H)
  · have H := am_ie hc H
    show am_gv (D + 6) 202 o (13, [(0, .ref 53), (1, .int a1), (2, .int a2)], [], ww w, 0, 0)
    obtain ⟨hc, H⟩ := am_ckE H
    obtain ⟨w3, ew3, H⟩ := am_ltE H
    refine am_go_blk 5 ⟨am_inv hc, am_hp (ww_s72 ew3) (?_ : am_gv (D + 6) 202 o (20, [(0, .ref 53), (1, .int a1), (2, .int a2)], [], ww w3, 0, 0))⟩
    exact am_go_blk 2 (Hr7 a1 (a2 + (nI 1)) w3 H)
theorem TL_Mod_lives_7 {D : Nat} {o : am_W} : ∀ (n : Nat) (a1 : Int32) (a2 : Int32) (w : am_W) , L_Mod_lives_7 n a1 a2 w = some o → am_gv (D + 6) 202 o (7, [(0, .ref 53), (1, .int a1), (2, .int a2)], [], ww w, 0, 0)
  | 0, _, _, _, H => by cases H
  | n + 1, a1, a2, w, H => T_Mod_lives_7 (TL_Mod_lives_7 n) a1 a2 w H
theorem T_Mod_lives {D : Nat} {o : am_W} (w : am_W) (H : F_Mod_lives w = some o) : am_gv (D + 6) 202 o (0, [(0, .ref 53)], [], ww w, 0, 0) := by
  unfold F_Mod_lives at H
  exact am_go_blk 5 (TL_Mod_lives_7 am_NF (w.1 53 4) (nI 0) w H)
theorem M_Mod_lives {D : Nat} {o : am_W} {w : am_W} (H : F_Mod_lives w = some o) : am_run (D + 7) 202 [.ref 53] (ww w) none (ww o) 0 0 :=
  am_run_of rfl (T_Mod_lives w H)
def F_Mod_hour (a1 : Int32) (w : am_W) : Option (Int32 × am_W) :=
  (F_Mod_isThing a1 w).bind fun q1 => if q1.1 = 0 then (some ((-nI 5), q1.2)) else ((F_Mod_isGone a1 q1.2).bind fun q2 => if q2.1 = 0 then ((F_Mod_lives q2.2).bind fun w3 => am_ck (am_in a1 8) (some ((w3.1 72 a1.toNatClampNeg), w3))) else (some ((-nI 3), q2.2)))
theorem T_Mod_hour {D : Nat} {o : Int32 × am_W} (a1 : Int32) (w : am_W) (H : F_Mod_hour a1 w = some o) : am_gi (D + 7) 203 o (0, [(0, .ref 53), (1, .int a1)], [], ww w, 0, 0) := by
  unfold F_Mod_hour at H
  obtain ⟨q1, hqq1, H⟩ := am_bnE H
  refine am_go_blk 2 (?_ : am_gi (D + 7) 203 o (2, [(0, .ref 53), (1, .int a1)], [.int a1, .ref 53], ww w, 0, 0))
  refine am_invd rfl rfl rfl rfl (am_calli rfl (M_Mod_isThing (D := D + 5) hqq1) (?_ : am_gi (D + 7) 203 o (5, [(0, .ref 53), (1, .int a1)], [.int q1.1], ww q1.2, 0, 0)))
  refine am_go_blk 1 ⟨fun hc => ?_, fun hc => ?_⟩
  · have H := am_ie hc H
    show am_gi (D + 7) 203 o (11, [(0, .ref 53), (1, .int a1)], [], ww q1.2, 0, 0)
    obtain ⟨q2, hqq2, H⟩ := am_bnE H
    refine am_go_blk 2 (?_ : am_gi (D + 7) 203 o (13, [(0, .ref 53), (1, .int a1)], [.int a1, .ref 53], ww q1.2, 0, 0))
    refine am_invd rfl rfl rfl rfl (am_calli rfl (M_Mod_isGone (D := D + 6) hqq2) (?_ : am_gi (D + 7) 203 o (16, [(0, .ref 53), (1, .int a1)], [.int q2.1], ww q2.2, 0, 0)))
    refine am_go_blk 1 ⟨fun hc => ?_, fun hc => ?_⟩
    · have H := am_it hc H
      show am_gi (D + 7) 203 o (22, [(0, .ref 53), (1, .int a1)], [], ww q2.2, 0, 0)
      obtain ⟨w3, hqw3, H⟩ := am_bnE H
      refine am_go_blk 1 (?_ : am_gi (D + 7) 203 o (23, [(0, .ref 53), (1, .int a1)], [.ref 53], ww q2.2, 0, 0))
      refine am_invd rfl rfl rfl rfl (am_callv rfl (M_Mod_lives (D := D) hqw3) (?_ : am_gi (D + 7) 203 o (26, [(0, .ref 53), (1, .int a1)], [], ww w3, 0, 0)))
      obtain ⟨hc, H⟩ := am_ckE H
      refine am_go_blk 4 ⟨am_inv hc, (?_ : am_gi (D + 7) 203 o (32, [(0, .ref 53), (1, .int a1)], [.int (w3.1 72 a1.toNatClampNeg)], ww w3, 0, 0))⟩
      exact am_go_blk 1 ⟨rfl, am_fi H⟩
    · have H := am_ie hc H
      show am_gi (D + 7) 203 o (19, [(0, .ref 53), (1, .int a1)], [], ww q2.2, 0, 0)
      exact am_go_blk 2 ⟨rfl, am_fi H⟩
  · have H := am_it hc H
    show am_gi (D + 7) 203 o (8, [(0, .ref 53), (1, .int a1)], [], ww q1.2, 0, 0)
    exact am_go_blk 2 ⟨rfl, am_fi H⟩
theorem M_Mod_hour {D : Nat} {o : Int32 × am_W} {a1 : Int32} {w : am_W} (H : F_Mod_hour a1 w = some o) : am_run (D + 8) 203 [.ref 53, .int a1] (ww w) (some (.int o.1)) (ww o.2) 0 0 :=
  am_run_of rfl (T_Mod_hour a1 w H)
def F_Mod_badness_78 (r8 : Int32 → Int32 → am_W → Option (Int32 × am_W)) (a1 : Int32) (a2 : Int32) (w : am_W) : Option (Int32 × am_W) :=
  r8 a1 (a2 + (nI 1)) w
def F_Mod_badness_46 (r8 : Int32 → Int32 → am_W → Option (Int32 × am_W)) (r46 : Int32 → Int32 → Int32 → Int32 → am_W → Option (Int32 × am_W)) (a1 : Int32) (a2 : Int32) (a3 : Int32) (a4 : Int32) (w : am_W) : Option (Int32 × am_W) :=
  if a3 ≤ a4 then (F_Mod_badness_78 r8 a1 a2 w) else ((F_Mod_isGone a2 w).bind fun q2 => if q2.1 = 0 then ((F_Mod_asksOf (nI 2) a2 (-nI 1) a4 q2.2).bind fun q3 => r46 (a1 + q3.1) a2 a3 (a4 + (nI 1)) q3.2) else (F_Mod_badness_78 r8 a1 a2 q2.2))
def L_Mod_badness_46 (r8 : Int32 → Int32 → am_W → Option (Int32 × am_W)) : Nat → Int32 → Int32 → Int32 → Int32 → am_W → Option (Int32 × am_W)
  | 0, _, _, _, _, _ => none
  | n + 1, a1, a2, a3, a4, w => F_Mod_badness_46 r8 (L_Mod_badness_46 r8 n) a1 a2 a3 a4 w
def F_Mod_badness_37 (r8 : Int32 → Int32 → am_W → Option (Int32 × am_W)) (a1 : Int32) (a2 : Int32) (s0 : Int32) (w : am_W) : Option (Int32 × am_W) :=
  am_ck (am_in a2 8) (L_Mod_badness_46 r8 am_NF a1 a2 s0 (w.1 56 a2.toNatClampNeg) w)
def F_Mod_badness_8 (r8 : Int32 → Int32 → am_W → Option (Int32 × am_W)) (a1 : Int32) (a2 : Int32) (w : am_W) : Option (Int32 × am_W) :=
  if (w.1 53 0) ≤ a2 then (some (a1, w)) else (am_ck (am_in a2 8) (if (w.1 72 a2.toNatClampNeg) = (-nI 1) then (F_Mod_badness_37 r8 a1 a2 (nI 24) w) else (am_ck (am_in a2 8) (F_Mod_badness_37 r8 a1 a2 (w.1 72 a2.toNatClampNeg) w))))
def L_Mod_badness_8 : Nat → Int32 → Int32 → am_W → Option (Int32 × am_W)
  | 0, _, _, _ => none
  | n + 1, a1, a2, w => F_Mod_badness_8 (L_Mod_badness_8 n) a1 a2 w
def F_Mod_badness (w : am_W) : Option (Int32 × am_W) :=
  (F_Mod_lives w).bind fun w1 => L_Mod_badness_8 am_NF (nI 0) (nI 0) w1
theorem T_Mod_badness_78 {D : Nat} {o : Int32 × am_W} {r8 : Int32 → Int32 → am_W → Option (Int32 × am_W)} (Hr8 : ∀ (a1 : Int32) (a2 : Int32) (w : am_W) , r8 a1 a2 w = some o → am_gi (D + 7) 204 o (8, [(0, .ref 53), (1, .int a1), (2, .int a2)], [], ww w, 0, 0)) (a1 : Int32) (a2 : Int32) (w : am_W) (H : F_Mod_badness_78 r8 a1 a2 w = some o) : am_gi (D + 7) 204 o (78, [(0, .ref 53), (1, .int a1), (2, .int a2)], [], ww w, 0, 0) := by
  unfold F_Mod_badness_78 at H
  exact am_go_blk 2 (Hr8 a1 (a2 + (nI 1)) w H)
theorem T_Mod_badness_46 {D : Nat} {o : Int32 × am_W} {r8 : Int32 → Int32 → am_W → Option (Int32 × am_W)} {r46 : Int32 → Int32 → Int32 → Int32 → am_W → Option (Int32 × am_W)} (Hr8 : ∀ (a1 : Int32) (a2 : Int32) (w : am_W) , r8 a1 a2 w = some o → am_gi (D + 7) 204 o (8, [(0, .ref 53), (1, .int a1), (2, .int a2)], [], ww w, 0, 0)) (Hr46 : ∀ (a1 : Int32) (a2 : Int32) (a3 : Int32) (a4 : Int32) (w : am_W) , r46 a1 a2 a3 a4 w = some o → am_gi (D + 7) 204 o (46, [(0, .ref 53), (1, .int a1), (2, .int a2), (3, .int a3), (4, .int a4)], [], ww w, 0, 0)) (a1 : Int32) (a2 : Int32) (a3 : Int32) (a4 : Int32) (w : am_W) (H : F_Mod_badness_46 r8 r46 a1 a2 a3 a4 w = some o) : am_gi (D + 7) 204 o (46, [(0, .ref 53), (1, .int a1), (2, .int a2), (3, .int a3), (4, .int a4)], [], ww w, 0, 0) := by
  unfold F_Mod_badness_46 at H
  refine am_go_blk 3 ⟨fun hc => ?_, fun hc => ?_⟩
  · have H := am_it hc H
    exact T_Mod_badness_78 Hr8 a1 a2 w H
  · have H := am_ie hc H
    show am_gi (D + 7) 204 o (52, [(0, .ref 53), (1, .int a1), (2, .int a2), (3, .int a3), (4, .int a4)], [], ww w, 0, 0)
    obtain ⟨q2, hqq2, H⟩ := am_bnE H
    refine am_go_blk 2 (?_ : am_gi (D + 7) 204 o (54, [(0, .ref 53), (1, .int a1), (2, .int a2), (3, .int a3), (4, .int a4)], [.int a2, .ref 53], ww w, 0, 0))
    refine am_invd rfl rfl rfl rfl (am_calli rfl (M_Mod_isGone (D := D + 6) hqq2) (?_ : am_gi (D + 7) 204 o (57, [(0, .ref 53), (1, .int a1), (2, .int a2), (3, .int a3), (4, .int a4)], [.int q2.1], ww q2.2, 0, 0)))
    refine am_go_blk 1 ⟨fun hc => ?_, fun hc => ?_⟩
    · have H := am_ie hc H
      exact T_Mod_badness_78 Hr8 a1 a2 q2.2 H
    · have H := am_it hc H
      show am_gi (D + 7) 204 o (60, [(0, .ref 53), (1, .int a1), (2, .int a2), (3, .int a3), (4, .int a4)], [], ww q2.2, 0, 0)
      obtain ⟨q3, hqq3, H⟩ := am_bnE H
      refine am_go_blk 6 (?_ : am_gi (D + 7) 204 o (67, [(0, .ref 53), (1, .int a1), (2, .int a2), (3, .int a3), (4, .int a4)], [.int a4, .int (-nI 1), .int a2, .int (nI 2), .ref 53, .int a1], ww q2.2, 0, 0))
      refine am_invd rfl rfl rfl rfl (am_calli rfl (M_Mod_asksOf (D := D + 4) hqq3) (?_ : am_gi (D + 7) 204 o (70, [(0, .ref 53), (1, .int a1), (2, .int a2), (3, .int a3), (4, .int a4)], [.int q3.1, .int a1], ww q3.2, 0, 0)))
      exact am_go_blk 4 (Hr46 (a1 + q3.1) a2 a3 (a4 + (nI 1)) q3.2 H)
theorem TL_Mod_badness_46 {D : Nat} {o : Int32 × am_W} {r8 : Int32 → Int32 → am_W → Option (Int32 × am_W)} (Hr8 : ∀ (a1 : Int32) (a2 : Int32) (w : am_W) , r8 a1 a2 w = some o → am_gi (D + 7) 204 o (8, [(0, .ref 53), (1, .int a1), (2, .int a2)], [], ww w, 0, 0)) : ∀ (n : Nat) (a1 : Int32) (a2 : Int32) (a3 : Int32) (a4 : Int32) (w : am_W) , L_Mod_badness_46 r8 n a1 a2 a3 a4 w = some o → am_gi (D + 7) 204 o (46, [(0, .ref 53), (1, .int a1), (2, .int a2), (3, .int a3), (4, .int a4)], [], ww w, 0, 0)
  | 0, _, _, _, _, _, H => by cases H
  | n + 1, a1, a2, a3, a4, w, H => T_Mod_badness_46 Hr8 (TL_Mod_badness_46 Hr8 n) a1 a2 a3 a4 w H
theorem T_Mod_badness_37 {D : Nat} {o : Int32 × am_W} {r8 : Int32 → Int32 → am_W → Option (Int32 × am_W)} (Hr8 : ∀ (a1 : Int32) (a2 : Int32) (w : am_W) , r8 a1 a2 w = some o → am_gi (D + 7) 204 o (8, [(0, .ref 53), (1, .int a1), (2, .int a2)], [], ww w, 0, 0)) (a1 : Int32) (a2 : Int32) (s0 : Int32) (w : am_W) (H : F_Mod_badness_37 r8 a1 a2 s0 w = some o) : am_gi (D + 7) 204 o (37, [(0, .ref 53), (1, .int a1), (2, .int a2)], [.int s0], ww w, 0, 0) := by
  unfold F_Mod_badness_37 at H
  obtain ⟨hc, H⟩ := am_ckE H
  refine am_go_blk 5 ⟨am_inv hc, (?_ : am_gi (D + 7) 204 o (44, [(3, .int s0), (0, .ref 53), (1, .int a1), (2, .int a2)], [.int (w.1 56 a2.toNatClampNeg)], ww w, 0, 0))⟩
  exact am_go_blk 1 (TL_Mod_badness_46 Hr8 am_NF a1 a2 s0 (w.1 56 a2.toNatClampNeg) w H)
theorem T_Mod_badness_8 {D : Nat} {o : Int32 × am_W} {r8 : Int32 → Int32 → am_W → Option (Int32 × am_W)} (Hr8 : ∀ (a1 : Int32) (a2 : Int32) (w : am_W) , r8 a1 a2 w = some o → am_gi (D + 7) 204 o (8, [(0, .ref 53), (1, .int a1), (2, .int a2)], [], ww w, 0, 0)) (a1 : Int32) (a2 : Int32) (w : am_W) (H : F_Mod_badness_8 r8 a1 a2 w = some o) : am_gi (D + 7) 204 o (8, [(0, .ref 53), (1, .int a1), (2, .int a2)], [], ww w, 0, 0) := by
  unfold F_Mod_badness_8 at H
  refine am_go_blk 4 ⟨fun hc => ?_, fun hc => ?_⟩
  · have H := am_it hc H
    show am_gi (D + 7) 204 o (84, [(1, .int a1)], [], ww w, 0, 0)
    exact am_go_blk 2 ⟨rfl, am_fi H⟩
  · have H := am_ie hc H
    show am_gi (D + 7) 204 o (16, [(0, .ref 53), (1, .int a1), (2, .int a2)], [], ww w, 0, 0)
    obtain ⟨hc, H⟩ := am_ckE H
    refine am_go_blk 4 ⟨am_inv hc, (?_ : am_gi (D + 7) 204 o (22, [(0, .ref 53), (1, .int a1), (2, .int a2)], [.int (w.1 72 a2.toNatClampNeg)], ww w, 0, 0))⟩
    refine am_go_blk 2 ⟨fun hc => ?_, fun hc => ?_⟩
    · have H := am_ie hc H
      show am_gi (D + 7) 204 o (31, [(0, .ref 53), (1, .int a1), (2, .int a2)], [], ww w, 0, 0)
      obtain ⟨hc, H⟩ := am_ckE H
      refine am_go_blk 4 ⟨am_inv hc, (?_ : am_gi (D + 7) 204 o (37, [(0, .ref 53), (1, .int a1), (2, .int a2)], [.int (w.1 72 a2.toNatClampNeg)], ww w, 0, 0))⟩
      exact T_Mod_badness_37 Hr8 a1 a2 (w.1 72 a2.toNatClampNeg) w H
    · have H := am_it hc H
      show am_gi (D + 7) 204 o (26, [(0, .ref 53), (1, .int a1), (2, .int a2)], [], ww w, 0, 0)
      exact am_go_blk 2 (T_Mod_badness_37 Hr8 a1 a2 (nI 24) w H)
theorem TL_Mod_badness_8 {D : Nat} {o : Int32 × am_W} : ∀ (n : Nat) (a1 : Int32) (a2 : Int32) (w : am_W) , L_Mod_badness_8 n a1 a2 w = some o → am_gi (D + 7) 204 o (8, [(0, .ref 53), (1, .int a1), (2, .int a2)], [], ww w, 0, 0)
  | 0, _, _, _, H => by cases H
  | n + 1, a1, a2, w, H => T_Mod_badness_8 (TL_Mod_badness_8 n) a1 a2 w H
theorem T_Mod_badness {D : Nat} {o : Int32 × am_W} (w : am_W) (H : F_Mod_badness w = some o) : am_gi (D + 7) 204 o (0, [(0, .ref 53)], [], ww w, 0, 0) := by
  unfold F_Mod_badness at H
  obtain ⟨w1, hqw1, H⟩ := am_bnE H
  refine am_go_blk 1 (?_ : am_gi (D + 7) 204 o (1, [(0, .ref 53)], [.ref 53], ww w, 0, 0))
  refine am_invd rfl rfl rfl rfl (am_callv rfl (M_Mod_lives (D := D) hqw1) (?_ : am_gi (D + 7) 204 o (4, [(0, .ref 53)], [], ww w1, 0, 0)))
  exact am_go_blk 4 (TL_Mod_badness_8 am_NF (nI 0) (nI 0) w1 H)
theorem M_Mod_badness {D : Nat} {o : Int32 × am_W} {w : am_W} (H : F_Mod_badness w = some o) : am_run (D + 8) 204 [.ref 53] (ww w) (some (.int o.1)) (ww o.2) 0 0 :=
  am_run_of rfl (T_Mod_badness w H)
def F_Mod_day_103 (r29 : Int32 → Int32 → Int32 → am_W → Option (Int32 × am_W)) (a1 : Int32) (a3 : Int32) (s0 : Int32) (s1 : Int32) (w : am_W) : Option (Int32 × am_W) :=
  r29 a1 (s1 ||| s0) (a3 + (nI 1)) w
def F_Mod_day_102 (r29 : Int32 → Int32 → Int32 → am_W → Option (Int32 × am_W)) (a1 : Int32) (a3 : Int32) (s0 : Int32) (w : am_W) : Option (Int32 × am_W) :=
  F_Mod_day_103 r29 a1 a3 (nI 0) s0 w
def F_Mod_day_80 (r29 : Int32 → Int32 → Int32 → am_W → Option (Int32 × am_W)) (a1 : Int32) (a2 : Int32) (a3 : Int32) (s0 : Int32) (w : am_W) : Option (Int32 × am_W) :=
  if s0 = 0 then (F_Mod_day_102 r29 a1 a3 a2 w) else ((F_Mod_isGone a3 w).bind fun q3 => if q3.1 = 0 then (F_Mod_day_103 r29 a1 a3 ((nI 1) <<< (a3 &&& 31)) a2 q3.2) else (F_Mod_day_102 r29 a1 a3 a2 q3.2))
def F_Mod_day_29 (r29 : Int32 → Int32 → Int32 → am_W → Option (Int32 × am_W)) (a1 : Int32) (a2 : Int32) (a3 : Int32) (w : am_W) : Option (Int32 × am_W) :=
  if (w.1 53 0) ≤ a3 then (some (a2, w)) else (if a1 = (nI 1) then (am_ck (am_in a3 8) (am_ck (am_in a3 8) (if (w.1 72 a3.toNatClampNeg) = (w.1 56 a3.toNatClampNeg) then (F_Mod_day_80 r29 a1 a2 a3 (nI 0) w) else (F_Mod_day_80 r29 a1 a2 a3 (nI 1) w)))) else (am_ck (am_in a3 8) (if (w.1 72 a3.toNatClampNeg) = (-nI 1) then (F_Mod_day_80 r29 a1 a2 a3 (nI 1) w) else (F_Mod_day_80 r29 a1 a2 a3 (nI 0) w))))
def L_Mod_day_29 : Nat → Int32 → Int32 → Int32 → am_W → Option (Int32 × am_W)
  | 0, _, _, _, _ => none
  | n + 1, a1, a2, a3, w => F_Mod_day_29 (L_Mod_day_29 n) a1 a2 a3 w
def F_Mod_day (a1 : Int32) (w : am_W) : Option (Int32 × am_W) :=
  (F_Mod_in a1 (nI 0) (nI 2) w).bind fun q1 => if q1.1 = 0 then (some ((-nI 2), q1.2)) else (if a1 = 0 then ((F_Mod_badness q1.2).bind fun q4 => some (q4.1, q4.2)) else ((F_Mod_lives q1.2).bind fun w2 => L_Mod_day_29 am_NF a1 (nI 0) (nI 0) w2))
theorem T_Mod_day_103 {D : Nat} {o : Int32 × am_W} {r29 : Int32 → Int32 → Int32 → am_W → Option (Int32 × am_W)} (Hr29 : ∀ (a1 : Int32) (a2 : Int32) (a3 : Int32) (w : am_W) , r29 a1 a2 a3 w = some o → am_gi (D + 8) 205 o (29, [(0, .ref 53), (1, .int a1), (2, .int a2), (3, .int a3)], [], ww w, 0, 0)) (a1 : Int32) (a3 : Int32) (s0 : Int32) (s1 : Int32) (w : am_W) (H : F_Mod_day_103 r29 a1 a3 s0 s1 w = some o) : am_gi (D + 8) 205 o (103, [(0, .ref 53), (1, .int a1), (3, .int a3)], [.int s0, .int s1], ww w, 0, 0) := by
  unfold F_Mod_day_103 at H
  exact am_go_blk 4 (Hr29 a1 (s1 ||| s0) (a3 + (nI 1)) w H)
theorem T_Mod_day_102 {D : Nat} {o : Int32 × am_W} {r29 : Int32 → Int32 → Int32 → am_W → Option (Int32 × am_W)} (Hr29 : ∀ (a1 : Int32) (a2 : Int32) (a3 : Int32) (w : am_W) , r29 a1 a2 a3 w = some o → am_gi (D + 8) 205 o (29, [(0, .ref 53), (1, .int a1), (2, .int a2), (3, .int a3)], [], ww w, 0, 0)) (a1 : Int32) (a3 : Int32) (s0 : Int32) (w : am_W) (H : F_Mod_day_102 r29 a1 a3 s0 w = some o) : am_gi (D + 8) 205 o (102, [(0, .ref 53), (1, .int a1), (3, .int a3)], [.int s0], ww w, 0, 0) := by
  unfold F_Mod_day_102 at H
  exact am_go_blk 1 (T_Mod_day_103 Hr29 a1 a3 (nI 0) s0 w H)
theorem T_Mod_day_80 {D : Nat} {o : Int32 × am_W} {r29 : Int32 → Int32 → Int32 → am_W → Option (Int32 × am_W)} (Hr29 : ∀ (a1 : Int32) (a2 : Int32) (a3 : Int32) (w : am_W) , r29 a1 a2 a3 w = some o → am_gi (D + 8) 205 o (29, [(0, .ref 53), (1, .int a1), (2, .int a2), (3, .int a3)], [], ww w, 0, 0)) (a1 : Int32) (a2 : Int32) (a3 : Int32) (s0 : Int32) (w : am_W) (H : F_Mod_day_80 r29 a1 a2 a3 s0 w = some o) : am_gi (D + 8) 205 o (80, [(0, .ref 53), (1, .int a1), (2, .int a2), (3, .int a3)], [.int s0], ww w, 0, 0) := by
  unfold F_Mod_day_80 at H
  refine am_go_blk 4 ⟨fun hc => ?_, fun hc => ?_⟩
  · have H := am_it hc H
    exact T_Mod_day_102 Hr29 a1 a3 a2 w H
  · have H := am_ie hc H
    show am_gi (D + 8) 205 o (88, [(4, .int s0), (0, .ref 53), (1, .int a1), (2, .int a2), (3, .int a3)], [.int a2], ww w, 0, 0)
    obtain ⟨q3, hqq3, H⟩ := am_bnE H
    refine am_go_blk 2 (?_ : am_gi (D + 8) 205 o (90, [(4, .int s0), (0, .ref 53), (1, .int a1), (2, .int a2), (3, .int a3)], [.int a3, .ref 53, .int a2], ww w, 0, 0))
    refine am_invd rfl rfl rfl rfl (am_calli rfl (M_Mod_isGone (D := D + 7) hqq3) (?_ : am_gi (D + 8) 205 o (93, [(4, .int s0), (0, .ref 53), (1, .int a1), (2, .int a2), (3, .int a3)], [.int q3.1, .int a2], ww q3.2, 0, 0)))
    refine am_go_blk 1 ⟨fun hc => ?_, fun hc => ?_⟩
    · have H := am_ie hc H
      exact T_Mod_day_102 Hr29 a1 a3 a2 q3.2 H
    · have H := am_it hc H
      show am_gi (D + 8) 205 o (96, [(4, .int s0), (0, .ref 53), (1, .int a1), (2, .int a2), (3, .int a3)], [.int a2], ww q3.2, 0, 0)
      exact am_go_blk 4 (T_Mod_day_103 Hr29 a1 a3 ((nI 1) <<< (a3 &&& 31)) a2 q3.2 H)
theorem T_Mod_day_29 {D : Nat} {o : Int32 × am_W} {r29 : Int32 → Int32 → Int32 → am_W → Option (Int32 × am_W)} (Hr29 : ∀ (a1 : Int32) (a2 : Int32) (a3 : Int32) (w : am_W) , r29 a1 a2 a3 w = some o → am_gi (D + 8) 205 o (29, [(0, .ref 53), (1, .int a1), (2, .int a2), (3, .int a3)], [], ww w, 0, 0)) (a1 : Int32) (a2 : Int32) (a3 : Int32) (w : am_W) (H : F_Mod_day_29 r29 a1 a2 a3 w = some o) : am_gi (D + 8) 205 o (29, [(0, .ref 53), (1, .int a1), (2, .int a2), (3, .int a3)], [], ww w, 0, 0) := by
  unfold F_Mod_day_29 at H
  refine am_go_blk 4 ⟨fun hc => ?_, fun hc => ?_⟩
  · have H := am_it hc H
    show am_gi (D + 8) 205 o (111, [(2, .int a2)], [], ww w, 0, 0)
    exact am_go_blk 2 ⟨rfl, am_fi H⟩
  · have H := am_ie hc H
    show am_gi (D + 8) 205 o (37, [(0, .ref 53), (1, .int a1), (2, .int a2), (3, .int a3)], [], ww w, 0, 0)
    refine am_go_blk 3 ⟨fun hc => ?_, fun hc => ?_⟩
    · have H := am_ie hc H
      show am_gi (D + 8) 205 o (65, [(0, .ref 53), (1, .int a1), (2, .int a2), (3, .int a3)], [], ww w, 0, 0)
      obtain ⟨hc, H⟩ := am_ckE H
      refine am_go_blk 4 ⟨am_inv hc, (?_ : am_gi (D + 8) 205 o (71, [(0, .ref 53), (1, .int a1), (2, .int a2), (3, .int a3)], [.int (w.1 72 a3.toNatClampNeg)], ww w, 0, 0))⟩
      refine am_go_blk 2 ⟨fun hc => ?_, fun hc => ?_⟩
      · have H := am_ie hc H
        show am_gi (D + 8) 205 o (79, [(0, .ref 53), (1, .int a1), (2, .int a2), (3, .int a3)], [], ww w, 0, 0)
        exact am_go_blk 1 (T_Mod_day_80 Hr29 a1 a2 a3 (nI 0) w H)
      · have H := am_it hc H
        show am_gi (D + 8) 205 o (75, [(0, .ref 53), (1, .int a1), (2, .int a2), (3, .int a3)], [], ww w, 0, 0)
        exact am_go_blk 2 (T_Mod_day_80 Hr29 a1 a2 a3 (nI 1) w H)
    · have H := am_it hc H
      show am_gi (D + 8) 205 o (42, [(0, .ref 53), (1, .int a1), (2, .int a2), (3, .int a3)], [], ww w, 0, 0)
      obtain ⟨hc, H⟩ := am_ckE H
      refine am_go_blk 4 ⟨am_inv hc, (?_ : am_gi (D + 8) 205 o (48, [(0, .ref 53), (1, .int a1), (2, .int a2), (3, .int a3)], [.int (w.1 72 a3.toNatClampNeg)], ww w, 0, 0))⟩
      obtain ⟨hc, H⟩ := am_ckE H
      refine am_go_blk 4 ⟨am_inv hc, (?_ : am_gi (D + 8) 205 o (54, [(0, .ref 53), (1, .int a1), (2, .int a2), (3, .int a3)], [.int (w.1 56 a3.toNatClampNeg), .int (w.1 72 a3.toNatClampNeg)], ww w, 0, 0))⟩
      refine am_go_blk 1 ⟨fun hc => ?_, fun hc => ?_⟩
      · have H := am_it hc H
        show am_gi (D + 8) 205 o (61, [(0, .ref 53), (1, .int a1), (2, .int a2), (3, .int a3)], [], ww w, 0, 0)
        exact am_go_blk 2 (T_Mod_day_80 Hr29 a1 a2 a3 (nI 0) w H)
      · have H := am_ie hc H
        show am_gi (D + 8) 205 o (57, [(0, .ref 53), (1, .int a1), (2, .int a2), (3, .int a3)], [], ww w, 0, 0)
        exact am_go_blk 2 (T_Mod_day_80 Hr29 a1 a2 a3 (nI 1) w H)
theorem TL_Mod_day_29 {D : Nat} {o : Int32 × am_W} : ∀ (n : Nat) (a1 : Int32) (a2 : Int32) (a3 : Int32) (w : am_W) , L_Mod_day_29 n a1 a2 a3 w = some o → am_gi (D + 8) 205 o (29, [(0, .ref 53), (1, .int a1), (2, .int a2), (3, .int a3)], [], ww w, 0, 0)
  | 0, _, _, _, _, H => by cases H
  | n + 1, a1, a2, a3, w, H => T_Mod_day_29 (TL_Mod_day_29 n) a1 a2 a3 w H
theorem T_Mod_day {D : Nat} {o : Int32 × am_W} (a1 : Int32) (w : am_W) (H : F_Mod_day a1 w = some o) : am_gi (D + 8) 205 o (0, [(0, .ref 53), (1, .int a1)], [], ww w, 0, 0) := by
  unfold F_Mod_day at H
  obtain ⟨q1, hqq1, H⟩ := am_bnE H
  refine am_go_blk 3 (?_ : am_gi (D + 8) 205 o (3, [(0, .ref 53), (1, .int a1)], [.int (nI 2), .int (nI 0), .int a1], ww w, 0, 0))
  refine am_cls rfl rfl rfl (am_calli rfl (M_Mod_in (D := D + 7) hqq1) (?_ : am_gi (D + 8) 205 o (6, [(0, .ref 53), (1, .int a1)], [.int q1.1], ww q1.2, 0, 0)))
  refine am_go_blk 1 ⟨fun hc => ?_, fun hc => ?_⟩
  · have H := am_ie hc H
    show am_gi (D + 8) 205 o (12, [(0, .ref 53), (1, .int a1)], [], ww q1.2, 0, 0)
    refine am_go_blk 2 ⟨fun hc => ?_, fun hc => ?_⟩
    · have H := am_ie hc H
      show am_gi (D + 8) 205 o (21, [(0, .ref 53), (1, .int a1)], [], ww q1.2, 0, 0)
      obtain ⟨w2, hqw2, H⟩ := am_bnE H
      refine am_go_blk 1 (?_ : am_gi (D + 8) 205 o (22, [(0, .ref 53), (1, .int a1)], [.ref 53], ww q1.2, 0, 0))
      refine am_invd rfl rfl rfl rfl (am_callv rfl (M_Mod_lives (D := D + 1) hqw2) (?_ : am_gi (D + 8) 205 o (25, [(0, .ref 53), (1, .int a1)], [], ww w2, 0, 0)))
      exact am_go_blk 4 (TL_Mod_day_29 am_NF a1 (nI 0) (nI 0) w2 H)
    · have H := am_it hc H
      show am_gi (D + 8) 205 o (16, [(0, .ref 53), (1, .int a1)], [], ww q1.2, 0, 0)
      obtain ⟨q4, hqq4, H⟩ := am_bnE H
      refine am_go_blk 1 (?_ : am_gi (D + 8) 205 o (17, [(0, .ref 53), (1, .int a1)], [.ref 53], ww q1.2, 0, 0))
      refine am_invd rfl rfl rfl rfl (am_calli rfl (M_Mod_badness (D := D) hqq4) (?_ : am_gi (D + 8) 205 o (20, [(0, .ref 53), (1, .int a1)], [.int q4.1], ww q4.2, 0, 0)))
      exact am_go_blk 1 ⟨rfl, am_fi H⟩
  · have H := am_it hc H
    show am_gi (D + 8) 205 o (9, [(0, .ref 53), (1, .int a1)], [], ww q1.2, 0, 0)
    exact am_go_blk 2 ⟨rfl, am_fi H⟩
theorem M_Mod_day {D : Nat} {o : Int32 × am_W} {a1 : Int32} {w : am_W} (H : F_Mod_day a1 w = some o) : am_run (D + 9) 205 [.ref 53, .int a1] (ww w) (some (.int o.1)) (ww o.2) 0 0 :=
  am_run_of rfl (T_Mod_day a1 w H)
def F_Mod_pass_60 (r21 : Int32 → Int32 → Int32 → am_W → Option (Int32 × am_W)) (a1 : Int32) (a2 : Int32) (a3 : Int32) (w : am_W) : Option (Int32 × am_W) :=
  r21 a1 a2 (a3 + (nI 1)) w
def F_Mod_pass_21 (r21 : Int32 → Int32 → Int32 → am_W → Option (Int32 × am_W)) (a1 : Int32) (a2 : Int32) (a3 : Int32) (w : am_W) : Option (Int32 × am_W) :=
  if (w.1 53 0) ≤ a3 then (some (a2, w)) else (am_ck (am_in a3 8) ((F_Mod_in (w.1 72 a3.toNatClampNeg) (nI 0) (a1 - (nI 1)) w).bind fun q3 => if q3.1 = 0 then (F_Mod_pass_60 r21 a1 a2 a3 q3.2) else (am_lt (wsf q3.2 53 4 ((q3.2.1 53 4) ||| ((nI 1) <<< (a3 &&& 31)))) fun w4 => F_Mod_pass_60 r21 a1 (a2 + (nI 1)) a3 w4)))
def L_Mod_pass_21 : Nat → Int32 → Int32 → Int32 → am_W → Option (Int32 × am_W)
  | 0, _, _, _, _ => none
  | n + 1, a1, a2, a3, w => F_Mod_pass_21 (L_Mod_pass_21 n) a1 a2 a3 w
def F_Mod_pass (a1 : Int32) (w : am_W) : Option (Int32 × am_W) :=
  (F_Mod_in a1 (nI 0) (nI 24) w).bind fun q1 => if q1.1 = 0 then (some ((-nI 2), q1.2)) else ((F_Mod_lives q1.2).bind fun w2 => L_Mod_pass_21 am_NF a1 (nI 0) (nI 0) w2)
theorem T_Mod_pass_60 {D : Nat} {o : Int32 × am_W} {r21 : Int32 → Int32 → Int32 → am_W → Option (Int32 × am_W)} (Hr21 : ∀ (a1 : Int32) (a2 : Int32) (a3 : Int32) (w : am_W) , r21 a1 a2 a3 w = some o → am_gi (D + 7) 206 o (21, [(0, .ref 53), (1, .int a1), (2, .int a2), (3, .int a3)], [], ww w, 0, 0)) (a1 : Int32) (a2 : Int32) (a3 : Int32) (w : am_W) (H : F_Mod_pass_60 r21 a1 a2 a3 w = some o) : am_gi (D + 7) 206 o (60, [(0, .ref 53), (1, .int a1), (2, .int a2), (3, .int a3)], [], ww w, 0, 0) := by
  unfold F_Mod_pass_60 at H
  exact am_go_blk 2 (Hr21 a1 a2 (a3 + (nI 1)) w H)
theorem T_Mod_pass_21 {D : Nat} {o : Int32 × am_W} {r21 : Int32 → Int32 → Int32 → am_W → Option (Int32 × am_W)} (Hr21 : ∀ (a1 : Int32) (a2 : Int32) (a3 : Int32) (w : am_W) , r21 a1 a2 a3 w = some o → am_gi (D + 7) 206 o (21, [(0, .ref 53), (1, .int a1), (2, .int a2), (3, .int a3)], [], ww w, 0, 0)) (a1 : Int32) (a2 : Int32) (a3 : Int32) (w : am_W) (H : F_Mod_pass_21 r21 a1 a2 a3 w = some o) : am_gi (D + 7) 206 o (21, [(0, .ref 53), (1, .int a1), (2, .int a2), (3, .int a3)], [], ww w, 0, 0) := by
  unfold F_Mod_pass_21 at H
  refine am_go_blk 4 ⟨fun hc => ?_, fun hc => ?_⟩
  · have H := am_it hc H
    show am_gi (D + 7) 206 o (66, [(2, .int a2)], [], ww w, 0, 0)
    exact am_go_blk 2 ⟨rfl, am_fi H⟩
  · have H := am_ie hc H
    show am_gi (D + 7) 206 o (29, [(0, .ref 53), (1, .int a1), (2, .int a2), (3, .int a3)], [], ww w, 0, 0)
    obtain ⟨hc, H⟩ := am_ckE H
    refine am_go_blk 4 ⟨am_inv hc, (?_ : am_gi (D + 7) 206 o (35, [(0, .ref 53), (1, .int a1), (2, .int a2), (3, .int a3)], [.int (w.1 72 a3.toNatClampNeg)], ww w, 0, 0))⟩
    obtain ⟨q3, hqq3, H⟩ := am_bnE H
    refine am_go_blk 4 (?_ : am_gi (D + 7) 206 o (39, [(0, .ref 53), (1, .int a1), (2, .int a2), (3, .int a3)], [.int (a1 - (nI 1)), .int (nI 0), .int (w.1 72 a3.toNatClampNeg)], ww w, 0, 0))
    refine am_cls rfl rfl rfl (am_calli rfl (M_Mod_in (D := D + 6) hqq3) (?_ : am_gi (D + 7) 206 o (42, [(0, .ref 53), (1, .int a1), (2, .int a2), (3, .int a3)], [.int q3.1], ww q3.2, 0, 0)))
    refine am_go_blk 1 ⟨fun hc => ?_, fun hc => ?_⟩
    · have H := am_it hc H
      exact T_Mod_pass_60 Hr21 a1 a2 a3 q3.2 H
    · have H := am_ie hc H
      show am_gi (D + 7) 206 o (45, [(0, .ref 53), (1, .int a1), (2, .int a2), (3, .int a3)], [], ww q3.2, 0, 0)
      obtain ⟨w4, ew4, H⟩ := am_ltE H
      refine am_go_blk 8 ⟨rfl, rfl, am_hp (ww_f53_4 ew4) (?_ : am_gi (D + 7) 206 o (57, [(0, .ref 53), (1, .int a1), (2, .int a2), (3, .int a3)], [], ww w4, 0, 0))⟩
      exact am_go_blk 1 (T_Mod_pass_60 Hr21 a1 (a2 + (nI 1)) a3 w4 H)
theorem TL_Mod_pass_21 {D : Nat} {o : Int32 × am_W} : ∀ (n : Nat) (a1 : Int32) (a2 : Int32) (a3 : Int32) (w : am_W) , L_Mod_pass_21 n a1 a2 a3 w = some o → am_gi (D + 7) 206 o (21, [(0, .ref 53), (1, .int a1), (2, .int a2), (3, .int a3)], [], ww w, 0, 0)
  | 0, _, _, _, _, H => by cases H
  | n + 1, a1, a2, a3, w, H => T_Mod_pass_21 (TL_Mod_pass_21 n) a1 a2 a3 w H
theorem T_Mod_pass {D : Nat} {o : Int32 × am_W} (a1 : Int32) (w : am_W) (H : F_Mod_pass a1 w = some o) : am_gi (D + 7) 206 o (0, [(0, .ref 53), (1, .int a1)], [], ww w, 0, 0) := by
  unfold F_Mod_pass at H
  obtain ⟨q1, hqq1, H⟩ := am_bnE H
  refine am_go_blk 3 (?_ : am_gi (D + 7) 206 o (4, [(0, .ref 53), (1, .int a1)], [.int (nI 24), .int (nI 0), .int a1], ww w, 0, 0))
  refine am_cls rfl rfl rfl (am_calli rfl (M_Mod_in (D := D + 6) hqq1) (?_ : am_gi (D + 7) 206 o (7, [(0, .ref 53), (1, .int a1)], [.int q1.1], ww q1.2, 0, 0)))
  refine am_go_blk 1 ⟨fun hc => ?_, fun hc => ?_⟩
  · have H := am_ie hc H
    show am_gi (D + 7) 206 o (13, [(0, .ref 53), (1, .int a1)], [], ww q1.2, 0, 0)
    obtain ⟨w2, hqw2, H⟩ := am_bnE H
    refine am_go_blk 1 (?_ : am_gi (D + 7) 206 o (14, [(0, .ref 53), (1, .int a1)], [.ref 53], ww q1.2, 0, 0))
    refine am_invd rfl rfl rfl rfl (am_callv rfl (M_Mod_lives (D := D) hqw2) (?_ : am_gi (D + 7) 206 o (17, [(0, .ref 53), (1, .int a1)], [], ww w2, 0, 0)))
    exact am_go_blk 4 (TL_Mod_pass_21 am_NF a1 (nI 0) (nI 0) w2 H)
  · have H := am_it hc H
    show am_gi (D + 7) 206 o (10, [(0, .ref 53), (1, .int a1)], [], ww q1.2, 0, 0)
    exact am_go_blk 2 ⟨rfl, am_fi H⟩
theorem M_Mod_pass {D : Nat} {o : Int32 × am_W} {a1 : Int32} {w : am_W} (H : F_Mod_pass a1 w = some o) : am_run (D + 8) 206 [.ref 53, .int a1] (ww w) (some (.int o.1)) (ww o.2) 0 0 :=
  am_run_of rfl (T_Mod_pass a1 w H)
def F_Mod_shutNow_28 (r4 : Int32 → Int32 → am_W → Option (Int32 × am_W)) (a2 : Int32) (s0 : Int32) (s1 : Int32) (w : am_W) : Option (Int32 × am_W) :=
  r4 (s1 ||| s0) (a2 + (nI 1)) w
def F_Mod_shutNow_4 (r4 : Int32 → Int32 → am_W → Option (Int32 × am_W)) (a1 : Int32) (a2 : Int32) (w : am_W) : Option (Int32 × am_W) :=
  if (w.1 53 5) ≤ a2 then (some (a1, w)) else ((F_Mod_isShut a2 w).bind fun q1 => if q1.1 = 0 then (F_Mod_shutNow_28 r4 a2 (nI 0) a1 q1.2) else (F_Mod_shutNow_28 r4 a2 ((nI 1) <<< (a2 &&& 31)) a1 q1.2))
def L_Mod_shutNow_4 : Nat → Int32 → Int32 → am_W → Option (Int32 × am_W)
  | 0, _, _, _ => none
  | n + 1, a1, a2, w => F_Mod_shutNow_4 (L_Mod_shutNow_4 n) a1 a2 w
def F_Mod_shutNow (w : am_W) : Option (Int32 × am_W) :=
  L_Mod_shutNow_4 am_NF (nI 0) (nI 0) w
theorem T_Mod_shutNow_28 {D : Nat} {o : Int32 × am_W} {r4 : Int32 → Int32 → am_W → Option (Int32 × am_W)} (Hr4 : ∀ (a1 : Int32) (a2 : Int32) (w : am_W) , r4 a1 a2 w = some o → am_gi (D + 2) 207 o (4, [(0, .ref 53), (1, .int a1), (2, .int a2)], [], ww w, 0, 0)) (a2 : Int32) (s0 : Int32) (s1 : Int32) (w : am_W) (H : F_Mod_shutNow_28 r4 a2 s0 s1 w = some o) : am_gi (D + 2) 207 o (28, [(0, .ref 53), (2, .int a2)], [.int s0, .int s1], ww w, 0, 0) := by
  unfold F_Mod_shutNow_28 at H
  exact am_go_blk 4 (Hr4 (s1 ||| s0) (a2 + (nI 1)) w H)
theorem T_Mod_shutNow_4 {D : Nat} {o : Int32 × am_W} {r4 : Int32 → Int32 → am_W → Option (Int32 × am_W)} (Hr4 : ∀ (a1 : Int32) (a2 : Int32) (w : am_W) , r4 a1 a2 w = some o → am_gi (D + 2) 207 o (4, [(0, .ref 53), (1, .int a1), (2, .int a2)], [], ww w, 0, 0)) (a1 : Int32) (a2 : Int32) (w : am_W) (H : F_Mod_shutNow_4 r4 a1 a2 w = some o) : am_gi (D + 2) 207 o (4, [(0, .ref 53), (1, .int a1), (2, .int a2)], [], ww w, 0, 0) := by
  unfold F_Mod_shutNow_4 at H
  refine am_go_blk 4 ⟨fun hc => ?_, fun hc => ?_⟩
  · have H := am_it hc H
    show am_gi (D + 2) 207 o (36, [(1, .int a1)], [], ww w, 0, 0)
    exact am_go_blk 2 ⟨rfl, am_fi H⟩
  · have H := am_ie hc H
    show am_gi (D + 2) 207 o (12, [(0, .ref 53), (1, .int a1), (2, .int a2)], [], ww w, 0, 0)
    obtain ⟨q1, hqq1, H⟩ := am_bnE H
    refine am_go_blk 3 (?_ : am_gi (D + 2) 207 o (15, [(0, .ref 53), (1, .int a1), (2, .int a2)], [.int a2, .ref 53, .int a1], ww w, 0, 0))
    refine am_invd rfl rfl rfl rfl (am_calli rfl (M_Mod_isShut (D := D) hqq1) (?_ : am_gi (D + 2) 207 o (18, [(0, .ref 53), (1, .int a1), (2, .int a2)], [.int q1.1, .int a1], ww q1.2, 0, 0)))
    refine am_go_blk 1 ⟨fun hc => ?_, fun hc => ?_⟩
    · have H := am_it hc H
      show am_gi (D + 2) 207 o (27, [(0, .ref 53), (2, .int a2)], [.int a1], ww q1.2, 0, 0)
      exact am_go_blk 1 (T_Mod_shutNow_28 Hr4 a2 (nI 0) a1 q1.2 H)
    · have H := am_ie hc H
      show am_gi (D + 2) 207 o (21, [(0, .ref 53), (1, .int a1), (2, .int a2)], [.int a1], ww q1.2, 0, 0)
      exact am_go_blk 4 (T_Mod_shutNow_28 Hr4 a2 ((nI 1) <<< (a2 &&& 31)) a1 q1.2 H)
theorem TL_Mod_shutNow_4 {D : Nat} {o : Int32 × am_W} : ∀ (n : Nat) (a1 : Int32) (a2 : Int32) (w : am_W) , L_Mod_shutNow_4 n a1 a2 w = some o → am_gi (D + 2) 207 o (4, [(0, .ref 53), (1, .int a1), (2, .int a2)], [], ww w, 0, 0)
  | 0, _, _, _, H => by cases H
  | n + 1, a1, a2, w, H => T_Mod_shutNow_4 (TL_Mod_shutNow_4 n) a1 a2 w H
theorem T_Mod_shutNow {D : Nat} {o : Int32 × am_W} (w : am_W) (H : F_Mod_shutNow w = some o) : am_gi (D + 2) 207 o (0, [(0, .ref 53)], [], ww w, 0, 0) := by
  unfold F_Mod_shutNow at H
  exact am_go_blk 4 (TL_Mod_shutNow_4 am_NF (nI 0) (nI 0) w H)
theorem M_Mod_shutNow {D : Nat} {o : Int32 × am_W} {w : am_W} (H : F_Mod_shutNow w = some o) : am_run (D + 3) 207 [.ref 53] (ww w) (some (.int o.1)) (ww o.2) 0 0 :=
  am_run_of rfl (T_Mod_shutNow w H)
def F_Mod_sawsFor_194 (r52 : Int32 → Int32 → Int32 → Int32 → Int32 → am_W → Option (Int32 × am_W)) (a1 : Int32) (a2 : Int32) (a3 : Int32) (a4 : Int32) (a5 : Int32) (w : am_W) : Option (Int32 × am_W) :=
  r52 a1 a2 a3 a4 (a5 + (nI 1)) w
def F_Mod_sawsFor_191 (r52 : Int32 → Int32 → Int32 → Int32 → Int32 → am_W → Option (Int32 × am_W)) (a1 : Int32) (a2 : Int32) (a3 : Int32) (a4 : Int32) (a5 : Int32) (s0 : Int32) (w : am_W) : Option (Int32 × am_W) :=
  am_lt (wsf w 53 40 s0) fun w6 => F_Mod_sawsFor_194 r52 a1 a2 a3 a4 a5 w6
def F_Mod_sawsFor_174 (r52 : Int32 → Int32 → Int32 → Int32 → Int32 → am_W → Option (Int32 × am_W)) (a1 : Int32) (a2 : Int32) (a3 : Int32) (a5 : Int32) (a6 : Int32) (a7 : Int32) (s0 : Int32) (w : am_W) : Option (Int32 × am_W) :=
  if a7 = 0 then (F_Mod_sawsFor_191 r52 a1 a2 a3 s0 a5 (w.1 53 40) w) else (F_Mod_sawsFor_191 r52 a1 a2 a3 s0 a5 a6 w)
def F_Mod_sawsFor_160 (r52 : Int32 → Int32 → Int32 → Int32 → Int32 → am_W → Option (Int32 × am_W)) (a1 : Int32) (a2 : Int32) (a3 : Int32) (a4 : Int32) (a5 : Int32) (a6 : Int32) (s0 : Int32) (w : am_W) : Option (Int32 × am_W) :=
  if s0 = 0 then (F_Mod_sawsFor_174 r52 a1 a2 a3 a5 a6 s0 a4 w) else (F_Mod_sawsFor_174 r52 a1 a2 a3 a5 a6 s0 a5 w)
def F_Mod_sawsFor_135 (r52 : Int32 → Int32 → Int32 → Int32 → Int32 → am_W → Option (Int32 × am_W)) (a1 : Int32) (a2 : Int32) (a3 : Int32) (a4 : Int32) (a5 : Int32) (a6 : Int32) (w : am_W) : Option (Int32 × am_W) :=
  am_lt (wsf w 53 7 (a3 ||| a5)) fun w4 => (F_Mod_goneAtLast (nI 0) w4).bind fun q5 => if (a1 &&& (q5.1 ^^^ (-nI 1))) = 0 then (F_Mod_sawsFor_160 r52 a1 a2 a3 a4 a5 a6 (nI 1) q5.2) else (F_Mod_sawsFor_160 r52 a1 a2 a3 a4 a5 a6 (nI 0) q5.2)
def F_Mod_sawsFor_102 (r52 : Int32 → Int32 → Int32 → Int32 → Int32 → am_W → Option (Int32 × am_W)) (r69 : Int32 → Int32 → Int32 → Int32 → Int32 → Int32 → Int32 → am_W → Option (Int32 × am_W)) (a1 : Int32) (a2 : Int32) (a3 : Int32) (a4 : Int32) (a5 : Int32) (a7 : Int32) (s0 : Int32) (s1 : Int32) (w : am_W) : Option (Int32 × am_W) :=
  r69 a1 a2 a3 a4 a5 (s1 + s0) (a7 + (nI 1)) w
def F_Mod_sawsFor_69 (r52 : Int32 → Int32 → Int32 → Int32 → Int32 → am_W → Option (Int32 × am_W)) (r69 : Int32 → Int32 → Int32 → Int32 → Int32 → Int32 → Int32 → am_W → Option (Int32 × am_W)) (a1 : Int32) (a2 : Int32) (a3 : Int32) (a4 : Int32) (a5 : Int32) (a6 : Int32) (a7 : Int32) (w : am_W) : Option (Int32 × am_W) :=
  if (w.1 53 5) ≤ a7 then (if (a5 &&& (a2 ^^^ (-nI 1))) = 0 then (if a4 = (-nI 1) then (F_Mod_sawsFor_135 r52 a1 a2 a3 a4 a5 a6 w) else (if (w.1 53 40) ≤ a6 then (F_Mod_sawsFor_194 r52 a1 a2 a3 a4 a5 w) else (F_Mod_sawsFor_135 r52 a1 a2 a3 a4 a5 a6 w))) else (F_Mod_sawsFor_194 r52 a1 a2 a3 a4 a5 w)) else (if ((a5 >>> (a7 &&& 31)) &&& (nI 1)) = (nI 1) then (am_ck (am_in a7 10) (F_Mod_sawsFor_102 r52 r69 a1 a2 a3 a4 a5 a7 (w.1 73 a7.toNatClampNeg) a6 w)) else (F_Mod_sawsFor_102 r52 r69 a1 a2 a3 a4 a5 a7 (nI 0) a6 w))
def L_Mod_sawsFor_69 (r52 : Int32 → Int32 → Int32 → Int32 → Int32 → am_W → Option (Int32 × am_W)) : Nat → Int32 → Int32 → Int32 → Int32 → Int32 → Int32 → Int32 → am_W → Option (Int32 × am_W)
  | 0, _, _, _, _, _, _, _, _ => none
  | n + 1, a1, a2, a3, a4, a5, a6, a7, w => F_Mod_sawsFor_69 r52 (L_Mod_sawsFor_69 r52 n) a1 a2 a3 a4 a5 a6 a7 w
def F_Mod_sawsFor_52 (r52 : Int32 → Int32 → Int32 → Int32 → Int32 → am_W → Option (Int32 × am_W)) (a1 : Int32) (a2 : Int32) (a3 : Int32) (a4 : Int32) (a5 : Int32) (w : am_W) : Option (Int32 × am_W) :=
  if ((nI 1) <<< ((w.1 53 5) &&& 31)) ≤ a5 then (am_lt (wsf w 53 7 a3) fun w3 => some (a4, w3)) else (L_Mod_sawsFor_69 r52 am_NF a1 a2 a3 a4 a5 (nI 0) (nI 0) w)
def L_Mod_sawsFor_52 : Nat → Int32 → Int32 → Int32 → Int32 → Int32 → am_W → Option (Int32 × am_W)
  | 0, _, _, _, _, _, _ => none
  | n + 1, a1, a2, a3, a4, a5, w => F_Mod_sawsFor_52 (L_Mod_sawsFor_52 n) a1 a2 a3 a4 a5 w
def F_Mod_sawsFor_13 (r13 : Int32 → Int32 → Int32 → Int32 → am_W → Option (Int32 × am_W)) (a1 : Int32) (a2 : Int32) (a3 : Int32) (a4 : Int32) (w : am_W) : Option (Int32 × am_W) :=
  if (w.1 53 5) ≤ a4 then (am_lt (wsf w 53 40 (-nI 1)) fun w2 => L_Mod_sawsFor_52 am_NF a1 a2 a3 (-nI 1) (nI 0) w2) else ((F_Mod_sawsOf a4 w).bind fun q7 => am_ck (am_in a4 10) (am_lt (wst q7.2 73 a4 q7.1) fun w8 => r13 a1 a2 a3 (a4 + (nI 1)) w8))
def L_Mod_sawsFor_13 : Nat → Int32 → Int32 → Int32 → Int32 → am_W → Option (Int32 × am_W)
  | 0, _, _, _, _, _ => none
  | n + 1, a1, a2, a3, a4, w => F_Mod_sawsFor_13 (L_Mod_sawsFor_13 n) a1 a2 a3 a4 w
def F_Mod_sawsFor (a1 : Int32) (w : am_W) : Option (Int32 × am_W) :=
  (F_Mod_shutNow w).bind fun q1 => L_Mod_sawsFor_13 am_NF a1 q1.1 (q1.2.1 53 7) (nI 0) q1.2
theorem T_Mod_sawsFor_194 {D : Nat} {o : Int32 × am_W} {r52 : Int32 → Int32 → Int32 → Int32 → Int32 → am_W → Option (Int32 × am_W)} (Hr52 : ∀ (a1 : Int32) (a2 : Int32) (a3 : Int32) (a4 : Int32) (a5 : Int32) (w : am_W) , r52 a1 a2 a3 a4 a5 w = some o → am_gi (D + 6) 208 o (52, [(0, .ref 53), (1, .int a1), (2, .int a2), (3, .int a3), (4, .int a4), (5, .int a5)], [], ww w, 0, 0)) (a1 : Int32) (a2 : Int32) (a3 : Int32) (a4 : Int32) (a5 : Int32) (w : am_W) (H : F_Mod_sawsFor_194 r52 a1 a2 a3 a4 a5 w = some o) : am_gi (D + 6) 208 o (194, [(0, .ref 53), (1, .int a1), (2, .int a2), (3, .int a3), (4, .int a4), (5, .int a5)], [], ww w, 0, 0) := by
  unfold F_Mod_sawsFor_194 at H
  exact am_go_blk 2 (Hr52 a1 a2 a3 a4 (a5 + (nI 1)) w H)
theorem T_Mod_sawsFor_191 {D : Nat} {o : Int32 × am_W} {r52 : Int32 → Int32 → Int32 → Int32 → Int32 → am_W → Option (Int32 × am_W)} (Hr52 : ∀ (a1 : Int32) (a2 : Int32) (a3 : Int32) (a4 : Int32) (a5 : Int32) (w : am_W) , r52 a1 a2 a3 a4 a5 w = some o → am_gi (D + 6) 208 o (52, [(0, .ref 53), (1, .int a1), (2, .int a2), (3, .int a3), (4, .int a4), (5, .int a5)], [], ww w, 0, 0)) (a1 : Int32) (a2 : Int32) (a3 : Int32) (a4 : Int32) (a5 : Int32) (s0 : Int32) (w : am_W) (H : F_Mod_sawsFor_191 r52 a1 a2 a3 a4 a5 s0 w = some o) : am_gi (D + 6) 208 o (191, [(0, .ref 53), (1, .int a1), (2, .int a2), (3, .int a3), (4, .int a4), (5, .int a5)], [.int s0, .ref 53], ww w, 0, 0) := by
  unfold F_Mod_sawsFor_191 at H
  obtain ⟨w6, ew6, H⟩ := am_ltE H
  refine am_go_blk 1 ⟨rfl, rfl, am_hp (ww_f53_40 ew6) (?_ : am_gi (D + 6) 208 o (194, [(0, .ref 53), (1, .int a1), (2, .int a2), (3, .int a3), (4, .int a4), (5, .int a5)], [], ww w6, 0, 0))⟩
  exact T_Mod_sawsFor_194 Hr52 a1 a2 a3 a4 a5 w6 H
theorem T_Mod_sawsFor_174 {D : Nat} {o : Int32 × am_W} {r52 : Int32 → Int32 → Int32 → Int32 → Int32 → am_W → Option (Int32 × am_W)} (Hr52 : ∀ (a1 : Int32) (a2 : Int32) (a3 : Int32) (a4 : Int32) (a5 : Int32) (w : am_W) , r52 a1 a2 a3 a4 a5 w = some o → am_gi (D + 6) 208 o (52, [(0, .ref 53), (1, .int a1), (2, .int a2), (3, .int a3), (4, .int a4), (5, .int a5)], [], ww w, 0, 0)) (a1 : Int32) (a2 : Int32) (a3 : Int32) (a5 : Int32) (a6 : Int32) (a7 : Int32) (s0 : Int32) (w : am_W) (H : F_Mod_sawsFor_174 r52 a1 a2 a3 a5 a6 a7 s0 w = some o) : am_gi (D + 6) 208 o (174, [(0, .ref 53), (1, .int a1), (2, .int a2), (3, .int a3), (5, .int a5), (6, .int a6), (7, .int a7)], [.int s0], ww w, 0, 0) := by
  unfold F_Mod_sawsFor_174 at H
  refine am_go_blk 4 ⟨fun hc => ?_, fun hc => ?_⟩
  · have H := am_it hc H
    show am_gi (D + 6) 208 o (187, [(0, .ref 53), (1, .int a1), (2, .int a2), (3, .int a3), (4, .int s0), (5, .int a5)], [.ref 53], ww w, 0, 0)
    exact am_go_blk 2 (T_Mod_sawsFor_191 Hr52 a1 a2 a3 s0 a5 (w.1 53 40) w H)
  · have H := am_ie hc H
    show am_gi (D + 6) 208 o (182, [(4, .int s0), (0, .ref 53), (1, .int a1), (2, .int a2), (3, .int a3), (5, .int a5), (6, .int a6), (7, .int a7)], [.ref 53], ww w, 0, 0)
    exact am_go_blk 2 (T_Mod_sawsFor_191 Hr52 a1 a2 a3 s0 a5 a6 w H)
theorem T_Mod_sawsFor_160 {D : Nat} {o : Int32 × am_W} {r52 : Int32 → Int32 → Int32 → Int32 → Int32 → am_W → Option (Int32 × am_W)} (Hr52 : ∀ (a1 : Int32) (a2 : Int32) (a3 : Int32) (a4 : Int32) (a5 : Int32) (w : am_W) , r52 a1 a2 a3 a4 a5 w = some o → am_gi (D + 6) 208 o (52, [(0, .ref 53), (1, .int a1), (2, .int a2), (3, .int a3), (4, .int a4), (5, .int a5)], [], ww w, 0, 0)) (a1 : Int32) (a2 : Int32) (a3 : Int32) (a4 : Int32) (a5 : Int32) (a6 : Int32) (s0 : Int32) (w : am_W) (H : F_Mod_sawsFor_160 r52 a1 a2 a3 a4 a5 a6 s0 w = some o) : am_gi (D + 6) 208 o (160, [(0, .ref 53), (1, .int a1), (2, .int a2), (3, .int a3), (4, .int a4), (5, .int a5), (6, .int a6)], [.int s0], ww w, 0, 0) := by
  unfold F_Mod_sawsFor_160 at H
  refine am_go_blk 3 ⟨fun hc => ?_, fun hc => ?_⟩
  · have H := am_it hc H
    show am_gi (D + 6) 208 o (172, [(0, .ref 53), (1, .int a1), (2, .int a2), (3, .int a3), (4, .int a4), (5, .int a5), (6, .int a6), (7, .int s0)], [], ww w, 0, 0)
    exact am_go_blk 1 (T_Mod_sawsFor_174 Hr52 a1 a2 a3 a5 a6 s0 a4 w H)
  · have H := am_ie hc H
    show am_gi (D + 6) 208 o (167, [(7, .int s0), (0, .ref 53), (1, .int a1), (2, .int a2), (3, .int a3), (4, .int a4), (5, .int a5), (6, .int a6)], [], ww w, 0, 0)
    exact am_go_blk 2 (T_Mod_sawsFor_174 Hr52 a1 a2 a3 a5 a6 s0 a5 w H)
theorem T_Mod_sawsFor_135 {D : Nat} {o : Int32 × am_W} {r52 : Int32 → Int32 → Int32 → Int32 → Int32 → am_W → Option (Int32 × am_W)} (Hr52 : ∀ (a1 : Int32) (a2 : Int32) (a3 : Int32) (a4 : Int32) (a5 : Int32) (w : am_W) , r52 a1 a2 a3 a4 a5 w = some o → am_gi (D + 6) 208 o (52, [(0, .ref 53), (1, .int a1), (2, .int a2), (3, .int a3), (4, .int a4), (5, .int a5)], [], ww w, 0, 0)) (a1 : Int32) (a2 : Int32) (a3 : Int32) (a4 : Int32) (a5 : Int32) (a6 : Int32) (w : am_W) (H : F_Mod_sawsFor_135 r52 a1 a2 a3 a4 a5 a6 w = some o) : am_gi (D + 6) 208 o (135, [(0, .ref 53), (1, .int a1), (2, .int a2), (3, .int a3), (4, .int a4), (5, .int a5), (6, .int a6)], [], ww w, 0, 0) := by
  unfold F_Mod_sawsFor_135 at H
  obtain ⟨w4, ew4, H⟩ := am_ltE H
  refine am_go_blk 5 ⟨rfl, rfl, am_hp (ww_f53_7 ew4) (?_ : am_gi (D + 6) 208 o (143, [(0, .ref 53), (1, .int a1), (2, .int a2), (3, .int a3), (4, .int a4), (5, .int a5), (6, .int a6)], [], ww w4, 0, 0))⟩
  obtain ⟨q5, hqq5, H⟩ := am_bnE H
  refine am_go_blk 3 (?_ : am_gi (D + 6) 208 o (146, [(0, .ref 53), (1, .int a1), (2, .int a2), (3, .int a3), (4, .int a4), (5, .int a5), (6, .int a6)], [.int (nI 0), .ref 53, .int a1], ww w4, 0, 0))
  refine am_invd rfl rfl rfl rfl (am_calli rfl (M_Mod_goneAtLast (D := D) hqq5) (?_ : am_gi (D + 6) 208 o (149, [(0, .ref 53), (1, .int a1), (2, .int a2), (3, .int a3), (4, .int a4), (5, .int a5), (6, .int a6)], [.int q5.1, .int a1], ww q5.2, 0, 0)))
  refine am_go_blk 4 ⟨fun hc => ?_, fun hc => ?_⟩
  · have H := am_ie hc H
    show am_gi (D + 6) 208 o (159, [(0, .ref 53), (1, .int a1), (2, .int a2), (3, .int a3), (4, .int a4), (5, .int a5), (6, .int a6)], [], ww q5.2, 0, 0)
    exact am_go_blk 1 (T_Mod_sawsFor_160 Hr52 a1 a2 a3 a4 a5 a6 (nI 0) q5.2 H)
  · have H := am_it hc H
    show am_gi (D + 6) 208 o (155, [(0, .ref 53), (1, .int a1), (2, .int a2), (3, .int a3), (4, .int a4), (5, .int a5), (6, .int a6)], [], ww q5.2, 0, 0)
    exact am_go_blk 2 (T_Mod_sawsFor_160 Hr52 a1 a2 a3 a4 a5 a6 (nI 1) q5.2 H)
theorem T_Mod_sawsFor_102 {D : Nat} {o : Int32 × am_W} {r52 : Int32 → Int32 → Int32 → Int32 → Int32 → am_W → Option (Int32 × am_W)} {r69 : Int32 → Int32 → Int32 → Int32 → Int32 → Int32 → Int32 → am_W → Option (Int32 × am_W)} (Hr52 : ∀ (a1 : Int32) (a2 : Int32) (a3 : Int32) (a4 : Int32) (a5 : Int32) (w : am_W) , r52 a1 a2 a3 a4 a5 w = some o → am_gi (D + 6) 208 o (52, [(0, .ref 53), (1, .int a1), (2, .int a2), (3, .int a3), (4, .int a4), (5, .int a5)], [], ww w, 0, 0)) (Hr69 : ∀ (a1 : Int32) (a2 : Int32) (a3 : Int32) (a4 : Int32) (a5 : Int32) (a6 : Int32) (a7 : Int32) (w : am_W) , r69 a1 a2 a3 a4 a5 a6 a7 w = some o → am_gi (D + 6) 208 o (69, [(0, .ref 53), (1, .int a1), (2, .int a2), (3, .int a3), (4, .int a4), (5, .int a5), (6, .int a6), (7, .int a7)], [], ww w, 0, 0)) (a1 : Int32) (a2 : Int32) (a3 : Int32) (a4 : Int32) (a5 : Int32) (a7 : Int32) (s0 : Int32) (s1 : Int32) (w : am_W) (H : F_Mod_sawsFor_102 r52 r69 a1 a2 a3 a4 a5 a7 s0 s1 w = some o) : am_gi (D + 6) 208 o (102, [(0, .ref 53), (1, .int a1), (2, .int a2), (3, .int a3), (4, .int a4), (5, .int a5), (7, .int a7)], [.int s0, .int s1], ww w, 0, 0) := by
  unfold F_Mod_sawsFor_102 at H
  exact am_go_blk 4 (Hr69 a1 a2 a3 a4 a5 (s1 + s0) (a7 + (nI 1)) w H)
theorem T_Mod_sawsFor_69 {D : Nat} {o : Int32 × am_W} {r52 : Int32 → Int32 → Int32 → Int32 → Int32 → am_W → Option (Int32 × am_W)} {r69 : Int32 → Int32 → Int32 → Int32 → Int32 → Int32 → Int32 → am_W → Option (Int32 × am_W)} (Hr52 : ∀ (a1 : Int32) (a2 : Int32) (a3 : Int32) (a4 : Int32) (a5 : Int32) (w : am_W) , r52 a1 a2 a3 a4 a5 w = some o → am_gi (D + 6) 208 o (52, [(0, .ref 53), (1, .int a1), (2, .int a2), (3, .int a3), (4, .int a4), (5, .int a5)], [], ww w, 0, 0)) (Hr69 : ∀ (a1 : Int32) (a2 : Int32) (a3 : Int32) (a4 : Int32) (a5 : Int32) (a6 : Int32) (a7 : Int32) (w : am_W) , r69 a1 a2 a3 a4 a5 a6 a7 w = some o → am_gi (D + 6) 208 o (69, [(0, .ref 53), (1, .int a1), (2, .int a2), (3, .int a3), (4, .int a4), (5, .int a5), (6, .int a6), (7, .int a7)], [], ww w, 0, 0)) (a1 : Int32) (a2 : Int32) (a3 : Int32) (a4 : Int32) (a5 : Int32) (a6 : Int32) (a7 : Int32) (w : am_W) (H : F_Mod_sawsFor_69 r52 r69 a1 a2 a3 a4 a5 a6 a7 w = some o) : am_gi (D + 6) 208 o (69, [(0, .ref 53), (1, .int a1), (2, .int a2), (3, .int a3), (4, .int a4), (5, .int a5), (6, .int a6), (7, .int a7)], [], ww w, 0, 0) := by
  unfold F_Mod_sawsFor_69 at H
  refine am_go_blk 4 ⟨fun hc => ?_, fun hc => ?_⟩
  · have H := am_it hc H
    show am_gi (D + 6) 208 o (111, [(0, .ref 53), (1, .int a1), (2, .int a2), (3, .int a3), (4, .int a4), (5, .int a5), (6, .int a6)], [], ww w, 0, 0)
    refine am_go_blk 6 ⟨fun hc => ?_, fun hc => ?_⟩
    · have H := am_ie hc H
      exact T_Mod_sawsFor_194 Hr52 a1 a2 a3 a4 a5 w H
    · have H := am_it hc H
      show am_gi (D + 6) 208 o (120, [(0, .ref 53), (1, .int a1), (2, .int a2), (3, .int a3), (4, .int a4), (5, .int a5), (6, .int a6)], [], ww w, 0, 0)
      refine am_go_blk 3 ⟨fun hc => ?_, fun hc => ?_⟩
      · have H := am_it hc H
        exact T_Mod_sawsFor_135 Hr52 a1 a2 a3 a4 a5 a6 w H
      · have H := am_ie hc H
        show am_gi (D + 6) 208 o (126, [(0, .ref 53), (1, .int a1), (2, .int a2), (3, .int a3), (4, .int a4), (5, .int a5), (6, .int a6)], [], ww w, 0, 0)
        refine am_go_blk 4 ⟨fun hc => ?_, fun hc => ?_⟩
        · have H := am_it hc H
          exact T_Mod_sawsFor_194 Hr52 a1 a2 a3 a4 a5 w H
        · have H := am_ie hc H
          exact T_Mod_sawsFor_135 Hr52 a1 a2 a3 a4 a5 a6 w H
  · have H := am_ie hc H
    show am_gi (D + 6) 208 o (78, [(0, .ref 53), (1, .int a1), (2, .int a2), (3, .int a3), (4, .int a4), (5, .int a5), (6, .int a6), (7, .int a7)], [], ww w, 0, 0)
    refine am_go_blk 8 ⟨fun hc => ?_, fun hc => ?_⟩
    · have H := am_ie hc H
      show am_gi (D + 6) 208 o (101, [(0, .ref 53), (1, .int a1), (2, .int a2), (3, .int a3), (4, .int a4), (5, .int a5), (7, .int a7)], [.int a6], ww w, 0, 0)
      exact am_go_blk 1 (T_Mod_sawsFor_102 Hr52 Hr69 a1 a2 a3 a4 a5 a7 (nI 0) a6 w H)
    · have H := am_it hc H
      show am_gi (D + 6) 208 o (91, [(0, .ref 53), (1, .int a1), (2, .int a2), (3, .int a3), (4, .int a4), (5, .int a5), (6, .int a6), (7, .int a7)], [.int a6], ww w, 0, 0)
      obtain ⟨hc, H⟩ := am_ckE H
      refine am_go_blk 4 ⟨am_inv hc, (?_ : am_gi (D + 6) 208 o (98, [(0, .ref 53), (1, .int a1), (2, .int a2), (3, .int a3), (4, .int a4), (5, .int a5), (6, .int a6), (7, .int a7)], [.int (w.1 73 a7.toNatClampNeg), .int a6], ww w, 0, 0))⟩
      exact am_go_blk 1 (T_Mod_sawsFor_102 Hr52 Hr69 a1 a2 a3 a4 a5 a7 (w.1 73 a7.toNatClampNeg) a6 w H)
theorem TL_Mod_sawsFor_69 {D : Nat} {o : Int32 × am_W} {r52 : Int32 → Int32 → Int32 → Int32 → Int32 → am_W → Option (Int32 × am_W)} (Hr52 : ∀ (a1 : Int32) (a2 : Int32) (a3 : Int32) (a4 : Int32) (a5 : Int32) (w : am_W) , r52 a1 a2 a3 a4 a5 w = some o → am_gi (D + 6) 208 o (52, [(0, .ref 53), (1, .int a1), (2, .int a2), (3, .int a3), (4, .int a4), (5, .int a5)], [], ww w, 0, 0)) : ∀ (n : Nat) (a1 : Int32) (a2 : Int32) (a3 : Int32) (a4 : Int32) (a5 : Int32) (a6 : Int32) (a7 : Int32) (w : am_W) , L_Mod_sawsFor_69 r52 n a1 a2 a3 a4 a5 a6 a7 w = some o → am_gi (D + 6) 208 o (69, [(0, .ref 53), (1, .int a1), (2, .int a2), (3, .int a3), (4, .int a4), (5, .int a5), (6, .int a6), (7, .int a7)], [], ww w, 0, 0)
  | 0, _, _, _, _, _, _, _, _, H => by cases H
  | n + 1, a1, a2, a3, a4, a5, a6, a7, w, H => T_Mod_sawsFor_69 Hr52 (TL_Mod_sawsFor_69 Hr52 n) a1 a2 a3 a4 a5 a6 a7 w H
theorem T_Mod_sawsFor_52 {D : Nat} {o : Int32 × am_W} {r52 : Int32 → Int32 → Int32 → Int32 → Int32 → am_W → Option (Int32 × am_W)} (Hr52 : ∀ (a1 : Int32) (a2 : Int32) (a3 : Int32) (a4 : Int32) (a5 : Int32) (w : am_W) , r52 a1 a2 a3 a4 a5 w = some o → am_gi (D + 6) 208 o (52, [(0, .ref 53), (1, .int a1), (2, .int a2), (3, .int a3), (4, .int a4), (5, .int a5)], [], ww w, 0, 0)) (a1 : Int32) (a2 : Int32) (a3 : Int32) (a4 : Int32) (a5 : Int32) (w : am_W) (H : F_Mod_sawsFor_52 r52 a1 a2 a3 a4 a5 w = some o) : am_gi (D + 6) 208 o (52, [(0, .ref 53), (1, .int a1), (2, .int a2), (3, .int a3), (4, .int a4), (5, .int a5)], [], ww w, 0, 0) := by
  unfold F_Mod_sawsFor_52 at H
  refine am_go_blk 6 ⟨fun hc => ?_, fun hc => ?_⟩
  · have H := am_it hc H
    show am_gi (D + 6) 208 o (200, [(0, .ref 53), (3, .int a3), (4, .int a4)], [], ww w, 0, 0)
    obtain ⟨w3, ew3, H⟩ := am_ltE H
    refine am_go_blk 3 ⟨rfl, rfl, am_hp (ww_f53_7 ew3) (?_ : am_gi (D + 6) 208 o (205, [(0, .ref 53), (3, .int a3), (4, .int a4)], [], ww w3, 0, 0))⟩
    exact am_go_blk 2 ⟨rfl, am_fi H⟩
  · have H := am_ie hc H
    show am_gi (D + 6) 208 o (63, [(0, .ref 53), (1, .int a1), (2, .int a2), (3, .int a3), (4, .int a4), (5, .int a5)], [], ww w, 0, 0)
    exact am_go_blk 4 (TL_Mod_sawsFor_69 Hr52 am_NF a1 a2 a3 a4 a5 (nI 0) (nI 0) w H)
theorem TL_Mod_sawsFor_52 {D : Nat} {o : Int32 × am_W} : ∀ (n : Nat) (a1 : Int32) (a2 : Int32) (a3 : Int32) (a4 : Int32) (a5 : Int32) (w : am_W) , L_Mod_sawsFor_52 n a1 a2 a3 a4 a5 w = some o → am_gi (D + 6) 208 o (52, [(0, .ref 53), (1, .int a1), (2, .int a2), (3, .int a3), (4, .int a4), (5, .int a5)], [], ww w, 0, 0)
  | 0, _, _, _, _, _, _, H => by cases H
  | n + 1, a1, a2, a3, a4, a5, w, H => T_Mod_sawsFor_52 (TL_Mod_sawsFor_52 n) a1 a2 a3 a4 a5 w H
theorem T_Mod_sawsFor_13 {D : Nat} {o : Int32 × am_W} {r13 : Int32 → Int32 → Int32 → Int32 → am_W → Option (Int32 × am_W)} (Hr13 : ∀ (a1 : Int32) (a2 : Int32) (a3 : Int32) (a4 : Int32) (w : am_W) , r13 a1 a2 a3 a4 w = some o → am_gi (D + 6) 208 o (13, [(0, .ref 53), (1, .int a1), (2, .int a2), (3, .int a3), (4, .int a4)], [], ww w, 0, 0)) (a1 : Int32) (a2 : Int32) (a3 : Int32) (a4 : Int32) (w : am_W) (H : F_Mod_sawsFor_13 r13 a1 a2 a3 a4 w = some o) : am_gi (D + 6) 208 o (13, [(0, .ref 53), (1, .int a1), (2, .int a2), (3, .int a3), (4, .int a4)], [], ww w, 0, 0) := by
  unfold F_Mod_sawsFor_13 at H
  refine am_go_blk 4 ⟨fun hc => ?_, fun hc => ?_⟩
  · have H := am_it hc H
    show am_gi (D + 6) 208 o (41, [(0, .ref 53), (1, .int a1), (2, .int a2), (3, .int a3)], [], ww w, 0, 0)
    obtain ⟨w2, ew2, H⟩ := am_ltE H
    refine am_go_blk 5 ⟨rfl, rfl, am_hp (ww_f53_40 ew2) (?_ : am_gi (D + 6) 208 o (49, [(4, .int (-nI 1)), (0, .ref 53), (1, .int a1), (2, .int a2), (3, .int a3)], [], ww w2, 0, 0))⟩
    exact am_go_blk 2 (TL_Mod_sawsFor_52 am_NF a1 a2 a3 (-nI 1) (nI 0) w2 H)
  · have H := am_ie hc H
    show am_gi (D + 6) 208 o (22, [(0, .ref 53), (1, .int a1), (2, .int a2), (3, .int a3), (4, .int a4)], [], ww w, 0, 0)
    obtain ⟨q7, hqq7, H⟩ := am_bnE H
    refine am_go_blk 5 (?_ : am_gi (D + 6) 208 o (31, [(0, .ref 53), (1, .int a1), (2, .int a2), (3, .int a3), (4, .int a4)], [.int a4, .ref 53, .int a4, .ref 73], ww w, 0, 0))
    refine am_invd rfl rfl rfl rfl (am_calli rfl (M_Mod_sawsOf (D := D + 2) hqq7) (?_ : am_gi (D + 6) 208 o (34, [(0, .ref 53), (1, .int a1), (2, .int a2), (3, .int a3), (4, .int a4)], [.int q7.1, .int a4, .ref 73], ww q7.2, 0, 0)))
    obtain ⟨hc, H⟩ := am_ckE H
    obtain ⟨w8, ew8, H⟩ := am_ltE H
    refine am_go_blk 1 ⟨am_inv hc, am_hp (ww_s73 ew8) (?_ : am_gi (D + 6) 208 o (35, [(0, .ref 53), (1, .int a1), (2, .int a2), (3, .int a3), (4, .int a4)], [], ww w8, 0, 0))⟩
    exact am_go_blk 2 (Hr13 a1 a2 a3 (a4 + (nI 1)) w8 H)
theorem TL_Mod_sawsFor_13 {D : Nat} {o : Int32 × am_W} : ∀ (n : Nat) (a1 : Int32) (a2 : Int32) (a3 : Int32) (a4 : Int32) (w : am_W) , L_Mod_sawsFor_13 n a1 a2 a3 a4 w = some o → am_gi (D + 6) 208 o (13, [(0, .ref 53), (1, .int a1), (2, .int a2), (3, .int a3), (4, .int a4)], [], ww w, 0, 0)
  | 0, _, _, _, _, _, H => by cases H
  | n + 1, a1, a2, a3, a4, w, H => T_Mod_sawsFor_13 (TL_Mod_sawsFor_13 n) a1 a2 a3 a4 w H
theorem T_Mod_sawsFor {D : Nat} {o : Int32 × am_W} (a1 : Int32) (w : am_W) (H : F_Mod_sawsFor a1 w = some o) : am_gi (D + 6) 208 o (0, [(0, .ref 53), (1, .int a1)], [], ww w, 0, 0) := by
  unfold F_Mod_sawsFor at H
  obtain ⟨q1, hqq1, H⟩ := am_bnE H
  refine am_go_blk 1 (?_ : am_gi (D + 6) 208 o (1, [(0, .ref 53), (1, .int a1)], [.ref 53], ww w, 0, 0))
  refine am_invd rfl rfl rfl rfl (am_calli rfl (M_Mod_shutNow (D := D + 3) hqq1) (?_ : am_gi (D + 6) 208 o (4, [(0, .ref 53), (1, .int a1)], [.int q1.1], ww q1.2, 0, 0)))
  exact am_go_blk 6 (TL_Mod_sawsFor_13 am_NF a1 q1.1 (q1.2.1 53 7) (nI 0) q1.2 H)
theorem M_Mod_sawsFor {D : Nat} {o : Int32 × am_W} {a1 : Int32} {w : am_W} (H : F_Mod_sawsFor a1 w = some o) : am_run (D + 7) 208 [.ref 53, .int a1] (ww w) (some (.int o.1)) (ww o.2) 0 0 :=
  am_run_of rfl (T_Mod_sawsFor a1 w H)
