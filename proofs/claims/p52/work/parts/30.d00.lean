/-! ===== the methods as functions, and that each does what its function says: Loc_count .. Loc_isKind ===== -/
def F_Loc_count (a1 : Int32) (w : am_W) : Option (Int32 × am_W) :=
  if a1.toInt = 0 then (some ((w.1 1 0), w)) else if a1.toInt = 1 then (some ((w.1 1 2), w)) else if a1.toInt = 2 then (some ((w.1 1 1), w)) else if a1.toInt = 3 then (some ((w.1 1 3), w)) else if a1.toInt = 4 then (some ((w.1 17 1), w)) else if a1.toInt = 5 then (some ((w.1 17 2), w)) else if a1.toInt = 6 then (some ((w.1 18 0), w)) else (some ((-nI 2), w))
theorem T_Loc_count {sc : Option (Nat × (Nat → Int32))} {D : Nat} {o : Int32 × am_W} (a1 : Int32) (w : am_W) (H : F_Loc_count a1 w = some o) : am_gi sc D 48 o (0, [(0, .ref 0), (1, .int a1)], [], ww w, 0, 0) := by
  unfold F_Loc_count at H
  refine am_go_blk 2 ⟨fun hc => ?_, fun hc => ?_⟩
  · have H := am_it hc H
    show am_gi sc D 48 o (44, [(0, .ref 0)], [], ww w, 0, 0)
    exact am_go_blk 4 ⟨rfl, am_fi H⟩
  have H := am_ie hc H
  refine ⟨fun hc => ?_, fun hc => ?_⟩
  · have H := am_it hc H
    show am_gi sc D 48 o (52, [(0, .ref 0)], [], ww w, 0, 0)
    exact am_go_blk 4 ⟨rfl, am_fi H⟩
  have H := am_ie hc H
  refine ⟨fun hc => ?_, fun hc => ?_⟩
  · have H := am_it hc H
    show am_gi sc D 48 o (60, [(0, .ref 0)], [], ww w, 0, 0)
    exact am_go_blk 4 ⟨rfl, am_fi H⟩
  have H := am_ie hc H
  refine ⟨fun hc => ?_, fun hc => ?_⟩
  · have H := am_it hc H
    show am_gi sc D 48 o (68, [(0, .ref 0)], [], ww w, 0, 0)
    exact am_go_blk 4 ⟨rfl, am_fi H⟩
  have H := am_ie hc H
  refine ⟨fun hc => ?_, fun hc => ?_⟩
  · have H := am_it hc H
    show am_gi sc D 48 o (76, [(0, .ref 0)], [], ww w, 0, 0)
    exact am_go_blk 4 ⟨rfl, am_fi H⟩
  have H := am_ie hc H
  refine ⟨fun hc => ?_, fun hc => ?_⟩
  · have H := am_it hc H
    show am_gi sc D 48 o (84, [(0, .ref 0)], [], ww w, 0, 0)
    exact am_go_blk 4 ⟨rfl, am_fi H⟩
  have H := am_ie hc H
  refine ⟨fun hc => ?_, fun hc => ?_⟩
  · have H := am_it hc H
    show am_gi sc D 48 o (92, [(0, .ref 0)], [], ww w, 0, 0)
    exact am_go_blk 5 ⟨rfl, am_fi H⟩
  have H := am_ie hc H
  show am_gi sc D 48 o (103, [], [], ww w, 0, 0)
  exact am_go_blk 2 ⟨rfl, am_fi H⟩
theorem M_Loc_count {sc : Option (Nat × (Nat → Int32))} {D : Nat} {o : Int32 × am_W} {a1 : Int32} {w : am_W} (H : F_Loc_count a1 w = some o) : am_run sc (D + 1) 48 [.ref 0, .int a1] (ww w) (some (.int o.1)) (ww o.2) 0 0 :=
  am_run_of rfl (T_Loc_count a1 w H)
def F_Loc_isByte_16 (s0 : Int32) (w : am_W) : Option (Int32 × am_W) :=
  am_ck (am_bo s0) (some (s0, w))
def F_Loc_isByte_15 (w : am_W) : Option (Int32 × am_W) :=
  F_Loc_isByte_16 (nI 0) w
def F_Loc_isByte (a0 : Int32) (w : am_W) : Option (Int32 × am_W) :=
  if a0 < 0 then (F_Loc_isByte_15 w) else (if (nI 255) < a0 then (F_Loc_isByte_15 w) else (F_Loc_isByte_16 (nI 1) w))
theorem T_Loc_isByte_16 {sc : Option (Nat × (Nat → Int32))} {D : Nat} {o : Int32 × am_W} (s0 : Int32) (w : am_W) (H : F_Loc_isByte_16 s0 w = some o) : am_gi sc D 65 o (16, [], [.int s0], ww w, 0, 0) := by
  unfold F_Loc_isByte_16 at H
  obtain ⟨hc, H⟩ := am_ckE H
  exact am_go_blk 1 ⟨am_boE hc, am_fi H⟩
theorem T_Loc_isByte_15 {sc : Option (Nat × (Nat → Int32))} {D : Nat} {o : Int32 × am_W} (w : am_W) (H : F_Loc_isByte_15 w = some o) : am_gi sc D 65 o (15, [], [], ww w, 0, 0) := by
  unfold F_Loc_isByte_15 at H
  exact am_go_blk 1 (T_Loc_isByte_16 (nI 0) w H)
theorem T_Loc_isByte {sc : Option (Nat × (Nat → Int32))} {D : Nat} {o : Int32 × am_W} (a0 : Int32) (w : am_W) (H : F_Loc_isByte a0 w = some o) : am_gi sc D 65 o (0, [(0, .int a0)], [], ww w, 0, 0) := by
  unfold F_Loc_isByte at H
  refine am_go_blk 2 ⟨fun hc => ?_, fun hc => ?_⟩
  · have H := am_it hc H
    exact T_Loc_isByte_15 w H
  · have H := am_ie hc H
    show am_gi sc D 65 o (4, [(0, .int a0)], [], ww w, 0, 0)
    refine am_go_blk 3 ⟨fun hc => ?_, fun hc => ?_⟩
    · have H := am_it hc H
      exact T_Loc_isByte_15 w H
    · have H := am_ie hc H
      show am_gi sc D 65 o (11, [(0, .int a0)], [], ww w, 0, 0)
      exact am_go_blk 2 (T_Loc_isByte_16 (nI 1) w H)
theorem M_Loc_isByte {sc : Option (Nat × (Nat → Int32))} {D : Nat} {o : Int32 × am_W} {a0 : Int32} {w : am_W} (H : F_Loc_isByte a0 w = some o) : am_run sc (D + 1) 65 [.int a0] (ww w) (some (.int o.1)) (ww o.2) 0 0 :=
  am_run_of rfl (T_Loc_isByte a0 w H)
def F_Read_append_30 (w : am_W) : Option (am_W) :=
  some w
def F_Read_append (a1 : Int32) (w : am_W) : Option (am_W) :=
  if (nI 160) ≤ (w.1 18 0) then (F_Read_append_30 w) else (am_ck (am_in (w.1 18 0) 160) (am_lt (wst w 19 (w.1 18 0) a1) fun w1 => am_lt (wsf w1 18 0 ((w1.1 18 0) + (nI 1))) fun w2 => F_Read_append_30 w2))
theorem T_Read_append_30 {sc : Option (Nat × (Nat → Int32))} {D : Nat} {o : am_W} (w : am_W) (H : F_Read_append_30 w = some o) : am_gv sc D 33 o (30, [], [], ww w, 0, 0) := by
  unfold F_Read_append_30 at H
  exact am_go_blk 1 (am_fv H)
theorem T_Read_append {sc : Option (Nat × (Nat → Int32))} {D : Nat} {o : am_W} (a1 : Int32) (w : am_W) (H : F_Read_append a1 w = some o) : am_gv sc D 33 o (0, [(0, .ref 18), (1, .int a1)], [], ww w, 0, 0) := by
  unfold F_Read_append at H
  refine am_go_blk 4 ⟨fun hc => ?_, fun hc => ?_⟩
  · have H := am_it hc H
    exact T_Read_append_30 w H
  · have H := am_ie hc H
    show am_gv sc D 33 o (10, [(0, .ref 18), (1, .int a1)], [], ww w, 0, 0)
    obtain ⟨hc, H⟩ := am_ckE H
    obtain ⟨w1, ew1, H⟩ := am_ltE H
    refine am_go_blk 6 ⟨am_inv hc, am_hp (ww_s19 ew1) (?_ : am_gv sc D 33 o (20, [(0, .ref 18), (1, .int a1)], [], ww w1, 0, 0))⟩
    obtain ⟨w2, ew2, H⟩ := am_ltE H
    refine am_go_blk 6 ⟨rfl, rfl, am_hp (ww_f18_0 ew2) (?_ : am_gv sc D 33 o (30, [], [], ww w2, 0, 0))⟩
    exact T_Read_append_30 w2 H
theorem M_Read_append {sc : Option (Nat × (Nat → Int32))} {D : Nat} {o : am_W} {a1 : Int32} {w : am_W} (H : F_Read_append a1 w = some o) : am_run sc (D + 1) 33 [.ref 18, .int a1] (ww w) none (ww o) 0 0 :=
  am_run_of rfl (T_Read_append a1 w H)
def F_Loc_feed_48 (w : am_W) : Option (Int32 × am_W) :=
  some ((-nI 2), w)
def F_Loc_feed_131 (r75 : Int32 → Int32 → Int32 → Int32 → Int32 → Int32 → Int32 → am_W → Option (Int32 × am_W)) (a1 : Int32) (a2 : Int32) (a3 : Int32) (a4 : Int32) (a5 : Int32) (a6 : Int32) (a7 : Int32) (s0 : Int32) (w : am_W) : Option (Int32 × am_W) :=
  (F_Read_append s0 w).bind fun w6 => r75 a1 a2 a3 a4 a5 a6 (a7 + (nI 1)) w6
def F_Loc_feed_75 (r75 : Int32 → Int32 → Int32 → Int32 → Int32 → Int32 → Int32 → am_W → Option (Int32 × am_W)) (a1 : Int32) (a2 : Int32) (a3 : Int32) (a4 : Int32) (a5 : Int32) (a6 : Int32) (a7 : Int32) (w : am_W) : Option (Int32 × am_W) :=
  if a1 ≤ a7 then (some ((w.1 18 0), w)) else (if a7 = 0 then (F_Loc_feed_131 r75 a1 a2 a3 a4 a5 a6 a7 a2 w) else (if a7 = (nI 1) then (F_Loc_feed_131 r75 a1 a2 a3 a4 a5 a6 a7 a3 w) else (if a7 = (nI 2) then (F_Loc_feed_131 r75 a1 a2 a3 a4 a5 a6 a7 a4 w) else (if a7 = (nI 3) then (F_Loc_feed_131 r75 a1 a2 a3 a4 a5 a6 a7 a5 w) else (F_Loc_feed_131 r75 a1 a2 a3 a4 a5 a6 a7 a6 w)))))
def L_Loc_feed_75 : Nat → Int32 → Int32 → Int32 → Int32 → Int32 → Int32 → Int32 → am_W → Option (Int32 × am_W)
  | 0, _, _, _, _, _, _, _, _ => none
  | n + 1, a1, a2, a3, a4, a5, a6, a7, w => F_Loc_feed_75 (L_Loc_feed_75 n) a1 a2 a3 a4 a5 a6 a7 w
def F_Loc_feed (a1 : Int32) (a2 : Int32) (a3 : Int32) (a4 : Int32) (a5 : Int32) (a6 : Int32) (w : am_W) : Option (Int32 × am_W) :=
  if a1 < (nI 1) then (F_Loc_feed_48 w) else (if (nI 5) < a1 then (F_Loc_feed_48 w) else ((F_Loc_isByte a2 w).bind fun q1 => if q1.1 = 0 then (F_Loc_feed_48 q1.2) else ((F_Loc_isByte a3 q1.2).bind fun q2 => if q2.1 = 0 then (F_Loc_feed_48 q2.2) else ((F_Loc_isByte a4 q2.2).bind fun q3 => if q3.1 = 0 then (F_Loc_feed_48 q3.2) else ((F_Loc_isByte a5 q3.2).bind fun q4 => if q4.1 = 0 then (F_Loc_feed_48 q4.2) else ((F_Loc_isByte a6 q4.2).bind fun q5 => if q5.1 = 0 then (F_Loc_feed_48 q5.2) else (if ((q5.2.1 18 0) + a1) ≤ (nI 160) then (L_Loc_feed_75 am_NF a1 a2 a3 a4 a5 a6 (nI 0) q5.2) else (some ((-nI 4), q5.2)))))))))
theorem T_Loc_feed_48 {sc : Option (Nat × (Nat → Int32))} {D : Nat} {o : Int32 × am_W} (w : am_W) (H : F_Loc_feed_48 w = some o) : am_gi sc (D + 1) 49 o (48, [], [], ww w, 0, 0) := by
  unfold F_Loc_feed_48 at H
  exact am_go_blk 2 ⟨rfl, am_fi H⟩
theorem T_Loc_feed_131 {sc : Option (Nat × (Nat → Int32))} {D : Nat} {o : Int32 × am_W} {r75 : Int32 → Int32 → Int32 → Int32 → Int32 → Int32 → Int32 → am_W → Option (Int32 × am_W)} (Hr75 : ∀ (a1 : Int32) (a2 : Int32) (a3 : Int32) (a4 : Int32) (a5 : Int32) (a6 : Int32) (a7 : Int32) (w : am_W) , r75 a1 a2 a3 a4 a5 a6 a7 w = some o → am_gi sc (D + 1) 49 o (75, [(0, .ref 0), (1, .int a1), (2, .int a2), (3, .int a3), (4, .int a4), (5, .int a5), (6, .int a6), (7, .int a7)], [], ww w, 0, 0)) (a1 : Int32) (a2 : Int32) (a3 : Int32) (a4 : Int32) (a5 : Int32) (a6 : Int32) (a7 : Int32) (s0 : Int32) (w : am_W) (H : F_Loc_feed_131 r75 a1 a2 a3 a4 a5 a6 a7 s0 w = some o) : am_gi sc (D + 1) 49 o (131, [(0, .ref 0), (1, .int a1), (2, .int a2), (3, .int a3), (4, .int a4), (5, .int a5), (6, .int a6), (7, .int a7)], [.int s0, .ref 18], ww w, 0, 0) := by
  unfold F_Loc_feed_131 at H
  obtain ⟨w6, hqw6, H⟩ := am_bnE H
  refine am_invd rfl rfl rfl rfl (am_callv rfl (M_Read_append (D := D) hqw6) (?_ : am_gi sc (D + 1) 49 o (134, [(0, .ref 0), (1, .int a1), (2, .int a2), (3, .int a3), (4, .int a4), (5, .int a5), (6, .int a6), (7, .int a7)], [], ww w6, 0, 0)))
  exact am_go_blk 2 (Hr75 a1 a2 a3 a4 a5 a6 (a7 + (nI 1)) w6 H)
theorem T_Loc_feed_75 {sc : Option (Nat × (Nat → Int32))} {D : Nat} {o : Int32 × am_W} {r75 : Int32 → Int32 → Int32 → Int32 → Int32 → Int32 → Int32 → am_W → Option (Int32 × am_W)} (Hr75 : ∀ (a1 : Int32) (a2 : Int32) (a3 : Int32) (a4 : Int32) (a5 : Int32) (a6 : Int32) (a7 : Int32) (w : am_W) , r75 a1 a2 a3 a4 a5 a6 a7 w = some o → am_gi sc (D + 1) 49 o (75, [(0, .ref 0), (1, .int a1), (2, .int a2), (3, .int a3), (4, .int a4), (5, .int a5), (6, .int a6), (7, .int a7)], [], ww w, 0, 0)) (a1 : Int32) (a2 : Int32) (a3 : Int32) (a4 : Int32) (a5 : Int32) (a6 : Int32) (a7 : Int32) (w : am_W) (H : F_Loc_feed_75 r75 a1 a2 a3 a4 a5 a6 a7 w = some o) : am_gi sc (D + 1) 49 o (75, [(0, .ref 0), (1, .int a1), (2, .int a2), (3, .int a3), (4, .int a4), (5, .int a5), (6, .int a6), (7, .int a7)], [], ww w, 0, 0) := by
  unfold F_Loc_feed_75 at H
  refine am_go_blk 3 ⟨fun hc => ?_, fun hc => ?_⟩
  · have H := am_it hc H
    show am_gi sc (D + 1) 49 o (140, [(0, .ref 0)], [], ww w, 0, 0)
    exact am_go_blk 5 ⟨rfl, am_fi H⟩
  · have H := am_ie hc H
    show am_gi sc (D + 1) 49 o (81, [(0, .ref 0), (1, .int a1), (2, .int a2), (3, .int a3), (4, .int a4), (5, .int a5), (6, .int a6), (7, .int a7)], [], ww w, 0, 0)
    refine am_go_blk 5 ⟨fun hc => ?_, fun hc => ?_⟩
    · have H := am_ie hc H
      show am_gi sc (D + 1) 49 o (97, [(0, .ref 0), (1, .int a1), (2, .int a2), (3, .int a3), (4, .int a4), (5, .int a5), (6, .int a6), (7, .int a7)], [.ref 18], ww w, 0, 0)
      refine am_go_blk 3 ⟨fun hc => ?_, fun hc => ?_⟩
      · have H := am_ie hc H
        show am_gi sc (D + 1) 49 o (107, [(0, .ref 0), (1, .int a1), (2, .int a2), (3, .int a3), (4, .int a4), (5, .int a5), (6, .int a6), (7, .int a7)], [.ref 18], ww w, 0, 0)
        refine am_go_blk 3 ⟨fun hc => ?_, fun hc => ?_⟩
        · have H := am_ie hc H
          show am_gi sc (D + 1) 49 o (118, [(0, .ref 0), (1, .int a1), (2, .int a2), (3, .int a3), (4, .int a4), (5, .int a5), (6, .int a6), (7, .int a7)], [.ref 18], ww w, 0, 0)
          refine am_go_blk 3 ⟨fun hc => ?_, fun hc => ?_⟩
          · have H := am_ie hc H
            show am_gi sc (D + 1) 49 o (129, [(0, .ref 0), (1, .int a1), (2, .int a2), (3, .int a3), (4, .int a4), (5, .int a5), (6, .int a6), (7, .int a7)], [.ref 18], ww w, 0, 0)
            exact am_go_blk 1 (T_Loc_feed_131 Hr75 a1 a2 a3 a4 a5 a6 a7 a6 w H)
          · have H := am_it hc H
            show am_gi sc (D + 1) 49 o (124, [(0, .ref 0), (1, .int a1), (2, .int a2), (3, .int a3), (4, .int a4), (5, .int a5), (6, .int a6), (7, .int a7)], [.ref 18], ww w, 0, 0)
            exact am_go_blk 2 (T_Loc_feed_131 Hr75 a1 a2 a3 a4 a5 a6 a7 a5 w H)
        · have H := am_it hc H
          show am_gi sc (D + 1) 49 o (113, [(0, .ref 0), (1, .int a1), (2, .int a2), (3, .int a3), (4, .int a4), (5, .int a5), (6, .int a6), (7, .int a7)], [.ref 18], ww w, 0, 0)
          exact am_go_blk 2 (T_Loc_feed_131 Hr75 a1 a2 a3 a4 a5 a6 a7 a4 w H)
      · have H := am_it hc H
        show am_gi sc (D + 1) 49 o (103, [(0, .ref 0), (1, .int a1), (2, .int a2), (3, .int a3), (4, .int a4), (5, .int a5), (6, .int a6), (7, .int a7)], [.ref 18], ww w, 0, 0)
        exact am_go_blk 2 (T_Loc_feed_131 Hr75 a1 a2 a3 a4 a5 a6 a7 a3 w H)
    · have H := am_it hc H
      show am_gi sc (D + 1) 49 o (93, [(0, .ref 0), (1, .int a1), (2, .int a2), (3, .int a3), (4, .int a4), (5, .int a5), (6, .int a6), (7, .int a7)], [.ref 18], ww w, 0, 0)
      exact am_go_blk 2 (T_Loc_feed_131 Hr75 a1 a2 a3 a4 a5 a6 a7 a2 w H)
theorem TL_Loc_feed_75 {sc : Option (Nat × (Nat → Int32))} {D : Nat} {o : Int32 × am_W} : ∀ (n : Nat) (a1 : Int32) (a2 : Int32) (a3 : Int32) (a4 : Int32) (a5 : Int32) (a6 : Int32) (a7 : Int32) (w : am_W) , L_Loc_feed_75 n a1 a2 a3 a4 a5 a6 a7 w = some o → am_gi sc (D + 1) 49 o (75, [(0, .ref 0), (1, .int a1), (2, .int a2), (3, .int a3), (4, .int a4), (5, .int a5), (6, .int a6), (7, .int a7)], [], ww w, 0, 0)
  | 0, _, _, _, _, _, _, _, _, H => by cases H
  | n + 1, a1, a2, a3, a4, a5, a6, a7, w, H => T_Loc_feed_75 (TL_Loc_feed_75 n) a1 a2 a3 a4 a5 a6 a7 w H
theorem T_Loc_feed {sc : Option (Nat × (Nat → Int32))} {D : Nat} {o : Int32 × am_W} (a1 : Int32) (a2 : Int32) (a3 : Int32) (a4 : Int32) (a5 : Int32) (a6 : Int32) (w : am_W) (H : F_Loc_feed a1 a2 a3 a4 a5 a6 w = some o) : am_gi sc (D + 1) 49 o (0, [(0, .ref 0), (1, .int a1), (2, .int a2), (3, .int a3), (4, .int a4), (5, .int a5), (6, .int a6)], [], ww w, 0, 0) := by
  unfold F_Loc_feed at H
  refine am_go_blk 3 ⟨fun hc => ?_, fun hc => ?_⟩
  · have H := am_it hc H
    exact T_Loc_feed_48 w H
  · have H := am_ie hc H
    show am_gi sc (D + 1) 49 o (5, [(0, .ref 0), (1, .int a1), (2, .int a2), (3, .int a3), (4, .int a4), (5, .int a5), (6, .int a6)], [], ww w, 0, 0)
    refine am_go_blk 3 ⟨fun hc => ?_, fun hc => ?_⟩
    · have H := am_it hc H
      exact T_Loc_feed_48 w H
    · have H := am_ie hc H
      show am_gi sc (D + 1) 49 o (10, [(0, .ref 0), (1, .int a1), (2, .int a2), (3, .int a3), (4, .int a4), (5, .int a5), (6, .int a6)], [], ww w, 0, 0)
      obtain ⟨q1, hqq1, H⟩ := am_bnE H
      refine am_go_blk 1 (?_ : am_gi sc (D + 1) 49 o (11, [(0, .ref 0), (1, .int a1), (2, .int a2), (3, .int a3), (4, .int a4), (5, .int a5), (6, .int a6)], [.int a2], ww w, 0, 0))
      refine am_cls rfl rfl rfl (am_calli rfl (M_Loc_isByte (D := D) hqq1) (?_ : am_gi sc (D + 1) 49 o (14, [(0, .ref 0), (1, .int a1), (2, .int a2), (3, .int a3), (4, .int a4), (5, .int a5), (6, .int a6)], [.int q1.1], ww q1.2, 0, 0)))
      refine am_go_blk 1 ⟨fun hc => ?_, fun hc => ?_⟩
      · have H := am_it hc H
        exact T_Loc_feed_48 q1.2 H
      · have H := am_ie hc H
        show am_gi sc (D + 1) 49 o (17, [(0, .ref 0), (1, .int a1), (2, .int a2), (3, .int a3), (4, .int a4), (5, .int a5), (6, .int a6)], [], ww q1.2, 0, 0)
        obtain ⟨q2, hqq2, H⟩ := am_bnE H
        refine am_go_blk 1 (?_ : am_gi sc (D + 1) 49 o (18, [(0, .ref 0), (1, .int a1), (2, .int a2), (3, .int a3), (4, .int a4), (5, .int a5), (6, .int a6)], [.int a3], ww q1.2, 0, 0))
        refine am_cls rfl rfl rfl (am_calli rfl (M_Loc_isByte (D := D) hqq2) (?_ : am_gi sc (D + 1) 49 o (21, [(0, .ref 0), (1, .int a1), (2, .int a2), (3, .int a3), (4, .int a4), (5, .int a5), (6, .int a6)], [.int q2.1], ww q2.2, 0, 0)))
        refine am_go_blk 1 ⟨fun hc => ?_, fun hc => ?_⟩
        · have H := am_it hc H
          exact T_Loc_feed_48 q2.2 H
        · have H := am_ie hc H
          show am_gi sc (D + 1) 49 o (24, [(0, .ref 0), (1, .int a1), (2, .int a2), (3, .int a3), (4, .int a4), (5, .int a5), (6, .int a6)], [], ww q2.2, 0, 0)
          obtain ⟨q3, hqq3, H⟩ := am_bnE H
          refine am_go_blk 1 (?_ : am_gi sc (D + 1) 49 o (26, [(0, .ref 0), (1, .int a1), (2, .int a2), (3, .int a3), (4, .int a4), (5, .int a5), (6, .int a6)], [.int a4], ww q2.2, 0, 0))
          refine am_cls rfl rfl rfl (am_calli rfl (M_Loc_isByte (D := D) hqq3) (?_ : am_gi sc (D + 1) 49 o (29, [(0, .ref 0), (1, .int a1), (2, .int a2), (3, .int a3), (4, .int a4), (5, .int a5), (6, .int a6)], [.int q3.1], ww q3.2, 0, 0)))
          refine am_go_blk 1 ⟨fun hc => ?_, fun hc => ?_⟩
          · have H := am_it hc H
            exact T_Loc_feed_48 q3.2 H
          · have H := am_ie hc H
            show am_gi sc (D + 1) 49 o (32, [(0, .ref 0), (1, .int a1), (2, .int a2), (3, .int a3), (4, .int a4), (5, .int a5), (6, .int a6)], [], ww q3.2, 0, 0)
            obtain ⟨q4, hqq4, H⟩ := am_bnE H
            refine am_go_blk 1 (?_ : am_gi sc (D + 1) 49 o (34, [(0, .ref 0), (1, .int a1), (2, .int a2), (3, .int a3), (4, .int a4), (5, .int a5), (6, .int a6)], [.int a5], ww q3.2, 0, 0))
            refine am_cls rfl rfl rfl (am_calli rfl (M_Loc_isByte (D := D) hqq4) (?_ : am_gi sc (D + 1) 49 o (37, [(0, .ref 0), (1, .int a1), (2, .int a2), (3, .int a3), (4, .int a4), (5, .int a5), (6, .int a6)], [.int q4.1], ww q4.2, 0, 0)))
            refine am_go_blk 1 ⟨fun hc => ?_, fun hc => ?_⟩
            · have H := am_it hc H
              exact T_Loc_feed_48 q4.2 H
            · have H := am_ie hc H
              show am_gi sc (D + 1) 49 o (40, [(0, .ref 0), (1, .int a1), (2, .int a2), (3, .int a3), (4, .int a4), (5, .int a5), (6, .int a6)], [], ww q4.2, 0, 0)
              obtain ⟨q5, hqq5, H⟩ := am_bnE H
              refine am_go_blk 1 (?_ : am_gi sc (D + 1) 49 o (42, [(0, .ref 0), (1, .int a1), (2, .int a2), (3, .int a3), (4, .int a4), (5, .int a5), (6, .int a6)], [.int a6], ww q4.2, 0, 0))
              refine am_cls rfl rfl rfl (am_calli rfl (M_Loc_isByte (D := D) hqq5) (?_ : am_gi sc (D + 1) 49 o (45, [(0, .ref 0), (1, .int a1), (2, .int a2), (3, .int a3), (4, .int a4), (5, .int a5), (6, .int a6)], [.int q5.1], ww q5.2, 0, 0)))
              refine am_go_blk 1 ⟨fun hc => ?_, fun hc => ?_⟩
              · have H := am_ie hc H
                show am_gi sc (D + 1) 49 o (51, [(0, .ref 0), (1, .int a1), (2, .int a2), (3, .int a3), (4, .int a4), (5, .int a5), (6, .int a6)], [], ww q5.2, 0, 0)
                refine am_go_blk 8 ⟨fun hc => ?_, fun hc => ?_⟩
                · have H := am_it hc H
                  show am_gi sc (D + 1) 49 o (72, [(0, .ref 0), (1, .int a1), (2, .int a2), (3, .int a3), (4, .int a4), (5, .int a5), (6, .int a6)], [], ww q5.2, 0, 0)
                  exact am_go_blk 2 (TL_Loc_feed_75 am_NF a1 a2 a3 a4 a5 a6 (nI 0) q5.2 H)
                · have H := am_ie hc H
                  show am_gi sc (D + 1) 49 o (69, [(0, .ref 0), (1, .int a1), (2, .int a2), (3, .int a3), (4, .int a4), (5, .int a5), (6, .int a6)], [], ww q5.2, 0, 0)
                  exact am_go_blk 2 ⟨rfl, am_fi H⟩
              · have H := am_it hc H
                exact T_Loc_feed_48 q5.2 H
theorem M_Loc_feed {sc : Option (Nat × (Nat → Int32))} {D : Nat} {o : Int32 × am_W} {a1 : Int32} {a2 : Int32} {a3 : Int32} {a4 : Int32} {a5 : Int32} {a6 : Int32} {w : am_W} (H : F_Loc_feed a1 a2 a3 a4 a5 a6 w = some o) : am_run sc (D + 2) 49 [.ref 0, .int a1, .int a2, .int a3, .int a4, .int a5, .int a6] (ww w) (some (.int o.1)) (ww o.2) 0 0 :=
  am_run_of rfl (T_Loc_feed a1 a2 a3 a4 a5 a6 w H)
def F_Read_isIn_15 (s0 : Int32) (w : am_W) : Option (Int32 × am_W) :=
  am_ck (am_bo s0) (some (s0, w))
def F_Read_isIn_14 (w : am_W) : Option (Int32 × am_W) :=
  F_Read_isIn_15 (nI 0) w
def F_Read_isIn (a0 : Int32) (a1 : Int32) (a2 : Int32) (w : am_W) : Option (Int32 × am_W) :=
  if a0 < a1 then (F_Read_isIn_14 w) else (if a2 < a0 then (F_Read_isIn_14 w) else (F_Read_isIn_15 (nI 1) w))
theorem T_Read_isIn_15 {sc : Option (Nat × (Nat → Int32))} {D : Nat} {o : Int32 × am_W} (s0 : Int32) (w : am_W) (H : F_Read_isIn_15 s0 w = some o) : am_gi sc D 45 o (15, [], [.int s0], ww w, 0, 0) := by
  unfold F_Read_isIn_15 at H
  obtain ⟨hc, H⟩ := am_ckE H
  exact am_go_blk 1 ⟨am_boE hc, am_fi H⟩
theorem T_Read_isIn_14 {sc : Option (Nat × (Nat → Int32))} {D : Nat} {o : Int32 × am_W} (w : am_W) (H : F_Read_isIn_14 w = some o) : am_gi sc D 45 o (14, [], [], ww w, 0, 0) := by
  unfold F_Read_isIn_14 at H
  exact am_go_blk 1 (T_Read_isIn_15 (nI 0) w H)
theorem T_Read_isIn {sc : Option (Nat × (Nat → Int32))} {D : Nat} {o : Int32 × am_W} (a0 : Int32) (a1 : Int32) (a2 : Int32) (w : am_W) (H : F_Read_isIn a0 a1 a2 w = some o) : am_gi sc D 45 o (0, [(0, .int a0), (1, .int a1), (2, .int a2)], [], ww w, 0, 0) := by
  unfold F_Read_isIn at H
  refine am_go_blk 3 ⟨fun hc => ?_, fun hc => ?_⟩
  · have H := am_it hc H
    exact T_Read_isIn_14 w H
  · have H := am_ie hc H
    show am_gi sc D 45 o (5, [(0, .int a0), (1, .int a1), (2, .int a2)], [], ww w, 0, 0)
    refine am_go_blk 3 ⟨fun hc => ?_, fun hc => ?_⟩
    · have H := am_it hc H
      exact T_Read_isIn_14 w H
    · have H := am_ie hc H
      show am_gi sc D 45 o (10, [(0, .int a0), (1, .int a1), (2, .int a2)], [], ww w, 0, 0)
      exact am_go_blk 2 (T_Read_isIn_15 (nI 1) w H)
theorem M_Read_isIn {sc : Option (Nat × (Nat → Int32))} {D : Nat} {o : Int32 × am_W} {a0 : Int32} {a1 : Int32} {a2 : Int32} {w : am_W} (H : F_Read_isIn a0 a1 a2 w = some o) : am_run sc (D + 1) 45 [.int a0, .int a1, .int a2] (ww w) (some (.int o.1)) (ww o.2) 0 0 :=
  am_run_of rfl (T_Read_isIn a0 a1 a2 w H)
def F_JstrisLatin1aae02_3000001_18 (s0 : Int32) (w : am_W) : Option (Int32 × am_W) :=
  am_ck (am_bo s0) (some (s0, w))
def F_JstrisLatin1aae02_3000001_17 (w : am_W) : Option (Int32 × am_W) :=
  F_JstrisLatin1aae02_3000001_18 (nI 0) w
def F_JstrisLatin1aae02_3000001 (w : am_W) : Option (Int32 × am_W) :=
  if (nI 1) = 0 then (F_JstrisLatin1aae02_3000001_17 w) else (if (nI 0) = 0 then (F_JstrisLatin1aae02_3000001_18 (nI 1) w) else (F_JstrisLatin1aae02_3000001_17 w))
theorem T_JstrisLatin1aae02_3000001_18 {sc : Option (Nat × (Nat → Int32))} {D : Nat} {o : Int32 × am_W} (s0 : Int32) (w : am_W) (H : F_JstrisLatin1aae02_3000001_18 s0 w = some o) : am_gi sc D 94 o (18, [], [.int s0], ww w, 0, 0) := by
  unfold F_JstrisLatin1aae02_3000001_18 at H
  obtain ⟨hc, H⟩ := am_ckE H
  exact am_go_blk 1 ⟨am_boE hc, am_fi H⟩
theorem T_JstrisLatin1aae02_3000001_17 {sc : Option (Nat × (Nat → Int32))} {D : Nat} {o : Int32 × am_W} (w : am_W) (H : F_JstrisLatin1aae02_3000001_17 w = some o) : am_gi sc D 94 o (17, [], [], ww w, 0, 0) := by
  unfold F_JstrisLatin1aae02_3000001_17 at H
  exact am_go_blk 1 (T_JstrisLatin1aae02_3000001_18 (nI 0) w H)
theorem T_JstrisLatin1aae02_3000001 {sc : Option (Nat × (Nat → Int32))} {D : Nat} {o : Int32 × am_W} (w : am_W) (H : F_JstrisLatin1aae02_3000001 w = some o) : am_gi sc D 94 o (0, [(0, .ref 3000001)], [], ww w, 0, 0) := by
  unfold F_JstrisLatin1aae02_3000001 at H
  refine am_go_blk 2 ⟨fun hc => ?_, fun hc => ?_⟩
  · have H := am_it hc H
    exact T_JstrisLatin1aae02_3000001_17 w H
  · have H := am_ie hc H
    show am_gi sc D 94 o (6, [(0, .ref 3000001)], [], ww w, 0, 0)
    refine am_go_blk 3 ⟨fun hc => ?_, fun hc => ?_⟩
    · have H := am_ie hc H
      exact T_JstrisLatin1aae02_3000001_17 w H
    · have H := am_it hc H
      show am_gi sc D 94 o (13, [(0, .ref 3000001)], [], ww w, 0, 0)
      exact am_go_blk 2 (T_JstrisLatin1aae02_3000001_18 (nI 1) w H)
theorem M_JstrisLatin1aae02_3000001 {sc : Option (Nat × (Nat → Int32))} {D : Nat} {o : Int32 × am_W} {w : am_W} (H : F_JstrisLatin1aae02_3000001 w = some o) : am_run sc (D + 1) 94 [.ref 3000001] (ww w) (some (.int o.1)) (ww o.2) 0 0 :=
  am_run_of rfl (T_JstrisLatin1aae02_3000001 w H)
def F_Jstrcoder7d493_3000001_14 (s0 : Int32) (w : am_W) : Option (Int32 × am_W) :=
  am_ck (am_by s0) (some (s0, w))
def F_Jstrcoder7d493_3000001 (w : am_W) : Option (Int32 × am_W) :=
  if (nI 1) = 0 then (F_Jstrcoder7d493_3000001_14 (nI 1) w) else (F_Jstrcoder7d493_3000001_14 (nI 0) w)
theorem T_Jstrcoder7d493_3000001_14 {sc : Option (Nat × (Nat → Int32))} {D : Nat} {o : Int32 × am_W} (s0 : Int32) (w : am_W) (H : F_Jstrcoder7d493_3000001_14 s0 w = some o) : am_gi sc D 93 o (14, [], [.int s0], ww w, 0, 0) := by
  unfold F_Jstrcoder7d493_3000001_14 at H
  obtain ⟨hc, H⟩ := am_ckE H
  exact am_go_blk 1 ⟨am_byE hc, am_fi H⟩
theorem T_Jstrcoder7d493_3000001 {sc : Option (Nat × (Nat → Int32))} {D : Nat} {o : Int32 × am_W} (w : am_W) (H : F_Jstrcoder7d493_3000001 w = some o) : am_gi sc D 93 o (0, [(0, .ref 3000001)], [], ww w, 0, 0) := by
  unfold F_Jstrcoder7d493_3000001 at H
  refine am_go_blk 2 ⟨fun hc => ?_, fun hc => ?_⟩
  · have H := am_it hc H
    show am_gi sc D 93 o (13, [], [], ww w, 0, 0)
    exact am_go_blk 1 (T_Jstrcoder7d493_3000001_14 (nI 1) w H)
  · have H := am_ie hc H
    show am_gi sc D 93 o (6, [(0, .ref 3000001)], [], ww w, 0, 0)
    exact am_go_blk 3 (T_Jstrcoder7d493_3000001_14 (nI 0) w H)
theorem M_Jstrcoder7d493_3000001 {sc : Option (Nat × (Nat → Int32))} {D : Nat} {o : Int32 × am_W} {w : am_W} (H : F_Jstrcoder7d493_3000001 w = some o) : am_run sc (D + 1) 93 [.ref 3000001] (ww w) (some (.int o.1)) (ww o.2) 0 0 :=
  am_run_of rfl (T_Jstrcoder7d493_3000001 w H)
def F_Jstrlength8abf5_3000001 (w : am_W) : Option (Int32 × am_W) :=
  (F_Jstrcoder7d493_3000001 w).bind fun q1 => some (((nI 8) >>> (q1.1 &&& 31)), q1.2)
theorem T_Jstrlength8abf5_3000001 {sc : Option (Nat × (Nat → Int32))} {D : Nat} {o : Int32 × am_W} (w : am_W) (H : F_Jstrlength8abf5_3000001 w = some o) : am_gi sc (D + 1) 87 o (0, [(0, .ref 3000001)], [], ww w, 0, 0) := by
  unfold F_Jstrlength8abf5_3000001 at H
  obtain ⟨q1, hqq1, H⟩ := am_bnE H
  refine am_go_blk 4 (?_ : am_gi sc (D + 1) 87 o (6, [(0, .ref 3000001)], [.ref 3000001, .int (nI 8)], ww w, 0, 0))
  refine am_invs rfl rfl rfl (am_calli rfl (M_Jstrcoder7d493_3000001 (D := D) hqq1) (?_ : am_gi sc (D + 1) 87 o (9, [(0, .ref 3000001)], [.int q1.1, .int (nI 8)], ww q1.2, 0, 0)))
  exact am_go_blk 2 ⟨rfl, am_fi H⟩
theorem M_Jstrlength8abf5_3000001 {sc : Option (Nat × (Nat → Int32))} {D : Nat} {o : Int32 × am_W} {w : am_W} (H : F_Jstrlength8abf5_3000001 w = some o) : am_run sc (D + 2) 87 [.ref 3000001] (ww w) (some (.int o.1)) (ww o.2) 0 0 :=
  am_run_of rfl (T_Jstrlength8abf5_3000001 w H)
def F_JlatcanEncode9a6ad__16 (s0 : Int32) (w : am_W) : Option (Int32 × am_W) :=
  am_ck (am_bo s0) (some (s0, w))
def F_JlatcanEncode9a6ad__15 (w : am_W) : Option (Int32 × am_W) :=
  F_JlatcanEncode9a6ad__16 (nI 0) w
def F_JlatcanEncode9a6ad_ (a0 : Int32) (w : am_W) : Option (Int32 × am_W) :=
  if a0 < 0 then (F_JlatcanEncode9a6ad__15 w) else (if (nI 255) < a0 then (F_JlatcanEncode9a6ad__15 w) else (F_JlatcanEncode9a6ad__16 (nI 1) w))
theorem T_JlatcanEncode9a6ad__16 {sc : Option (Nat × (Nat → Int32))} {D : Nat} {o : Int32 × am_W} (s0 : Int32) (w : am_W) (H : F_JlatcanEncode9a6ad__16 s0 w = some o) : am_gi sc D 101 o (16, [], [.int s0], ww w, 0, 0) := by
  unfold F_JlatcanEncode9a6ad__16 at H
  obtain ⟨hc, H⟩ := am_ckE H
  exact am_go_blk 1 ⟨am_boE hc, am_fi H⟩
theorem T_JlatcanEncode9a6ad__15 {sc : Option (Nat × (Nat → Int32))} {D : Nat} {o : Int32 × am_W} (w : am_W) (H : F_JlatcanEncode9a6ad__15 w = some o) : am_gi sc D 101 o (15, [], [], ww w, 0, 0) := by
  unfold F_JlatcanEncode9a6ad__15 at H
  exact am_go_blk 1 (T_JlatcanEncode9a6ad__16 (nI 0) w H)
theorem T_JlatcanEncode9a6ad_ {sc : Option (Nat × (Nat → Int32))} {D : Nat} {o : Int32 × am_W} (a0 : Int32) (w : am_W) (H : F_JlatcanEncode9a6ad_ a0 w = some o) : am_gi sc D 101 o (0, [(0, .int a0)], [], ww w, 0, 0) := by
  unfold F_JlatcanEncode9a6ad_ at H
  refine am_go_blk 2 ⟨fun hc => ?_, fun hc => ?_⟩
  · have H := am_it hc H
    exact T_JlatcanEncode9a6ad__15 w H
  · have H := am_ie hc H
    show am_gi sc D 101 o (4, [(0, .int a0)], [], ww w, 0, 0)
    refine am_go_blk 3 ⟨fun hc => ?_, fun hc => ?_⟩
    · have H := am_it hc H
      exact T_JlatcanEncode9a6ad__15 w H
    · have H := am_ie hc H
      show am_gi sc D 101 o (11, [(0, .int a0)], [], ww w, 0, 0)
      exact am_go_blk 2 (T_JlatcanEncode9a6ad__16 (nI 1) w H)
theorem M_JlatcanEncode9a6ad_ {sc : Option (Nat × (Nat → Int32))} {D : Nat} {o : Int32 × am_W} {a0 : Int32} {w : am_W} (H : F_JlatcanEncode9a6ad_ a0 w = some o) : am_run sc (D + 1) 101 [.int a0] (ww w) (some (.int o.1)) (ww o.2) 0 0 :=
  am_run_of rfl (T_JlatcanEncode9a6ad_ a0 w H)
def F_JlatindexOfChar4cfef_3001001_7 (r7 : Int32 → Int32 → Int32 → am_W → Option (Int32 × am_W)) (a3 : Int32) (a4 : Int32) (a5 : Int32) (w : am_W) : Option (Int32 × am_W) :=
  if a3 ≤ a5 then (some ((-nI 1), w)) else (am_ck (am_in a5 8) (if ((am_byt.getD 1 []).getD a5.toNatClampNeg 0) = a4 then (some (a5, w)) else (r7 a3 a4 (a5 + (nI 1)) w)))
def L_JlatindexOfChar4cfef_3001001_7 : Nat → Int32 → Int32 → Int32 → am_W → Option (Int32 × am_W)
  | 0, _, _, _, _ => none
  | n + 1, a3, a4, a5, w => F_JlatindexOfChar4cfef_3001001_7 (L_JlatindexOfChar4cfef_3001001_7 n) a3 a4 a5 w
def F_JlatindexOfChar4cfef_3001001 (a1 : Int32) (a2 : Int32) (a3 : Int32) (w : am_W) : Option (Int32 × am_W) :=
  L_JlatindexOfChar4cfef_3001001_7 am_NF a3 a1.toInt8.toInt32 a2 w
theorem T_JlatindexOfChar4cfef_3001001_7 {sc : Option (Nat × (Nat → Int32))} {D : Nat} {o : Int32 × am_W} {r7 : Int32 → Int32 → Int32 → am_W → Option (Int32 × am_W)} (Hr7 : ∀ (a3 : Int32) (a4 : Int32) (a5 : Int32) (w : am_W) , r7 a3 a4 a5 w = some o → am_gi sc D 103 o (7, [(0, .ref 3001001), (3, .int a3), (4, .int a4), (5, .int a5)], [], ww w, 0, 0)) (a3 : Int32) (a4 : Int32) (a5 : Int32) (w : am_W) (H : F_JlatindexOfChar4cfef_3001001_7 r7 a3 a4 a5 w = some o) : am_gi sc D 103 o (7, [(0, .ref 3001001), (3, .int a3), (4, .int a4), (5, .int a5)], [], ww w, 0, 0) := by
  unfold F_JlatindexOfChar4cfef_3001001_7 at H
  refine am_go_blk 3 ⟨fun hc => ?_, fun hc => ?_⟩
  · have H := am_it hc H
    show am_gi sc D 103 o (31, [], [], ww w, 0, 0)
    exact am_go_blk 2 ⟨rfl, am_fi H⟩
  · have H := am_ie hc H
    show am_gi sc D 103 o (13, [(0, .ref 3001001), (3, .int a3), (4, .int a4), (5, .int a5)], [], ww w, 0, 0)
    obtain ⟨hc, H⟩ := am_ckE H
    refine am_go_blk 3 ⟨am_inv hc, (?_ : am_gi sc D 103 o (17, [(0, .ref 3001001), (3, .int a3), (4, .int a4), (5, .int a5)], [.int ((am_byt.getD 1 []).getD a5.toNatClampNeg 0)], ww w, 0, 0))⟩
    refine am_go_blk 2 ⟨fun hc => ?_, fun hc => ?_⟩
    · have H := am_ie hc H
      show am_gi sc D 103 o (25, [(0, .ref 3001001), (3, .int a3), (4, .int a4), (5, .int a5)], [], ww w, 0, 0)
      exact am_go_blk 2 (Hr7 a3 a4 (a5 + (nI 1)) w H)
    · have H := am_it hc H
      show am_gi sc D 103 o (22, [(0, .ref 3001001), (3, .int a3), (4, .int a4), (5, .int a5)], [], ww w, 0, 0)
      exact am_go_blk 2 ⟨rfl, am_fi H⟩
theorem TL_JlatindexOfChar4cfef_3001001_7 {sc : Option (Nat × (Nat → Int32))} {D : Nat} {o : Int32 × am_W} : ∀ (n : Nat) (a3 : Int32) (a4 : Int32) (a5 : Int32) (w : am_W) , L_JlatindexOfChar4cfef_3001001_7 n a3 a4 a5 w = some o → am_gi sc D 103 o (7, [(0, .ref 3001001), (3, .int a3), (4, .int a4), (5, .int a5)], [], ww w, 0, 0)
  | 0, _, _, _, _, H => by cases H
  | n + 1, a3, a4, a5, w, H => T_JlatindexOfChar4cfef_3001001_7 (TL_JlatindexOfChar4cfef_3001001_7 n) a3 a4 a5 w H
theorem T_JlatindexOfChar4cfef_3001001 {sc : Option (Nat × (Nat → Int32))} {D : Nat} {o : Int32 × am_W} (a1 : Int32) (a2 : Int32) (a3 : Int32) (w : am_W) (H : F_JlatindexOfChar4cfef_3001001 a1 a2 a3 w = some o) : am_gi sc D 103 o (0, [(0, .ref 3001001), (1, .int a1), (2, .int a2), (3, .int a3)], [], ww w, 0, 0) := by
  unfold F_JlatindexOfChar4cfef_3001001 at H
  exact am_go_blk 5 (TL_JlatindexOfChar4cfef_3001001_7 am_NF a3 a1.toInt8.toInt32 a2 w H)
theorem M_JlatindexOfChar4cfef_3001001 {sc : Option (Nat × (Nat → Int32))} {D : Nat} {o : Int32 × am_W} {a1 : Int32} {a2 : Int32} {a3 : Int32} {w : am_W} (H : F_JlatindexOfChar4cfef_3001001 a1 a2 a3 w = some o) : am_run sc (D + 1) 103 [.ref 3001001, .int a1, .int a2, .int a3] (ww w) (some (.int o.1)) (ww o.2) 0 0 :=
  am_run_of rfl (T_JlatindexOfChar4cfef_3001001 a1 a2 a3 w H)
def F_JlatindexOf4cfef_3001001 (a1 : Int32) (a2 : Int32) (a3 : Int32) (w : am_W) : Option (Int32 × am_W) :=
  (F_JlatcanEncode9a6ad_ a1 w).bind fun q1 => if q1.1 = 0 then (some ((-nI 1), q1.2)) else (if (if a2 < (nI 0) then (nI 0) else a2) < (if (nI 8) < a3 then (nI 8) else a3) then ((F_JlatindexOfChar4cfef_3001001 a1 (if a2 < (nI 0) then (nI 0) else a2) (if (nI 8) < a3 then (nI 8) else a3) q1.2).bind fun q2 => some (q2.1, q2.2)) else (some ((-nI 1), q1.2)))
theorem T_JlatindexOf4cfef_3001001 {sc : Option (Nat × (Nat → Int32))} {D : Nat} {o : Int32 × am_W} (a1 : Int32) (a2 : Int32) (a3 : Int32) (w : am_W) (H : F_JlatindexOf4cfef_3001001 a1 a2 a3 w = some o) : am_gi sc (D + 1) 102 o (0, [(0, .ref 3001001), (1, .int a1), (2, .int a2), (3, .int a3)], [], ww w, 0, 0) := by
  unfold F_JlatindexOf4cfef_3001001 at H
  obtain ⟨q1, hqq1, H⟩ := am_bnE H
  refine am_go_blk 1 (?_ : am_gi sc (D + 1) 102 o (1, [(0, .ref 3001001), (1, .int a1), (2, .int a2), (3, .int a3)], [.int a1], ww w, 0, 0))
  refine am_cls rfl rfl rfl (am_calli rfl (M_JlatcanEncode9a6ad_ (D := D) hqq1) (?_ : am_gi sc (D + 1) 102 o (4, [(0, .ref 3001001), (1, .int a1), (2, .int a2), (3, .int a3)], [.int q1.1], ww q1.2, 0, 0)))
  refine am_go_blk 1 ⟨fun hc => ?_, fun hc => ?_⟩
  · have H := am_ie hc H
    show am_gi sc (D + 1) 102 o (9, [(0, .ref 3001001), (1, .int a1), (2, .int a2), (3, .int a3)], [], ww q1.2, 0, 0)
    refine am_go_blk 3 (?_ : am_gi sc (D + 1) 102 o (14, [(0, .ref 3001001), (1, .int a1), (2, .int a2), (3, .int a3)], [.int (if a2 < (nI 0) then (nI 0) else a2)], ww q1.2, 0, 0))
    refine am_go_blk 5 (?_ : am_gi sc (D + 1) 102 o (21, [(2, .int (if a2 < (nI 0) then (nI 0) else a2)), (0, .ref 3001001), (1, .int a1), (3, .int a3)], [.int (if (nI 8) < a3 then (nI 8) else a3)], ww q1.2, 0, 0))
    refine am_go_blk 4 ⟨fun hc => ?_, fun hc => ?_⟩
    · have H := am_it hc H
      show am_gi sc (D + 1) 102 o (29, [(0, .ref 3001001), (1, .int a1), (2, .int (if a2 < (nI 0) then (nI 0) else a2)), (3, .int (if (nI 8) < a3 then (nI 8) else a3))], [], ww q1.2, 0, 0)
      obtain ⟨q2, hqq2, H⟩ := am_bnE H
      refine am_go_blk 4 (?_ : am_gi sc (D + 1) 102 o (33, [(0, .ref 3001001), (1, .int a1), (2, .int (if a2 < (nI 0) then (nI 0) else a2)), (3, .int (if (nI 8) < a3 then (nI 8) else a3))], [.int (if (nI 8) < a3 then (nI 8) else a3), .int (if a2 < (nI 0) then (nI 0) else a2), .int a1, .ref 3001001], ww q1.2, 0, 0))
      refine am_cls rfl rfl rfl (am_calli rfl (M_JlatindexOfChar4cfef_3001001 (D := D) hqq2) (?_ : am_gi sc (D + 1) 102 o (36, [(0, .ref 3001001), (1, .int a1), (2, .int (if a2 < (nI 0) then (nI 0) else a2)), (3, .int (if (nI 8) < a3 then (nI 8) else a3))], [.int q2.1], ww q2.2, 0, 0)))
      exact am_go_blk 1 ⟨rfl, am_fi H⟩
    · have H := am_ie hc H
      show am_gi sc (D + 1) 102 o (27, [(3, .int (if (nI 8) < a3 then (nI 8) else a3)), (2, .int (if a2 < (nI 0) then (nI 0) else a2)), (0, .ref 3001001), (1, .int a1)], [], ww q1.2, 0, 0)
      exact am_go_blk 2 ⟨rfl, am_fi H⟩
  · have H := am_it hc H
    show am_gi sc (D + 1) 102 o (7, [(0, .ref 3001001), (1, .int a1), (2, .int a2), (3, .int a3)], [], ww q1.2, 0, 0)
    exact am_go_blk 2 ⟨rfl, am_fi H⟩
theorem M_JlatindexOf4cfef_3001001 {sc : Option (Nat × (Nat → Int32))} {D : Nat} {o : Int32 × am_W} {a1 : Int32} {a2 : Int32} {a3 : Int32} {w : am_W} (H : F_JlatindexOf4cfef_3001001 a1 a2 a3 w = some o) : am_run sc (D + 2) 102 [.ref 3001001, .int a1, .int a2, .int a3] (ww w) (some (.int o.1)) (ww o.2) 0 0 :=
  am_run_of rfl (T_JlatindexOf4cfef_3001001 a1 a2 a3 w H)
def F_JstrindexOf7cf53_3000001_36 (s0 : Int32) (w : am_W) : Option (Int32 × am_W) :=
  some (s0, w)
def F_JstrindexOf7cf53_3000001 (a1 : Int32) (a2 : Int32) (w : am_W) : Option (Int32 × am_W) :=
  (F_JstrisLatin1aae02_3000001 w).bind fun q1 => if q1.1 = 0 then ((F_Jstrlength8abf5_3000001 q1.2).bind fun q2 => none) else ((F_Jstrlength8abf5_3000001 q1.2).bind fun q3 => (F_JlatindexOf4cfef_3001001 a1 a2 q3.1 q3.2).bind fun q4 => F_JstrindexOf7cf53_3000001_36 q4.1 q4.2)
theorem T_JstrindexOf7cf53_3000001_36 {sc : Option (Nat × (Nat → Int32))} {D : Nat} {o : Int32 × am_W} (s0 : Int32) (w : am_W) (H : F_JstrindexOf7cf53_3000001_36 s0 w = some o) : am_gi sc (D + 2) 90 o (36, [], [.int s0], ww w, 0, 0) := by
  unfold F_JstrindexOf7cf53_3000001_36 at H
  exact am_go_blk 1 ⟨rfl, am_fi H⟩
theorem T_JstrindexOf7cf53_3000001 {sc : Option (Nat × (Nat → Int32))} {D : Nat} {o : Int32 × am_W} (a1 : Int32) (a2 : Int32) (w : am_W) (H : F_JstrindexOf7cf53_3000001 a1 a2 w = some o) : am_gi sc (D + 2) 90 o (0, [(0, .ref 3000001), (1, .int a1), (2, .int a2)], [], ww w, 0, 0) := by
  unfold F_JstrindexOf7cf53_3000001 at H
  obtain ⟨q1, hqq1, H⟩ := am_bnE H
  refine am_go_blk 1 (?_ : am_gi sc (D + 2) 90 o (1, [(0, .ref 3000001), (1, .int a1), (2, .int a2)], [.ref 3000001], ww w, 0, 0))
  refine am_invs rfl rfl rfl (am_calli rfl (M_JstrisLatin1aae02_3000001 (D := D + 1) hqq1) (?_ : am_gi sc (D + 2) 90 o (4, [(0, .ref 3000001), (1, .int a1), (2, .int a2)], [.int q1.1], ww q1.2, 0, 0)))
  refine am_go_blk 1 ⟨fun hc => ?_, fun hc => ?_⟩
  · have H := am_it hc H
    show am_gi sc (D + 2) 90 o (23, [(0, .ref 3000001), (1, .int a1), (2, .int a2)], [], ww q1.2, 0, 0)
    obtain ⟨q2, hqq2, H⟩ := am_bnE H
    refine am_go_blk 5 (?_ : am_gi sc (D + 2) 90 o (30, [(0, .ref 3000001), (1, .int a1), (2, .int a2)], [.ref 3000001, .int a2, .int a1, .ref 3001001], ww q1.2, 0, 0))
    refine am_invs rfl rfl rfl (am_calli rfl (M_Jstrlength8abf5_3000001 (D := D) hqq2) (?_ : am_gi sc (D + 2) 90 o (33, [(0, .ref 3000001), (1, .int a1), (2, .int a2)], [.int q2.1, .int a2, .int a1, .ref 3001001], ww q2.2, 0, 0)))
    cases H
  · have H := am_ie hc H
    show am_gi sc (D + 2) 90 o (7, [(0, .ref 3000001), (1, .int a1), (2, .int a2)], [], ww q1.2, 0, 0)
    obtain ⟨q3, hqq3, H⟩ := am_bnE H
    refine am_go_blk 5 (?_ : am_gi sc (D + 2) 90 o (14, [(0, .ref 3000001), (1, .int a1), (2, .int a2)], [.ref 3000001, .int a2, .int a1, .ref 3001001], ww q1.2, 0, 0))
    refine am_invs rfl rfl rfl (am_calli rfl (M_Jstrlength8abf5_3000001 (D := D) hqq3) (?_ : am_gi sc (D + 2) 90 o (17, [(0, .ref 3000001), (1, .int a1), (2, .int a2)], [.int q3.1, .int a2, .int a1, .ref 3001001], ww q3.2, 0, 0)))
    obtain ⟨q4, hqq4, H⟩ := am_bnE H
    refine am_cls rfl rfl rfl (am_calli rfl (M_JlatindexOf4cfef_3001001 (D := D) hqq4) (?_ : am_gi sc (D + 2) 90 o (20, [(0, .ref 3000001), (1, .int a1), (2, .int a2)], [.int q4.1], ww q4.2, 0, 0)))
    exact am_go_blk 1 (T_JstrindexOf7cf53_3000001_36 q4.1 q4.2 H)
theorem M_JstrindexOf7cf53_3000001 {sc : Option (Nat × (Nat → Int32))} {D : Nat} {o : Int32 × am_W} {a1 : Int32} {a2 : Int32} {w : am_W} (H : F_JstrindexOf7cf53_3000001 a1 a2 w = some o) : am_run sc (D + 3) 90 [.ref 3000001, .int a1, .int a2] (ww w) (some (.int o.1)) (ww o.2) 0 0 :=
  am_run_of rfl (T_JstrindexOf7cf53_3000001 a1 a2 w H)
def F_JstrindexOf0f7a4_3000001 (a1 : Int32) (w : am_W) : Option (Int32 × am_W) :=
  (F_JstrindexOf7cf53_3000001 a1 (nI 0) w).bind fun q1 => some (q1.1, q1.2)
theorem T_JstrindexOf0f7a4_3000001 {sc : Option (Nat × (Nat → Int32))} {D : Nat} {o : Int32 × am_W} (a1 : Int32) (w : am_W) (H : F_JstrindexOf0f7a4_3000001 a1 w = some o) : am_gi sc (D + 3) 89 o (0, [(0, .ref 3000001), (1, .int a1)], [], ww w, 0, 0) := by
  unfold F_JstrindexOf0f7a4_3000001 at H
  obtain ⟨q1, hqq1, H⟩ := am_bnE H
  refine am_go_blk 3 (?_ : am_gi sc (D + 3) 89 o (3, [(0, .ref 3000001), (1, .int a1)], [.int (nI 0), .int a1, .ref 3000001], ww w, 0, 0))
  refine am_invs rfl rfl rfl (am_calli rfl (M_JstrindexOf7cf53_3000001 (D := D) hqq1) (?_ : am_gi sc (D + 3) 89 o (6, [(0, .ref 3000001), (1, .int a1)], [.int q1.1], ww q1.2, 0, 0)))
  exact am_go_blk 1 ⟨rfl, am_fi H⟩
theorem M_JstrindexOf0f7a4_3000001 {sc : Option (Nat × (Nat → Int32))} {D : Nat} {o : Int32 × am_W} {a1 : Int32} {w : am_W} (H : F_JstrindexOf0f7a4_3000001 a1 w = some o) : am_run sc (D + 4) 89 [.ref 3000001, .int a1] (ww w) (some (.int o.1)) (ww o.2) 0 0 :=
  am_run_of rfl (T_JstrindexOf0f7a4_3000001 a1 w H)
def F_Read_scanNumber_94 (s0 : Int32) (w : am_W) : Option (Int32 × am_W) :=
  some (s0, w)
def F_Read_scanNumber_72 (w : am_W) : Option (Int32 × am_W) :=
  if ((w.1 18 2) - (w.1 18 1)) ≤ (nI 4) then (F_Read_scanNumber_94 (nI 307) w) else (F_Read_scanNumber_94 (nI 309) w)
def F_Read_scanNumber_5 (r5 : am_W → Option (Int32 × am_W)) (w : am_W) : Option (Int32 × am_W) :=
  if (w.1 18 0) ≤ (w.1 18 2) then (F_Read_scanNumber_72 w) else (am_ck (am_in (w.1 18 2) 160) ((F_Read_isIn (w.1 19 (w.1 18 2).toNatClampNeg) (nI 48) (nI 57) w).bind fun q2 => if q2.1 = 0 then (F_Read_scanNumber_72 q2.2) else (am_ck (am_in (q2.2.1 18 2) 160) (am_lt (wsf q2.2 18 4 (((q2.2.1 18 4) * (nI 10)) + ((q2.2.1 19 (q2.2.1 18 2).toNatClampNeg) - (nI 48)))) fun w3 => am_lt (wsf w3 18 2 ((w3.1 18 2) + (nI 1))) fun w4 => r5 w4))))
def L_Read_scanNumber_5 : Nat → am_W → Option (Int32 × am_W)
  | 0, _ => none
  | n + 1, w => F_Read_scanNumber_5 (L_Read_scanNumber_5 n) w
def F_Read_scanNumber (w : am_W) : Option (Int32 × am_W) :=
  am_lt (wsf w 18 4 (nI 0)) fun w1 => L_Read_scanNumber_5 am_NF w1
theorem T_Read_scanNumber_94 {sc : Option (Nat × (Nat → Int32))} {D : Nat} {o : Int32 × am_W} (s0 : Int32) (w : am_W) (H : F_Read_scanNumber_94 s0 w = some o) : am_gi sc (D + 1) 43 o (94, [], [.int s0], ww w, 0, 0) := by
  unfold F_Read_scanNumber_94 at H
  exact am_go_blk 1 ⟨rfl, am_fi H⟩
theorem T_Read_scanNumber_72 {sc : Option (Nat × (Nat → Int32))} {D : Nat} {o : Int32 × am_W} (w : am_W) (H : F_Read_scanNumber_72 w = some o) : am_gi sc (D + 1) 43 o (72, [(0, .ref 18)], [], ww w, 0, 0) := by
  unfold F_Read_scanNumber_72 at H
  refine am_go_blk 7 ⟨fun hc => ?_, fun hc => ?_⟩
  · have H := am_it hc H
    show am_gi sc (D + 1) 43 o (91, [], [], ww w, 0, 0)
    exact am_go_blk 1 (T_Read_scanNumber_94 (nI 307) w H)
  · have H := am_ie hc H
    show am_gi sc (D + 1) 43 o (85, [(0, .ref 18)], [], ww w, 0, 0)
    exact am_go_blk 2 (T_Read_scanNumber_94 (nI 309) w H)
theorem T_Read_scanNumber_5 {sc : Option (Nat × (Nat → Int32))} {D : Nat} {o : Int32 × am_W} {r5 : am_W → Option (Int32 × am_W)} (Hr5 : ∀ (w : am_W) , r5 w = some o → am_gi sc (D + 1) 43 o (5, [(0, .ref 18)], [], ww w, 0, 0)) (w : am_W) (H : F_Read_scanNumber_5 r5 w = some o) : am_gi sc (D + 1) 43 o (5, [(0, .ref 18)], [], ww w, 0, 0) := by
  unfold F_Read_scanNumber_5 at H
  refine am_go_blk 5 ⟨fun hc => ?_, fun hc => ?_⟩
  · have H := am_it hc H
    exact T_Read_scanNumber_72 w H
  · have H := am_ie hc H
    show am_gi sc (D + 1) 43 o (16, [(0, .ref 18)], [], ww w, 0, 0)
    obtain ⟨hc, H⟩ := am_ckE H
    refine am_go_blk 5 ⟨am_inv hc, (?_ : am_gi sc (D + 1) 43 o (25, [(0, .ref 18)], [.int (w.1 19 (w.1 18 2).toNatClampNeg)], ww w, 0, 0))⟩
    obtain ⟨q2, hqq2, H⟩ := am_bnE H
    refine am_go_blk 2 (?_ : am_gi sc (D + 1) 43 o (29, [(0, .ref 18)], [.int (nI 57), .int (nI 48), .int (w.1 19 (w.1 18 2).toNatClampNeg)], ww w, 0, 0))
    refine am_cls rfl rfl rfl (am_calli rfl (M_Read_isIn (D := D) hqq2) (?_ : am_gi sc (D + 1) 43 o (32, [(0, .ref 18)], [.int q2.1], ww q2.2, 0, 0)))
    refine am_go_blk 1 ⟨fun hc => ?_, fun hc => ?_⟩
    · have H := am_it hc H
      exact T_Read_scanNumber_72 q2.2 H
    · have H := am_ie hc H
      show am_gi sc (D + 1) 43 o (35, [(0, .ref 18)], [], ww q2.2, 0, 0)
      obtain ⟨hc, H⟩ := am_ckE H
      refine am_go_blk 10 ⟨am_inv hc, (?_ : am_gi sc (D + 1) 43 o (52, [(0, .ref 18)], [.int (q2.2.1 19 (q2.2.1 18 2).toNatClampNeg), .int ((q2.2.1 18 4) * (nI 10)), .ref 18], ww q2.2, 0, 0))⟩
      obtain ⟨w3, ew3, H⟩ := am_ltE H
      refine am_go_blk 4 ⟨rfl, rfl, am_hp (ww_f18_4 ew3) (?_ : am_gi sc (D + 1) 43 o (59, [(0, .ref 18)], [], ww w3, 0, 0))⟩
      obtain ⟨w4, ew4, H⟩ := am_ltE H
      refine am_go_blk 6 ⟨rfl, rfl, am_hp (ww_f18_2 ew4) (?_ : am_gi sc (D + 1) 43 o (69, [(0, .ref 18)], [], ww w4, 0, 0))⟩
      exact am_go_blk 1 (Hr5 w4 H)
theorem TL_Read_scanNumber_5 {sc : Option (Nat × (Nat → Int32))} {D : Nat} {o : Int32 × am_W} : ∀ (n : Nat) (w : am_W) , L_Read_scanNumber_5 n w = some o → am_gi sc (D + 1) 43 o (5, [(0, .ref 18)], [], ww w, 0, 0)
  | 0, _, H => by cases H
  | n + 1, w, H => T_Read_scanNumber_5 (TL_Read_scanNumber_5 n) w H
theorem T_Read_scanNumber {sc : Option (Nat × (Nat → Int32))} {D : Nat} {o : Int32 × am_W} (w : am_W) (H : F_Read_scanNumber w = some o) : am_gi sc (D + 1) 43 o (0, [(0, .ref 18)], [], ww w, 0, 0) := by
  unfold F_Read_scanNumber at H
  obtain ⟨w1, ew1, H⟩ := am_ltE H
  refine am_go_blk 3 ⟨rfl, rfl, am_hp (ww_f18_4 ew1) (?_ : am_gi sc (D + 1) 43 o (5, [(0, .ref 18)], [], ww w1, 0, 0))⟩
  exact TL_Read_scanNumber_5 am_NF w1 H
theorem M_Read_scanNumber {sc : Option (Nat × (Nat → Int32))} {D : Nat} {o : Int32 × am_W} {w : am_W} (H : F_Read_scanNumber w = some o) : am_run sc (D + 2) 43 [.ref 18] (ww w) (some (.int o.1)) (ww o.2) 0 0 :=
  am_run_of rfl (T_Read_scanNumber w H)
def F_Jstrcoder7d493_3000002_14 (s0 : Int32) (w : am_W) : Option (Int32 × am_W) :=
  am_ck (am_by s0) (some (s0, w))
def F_Jstrcoder7d493_3000002 (w : am_W) : Option (Int32 × am_W) :=
  if (nI 1) = 0 then (F_Jstrcoder7d493_3000002_14 (nI 1) w) else (F_Jstrcoder7d493_3000002_14 (nI 0) w)
theorem T_Jstrcoder7d493_3000002_14 {sc : Option (Nat × (Nat → Int32))} {D : Nat} {o : Int32 × am_W} (s0 : Int32) (w : am_W) (H : F_Jstrcoder7d493_3000002_14 s0 w = some o) : am_gi sc D 93 o (14, [], [.int s0], ww w, 0, 0) := by
  unfold F_Jstrcoder7d493_3000002_14 at H
  obtain ⟨hc, H⟩ := am_ckE H
  exact am_go_blk 1 ⟨am_byE hc, am_fi H⟩
theorem T_Jstrcoder7d493_3000002 {sc : Option (Nat × (Nat → Int32))} {D : Nat} {o : Int32 × am_W} (w : am_W) (H : F_Jstrcoder7d493_3000002 w = some o) : am_gi sc D 93 o (0, [(0, .ref 3000002)], [], ww w, 0, 0) := by
  unfold F_Jstrcoder7d493_3000002 at H
  refine am_go_blk 2 ⟨fun hc => ?_, fun hc => ?_⟩
  · have H := am_it hc H
    show am_gi sc D 93 o (13, [], [], ww w, 0, 0)
    exact am_go_blk 1 (T_Jstrcoder7d493_3000002_14 (nI 1) w H)
  · have H := am_ie hc H
    show am_gi sc D 93 o (6, [(0, .ref 3000002)], [], ww w, 0, 0)
    exact am_go_blk 3 (T_Jstrcoder7d493_3000002_14 (nI 0) w H)
theorem M_Jstrcoder7d493_3000002 {sc : Option (Nat × (Nat → Int32))} {D : Nat} {o : Int32 × am_W} {w : am_W} (H : F_Jstrcoder7d493_3000002 w = some o) : am_run sc (D + 1) 93 [.ref 3000002] (ww w) (some (.int o.1)) (ww o.2) 0 0 :=
  am_run_of rfl (T_Jstrcoder7d493_3000002 w H)
def F_Jstrlength8abf5_3000002 (w : am_W) : Option (Int32 × am_W) :=
  (F_Jstrcoder7d493_3000002 w).bind fun q1 => some (((nI 59) >>> (q1.1 &&& 31)), q1.2)
theorem T_Jstrlength8abf5_3000002 {sc : Option (Nat × (Nat → Int32))} {D : Nat} {o : Int32 × am_W} (w : am_W) (H : F_Jstrlength8abf5_3000002 w = some o) : am_gi sc (D + 1) 87 o (0, [(0, .ref 3000002)], [], ww w, 0, 0) := by
  unfold F_Jstrlength8abf5_3000002 at H
  obtain ⟨q1, hqq1, H⟩ := am_bnE H
  refine am_go_blk 4 (?_ : am_gi sc (D + 1) 87 o (6, [(0, .ref 3000002)], [.ref 3000002, .int (nI 59)], ww w, 0, 0))
  refine am_invs rfl rfl rfl (am_calli rfl (M_Jstrcoder7d493_3000002 (D := D) hqq1) (?_ : am_gi sc (D + 1) 87 o (9, [(0, .ref 3000002)], [.int q1.1, .int (nI 59)], ww q1.2, 0, 0)))
  exact am_go_blk 2 ⟨rfl, am_fi H⟩
theorem M_Jstrlength8abf5_3000002 {sc : Option (Nat × (Nat → Int32))} {D : Nat} {o : Int32 × am_W} {w : am_W} (H : F_Jstrlength8abf5_3000002 w = some o) : am_run sc (D + 2) 87 [.ref 3000002] (ww w) (some (.int o.1)) (ww o.2) 0 0 :=
  am_run_of rfl (T_Jstrlength8abf5_3000002 w H)
def F_JstrisLatin1aae02_3000002_18 (s0 : Int32) (w : am_W) : Option (Int32 × am_W) :=
  am_ck (am_bo s0) (some (s0, w))
def F_JstrisLatin1aae02_3000002_17 (w : am_W) : Option (Int32 × am_W) :=
  F_JstrisLatin1aae02_3000002_18 (nI 0) w
def F_JstrisLatin1aae02_3000002 (w : am_W) : Option (Int32 × am_W) :=
  if (nI 1) = 0 then (F_JstrisLatin1aae02_3000002_17 w) else (if (nI 0) = 0 then (F_JstrisLatin1aae02_3000002_18 (nI 1) w) else (F_JstrisLatin1aae02_3000002_17 w))
theorem T_JstrisLatin1aae02_3000002_18 {sc : Option (Nat × (Nat → Int32))} {D : Nat} {o : Int32 × am_W} (s0 : Int32) (w : am_W) (H : F_JstrisLatin1aae02_3000002_18 s0 w = some o) : am_gi sc D 94 o (18, [], [.int s0], ww w, 0, 0) := by
  unfold F_JstrisLatin1aae02_3000002_18 at H
  obtain ⟨hc, H⟩ := am_ckE H
  exact am_go_blk 1 ⟨am_boE hc, am_fi H⟩
theorem T_JstrisLatin1aae02_3000002_17 {sc : Option (Nat × (Nat → Int32))} {D : Nat} {o : Int32 × am_W} (w : am_W) (H : F_JstrisLatin1aae02_3000002_17 w = some o) : am_gi sc D 94 o (17, [], [], ww w, 0, 0) := by
  unfold F_JstrisLatin1aae02_3000002_17 at H
  exact am_go_blk 1 (T_JstrisLatin1aae02_3000002_18 (nI 0) w H)
theorem T_JstrisLatin1aae02_3000002 {sc : Option (Nat × (Nat → Int32))} {D : Nat} {o : Int32 × am_W} (w : am_W) (H : F_JstrisLatin1aae02_3000002 w = some o) : am_gi sc D 94 o (0, [(0, .ref 3000002)], [], ww w, 0, 0) := by
  unfold F_JstrisLatin1aae02_3000002 at H
  refine am_go_blk 2 ⟨fun hc => ?_, fun hc => ?_⟩
  · have H := am_it hc H
    exact T_JstrisLatin1aae02_3000002_17 w H
  · have H := am_ie hc H
    show am_gi sc D 94 o (6, [(0, .ref 3000002)], [], ww w, 0, 0)
    refine am_go_blk 3 ⟨fun hc => ?_, fun hc => ?_⟩
    · have H := am_ie hc H
      exact T_JstrisLatin1aae02_3000002_17 w H
    · have H := am_it hc H
      show am_gi sc D 94 o (13, [(0, .ref 3000002)], [], ww w, 0, 0)
      exact am_go_blk 2 (T_JstrisLatin1aae02_3000002_18 (nI 1) w H)
theorem M_JstrisLatin1aae02_3000002 {sc : Option (Nat × (Nat → Int32))} {D : Nat} {o : Int32 × am_W} {w : am_W} (H : F_JstrisLatin1aae02_3000002 w = some o) : am_run sc (D + 1) 94 [.ref 3000002] (ww w) (some (.int o.1)) (ww o.2) 0 0 :=
  am_run_of rfl (T_JstrisLatin1aae02_3000002 w H)
def F_JlatcharAt3b067_3001002 (a1 : Int32) (w : am_W) : Option (Int32 × am_W) :=
  am_ck (am_cix a1 (nI 59)) (am_ck (am_in a1 59) (am_ck (am_ch (((((am_byt.getD 2 []).getD a1.toNatClampNeg 0) &&& (nI 255)).toUInt32 % 65536).toInt32)) (some (((((am_byt.getD 2 []).getD a1.toNatClampNeg 0) &&& (nI 255)).toUInt32 % 65536).toInt32, w))))
theorem T_JlatcharAt3b067_3001002 {sc : Option (Nat × (Nat → Int32))} {D : Nat} {o : Int32 × am_W} (a1 : Int32) (w : am_W) (H : F_JlatcharAt3b067_3001002 a1 w = some o) : am_gi sc D 100 o (0, [(0, .ref 3001002), (1, .int a1)], [], ww w, 0, 0) := by
  unfold F_JlatcharAt3b067_3001002 at H
  obtain ⟨hc, H⟩ := am_ckE H
  refine am_go_blk 4 (am_cixE hc (?_ : am_gi sc D 100 o (6, [(0, .ref 3001002), (1, .int a1)], [], ww w, 0, 0)))
  obtain ⟨hc, H⟩ := am_ckE H
  refine am_go_blk 3 ⟨am_inv hc, (?_ : am_gi sc D 100 o (9, [(0, .ref 3001002), (1, .int a1)], [.int ((am_byt.getD 2 []).getD a1.toNatClampNeg 0)], ww w, 0, 0))⟩
  obtain ⟨hc, H⟩ := am_ckE H
  exact am_go_blk 4 ⟨am_chE hc, am_fi H⟩
theorem M_JlatcharAt3b067_3001002 {sc : Option (Nat × (Nat → Int32))} {D : Nat} {o : Int32 × am_W} {a1 : Int32} {w : am_W} (H : F_JlatcharAt3b067_3001002 a1 w = some o) : am_run sc (D + 1) 100 [.ref 3001002, .int a1] (ww w) (some (.int o.1)) (ww o.2) 0 0 :=
  am_run_of rfl (T_JlatcharAt3b067_3001002 a1 w H)
def F_JstrcharAt5068e_3000002 (a1 : Int32) (w : am_W) : Option (Int32 × am_W) :=
  (F_JstrisLatin1aae02_3000002 w).bind fun q1 => if q1.1 = 0 then (none) else ((F_JlatcharAt3b067_3001002 a1 q1.2).bind fun q2 => am_ck (am_ch q2.1) (some (q2.1, q2.2)))
theorem T_JstrcharAt5068e_3000002 {sc : Option (Nat × (Nat → Int32))} {D : Nat} {o : Int32 × am_W} (a1 : Int32) (w : am_W) (H : F_JstrcharAt5068e_3000002 a1 w = some o) : am_gi sc (D + 1) 88 o (0, [(0, .ref 3000002), (1, .int a1)], [], ww w, 0, 0) := by
  unfold F_JstrcharAt5068e_3000002 at H
  obtain ⟨q1, hqq1, H⟩ := am_bnE H
  refine am_go_blk 1 (?_ : am_gi sc (D + 1) 88 o (1, [(0, .ref 3000002), (1, .int a1)], [.ref 3000002], ww w, 0, 0))
  refine am_invs rfl rfl rfl (am_calli rfl (M_JstrisLatin1aae02_3000002 (D := D) hqq1) (?_ : am_gi sc (D + 1) 88 o (4, [(0, .ref 3000002), (1, .int a1)], [.int q1.1], ww q1.2, 0, 0)))
  refine am_go_blk 1 ⟨fun hc => ?_, fun hc => ?_⟩
  · have H := am_it hc H
    show am_gi sc (D + 1) 88 o (16, [(0, .ref 3000002), (1, .int a1)], [], ww q1.2, 0, 0)
    cases H
  · have H := am_ie hc H
    show am_gi sc (D + 1) 88 o (7, [(0, .ref 3000002), (1, .int a1)], [], ww q1.2, 0, 0)
    obtain ⟨q2, hqq2, H⟩ := am_bnE H
    refine am_go_blk 3 (?_ : am_gi sc (D + 1) 88 o (12, [(0, .ref 3000002), (1, .int a1)], [.int a1, .ref 3001002], ww q1.2, 0, 0))
    refine am_cls rfl rfl rfl (am_calli rfl (M_JlatcharAt3b067_3001002 (D := D) hqq2) (?_ : am_gi sc (D + 1) 88 o (15, [(0, .ref 3000002), (1, .int a1)], [.int q2.1], ww q2.2, 0, 0)))
    obtain ⟨hc, H⟩ := am_ckE H
    exact am_go_blk 1 ⟨am_chE hc, am_fi H⟩
theorem M_JstrcharAt5068e_3000002 {sc : Option (Nat × (Nat → Int32))} {D : Nat} {o : Int32 × am_W} {a1 : Int32} {w : am_W} (H : F_JstrcharAt5068e_3000002 a1 w = some o) : am_run sc (D + 2) 88 [.ref 3000002, .int a1] (ww w) (some (.int o.1)) (ww o.2) 0 0 :=
  am_run_of rfl (T_JstrcharAt5068e_3000002 a1 w H)
def F_Read_wordNumber_97 (r12 : Int32 → Int32 → Int32 → Int32 → am_W → Option (Int32 × am_W)) (a1 : Int32) (a2 : Int32) (a3 : Int32) (a4 : Int32) (w : am_W) : Option (Int32 × am_W) :=
  r12 a1 a2 a3 (a4 + (nI 1)) w
def F_Read_wordNumber_87 (r12 : Int32 → Int32 → Int32 → Int32 → am_W → Option (Int32 × am_W)) (a1 : Int32) (a4 : Int32) (w : am_W) : Option (Int32 × am_W) :=
  F_Read_wordNumber_97 r12 (a1 + (nI 1)) (w.1 18 1) (nI 1) a4 w
def F_Read_wordNumber_66 (r12 : Int32 → Int32 → Int32 → Int32 → am_W → Option (Int32 × am_W)) (a1 : Int32) (a2 : Int32) (a4 : Int32) (s0 : Int32) (w : am_W) : Option (Int32 × am_W) :=
  F_Read_wordNumber_97 r12 a1 (a2 + (nI 1)) s0 a4 w
def F_Read_wordNumber_65 (r12 : Int32 → Int32 → Int32 → Int32 → am_W → Option (Int32 × am_W)) (a1 : Int32) (a2 : Int32) (a4 : Int32) (w : am_W) : Option (Int32 × am_W) :=
  F_Read_wordNumber_66 r12 a1 a2 a4 (nI 0) w
def F_Read_wordNumber_12 (r12 : Int32 → Int32 → Int32 → Int32 → am_W → Option (Int32 × am_W)) (a1 : Int32) (a2 : Int32) (a3 : Int32) (a4 : Int32) (w : am_W) : Option (Int32 × am_W) :=
  (F_Jstrlength8abf5_3000002 w).bind fun q1 => if q1.1 ≤ a4 then (some ((-nI 1), q1.2)) else ((F_JstrcharAt5068e_3000002 a4 q1.2).bind fun q2 => if q2.1 = (nI 32) then (if a3 = 0 then (F_Read_wordNumber_87 r12 a1 a4 q2.2) else (if a2 = (q2.2.1 18 2) then (some (a1, q2.2)) else (F_Read_wordNumber_87 r12 a1 a4 q2.2))) else (if a3 = 0 then (F_Read_wordNumber_65 r12 a1 a2 a4 q2.2) else (if (q2.2.1 18 2) ≤ a2 then (F_Read_wordNumber_65 r12 a1 a2 a4 q2.2) else (am_ck (am_in a2 160) (if (q2.2.1 19 a2.toNatClampNeg) = q2.1 then (F_Read_wordNumber_66 r12 a1 a2 a4 (nI 1) q2.2) else (F_Read_wordNumber_65 r12 a1 a2 a4 q2.2))))))
def L_Read_wordNumber_12 : Nat → Int32 → Int32 → Int32 → Int32 → am_W → Option (Int32 × am_W)
  | 0, _, _, _, _, _ => none
  | n + 1, a1, a2, a3, a4, w => F_Read_wordNumber_12 (L_Read_wordNumber_12 n) a1 a2 a3 a4 w
def F_Read_wordNumber (w : am_W) : Option (Int32 × am_W) :=
  L_Read_wordNumber_12 am_NF (nI 0) (w.1 18 1) (nI 1) (nI 0) w
theorem T_Read_wordNumber_97 {sc : Option (Nat × (Nat → Int32))} {D : Nat} {o : Int32 × am_W} {r12 : Int32 → Int32 → Int32 → Int32 → am_W → Option (Int32 × am_W)} (Hr12 : ∀ (a1 : Int32) (a2 : Int32) (a3 : Int32) (a4 : Int32) (w : am_W) , r12 a1 a2 a3 a4 w = some o → am_gi sc (D + 2) 44 o (12, [(0, .ref 18), (1, .int a1), (2, .int a2), (3, .int a3), (4, .int a4)], [], ww w, 0, 0)) (a1 : Int32) (a2 : Int32) (a3 : Int32) (a4 : Int32) (w : am_W) (H : F_Read_wordNumber_97 r12 a1 a2 a3 a4 w = some o) : am_gi sc (D + 2) 44 o (97, [(0, .ref 18), (1, .int a1), (2, .int a2), (3, .int a3), (4, .int a4)], [], ww w, 0, 0) := by
  unfold F_Read_wordNumber_97 at H
  exact am_go_blk 2 (Hr12 a1 a2 a3 (a4 + (nI 1)) w H)
theorem T_Read_wordNumber_87 {sc : Option (Nat × (Nat → Int32))} {D : Nat} {o : Int32 × am_W} {r12 : Int32 → Int32 → Int32 → Int32 → am_W → Option (Int32 × am_W)} (Hr12 : ∀ (a1 : Int32) (a2 : Int32) (a3 : Int32) (a4 : Int32) (w : am_W) , r12 a1 a2 a3 a4 w = some o → am_gi sc (D + 2) 44 o (12, [(0, .ref 18), (1, .int a1), (2, .int a2), (3, .int a3), (4, .int a4)], [], ww w, 0, 0)) (a1 : Int32) (a4 : Int32) (w : am_W) (H : F_Read_wordNumber_87 r12 a1 a4 w = some o) : am_gi sc (D + 2) 44 o (87, [(0, .ref 18), (1, .int a1), (4, .int a4)], [], ww w, 0, 0) := by
  unfold F_Read_wordNumber_87 at H
  exact am_go_blk 6 (T_Read_wordNumber_97 Hr12 (a1 + (nI 1)) (w.1 18 1) (nI 1) a4 w H)
theorem T_Read_wordNumber_66 {sc : Option (Nat × (Nat → Int32))} {D : Nat} {o : Int32 × am_W} {r12 : Int32 → Int32 → Int32 → Int32 → am_W → Option (Int32 × am_W)} (Hr12 : ∀ (a1 : Int32) (a2 : Int32) (a3 : Int32) (a4 : Int32) (w : am_W) , r12 a1 a2 a3 a4 w = some o → am_gi sc (D + 2) 44 o (12, [(0, .ref 18), (1, .int a1), (2, .int a2), (3, .int a3), (4, .int a4)], [], ww w, 0, 0)) (a1 : Int32) (a2 : Int32) (a4 : Int32) (s0 : Int32) (w : am_W) (H : F_Read_wordNumber_66 r12 a1 a2 a4 s0 w = some o) : am_gi sc (D + 2) 44 o (66, [(0, .ref 18), (1, .int a1), (2, .int a2), (4, .int a4)], [.int s0], ww w, 0, 0) := by
  unfold F_Read_wordNumber_66 at H
  exact am_go_blk 3 (T_Read_wordNumber_97 Hr12 a1 (a2 + (nI 1)) s0 a4 w H)
theorem T_Read_wordNumber_65 {sc : Option (Nat × (Nat → Int32))} {D : Nat} {o : Int32 × am_W} {r12 : Int32 → Int32 → Int32 → Int32 → am_W → Option (Int32 × am_W)} (Hr12 : ∀ (a1 : Int32) (a2 : Int32) (a3 : Int32) (a4 : Int32) (w : am_W) , r12 a1 a2 a3 a4 w = some o → am_gi sc (D + 2) 44 o (12, [(0, .ref 18), (1, .int a1), (2, .int a2), (3, .int a3), (4, .int a4)], [], ww w, 0, 0)) (a1 : Int32) (a2 : Int32) (a4 : Int32) (w : am_W) (H : F_Read_wordNumber_65 r12 a1 a2 a4 w = some o) : am_gi sc (D + 2) 44 o (65, [(0, .ref 18), (1, .int a1), (2, .int a2), (4, .int a4)], [], ww w, 0, 0) := by
  unfold F_Read_wordNumber_65 at H
  exact am_go_blk 1 (T_Read_wordNumber_66 Hr12 a1 a2 a4 (nI 0) w H)
theorem T_Read_wordNumber_12 {sc : Option (Nat × (Nat → Int32))} {D : Nat} {o : Int32 × am_W} {r12 : Int32 → Int32 → Int32 → Int32 → am_W → Option (Int32 × am_W)} (Hr12 : ∀ (a1 : Int32) (a2 : Int32) (a3 : Int32) (a4 : Int32) (w : am_W) , r12 a1 a2 a3 a4 w = some o → am_gi sc (D + 2) 44 o (12, [(0, .ref 18), (1, .int a1), (2, .int a2), (3, .int a3), (4, .int a4)], [], ww w, 0, 0)) (a1 : Int32) (a2 : Int32) (a3 : Int32) (a4 : Int32) (w : am_W) (H : F_Read_wordNumber_12 r12 a1 a2 a3 a4 w = some o) : am_gi sc (D + 2) 44 o (12, [(0, .ref 18), (1, .int a1), (2, .int a2), (3, .int a3), (4, .int a4)], [], ww w, 0, 0) := by
  unfold F_Read_wordNumber_12 at H
  obtain ⟨q1, hqq1, H⟩ := am_bnE H
  refine am_go_blk 2 (?_ : am_gi sc (D + 2) 44 o (16, [(0, .ref 18), (1, .int a1), (2, .int a2), (3, .int a3), (4, .int a4)], [.ref 3000002, .int a4], ww w, 0, 0))
  refine am_invs rfl rfl rfl (am_calli rfl (M_Jstrlength8abf5_3000002 (D := D) hqq1) (?_ : am_gi sc (D + 2) 44 o (19, [(0, .ref 18), (1, .int a1), (2, .int a2), (3, .int a3), (4, .int a4)], [.int q1.1, .int a4], ww q1.2, 0, 0)))
  refine am_go_blk 1 ⟨fun hc => ?_, fun hc => ?_⟩
  · have H := am_it hc H
    show am_gi sc (D + 2) 44 o (103, [], [], ww q1.2, 0, 0)
    exact am_go_blk 2 ⟨rfl, am_fi H⟩
  · have H := am_ie hc H
    show am_gi sc (D + 2) 44 o (22, [(0, .ref 18), (1, .int a1), (2, .int a2), (3, .int a3), (4, .int a4)], [], ww q1.2, 0, 0)
    obtain ⟨q2, hqq2, H⟩ := am_bnE H
    refine am_go_blk 2 (?_ : am_gi sc (D + 2) 44 o (26, [(0, .ref 18), (1, .int a1), (2, .int a2), (3, .int a3), (4, .int a4)], [.int a4, .ref 3000002], ww q1.2, 0, 0))
    refine am_invs rfl rfl rfl (am_calli rfl (M_JstrcharAt5068e_3000002 (D := D) hqq2) (?_ : am_gi sc (D + 2) 44 o (29, [(0, .ref 18), (1, .int a1), (2, .int a2), (3, .int a3), (4, .int a4)], [.int q2.1], ww q2.2, 0, 0)))
    refine am_go_blk 4 ⟨fun hc => ?_, fun hc => ?_⟩
    · have H := am_it hc H
      show am_gi sc (D + 2) 44 o (73, [(0, .ref 18), (1, .int a1), (2, .int a2), (3, .int a3), (4, .int a4)], [], ww q2.2, 0, 0)
      refine am_go_blk 2 ⟨fun hc => ?_, fun hc => ?_⟩
      · have H := am_it hc H
        exact T_Read_wordNumber_87 Hr12 a1 a4 q2.2 H
      · have H := am_ie hc H
        show am_gi sc (D + 2) 44 o (77, [(0, .ref 18), (1, .int a1), (2, .int a2), (3, .int a3), (4, .int a4)], [], ww q2.2, 0, 0)
        refine am_go_blk 4 ⟨fun hc => ?_, fun hc => ?_⟩
        · have H := am_ie hc H
          exact T_Read_wordNumber_87 Hr12 a1 a4 q2.2 H
        · have H := am_it hc H
          show am_gi sc (D + 2) 44 o (85, [(0, .ref 18), (1, .int a1), (2, .int a2), (3, .int a3), (4, .int a4)], [], ww q2.2, 0, 0)
          exact am_go_blk 2 ⟨rfl, am_fi H⟩
    · have H := am_ie hc H
      show am_gi sc (D + 2) 44 o (38, [(5, .int q2.1), (0, .ref 18), (1, .int a1), (2, .int a2), (3, .int a3), (4, .int a4)], [], ww q2.2, 0, 0)
      refine am_go_blk 2 ⟨fun hc => ?_, fun hc => ?_⟩
      · have H := am_it hc H
        exact T_Read_wordNumber_65 Hr12 a1 a2 a4 q2.2 H
      · have H := am_ie hc H
        show am_gi sc (D + 2) 44 o (42, [(5, .int q2.1), (0, .ref 18), (1, .int a1), (2, .int a2), (3, .int a3), (4, .int a4)], [], ww q2.2, 0, 0)
        refine am_go_blk 4 ⟨fun hc => ?_, fun hc => ?_⟩
        · have H := am_it hc H
          exact T_Read_wordNumber_65 Hr12 a1 a2 a4 q2.2 H
        · have H := am_ie hc H
          show am_gi sc (D + 2) 44 o (50, [(5, .int q2.1), (0, .ref 18), (1, .int a1), (2, .int a2), (3, .int a3), (4, .int a4)], [], ww q2.2, 0, 0)
          obtain ⟨hc, H⟩ := am_ckE H
          refine am_go_blk 4 ⟨am_inv hc, (?_ : am_gi sc (D + 2) 44 o (56, [(5, .int q2.1), (0, .ref 18), (1, .int a1), (2, .int a2), (3, .int a3), (4, .int a4)], [.int (q2.2.1 19 a2.toNatClampNeg)], ww q2.2, 0, 0))⟩
          refine am_go_blk 2 ⟨fun hc => ?_, fun hc => ?_⟩
          · have H := am_ie hc H
            exact T_Read_wordNumber_65 Hr12 a1 a2 a4 q2.2 H
          · have H := am_it hc H
            show am_gi sc (D + 2) 44 o (61, [(5, .int q2.1), (0, .ref 18), (1, .int a1), (2, .int a2), (3, .int a3), (4, .int a4)], [], ww q2.2, 0, 0)
            exact am_go_blk 2 (T_Read_wordNumber_66 Hr12 a1 a2 a4 (nI 1) q2.2 H)
theorem TL_Read_wordNumber_12 {sc : Option (Nat × (Nat → Int32))} {D : Nat} {o : Int32 × am_W} : ∀ (n : Nat) (a1 : Int32) (a2 : Int32) (a3 : Int32) (a4 : Int32) (w : am_W) , L_Read_wordNumber_12 n a1 a2 a3 a4 w = some o → am_gi sc (D + 2) 44 o (12, [(0, .ref 18), (1, .int a1), (2, .int a2), (3, .int a3), (4, .int a4)], [], ww w, 0, 0)
  | 0, _, _, _, _, _, H => by cases H
  | n + 1, a1, a2, a3, a4, w, H => T_Read_wordNumber_12 (TL_Read_wordNumber_12 n) a1 a2 a3 a4 w H
theorem T_Read_wordNumber {sc : Option (Nat × (Nat → Int32))} {D : Nat} {o : Int32 × am_W} (w : am_W) (H : F_Read_wordNumber w = some o) : am_gi sc (D + 2) 44 o (0, [(0, .ref 18)], [], ww w, 0, 0) := by
  unfold F_Read_wordNumber at H
  exact am_go_blk 9 (TL_Read_wordNumber_12 am_NF (nI 0) (w.1 18 1) (nI 1) (nI 0) w H)
theorem M_Read_wordNumber {sc : Option (Nat × (Nat → Int32))} {D : Nat} {o : Int32 × am_W} {w : am_W} (H : F_Read_wordNumber w = some o) : am_run sc (D + 3) 44 [.ref 18] (ww w) (some (.int o.1)) (ww o.2) 0 0 :=
  am_run_of rfl (T_Read_wordNumber w H)
def F_Read_scanWord_81 (s0 : Int32) (w : am_W) : Option (Int32 × am_W) :=
  some (s0, w)
def F_Read_scanWord_43 (w : am_W) : Option (Int32 × am_W) :=
  (F_Read_wordNumber w).bind fun q1 => if 0 ≤ q1.1 then (am_lt (wsf q1.2 18 4 (q1.1 - (nI 6))) fun w2 => if (nI 6) ≤ q1.1 then (F_Read_scanWord_81 (nI 306) w2) else (F_Read_scanWord_81 ((nI 300) + q1.1) w2)) else (some ((nI 309), q1.2))
def F_Read_scanWord_0 (r0 : am_W → Option (Int32 × am_W)) (w : am_W) : Option (Int32 × am_W) :=
  if (w.1 18 0) ≤ (w.1 18 2) then (F_Read_scanWord_43 w) else (am_ck (am_in (w.1 18 2) 160) ((F_Read_isIn (w.1 19 (w.1 18 2).toNatClampNeg) (nI 97) (nI 122) w).bind fun q3 => if q3.1 = 0 then (F_Read_scanWord_43 q3.2) else (am_lt (wsf q3.2 18 2 ((q3.2.1 18 2) + (nI 1))) fun w4 => r0 w4)))
def L_Read_scanWord_0 : Nat → am_W → Option (Int32 × am_W)
  | 0, _ => none
  | n + 1, w => F_Read_scanWord_0 (L_Read_scanWord_0 n) w
def F_Read_scanWord (w : am_W) : Option (Int32 × am_W) :=
  L_Read_scanWord_0 am_NF w
theorem T_Read_scanWord_81 {sc : Option (Nat × (Nat → Int32))} {D : Nat} {o : Int32 × am_W} (s0 : Int32) (w : am_W) (H : F_Read_scanWord_81 s0 w = some o) : am_gi sc (D + 3) 42 o (81, [], [.int s0], ww w, 0, 0) := by
  unfold F_Read_scanWord_81 at H
  exact am_go_blk 1 ⟨rfl, am_fi H⟩
theorem T_Read_scanWord_43 {sc : Option (Nat × (Nat → Int32))} {D : Nat} {o : Int32 × am_W} (w : am_W) (H : F_Read_scanWord_43 w = some o) : am_gi sc (D + 3) 42 o (43, [(0, .ref 18)], [], ww w, 0, 0) := by
  unfold F_Read_scanWord_43 at H
  obtain ⟨q1, hqq1, H⟩ := am_bnE H
  refine am_go_blk 1 (?_ : am_gi sc (D + 3) 42 o (44, [(0, .ref 18)], [.ref 18], ww w, 0, 0))
  refine am_invd rfl rfl rfl rfl (am_calli rfl (M_Read_wordNumber (D := D) hqq1) (?_ : am_gi sc (D + 3) 42 o (47, [(0, .ref 18)], [.int q1.1], ww q1.2, 0, 0)))
  refine am_go_blk 3 ⟨fun hc => ?_, fun hc => ?_⟩
  · have H := am_it hc H
    show am_gi sc (D + 3) 42 o (56, [(0, .ref 18), (1, .int q1.1)], [], ww q1.2, 0, 0)
    obtain ⟨w2, ew2, H⟩ := am_ltE H
    refine am_go_blk 5 ⟨rfl, rfl, am_hp (ww_f18_4 ew2) (?_ : am_gi sc (D + 3) 42 o (64, [(0, .ref 18), (1, .int q1.1)], [], ww w2, 0, 0))⟩
    refine am_go_blk 3 ⟨fun hc => ?_, fun hc => ?_⟩
    · have H := am_it hc H
      show am_gi sc (D + 3) 42 o (78, [], [], ww w2, 0, 0)
      exact am_go_blk 1 (T_Read_scanWord_81 (nI 306) w2 H)
    · have H := am_ie hc H
      show am_gi sc (D + 3) 42 o (70, [(0, .ref 18), (1, .int q1.1)], [], ww w2, 0, 0)
      exact am_go_blk 4 (T_Read_scanWord_81 ((nI 300) + q1.1) w2 H)
  · have H := am_ie hc H
    show am_gi sc (D + 3) 42 o (52, [(1, .int q1.1), (0, .ref 18)], [], ww q1.2, 0, 0)
    exact am_go_blk 2 ⟨rfl, am_fi H⟩
theorem T_Read_scanWord_0 {sc : Option (Nat × (Nat → Int32))} {D : Nat} {o : Int32 × am_W} {r0 : am_W → Option (Int32 × am_W)} (Hr0 : ∀ (w : am_W) , r0 w = some o → am_gi sc (D + 3) 42 o (0, [(0, .ref 18)], [], ww w, 0, 0)) (w : am_W) (H : F_Read_scanWord_0 r0 w = some o) : am_gi sc (D + 3) 42 o (0, [(0, .ref 18)], [], ww w, 0, 0) := by
  unfold F_Read_scanWord_0 at H
  refine am_go_blk 5 ⟨fun hc => ?_, fun hc => ?_⟩
  · have H := am_it hc H
    exact T_Read_scanWord_43 w H
  · have H := am_ie hc H
    show am_gi sc (D + 3) 42 o (11, [(0, .ref 18)], [], ww w, 0, 0)
    obtain ⟨hc, H⟩ := am_ckE H
    refine am_go_blk 5 ⟨am_inv hc, (?_ : am_gi sc (D + 3) 42 o (20, [(0, .ref 18)], [.int (w.1 19 (w.1 18 2).toNatClampNeg)], ww w, 0, 0))⟩
    obtain ⟨q3, hqq3, H⟩ := am_bnE H
    refine am_go_blk 2 (?_ : am_gi sc (D + 3) 42 o (24, [(0, .ref 18)], [.int (nI 122), .int (nI 97), .int (w.1 19 (w.1 18 2).toNatClampNeg)], ww w, 0, 0))
    refine am_cls rfl rfl rfl (am_calli rfl (M_Read_isIn (D := D + 2) hqq3) (?_ : am_gi sc (D + 3) 42 o (27, [(0, .ref 18)], [.int q3.1], ww q3.2, 0, 0)))
    refine am_go_blk 1 ⟨fun hc => ?_, fun hc => ?_⟩
    · have H := am_it hc H
      exact T_Read_scanWord_43 q3.2 H
    · have H := am_ie hc H
      show am_gi sc (D + 3) 42 o (30, [(0, .ref 18)], [], ww q3.2, 0, 0)
      obtain ⟨w4, ew4, H⟩ := am_ltE H
      refine am_go_blk 6 ⟨rfl, rfl, am_hp (ww_f18_2 ew4) (?_ : am_gi sc (D + 3) 42 o (40, [(0, .ref 18)], [], ww w4, 0, 0))⟩
      exact am_go_blk 1 (Hr0 w4 H)
theorem TL_Read_scanWord_0 {sc : Option (Nat × (Nat → Int32))} {D : Nat} {o : Int32 × am_W} : ∀ (n : Nat) (w : am_W) , L_Read_scanWord_0 n w = some o → am_gi sc (D + 3) 42 o (0, [(0, .ref 18)], [], ww w, 0, 0)
  | 0, _, H => by cases H
  | n + 1, w, H => T_Read_scanWord_0 (TL_Read_scanWord_0 n) w H
theorem T_Read_scanWord {sc : Option (Nat × (Nat → Int32))} {D : Nat} {o : Int32 × am_W} (w : am_W) (H : F_Read_scanWord w = some o) : am_gi sc (D + 3) 42 o (0, [(0, .ref 18)], [], ww w, 0, 0) := by
  unfold F_Read_scanWord at H
  exact TL_Read_scanWord_0 am_NF w H
theorem M_Read_scanWord {sc : Option (Nat × (Nat → Int32))} {D : Nat} {o : Int32 × am_W} {w : am_W} (H : F_Read_scanWord w = some o) : am_run sc (D + 4) 42 [.ref 18] (ww w) (some (.int o.1)) (ww o.2) 0 0 :=
  am_run_of rfl (T_Read_scanWord w H)
def F_Read_advance_204 (w : am_W) : Option (am_W) :=
  some w
def F_Read_advance_201 (s0 : Int32) (w : am_W) : Option (am_W) :=
  am_lt (wsf w 18 3 s0) fun w7 => F_Read_advance_204 w7
def F_Read_advance_68 (w : am_W) : Option (am_W) :=
  am_lt (wsf w 18 2 (w.1 18 1)) fun w2 => if (w2.1 18 1) < (w2.1 18 0) then (am_ck (am_in (w2.1 18 1) 160) ((F_Read_isIn (w2.1 19 (w2.1 18 1).toNatClampNeg) (nI 97) (nI 122) w2).bind fun q3 => if q3.1 = 0 then (am_ck (am_in (q3.2.1 18 1) 160) ((F_Read_isIn (q3.2.1 19 (q3.2.1 18 1).toNatClampNeg) (nI 48) (nI 57) q3.2).bind fun q4 => if q4.1 = 0 then (am_lt (wsf q4.2 18 2 ((q4.2.1 18 1) + (nI 1))) fun w5 => am_ck (am_in (w5.1 18 1) 160) ((F_JstrindexOf0f7a4_3000001 (((w5.1 19 (w5.1 18 1).toNatClampNeg).toUInt32 % 65536).toInt32) w5).bind fun q6 => if q6.1 < 0 then (F_Read_advance_201 (nI 309) q6.2) else (am_ck (am_in (q6.2.1 18 1) 160) (F_Read_advance_201 (q6.2.1 19 (q6.2.1 18 1).toNatClampNeg) q6.2)))) else ((F_Read_scanNumber q4.2).bind fun q8 => am_lt (wsf q8.2 18 3 q8.1) fun w9 => F_Read_advance_204 w9))) else ((F_Read_scanWord q3.2).bind fun q10 => am_lt (wsf q10.2 18 3 q10.1) fun w11 => F_Read_advance_204 w11))) else (am_lt (wsf w2 18 3 (nI 308)) fun w12 => F_Read_advance_204 w12)
def F_Read_advance_55 (r16 : am_W → Option (am_W)) (w : am_W) : Option (am_W) :=
  am_lt (wsf w 18 1 ((w.1 18 1) + (nI 1))) fun w13 => r16 w13
def F_Read_advance_16 (r16 : am_W → Option (am_W)) (w : am_W) : Option (am_W) :=
  if (w.1 18 0) ≤ (w.1 18 1) then (F_Read_advance_68 w) else (am_ck (am_in (w.1 18 1) 160) (if (w.1 19 (w.1 18 1).toNatClampNeg) = (nI 32) then (F_Read_advance_55 r16 w) else (am_ck (am_in (w.1 18 1) 160) (if (w.1 19 (w.1 18 1).toNatClampNeg) = (nI 10) then (F_Read_advance_55 r16 w) else (F_Read_advance_68 w)))))
def L_Read_advance_16 : Nat → am_W → Option (am_W)
  | 0, _ => none
  | n + 1, w => F_Read_advance_16 (L_Read_advance_16 n) w
def F_Read_advance (w : am_W) : Option (am_W) :=
  if (w.1 18 5) = 0 then (am_lt (wsf w 18 1 (w.1 18 2)) fun w1 => L_Read_advance_16 am_NF w1) else (some w)
theorem T_Read_advance_204 {sc : Option (Nat × (Nat → Int32))} {D : Nat} {o : am_W} (w : am_W) (H : F_Read_advance_204 w = some o) : am_gv sc (D + 4) 41 o (204, [], [], ww w, 0, 0) := by
  unfold F_Read_advance_204 at H
  exact am_go_blk 1 (am_fv H)
theorem T_Read_advance_201 {sc : Option (Nat × (Nat → Int32))} {D : Nat} {o : am_W} (s0 : Int32) (w : am_W) (H : F_Read_advance_201 s0 w = some o) : am_gv sc (D + 4) 41 o (201, [], [.int s0, .ref 18], ww w, 0, 0) := by
  unfold F_Read_advance_201 at H
  obtain ⟨w7, ew7, H⟩ := am_ltE H
  refine am_go_blk 1 ⟨rfl, rfl, am_hp (ww_f18_3 ew7) (?_ : am_gv sc (D + 4) 41 o (204, [], [], ww w7, 0, 0))⟩
  exact T_Read_advance_204 w7 H
theorem T_Read_advance_68 {sc : Option (Nat × (Nat → Int32))} {D : Nat} {o : am_W} (w : am_W) (H : F_Read_advance_68 w = some o) : am_gv sc (D + 4) 41 o (68, [(0, .ref 18)], [], ww w, 0, 0) := by
  unfold F_Read_advance_68 at H
  obtain ⟨w2, ew2, H⟩ := am_ltE H
  refine am_go_blk 4 ⟨rfl, rfl, am_hp (ww_f18_2 ew2) (?_ : am_gv sc (D + 4) 41 o (76, [(0, .ref 18)], [], ww w2, 0, 0))⟩
  refine am_go_blk 5 ⟨fun hc => ?_, fun hc => ?_⟩
  · have H := am_it hc H
    show am_gv sc (D + 4) 41 o (97, [(0, .ref 18)], [], ww w2, 0, 0)
    obtain ⟨hc, H⟩ := am_ckE H
    refine am_go_blk 5 ⟨am_inv hc, (?_ : am_gv sc (D + 4) 41 o (106, [(0, .ref 18)], [.int (w2.1 19 (w2.1 18 1).toNatClampNeg)], ww w2, 0, 0))⟩
    obtain ⟨q3, hqq3, H⟩ := am_bnE H
    refine am_go_blk 2 (?_ : am_gv sc (D + 4) 41 o (110, [(0, .ref 18)], [.int (nI 122), .int (nI 97), .int (w2.1 19 (w2.1 18 1).toNatClampNeg)], ww w2, 0, 0))
    refine am_cls rfl rfl rfl (am_calli rfl (M_Read_isIn (D := D + 3) hqq3) (?_ : am_gv sc (D + 4) 41 o (113, [(0, .ref 18)], [.int q3.1], ww q3.2, 0, 0)))
    refine am_go_blk 1 ⟨fun hc => ?_, fun hc => ?_⟩
    · have H := am_it hc H
      show am_gv sc (D + 4) 41 o (127, [(0, .ref 18)], [], ww q3.2, 0, 0)
      obtain ⟨hc, H⟩ := am_ckE H
      refine am_go_blk 5 ⟨am_inv hc, (?_ : am_gv sc (D + 4) 41 o (136, [(0, .ref 18)], [.int (q3.2.1 19 (q3.2.1 18 1).toNatClampNeg)], ww q3.2, 0, 0))⟩
      obtain ⟨q4, hqq4, H⟩ := am_bnE H
      refine am_go_blk 2 (?_ : am_gv sc (D + 4) 41 o (140, [(0, .ref 18)], [.int (nI 57), .int (nI 48), .int (q3.2.1 19 (q3.2.1 18 1).toNatClampNeg)], ww q3.2, 0, 0))
      refine am_cls rfl rfl rfl (am_calli rfl (M_Read_isIn (D := D + 3) hqq4) (?_ : am_gv sc (D + 4) 41 o (143, [(0, .ref 18)], [.int q4.1], ww q4.2, 0, 0)))
      refine am_go_blk 1 ⟨fun hc => ?_, fun hc => ?_⟩
      · have H := am_it hc H
        show am_gv sc (D + 4) 41 o (157, [(0, .ref 18)], [], ww q4.2, 0, 0)
        obtain ⟨w5, ew5, H⟩ := am_ltE H
        refine am_go_blk 6 ⟨rfl, rfl, am_hp (ww_f18_2 ew5) (?_ : am_gv sc (D + 4) 41 o (167, [(0, .ref 18)], [], ww w5, 0, 0))⟩
        obtain ⟨hc, H⟩ := am_ckE H
        refine am_go_blk 7 ⟨am_inv hc, (?_ : am_gv sc (D + 4) 41 o (179, [(0, .ref 18)], [.int (w5.1 19 (w5.1 18 1).toNatClampNeg), .ref 3000001, .ref 18], ww w5, 0, 0))⟩
        obtain ⟨q6, hqq6, H⟩ := am_bnE H
        refine am_go_blk 1 (?_ : am_gv sc (D + 4) 41 o (180, [(0, .ref 18)], [.int (((w5.1 19 (w5.1 18 1).toNatClampNeg).toUInt32 % 65536).toInt32), .ref 3000001, .ref 18], ww w5, 0, 0))
        refine am_invs rfl rfl rfl (am_calli rfl (M_JstrindexOf0f7a4_3000001 (D := D) hqq6) (?_ : am_gv sc (D + 4) 41 o (183, [(0, .ref 18)], [.int q6.1, .ref 18], ww q6.2, 0, 0)))
        refine am_go_blk 1 ⟨fun hc => ?_, fun hc => ?_⟩
        · have H := am_it hc H
          show am_gv sc (D + 4) 41 o (198, [], [.ref 18], ww q6.2, 0, 0)
          exact am_go_blk 1 (T_Read_advance_201 (nI 309) q6.2 H)
        · have H := am_ie hc H
          show am_gv sc (D + 4) 41 o (186, [(0, .ref 18)], [.ref 18], ww q6.2, 0, 0)
          obtain ⟨hc, H⟩ := am_ckE H
          refine am_go_blk 5 ⟨am_inv hc, (?_ : am_gv sc (D + 4) 41 o (195, [(0, .ref 18)], [.int (q6.2.1 19 (q6.2.1 18 1).toNatClampNeg), .ref 18], ww q6.2, 0, 0))⟩
          exact am_go_blk 1 (T_Read_advance_201 (q6.2.1 19 (q6.2.1 18 1).toNatClampNeg) q6.2 H)
      · have H := am_ie hc H
        show am_gv sc (D + 4) 41 o (146, [(0, .ref 18)], [], ww q4.2, 0, 0)
        obtain ⟨q8, hqq8, H⟩ := am_bnE H
        refine am_go_blk 2 (?_ : am_gv sc (D + 4) 41 o (148, [(0, .ref 18)], [.ref 18, .ref 18], ww q4.2, 0, 0))
        refine am_invd rfl rfl rfl rfl (am_calli rfl (M_Read_scanNumber (D := D + 2) hqq8) (?_ : am_gv sc (D + 4) 41 o (151, [(0, .ref 18)], [.int q8.1, .ref 18], ww q8.2, 0, 0)))
        obtain ⟨w9, ew9, H⟩ := am_ltE H
        refine am_go_blk 1 ⟨rfl, rfl, am_hp (ww_f18_3 ew9) (?_ : am_gv sc (D + 4) 41 o (154, [(0, .ref 18)], [], ww w9, 0, 0))⟩
        exact am_go_blk 1 (T_Read_advance_204 w9 H)
    · have H := am_ie hc H
      show am_gv sc (D + 4) 41 o (116, [(0, .ref 18)], [], ww q3.2, 0, 0)
      obtain ⟨q10, hqq10, H⟩ := am_bnE H
      refine am_go_blk 2 (?_ : am_gv sc (D + 4) 41 o (118, [(0, .ref 18)], [.ref 18, .ref 18], ww q3.2, 0, 0))
      refine am_invd rfl rfl rfl rfl (am_calli rfl (M_Read_scanWord (D := D) hqq10) (?_ : am_gv sc (D + 4) 41 o (121, [(0, .ref 18)], [.int q10.1, .ref 18], ww q10.2, 0, 0)))
      obtain ⟨w11, ew11, H⟩ := am_ltE H
      refine am_go_blk 1 ⟨rfl, rfl, am_hp (ww_f18_3 ew11) (?_ : am_gv sc (D + 4) 41 o (124, [(0, .ref 18)], [], ww w11, 0, 0))⟩
      exact am_go_blk 1 (T_Read_advance_204 w11 H)
  · have H := am_ie hc H
    show am_gv sc (D + 4) 41 o (87, [(0, .ref 18)], [], ww w2, 0, 0)
    obtain ⟨w12, ew12, H⟩ := am_ltE H
    refine am_go_blk 3 ⟨rfl, rfl, am_hp (ww_f18_3 ew12) (?_ : am_gv sc (D + 4) 41 o (94, [(0, .ref 18)], [], ww w12, 0, 0))⟩
    exact am_go_blk 1 (T_Read_advance_204 w12 H)
theorem T_Read_advance_55 {sc : Option (Nat × (Nat → Int32))} {D : Nat} {o : am_W} {r16 : am_W → Option (am_W)} (Hr16 : ∀ (w : am_W) , r16 w = some o → am_gv sc (D + 4) 41 o (16, [(0, .ref 18)], [], ww w, 0, 0)) (w : am_W) (H : F_Read_advance_55 r16 w = some o) : am_gv sc (D + 4) 41 o (55, [(0, .ref 18)], [], ww w, 0, 0) := by
  unfold F_Read_advance_55 at H
  obtain ⟨w13, ew13, H⟩ := am_ltE H
  refine am_go_blk 6 ⟨rfl, rfl, am_hp (ww_f18_1 ew13) (?_ : am_gv sc (D + 4) 41 o (65, [(0, .ref 18)], [], ww w13, 0, 0))⟩
  exact am_go_blk 1 (Hr16 w13 H)
theorem T_Read_advance_16 {sc : Option (Nat × (Nat → Int32))} {D : Nat} {o : am_W} {r16 : am_W → Option (am_W)} (Hr16 : ∀ (w : am_W) , r16 w = some o → am_gv sc (D + 4) 41 o (16, [(0, .ref 18)], [], ww w, 0, 0)) (w : am_W) (H : F_Read_advance_16 r16 w = some o) : am_gv sc (D + 4) 41 o (16, [(0, .ref 18)], [], ww w, 0, 0) := by
  unfold F_Read_advance_16 at H
  refine am_go_blk 5 ⟨fun hc => ?_, fun hc => ?_⟩
  · have H := am_it hc H
    exact T_Read_advance_68 w H
  · have H := am_ie hc H
    show am_gv sc (D + 4) 41 o (27, [(0, .ref 18)], [], ww w, 0, 0)
    obtain ⟨hc, H⟩ := am_ckE H
    refine am_go_blk 5 ⟨am_inv hc, (?_ : am_gv sc (D + 4) 41 o (36, [(0, .ref 18)], [.int (w.1 19 (w.1 18 1).toNatClampNeg)], ww w, 0, 0))⟩
    refine am_go_blk 2 ⟨fun hc => ?_, fun hc => ?_⟩
    · have H := am_it hc H
      exact T_Read_advance_55 Hr16 w H
    · have H := am_ie hc H
      show am_gv sc (D + 4) 41 o (41, [(0, .ref 18)], [], ww w, 0, 0)
      obtain ⟨hc, H⟩ := am_ckE H
      refine am_go_blk 5 ⟨am_inv hc, (?_ : am_gv sc (D + 4) 41 o (50, [(0, .ref 18)], [.int (w.1 19 (w.1 18 1).toNatClampNeg)], ww w, 0, 0))⟩
      refine am_go_blk 2 ⟨fun hc => ?_, fun hc => ?_⟩
      · have H := am_ie hc H
        exact T_Read_advance_68 w H
      · have H := am_it hc H
        exact T_Read_advance_55 Hr16 w H
theorem TL_Read_advance_16 {sc : Option (Nat × (Nat → Int32))} {D : Nat} {o : am_W} : ∀ (n : Nat) (w : am_W) , L_Read_advance_16 n w = some o → am_gv sc (D + 4) 41 o (16, [(0, .ref 18)], [], ww w, 0, 0)
  | 0, _, H => by cases H
  | n + 1, w, H => T_Read_advance_16 (TL_Read_advance_16 n) w H
theorem T_Read_advance {sc : Option (Nat × (Nat → Int32))} {D : Nat} {o : am_W} (w : am_W) (H : F_Read_advance w = some o) : am_gv sc (D + 4) 41 o (0, [(0, .ref 18)], [], ww w, 0, 0) := by
  unfold F_Read_advance at H
  refine am_go_blk 3 ⟨fun hc => ?_, fun hc => ?_⟩
  · have H := am_it hc H
    show am_gv sc (D + 4) 41 o (8, [(0, .ref 18)], [], ww w, 0, 0)
    obtain ⟨w1, ew1, H⟩ := am_ltE H
    refine am_go_blk 4 ⟨rfl, rfl, am_hp (ww_f18_1 ew1) (?_ : am_gv sc (D + 4) 41 o (16, [(0, .ref 18)], [], ww w1, 0, 0))⟩
    exact TL_Read_advance_16 am_NF w1 H
  · have H := am_ie hc H
    show am_gv sc (D + 4) 41 o (7, [(0, .ref 18)], [], ww w, 0, 0)
    exact am_go_blk 1 (am_fv H)
theorem M_Read_advance {sc : Option (Nat × (Nat → Int32))} {D : Nat} {o : am_W} {w : am_W} (H : F_Read_advance w = some o) : am_run sc (D + 5) 41 [.ref 18] (ww w) none (ww o) 0 0 :=
  am_run_of rfl (T_Read_advance w H)
def F_Read_refuse (w : am_W) : Option (am_W) :=
  am_lt (wsf w 18 5 (nI 1)) fun w1 => am_lt (wsf w1 18 3 (nI 309)) fun w2 => some w2
theorem T_Read_refuse {sc : Option (Nat × (Nat → Int32))} {D : Nat} {o : am_W} (w : am_W) (H : F_Read_refuse w = some o) : am_gv sc D 35 o (0, [(0, .ref 18)], [], ww w, 0, 0) := by
  unfold F_Read_refuse at H
  obtain ⟨w1, ew1, H⟩ := am_ltE H
  refine am_go_blk 3 ⟨rfl, rfl, am_hp (ww_f18_5 ew1) (?_ : am_gv sc D 35 o (5, [(0, .ref 18)], [], ww w1, 0, 0))⟩
  obtain ⟨w2, ew2, H⟩ := am_ltE H
  refine am_go_blk 3 ⟨rfl, rfl, am_hp (ww_f18_3 ew2) (?_ : am_gv sc D 35 o (12, [(0, .ref 18)], [], ww w2, 0, 0))⟩
  exact am_go_blk 1 (am_fv H)
theorem M_Read_refuse {sc : Option (Nat × (Nat → Int32))} {D : Nat} {o : am_W} {w : am_W} (H : F_Read_refuse w = some o) : am_run sc (D + 1) 35 [.ref 18] (ww w) none (ww o) 0 0 :=
  am_run_of rfl (T_Read_refuse w H)
def F_Read_demand_19 (w : am_W) : Option (am_W) :=
  some w
def F_Read_demand (a1 : Int32) (w : am_W) : Option (am_W) :=
  if (w.1 18 3) = a1 then ((F_Read_advance w).bind fun w2 => F_Read_demand_19 w2) else ((F_Read_refuse w).bind fun w1 => F_Read_demand_19 w1)
theorem T_Read_demand_19 {sc : Option (Nat × (Nat → Int32))} {D : Nat} {o : am_W} (w : am_W) (H : F_Read_demand_19 w = some o) : am_gv sc (D + 5) 36 o (19, [], [], ww w, 0, 0) := by
  unfold F_Read_demand_19 at H
  exact am_go_blk 1 (am_fv H)
theorem T_Read_demand {sc : Option (Nat × (Nat → Int32))} {D : Nat} {o : am_W} (a1 : Int32) (w : am_W) (H : F_Read_demand a1 w = some o) : am_gv sc (D + 5) 36 o (0, [(0, .ref 18), (1, .int a1)], [], ww w, 0, 0) := by
  unfold F_Read_demand at H
  refine am_go_blk 4 ⟨fun hc => ?_, fun hc => ?_⟩
  · have H := am_ie hc H
    show am_gv sc (D + 5) 36 o (15, [(0, .ref 18)], [], ww w, 0, 0)
    obtain ⟨w1, hqw1, H⟩ := am_bnE H
    refine am_go_blk 1 (?_ : am_gv sc (D + 5) 36 o (16, [(0, .ref 18)], [.ref 18], ww w, 0, 0))
    refine am_invd rfl rfl rfl rfl (am_callv rfl (M_Read_refuse (D := D + 4) hqw1) (?_ : am_gv sc (D + 5) 36 o (19, [], [], ww w1, 0, 0)))
    exact T_Read_demand_19 w1 H
  · have H := am_it hc H
    show am_gv sc (D + 5) 36 o (8, [(0, .ref 18), (1, .int a1)], [], ww w, 0, 0)
    obtain ⟨w2, hqw2, H⟩ := am_bnE H
    refine am_go_blk 1 (?_ : am_gv sc (D + 5) 36 o (9, [(0, .ref 18), (1, .int a1)], [.ref 18], ww w, 0, 0))
    refine am_invd rfl rfl rfl rfl (am_callv rfl (M_Read_advance (D := D) hqw2) (?_ : am_gv sc (D + 5) 36 o (12, [(0, .ref 18), (1, .int a1)], [], ww w2, 0, 0)))
    exact am_go_blk 1 (T_Read_demand_19 w2 H)
theorem M_Read_demand {sc : Option (Nat × (Nat → Int32))} {D : Nat} {o : am_W} {a1 : Int32} {w : am_W} (H : F_Read_demand a1 w = some o) : am_run sc (D + 6) 36 [.ref 18, .int a1] (ww w) none (ww o) 0 0 :=
  am_run_of rfl (T_Read_demand a1 w H)
def F_Read_joiner_48 (s0 : Int32) (w : am_W) : Option (Int32 × am_W) :=
  some (s0, w)
def F_Read_joiner_65 (s0 : Int32) (w : am_W) : Option (Int32 × am_W) :=
  some (s0, w)
def F_Read_joiner_95 (s0 : Int32) (w : am_W) : Option (Int32 × am_W) :=
  some (s0, w)
def F_Read_joiner_125 (s0 : Int32) (w : am_W) : Option (Int32 × am_W) :=
  some (s0, w)
def F_Read_joiner_141 (s0 : Int32) (w : am_W) : Option (Int32 × am_W) :=
  some (s0, w)
def F_Read_joiner (a1 : Int32) (w : am_W) : Option (Int32 × am_W) :=
  if a1.toInt = 0 then (if (w.1 18 3) = (nI 303) then (F_Read_joiner_48 (-nI 15) w) else (F_Read_joiner_48 (nI 0) w)) else if a1.toInt = 1 then (if (w.1 18 3) = (nI 304) then (F_Read_joiner_65 (-nI 14) w) else (F_Read_joiner_65 (nI 0) w)) else if a1.toInt = 2 then (if (w.1 18 3) = (nI 60) then (F_Read_joiner_95 (-nI 12) w) else (if (w.1 18 3) = (nI 61) then (F_Read_joiner_95 (-nI 13) w) else (F_Read_joiner_95 (nI 0) w))) else if a1.toInt = 3 then (if (w.1 18 3) = (nI 43) then (F_Read_joiner_125 (-nI 10) w) else (if (w.1 18 3) = (nI 45) then (F_Read_joiner_125 (-nI 11) w) else (F_Read_joiner_125 (nI 0) w))) else (if (w.1 18 3) = (nI 42) then (F_Read_joiner_141 (-nI 9) w) else (F_Read_joiner_141 (nI 0) w))
theorem T_Read_joiner_48 {sc : Option (Nat × (Nat → Int32))} {D : Nat} {o : Int32 × am_W} (s0 : Int32) (w : am_W) (H : F_Read_joiner_48 s0 w = some o) : am_gi sc D 39 o (48, [], [.int s0], ww w, 0, 0) := by
  unfold F_Read_joiner_48 at H
  exact am_go_blk 1 ⟨rfl, am_fi H⟩
theorem T_Read_joiner_65 {sc : Option (Nat × (Nat → Int32))} {D : Nat} {o : Int32 × am_W} (s0 : Int32) (w : am_W) (H : F_Read_joiner_65 s0 w = some o) : am_gi sc D 39 o (65, [], [.int s0], ww w, 0, 0) := by
  unfold F_Read_joiner_65 at H
  exact am_go_blk 1 ⟨rfl, am_fi H⟩
theorem T_Read_joiner_95 {sc : Option (Nat × (Nat → Int32))} {D : Nat} {o : Int32 × am_W} (s0 : Int32) (w : am_W) (H : F_Read_joiner_95 s0 w = some o) : am_gi sc D 39 o (95, [], [.int s0], ww w, 0, 0) := by
  unfold F_Read_joiner_95 at H
  exact am_go_blk 1 ⟨rfl, am_fi H⟩
theorem T_Read_joiner_125 {sc : Option (Nat × (Nat → Int32))} {D : Nat} {o : Int32 × am_W} (s0 : Int32) (w : am_W) (H : F_Read_joiner_125 s0 w = some o) : am_gi sc D 39 o (125, [], [.int s0], ww w, 0, 0) := by
  unfold F_Read_joiner_125 at H
  exact am_go_blk 1 ⟨rfl, am_fi H⟩
theorem T_Read_joiner_141 {sc : Option (Nat × (Nat → Int32))} {D : Nat} {o : Int32 × am_W} (s0 : Int32) (w : am_W) (H : F_Read_joiner_141 s0 w = some o) : am_gi sc D 39 o (141, [], [.int s0], ww w, 0, 0) := by
  unfold F_Read_joiner_141 at H
  exact am_go_blk 1 ⟨rfl, am_fi H⟩
theorem T_Read_joiner {sc : Option (Nat × (Nat → Int32))} {D : Nat} {o : Int32 × am_W} (a1 : Int32) (w : am_W) (H : F_Read_joiner a1 w = some o) : am_gi sc D 39 o (0, [(0, .ref 18), (1, .int a1)], [], ww w, 0, 0) := by
  unfold F_Read_joiner at H
  refine am_go_blk 2 ⟨fun hc => ?_, fun hc => ?_⟩
  · have H := am_it hc H
    show am_gi sc D 39 o (32, [(0, .ref 18)], [], ww w, 0, 0)
    refine am_go_blk 4 ⟨fun hc => ?_, fun hc => ?_⟩
    · have H := am_ie hc H
      show am_gi sc D 39 o (47, [], [], ww w, 0, 0)
      exact am_go_blk 1 (T_Read_joiner_48 (nI 0) w H)
    · have H := am_it hc H
      show am_gi sc D 39 o (42, [(0, .ref 18)], [], ww w, 0, 0)
      exact am_go_blk 2 (T_Read_joiner_48 (-nI 15) w H)
  have H := am_ie hc H
  refine ⟨fun hc => ?_, fun hc => ?_⟩
  · have H := am_it hc H
    show am_gi sc D 39 o (49, [(0, .ref 18)], [], ww w, 0, 0)
    refine am_go_blk 4 ⟨fun hc => ?_, fun hc => ?_⟩
    · have H := am_ie hc H
      show am_gi sc D 39 o (64, [], [], ww w, 0, 0)
      exact am_go_blk 1 (T_Read_joiner_65 (nI 0) w H)
    · have H := am_it hc H
      show am_gi sc D 39 o (59, [(0, .ref 18)], [], ww w, 0, 0)
      exact am_go_blk 2 (T_Read_joiner_65 (-nI 14) w H)
  have H := am_ie hc H
  refine ⟨fun hc => ?_, fun hc => ?_⟩
  · have H := am_it hc H
    show am_gi sc D 39 o (66, [(0, .ref 18)], [], ww w, 0, 0)
    refine am_go_blk 4 ⟨fun hc => ?_, fun hc => ?_⟩
    · have H := am_ie hc H
      show am_gi sc D 39 o (80, [(0, .ref 18)], [], ww w, 0, 0)
      refine am_go_blk 4 ⟨fun hc => ?_, fun hc => ?_⟩
      · have H := am_ie hc H
        show am_gi sc D 39 o (94, [], [], ww w, 0, 0)
        exact am_go_blk 1 (T_Read_joiner_95 (nI 0) w H)
      · have H := am_it hc H
        show am_gi sc D 39 o (89, [(0, .ref 18)], [], ww w, 0, 0)
        exact am_go_blk 2 (T_Read_joiner_95 (-nI 13) w H)
    · have H := am_it hc H
      show am_gi sc D 39 o (75, [(0, .ref 18)], [], ww w, 0, 0)
      exact am_go_blk 2 (T_Read_joiner_95 (-nI 12) w H)
  have H := am_ie hc H
  refine ⟨fun hc => ?_, fun hc => ?_⟩
  · have H := am_it hc H
    show am_gi sc D 39 o (96, [(0, .ref 18)], [], ww w, 0, 0)
    refine am_go_blk 4 ⟨fun hc => ?_, fun hc => ?_⟩
    · have H := am_ie hc H
      show am_gi sc D 39 o (110, [(0, .ref 18)], [], ww w, 0, 0)
      refine am_go_blk 4 ⟨fun hc => ?_, fun hc => ?_⟩
      · have H := am_ie hc H
        show am_gi sc D 39 o (124, [], [], ww w, 0, 0)
        exact am_go_blk 1 (T_Read_joiner_125 (nI 0) w H)
      · have H := am_it hc H
        show am_gi sc D 39 o (119, [(0, .ref 18)], [], ww w, 0, 0)
        exact am_go_blk 2 (T_Read_joiner_125 (-nI 11) w H)
    · have H := am_it hc H
      show am_gi sc D 39 o (105, [(0, .ref 18)], [], ww w, 0, 0)
      exact am_go_blk 2 (T_Read_joiner_125 (-nI 10) w H)
  have H := am_ie hc H
  show am_gi sc D 39 o (126, [(0, .ref 18)], [], ww w, 0, 0)
  refine am_go_blk 4 ⟨fun hc => ?_, fun hc => ?_⟩
  · have H := am_ie hc H
    show am_gi sc D 39 o (140, [], [], ww w, 0, 0)
    exact am_go_blk 1 (T_Read_joiner_141 (nI 0) w H)
  · have H := am_it hc H
    show am_gi sc D 39 o (135, [(0, .ref 18)], [], ww w, 0, 0)
    exact am_go_blk 2 (T_Read_joiner_141 (-nI 9) w H)
theorem M_Read_joiner {sc : Option (Nat × (Nat → Int32))} {D : Nat} {o : Int32 × am_W} {a1 : Int32} {w : am_W} (H : F_Read_joiner a1 w = some o) : am_run sc (D + 1) 39 [.ref 18, .int a1] (ww w) (some (.int o.1)) (ww o.2) 0 0 :=
  am_run_of rfl (T_Read_joiner a1 w H)
def F_Read_write_39 (w : am_W) : Option (am_W) :=
  some w
def F_Read_write (a1 : Int32) (w : am_W) : Option (am_W) :=
  am_zc w.2 (F_Read_write_39 w) (fun t1 => if (nI 160) ≤ (w.1 18 6) then (F_Read_write_39 w) else (am_ck (am_in (w.1 18 6) 160) (am_lt (wst w (20 + 1 + t1) (w.1 18 6) a1) fun w2 => am_lt (wsf w2 18 6 ((w2.1 18 6) + (nI 1))) fun w3 => F_Read_write_39 w3)))
theorem T_Read_write_39 {sc : Option (Nat × (Nat → Int32))} {D : Nat} {o : am_W} (w : am_W) (H : F_Read_write_39 w = some o) : am_gv sc D 37 o (39, [], [], ww w, 0, 0) := by
  unfold F_Read_write_39 at H
  exact am_go_blk 1 (am_fv H)
theorem T_Read_write {sc : Option (Nat × (Nat → Int32))} {D : Nat} {o : am_W} (a1 : Int32) (w : am_W) (H : F_Read_write a1 w = some o) : am_gv sc D 37 o (0, [(0, .ref 18), (1, .int a1)], [], ww w, 0, 0) := by
  unfold F_Read_write at H
  refine am_go_blk 2 (?_ : am_gv sc D 37 o (4, [(0, .ref 18), (1, .int a1)], [zv w.2], ww w, 0, 0))
  rcases am_zcE H with ⟨hz, H⟩ | ⟨t1, hz, hq, H⟩
  · refine am_ifnull0 rfl hz ?_
    exact T_Read_write_39 w H
  · refine am_ifnull1 rfl hz ?_
    show am_gv sc D 37 o (7, [(0, .ref 18), (1, .int a1)], [], ww w, 0, 0)
    refine am_go_blk 4 (?_ : am_gv sc D 37 o (15, [(0, .ref 18), (1, .int a1)], [zv w.2, .int (w.1 18 6)], ww w, 0, 0))
    refine am_tv (am_zv1 hz hq) (?_ : am_gv sc D 37 o (15, [(0, .ref 18), (1, .int a1)], [.ref (20 + 1 + t1), .int (w.1 18 6)], ww w, 0, 0))
    refine am_ald rfl (ww_steps hq) (?_ : am_gv sc D 37 o (16, [(0, .ref 18), (1, .int a1)], [.int (nI 160), .int (w.1 18 6)], ww w, 0, 0))
    refine am_go_blk 1 ⟨fun hc => ?_, fun hc => ?_⟩
    · have H := am_it hc H
      exact T_Read_write_39 w H
    · have H := am_ie hc H
      show am_gv sc D 37 o (19, [(0, .ref 18), (1, .int a1)], [], ww w, 0, 0)
      refine am_go_blk 2 (?_ : am_gv sc D 37 o (23, [(0, .ref 18), (1, .int a1)], [zv w.2], ww w, 0, 0))
      refine am_tv (am_zv1 hz hq) (?_ : am_gv sc D 37 o (23, [(0, .ref 18), (1, .int a1)], [.ref (20 + 1 + t1)], ww w, 0, 0))
      refine am_go_blk 3 (?_ : am_gv sc D 37 o (28, [(0, .ref 18), (1, .int a1)], [.int a1, .int (w.1 18 6), .ref (20 + 1 + t1)], ww w, 0, 0))
      obtain ⟨hc, H⟩ := am_ckE H
      obtain ⟨w2, ew2, H⟩ := am_ltE H
      refine am_iasd rfl (ww_steps hq) (am_inv hc) (ww_steps_s hq ew2) (?_ : am_gv sc D 37 o (29, [(0, .ref 18), (1, .int a1)], [], ww w2, 0, 0))
      obtain ⟨w3, ew3, H⟩ := am_ltE H
      refine am_go_blk 6 ⟨rfl, rfl, am_hp (ww_f18_6 ew3) (?_ : am_gv sc D 37 o (39, [], [], ww w3, 0, 0))⟩
      exact T_Read_write_39 w3 H
theorem M_Read_write {sc : Option (Nat × (Nat → Int32))} {D : Nat} {o : am_W} {a1 : Int32} {w : am_W} (H : F_Read_write a1 w = some o) : am_run sc (D + 1) 37 [.ref 18, .int a1] (ww w) none (ww o) 0 0 :=
  am_run_of rfl (T_Read_write a1 w H)
def F_Read_expression_127 (c_e : Int32 → Int32 → am_W → Option am_W) (c_o : Int32 → am_W → Option am_W) (w : am_W) : Option (am_W) :=
  some w
def F_Read_expression_85 (c_e : Int32 → Int32 → am_W → Option am_W) (c_o : Int32 → am_W → Option am_W) (r85 : Int32 → Int32 → Int32 → Int32 → Int32 → am_W → Option (am_W)) (a1 : Int32) (a2 : Int32) (a3 : Int32) (a4 : Int32) (a5 : Int32) (w : am_W) : Option (am_W) :=
  if a3 ≤ a5 then (F_Read_expression_127 c_e c_o w) else (if a4 = 0 then (F_Read_expression_127 c_e c_o w) else ((F_Read_advance w).bind fun w3 => (c_e (a1 + (nI 1)) a2 w3).bind fun w4 => (F_Read_write a4 w4).bind fun w5 => (F_Read_joiner a1 w5).bind fun q6 => r85 a1 a2 a3 q6.1 (a5 + (nI 1)) q6.2))
def L_Read_expression_85 (c_e : Int32 → Int32 → am_W → Option am_W) (c_o : Int32 → am_W → Option am_W) : Nat → Int32 → Int32 → Int32 → Int32 → Int32 → am_W → Option (am_W)
  | 0, _, _, _, _, _, _ => none
  | n + 1, a1, a2, a3, a4, a5, w => F_Read_expression_85 c_e c_o (L_Read_expression_85 c_e c_o n) a1 a2 a3 a4 a5 w
def F_Read_expression_74 (c_e : Int32 → Int32 → am_W → Option am_W) (c_o : Int32 → am_W → Option am_W) (a1 : Int32) (a2 : Int32) (s0 : Int32) (w : am_W) : Option (am_W) :=
  (F_Read_joiner a1 w).bind fun q2 => L_Read_expression_85 c_e c_o am_NF a1 a2 s0 q2.1 (nI 0) q2.2
def F_Read_expression_54 (c_e : Int32 → Int32 → am_W → Option am_W) (c_o : Int32 → am_W → Option am_W) (a1 : Int32) (a2 : Int32) (w : am_W) : Option (am_W) :=
  (c_e (a1 + (nI 1)) a2 w).bind fun w1 => if a1 = (nI 2) then (F_Read_expression_74 c_e c_o a1 a2 (nI 1) w1) else (F_Read_expression_74 c_e c_o a1 a2 (nI 160) w1)
def F_Read_expression (c_e : Int32 → Int32 → am_W → Option am_W) (c_o : Int32 → am_W → Option am_W) (a1 : Int32) (a2 : Int32) (w : am_W) : Option (am_W) :=
  if a1 < (nI 5) then (if a1 = (nI 2) then (if (w.1 18 3) = (nI 305) then (if (nI 5) ≤ a2 then (F_Read_expression_54 c_e c_o a1 a2 w) else ((F_Read_advance w).bind fun w7 => (c_e (nI 2) (a2 + (nI 1)) w7).bind fun w8 => (F_Read_write (-nI 8) w8).bind fun w9 => F_Read_expression_127 c_e c_o w9)) else (F_Read_expression_54 c_e c_o a1 a2 w)) else (F_Read_expression_54 c_e c_o a1 a2 w)) else ((c_o a2 w).bind fun w10 => F_Read_expression_127 c_e c_o w10)
theorem T_Read_expression_127 {sc : Option (Nat × (Nat → Int32))} {D : Nat} {o : am_W} {c_e : Int32 → Int32 → am_W → Option am_W} {c_o : Int32 → am_W → Option am_W} (Hc_e : ∀ (x y : Int32) (w o : am_W), c_e x y w = some o → am_run sc (D + 5) 38 [.ref 18, .int x, .int y] (ww w) none (ww o) 0 0) (Hc_o : ∀ (x : Int32) (w o : am_W), c_o x w = some o → am_run sc (D + 5) 40 [.ref 18, .int x] (ww w) none (ww o) 0 0) (w : am_W) (H : F_Read_expression_127 c_e c_o w = some o) : am_gv sc (D + 5) 38 o (127, [], [], ww w, 0, 0) := by
  unfold F_Read_expression_127 at H
  exact am_go_blk 1 (am_fv H)
theorem T_Read_expression_85 {sc : Option (Nat × (Nat → Int32))} {D : Nat} {o : am_W} {c_e : Int32 → Int32 → am_W → Option am_W} {c_o : Int32 → am_W → Option am_W} {r85 : Int32 → Int32 → Int32 → Int32 → Int32 → am_W → Option (am_W)} (Hc_e : ∀ (x y : Int32) (w o : am_W), c_e x y w = some o → am_run sc (D + 5) 38 [.ref 18, .int x, .int y] (ww w) none (ww o) 0 0) (Hc_o : ∀ (x : Int32) (w o : am_W), c_o x w = some o → am_run sc (D + 5) 40 [.ref 18, .int x] (ww w) none (ww o) 0 0) (Hr85 : ∀ (a1 : Int32) (a2 : Int32) (a3 : Int32) (a4 : Int32) (a5 : Int32) (w : am_W) , r85 a1 a2 a3 a4 a5 w = some o → am_gv sc (D + 5) 38 o (85, [(0, .ref 18), (1, .int a1), (2, .int a2), (3, .int a3), (4, .int a4), (5, .int a5)], [], ww w, 0, 0)) (a1 : Int32) (a2 : Int32) (a3 : Int32) (a4 : Int32) (a5 : Int32) (w : am_W) (H : F_Read_expression_85 c_e c_o r85 a1 a2 a3 a4 a5 w = some o) : am_gv sc (D + 5) 38 o (85, [(0, .ref 18), (1, .int a1), (2, .int a2), (3, .int a3), (4, .int a4), (5, .int a5)], [], ww w, 0, 0) := by
  unfold F_Read_expression_85 at H
  refine am_go_blk 3 ⟨fun hc => ?_, fun hc => ?_⟩
  · have H := am_it hc H
    exact T_Read_expression_127 Hc_e Hc_o w H
  · have H := am_ie hc H
    show am_gv sc (D + 5) 38 o (91, [(0, .ref 18), (1, .int a1), (2, .int a2), (3, .int a3), (4, .int a4), (5, .int a5)], [], ww w, 0, 0)
    refine am_go_blk 2 ⟨fun hc => ?_, fun hc => ?_⟩
    · have H := am_it hc H
      exact T_Read_expression_127 Hc_e Hc_o w H
    · have H := am_ie hc H
      show am_gv sc (D + 5) 38 o (96, [(0, .ref 18), (1, .int a1), (2, .int a2), (3, .int a3), (4, .int a4), (5, .int a5)], [], ww w, 0, 0)
      obtain ⟨w3, hqw3, H⟩ := am_bnE H
      refine am_go_blk 1 (?_ : am_gv sc (D + 5) 38 o (97, [(0, .ref 18), (1, .int a1), (2, .int a2), (3, .int a3), (4, .int a4), (5, .int a5)], [.ref 18], ww w, 0, 0))
      refine am_invd rfl rfl rfl rfl (am_callv rfl (M_Read_advance (D := D) hqw3) (?_ : am_gv sc (D + 5) 38 o (100, [(0, .ref 18), (1, .int a1), (2, .int a2), (3, .int a3), (4, .int a4), (5, .int a5)], [], ww w3, 0, 0)))
      obtain ⟨w4, hqw4, H⟩ := am_bnE H
      refine am_go_blk 5 (?_ : am_gv sc (D + 5) 38 o (105, [(0, .ref 18), (1, .int a1), (2, .int a2), (3, .int a3), (4, .int a4), (5, .int a5)], [.int a2, .int (a1 + (nI 1)), .ref 18], ww w3, 0, 0))
      refine am_invd rfl rfl rfl rfl (am_callv rfl (Hc_e _ _ _ _ hqw4) (?_ : am_gv sc (D + 5) 38 o (108, [(0, .ref 18), (1, .int a1), (2, .int a2), (3, .int a3), (4, .int a4), (5, .int a5)], [], ww w4, 0, 0)))
      obtain ⟨w5, hqw5, H⟩ := am_bnE H
      refine am_go_blk 2 (?_ : am_gv sc (D + 5) 38 o (111, [(0, .ref 18), (1, .int a1), (2, .int a2), (3, .int a3), (4, .int a4), (5, .int a5)], [.int a4, .ref 18], ww w4, 0, 0))
      refine am_invd rfl rfl rfl rfl (am_callv rfl (M_Read_write (D := D + 4) hqw5) (?_ : am_gv sc (D + 5) 38 o (114, [(0, .ref 18), (1, .int a1), (2, .int a2), (3, .int a3), (4, .int a4), (5, .int a5)], [], ww w5, 0, 0)))
      obtain ⟨q6, hqq6, H⟩ := am_bnE H
      refine am_go_blk 2 (?_ : am_gv sc (D + 5) 38 o (116, [(0, .ref 18), (1, .int a1), (2, .int a2), (3, .int a3), (4, .int a4), (5, .int a5)], [.int a1, .ref 18], ww w5, 0, 0))
      refine am_invd rfl rfl rfl rfl (am_calli rfl (M_Read_joiner (D := D + 4) hqq6) (?_ : am_gv sc (D + 5) 38 o (119, [(0, .ref 18), (1, .int a1), (2, .int a2), (3, .int a3), (4, .int a4), (5, .int a5)], [.int q6.1], ww q6.2, 0, 0)))
      exact am_go_blk 3 (Hr85 a1 a2 a3 q6.1 (a5 + (nI 1)) q6.2 H)
theorem TL_Read_expression_85 {sc : Option (Nat × (Nat → Int32))} {D : Nat} {o : am_W} {c_e : Int32 → Int32 → am_W → Option am_W} {c_o : Int32 → am_W → Option am_W} (Hc_e : ∀ (x y : Int32) (w o : am_W), c_e x y w = some o → am_run sc (D + 5) 38 [.ref 18, .int x, .int y] (ww w) none (ww o) 0 0) (Hc_o : ∀ (x : Int32) (w o : am_W), c_o x w = some o → am_run sc (D + 5) 40 [.ref 18, .int x] (ww w) none (ww o) 0 0) : ∀ (n : Nat) (a1 : Int32) (a2 : Int32) (a3 : Int32) (a4 : Int32) (a5 : Int32) (w : am_W) , L_Read_expression_85 c_e c_o n a1 a2 a3 a4 a5 w = some o → am_gv sc (D + 5) 38 o (85, [(0, .ref 18), (1, .int a1), (2, .int a2), (3, .int a3), (4, .int a4), (5, .int a5)], [], ww w, 0, 0)
  | 0, _, _, _, _, _, _, H => by cases H
  | n + 1, a1, a2, a3, a4, a5, w, H => T_Read_expression_85 Hc_e Hc_o (TL_Read_expression_85 Hc_e Hc_o n) a1 a2 a3 a4 a5 w H
theorem T_Read_expression_74 {sc : Option (Nat × (Nat → Int32))} {D : Nat} {o : am_W} {c_e : Int32 → Int32 → am_W → Option am_W} {c_o : Int32 → am_W → Option am_W} (Hc_e : ∀ (x y : Int32) (w o : am_W), c_e x y w = some o → am_run sc (D + 5) 38 [.ref 18, .int x, .int y] (ww w) none (ww o) 0 0) (Hc_o : ∀ (x : Int32) (w o : am_W), c_o x w = some o → am_run sc (D + 5) 40 [.ref 18, .int x] (ww w) none (ww o) 0 0) (a1 : Int32) (a2 : Int32) (s0 : Int32) (w : am_W) (H : F_Read_expression_74 c_e c_o a1 a2 s0 w = some o) : am_gv sc (D + 5) 38 o (74, [(0, .ref 18), (1, .int a1), (2, .int a2)], [.int s0], ww w, 0, 0) := by
  unfold F_Read_expression_74 at H
  obtain ⟨q2, hqq2, H⟩ := am_bnE H
  refine am_go_blk 3 (?_ : am_gv sc (D + 5) 38 o (77, [(3, .int s0), (0, .ref 18), (1, .int a1), (2, .int a2)], [.int a1, .ref 18], ww w, 0, 0))
  refine am_invd rfl rfl rfl rfl (am_calli rfl (M_Read_joiner (D := D + 4) hqq2) (?_ : am_gv sc (D + 5) 38 o (80, [(3, .int s0), (0, .ref 18), (1, .int a1), (2, .int a2)], [.int q2.1], ww q2.2, 0, 0)))
  exact am_go_blk 3 (TL_Read_expression_85 Hc_e Hc_o am_NF a1 a2 s0 q2.1 (nI 0) q2.2 H)
theorem T_Read_expression_54 {sc : Option (Nat × (Nat → Int32))} {D : Nat} {o : am_W} {c_e : Int32 → Int32 → am_W → Option am_W} {c_o : Int32 → am_W → Option am_W} (Hc_e : ∀ (x y : Int32) (w o : am_W), c_e x y w = some o → am_run sc (D + 5) 38 [.ref 18, .int x, .int y] (ww w) none (ww o) 0 0) (Hc_o : ∀ (x : Int32) (w o : am_W), c_o x w = some o → am_run sc (D + 5) 40 [.ref 18, .int x] (ww w) none (ww o) 0 0) (a1 : Int32) (a2 : Int32) (w : am_W) (H : F_Read_expression_54 c_e c_o a1 a2 w = some o) : am_gv sc (D + 5) 38 o (54, [(0, .ref 18), (1, .int a1), (2, .int a2)], [], ww w, 0, 0) := by
  unfold F_Read_expression_54 at H
  obtain ⟨w1, hqw1, H⟩ := am_bnE H
  refine am_go_blk 5 (?_ : am_gv sc (D + 5) 38 o (59, [(0, .ref 18), (1, .int a1), (2, .int a2)], [.int a2, .int (a1 + (nI 1)), .ref 18], ww w, 0, 0))
  refine am_invd rfl rfl rfl rfl (am_callv rfl (Hc_e _ _ _ _ hqw1) (?_ : am_gv sc (D + 5) 38 o (62, [(0, .ref 18), (1, .int a1), (2, .int a2)], [], ww w1, 0, 0)))
  refine am_go_blk 3 ⟨fun hc => ?_, fun hc => ?_⟩
  · have H := am_ie hc H
    show am_gv sc (D + 5) 38 o (71, [(0, .ref 18), (1, .int a1), (2, .int a2)], [], ww w1, 0, 0)
    exact am_go_blk 1 (T_Read_expression_74 Hc_e Hc_o a1 a2 (nI 160) w1 H)
  · have H := am_it hc H
    show am_gv sc (D + 5) 38 o (67, [(0, .ref 18), (1, .int a1), (2, .int a2)], [], ww w1, 0, 0)
    exact am_go_blk 2 (T_Read_expression_74 Hc_e Hc_o a1 a2 (nI 1) w1 H)
theorem T_Read_expression {sc : Option (Nat × (Nat → Int32))} {D : Nat} {o : am_W} {c_e : Int32 → Int32 → am_W → Option am_W} {c_o : Int32 → am_W → Option am_W} (Hc_e : ∀ (x y : Int32) (w o : am_W), c_e x y w = some o → am_run sc (D + 5) 38 [.ref 18, .int x, .int y] (ww w) none (ww o) 0 0) (Hc_o : ∀ (x : Int32) (w o : am_W), c_o x w = some o → am_run sc (D + 5) 40 [.ref 18, .int x] (ww w) none (ww o) 0 0) (a1 : Int32) (a2 : Int32) (w : am_W) (H : F_Read_expression c_e c_o a1 a2 w = some o) : am_gv sc (D + 5) 38 o (0, [(0, .ref 18), (1, .int a1), (2, .int a2)], [], ww w, 0, 0) := by
  unfold F_Read_expression at H
  refine am_go_blk 3 ⟨fun hc => ?_, fun hc => ?_⟩
  · have H := am_it hc H
    show am_gv sc (D + 5) 38 o (13, [(0, .ref 18), (1, .int a1), (2, .int a2)], [], ww w, 0, 0)
    refine am_go_blk 3 ⟨fun hc => ?_, fun hc => ?_⟩
    · have H := am_ie hc H
      exact T_Read_expression_54 Hc_e Hc_o a1 a2 w H
    · have H := am_it hc H
      show am_gv sc (D + 5) 38 o (18, [(0, .ref 18), (1, .int a1), (2, .int a2)], [], ww w, 0, 0)
      refine am_go_blk 4 ⟨fun hc => ?_, fun hc => ?_⟩
      · have H := am_ie hc H
        exact T_Read_expression_54 Hc_e Hc_o a1 a2 w H
      · have H := am_it hc H
        show am_gv sc (D + 5) 38 o (28, [(0, .ref 18), (1, .int a1), (2, .int a2)], [], ww w, 0, 0)
        refine am_go_blk 3 ⟨fun hc => ?_, fun hc => ?_⟩
        · have H := am_it hc H
          exact T_Read_expression_54 Hc_e Hc_o a1 a2 w H
        · have H := am_ie hc H
          show am_gv sc (D + 5) 38 o (33, [(0, .ref 18), (1, .int a1), (2, .int a2)], [], ww w, 0, 0)
          obtain ⟨w7, hqw7, H⟩ := am_bnE H
          refine am_go_blk 1 (?_ : am_gv sc (D + 5) 38 o (34, [(0, .ref 18), (1, .int a1), (2, .int a2)], [.ref 18], ww w, 0, 0))
          refine am_invd rfl rfl rfl rfl (am_callv rfl (M_Read_advance (D := D) hqw7) (?_ : am_gv sc (D + 5) 38 o (37, [(0, .ref 18), (1, .int a1), (2, .int a2)], [], ww w7, 0, 0)))
          obtain ⟨w8, hqw8, H⟩ := am_bnE H
          refine am_go_blk 5 (?_ : am_gv sc (D + 5) 38 o (42, [(0, .ref 18), (1, .int a1), (2, .int a2)], [.int (a2 + (nI 1)), .int (nI 2), .ref 18], ww w7, 0, 0))
          refine am_invd rfl rfl rfl rfl (am_callv rfl (Hc_e _ _ _ _ hqw8) (?_ : am_gv sc (D + 5) 38 o (45, [(0, .ref 18), (1, .int a1), (2, .int a2)], [], ww w8, 0, 0)))
          obtain ⟨w9, hqw9, H⟩ := am_bnE H
          refine am_go_blk 2 (?_ : am_gv sc (D + 5) 38 o (48, [(0, .ref 18), (1, .int a1), (2, .int a2)], [.int (-nI 8), .ref 18], ww w8, 0, 0))
          refine am_invd rfl rfl rfl rfl (am_callv rfl (M_Read_write (D := D + 4) hqw9) (?_ : am_gv sc (D + 5) 38 o (51, [(0, .ref 18), (1, .int a1), (2, .int a2)], [], ww w9, 0, 0)))
          exact am_go_blk 1 (T_Read_expression_127 Hc_e Hc_o w9 H)
  · have H := am_ie hc H
    show am_gv sc (D + 5) 38 o (5, [(0, .ref 18), (1, .int a1), (2, .int a2)], [], ww w, 0, 0)
    obtain ⟨w10, hqw10, H⟩ := am_bnE H
    refine am_go_blk 2 (?_ : am_gv sc (D + 5) 38 o (7, [(0, .ref 18), (1, .int a1), (2, .int a2)], [.int a2, .ref 18], ww w, 0, 0))
    refine am_invd rfl rfl rfl rfl (am_callv rfl (Hc_o _ _ _ hqw10) (?_ : am_gv sc (D + 5) 38 o (10, [(0, .ref 18), (1, .int a1), (2, .int a2)], [], ww w10, 0, 0)))
    exact am_go_blk 1 (T_Read_expression_127 Hc_e Hc_o w10 H)
def F_Read_one_141 (c_e : Int32 → Int32 → am_W → Option am_W) (c_o : Int32 → am_W → Option am_W) (w : am_W) : Option (am_W) :=
  some w
def F_Read_one_44 (c_e : Int32 → Int32 → am_W → Option am_W) (c_o : Int32 → am_W → Option am_W) (s0 : Int32) (w : am_W) : Option (am_W) :=
  (F_Read_write s0 w).bind fun w1 => (F_Read_advance w1).bind fun w2 => F_Read_one_141 c_e c_o w2
def F_Read_one_20 (c_e : Int32 → Int32 → am_W → Option am_W) (c_o : Int32 → am_W → Option am_W) (w : am_W) : Option (am_W) :=
  if (w.1 18 3) = (nI 307) then (F_Read_one_44 c_e c_o (w.1 18 4) w) else (F_Read_one_44 c_e c_o ((-nI 1) - (w.1 18 4)) w)
def F_Read_one_137 (c_e : Int32 → Int32 → am_W → Option am_W) (c_o : Int32 → am_W → Option am_W) (w : am_W) : Option (am_W) :=
  (F_Read_refuse w).bind fun w3 => F_Read_one_141 c_e c_o w3
def F_Read_one_88 (c_e : Int32 → Int32 → am_W → Option am_W) (c_o : Int32 → am_W → Option am_W) (a1 : Int32) (w : am_W) : Option (am_W) :=
  if (w.1 18 3) = (nI 40) then (if (nI 5) ≤ a1 then (F_Read_one_137 c_e c_o w) else ((F_Read_advance w).bind fun w4 => (c_e (nI 0) (a1 + (nI 1)) w4).bind fun w5 => if (w5.1 18 3) = (nI 41) then ((F_Read_advance w5).bind fun w7 => F_Read_one_141 c_e c_o w7) else ((F_Read_refuse w5).bind fun w6 => F_Read_one_141 c_e c_o w6))) else (F_Read_one_137 c_e c_o w)
def F_Read_one (c_e : Int32 → Int32 → am_W → Option am_W) (c_o : Int32 → am_W → Option am_W) (a1 : Int32) (w : am_W) : Option (am_W) :=
  if (w.1 18 3) = (nI 307) then (F_Read_one_20 c_e c_o w) else (if (w.1 18 3) = (nI 306) then (F_Read_one_20 c_e c_o w) else (if (w.1 18 3) = (nI 45) then (if (nI 5) ≤ a1 then (F_Read_one_88 c_e c_o a1 w) else ((F_Read_advance w).bind fun w8 => (c_o (a1 + (nI 1)) w8).bind fun w9 => (F_Read_write (-nI 7) w9).bind fun w10 => F_Read_one_141 c_e c_o w10)) else (F_Read_one_88 c_e c_o a1 w)))
theorem T_Read_one_141 {sc : Option (Nat × (Nat → Int32))} {D : Nat} {o : am_W} {c_e : Int32 → Int32 → am_W → Option am_W} {c_o : Int32 → am_W → Option am_W} (Hc_e : ∀ (x y : Int32) (w o : am_W), c_e x y w = some o → am_run sc (D + 5) 38 [.ref 18, .int x, .int y] (ww w) none (ww o) 0 0) (Hc_o : ∀ (x : Int32) (w o : am_W), c_o x w = some o → am_run sc (D + 5) 40 [.ref 18, .int x] (ww w) none (ww o) 0 0) (w : am_W) (H : F_Read_one_141 c_e c_o w = some o) : am_gv sc (D + 5) 40 o (141, [], [], ww w, 0, 0) := by
  unfold F_Read_one_141 at H
  exact am_go_blk 1 (am_fv H)
theorem T_Read_one_44 {sc : Option (Nat × (Nat → Int32))} {D : Nat} {o : am_W} {c_e : Int32 → Int32 → am_W → Option am_W} {c_o : Int32 → am_W → Option am_W} (Hc_e : ∀ (x y : Int32) (w o : am_W), c_e x y w = some o → am_run sc (D + 5) 38 [.ref 18, .int x, .int y] (ww w) none (ww o) 0 0) (Hc_o : ∀ (x : Int32) (w o : am_W), c_o x w = some o → am_run sc (D + 5) 40 [.ref 18, .int x] (ww w) none (ww o) 0 0) (s0 : Int32) (w : am_W) (H : F_Read_one_44 c_e c_o s0 w = some o) : am_gv sc (D + 5) 40 o (44, [(0, .ref 18)], [.int s0, .ref 18], ww w, 0, 0) := by
  unfold F_Read_one_44 at H
  obtain ⟨w1, hqw1, H⟩ := am_bnE H
  refine am_invd rfl rfl rfl rfl (am_callv rfl (M_Read_write (D := D + 4) hqw1) (?_ : am_gv sc (D + 5) 40 o (47, [(0, .ref 18)], [], ww w1, 0, 0)))
  obtain ⟨w2, hqw2, H⟩ := am_bnE H
  refine am_go_blk 1 (?_ : am_gv sc (D + 5) 40 o (48, [(0, .ref 18)], [.ref 18], ww w1, 0, 0))
  refine am_invd rfl rfl rfl rfl (am_callv rfl (M_Read_advance (D := D) hqw2) (?_ : am_gv sc (D + 5) 40 o (51, [(0, .ref 18)], [], ww w2, 0, 0)))
  exact am_go_blk 1 (T_Read_one_141 Hc_e Hc_o w2 H)
theorem T_Read_one_20 {sc : Option (Nat × (Nat → Int32))} {D : Nat} {o : am_W} {c_e : Int32 → Int32 → am_W → Option am_W} {c_o : Int32 → am_W → Option am_W} (Hc_e : ∀ (x y : Int32) (w o : am_W), c_e x y w = some o → am_run sc (D + 5) 38 [.ref 18, .int x, .int y] (ww w) none (ww o) 0 0) (Hc_o : ∀ (x : Int32) (w o : am_W), c_o x w = some o → am_run sc (D + 5) 40 [.ref 18, .int x] (ww w) none (ww o) 0 0) (w : am_W) (H : F_Read_one_20 c_e c_o w = some o) : am_gv sc (D + 5) 40 o (20, [(0, .ref 18)], [], ww w, 0, 0) := by
  unfold F_Read_one_20 at H
  refine am_go_blk 5 ⟨fun hc => ?_, fun hc => ?_⟩
  · have H := am_ie hc H
    show am_gv sc (D + 5) 40 o (38, [(0, .ref 18)], [.ref 18], ww w, 0, 0)
    exact am_go_blk 4 (T_Read_one_44 Hc_e Hc_o ((-nI 1) - (w.1 18 4)) w H)
  · have H := am_it hc H
    show am_gv sc (D + 5) 40 o (31, [(0, .ref 18)], [.ref 18], ww w, 0, 0)
    exact am_go_blk 3 (T_Read_one_44 Hc_e Hc_o (w.1 18 4) w H)
theorem T_Read_one_137 {sc : Option (Nat × (Nat → Int32))} {D : Nat} {o : am_W} {c_e : Int32 → Int32 → am_W → Option am_W} {c_o : Int32 → am_W → Option am_W} (Hc_e : ∀ (x y : Int32) (w o : am_W), c_e x y w = some o → am_run sc (D + 5) 38 [.ref 18, .int x, .int y] (ww w) none (ww o) 0 0) (Hc_o : ∀ (x : Int32) (w o : am_W), c_o x w = some o → am_run sc (D + 5) 40 [.ref 18, .int x] (ww w) none (ww o) 0 0) (w : am_W) (H : F_Read_one_137 c_e c_o w = some o) : am_gv sc (D + 5) 40 o (137, [(0, .ref 18)], [], ww w, 0, 0) := by
  unfold F_Read_one_137 at H
  obtain ⟨w3, hqw3, H⟩ := am_bnE H
  refine am_go_blk 1 (?_ : am_gv sc (D + 5) 40 o (138, [(0, .ref 18)], [.ref 18], ww w, 0, 0))
  refine am_invd rfl rfl rfl rfl (am_callv rfl (M_Read_refuse (D := D + 4) hqw3) (?_ : am_gv sc (D + 5) 40 o (141, [], [], ww w3, 0, 0)))
  exact T_Read_one_141 Hc_e Hc_o w3 H
theorem T_Read_one_88 {sc : Option (Nat × (Nat → Int32))} {D : Nat} {o : am_W} {c_e : Int32 → Int32 → am_W → Option am_W} {c_o : Int32 → am_W → Option am_W} (Hc_e : ∀ (x y : Int32) (w o : am_W), c_e x y w = some o → am_run sc (D + 5) 38 [.ref 18, .int x, .int y] (ww w) none (ww o) 0 0) (Hc_o : ∀ (x : Int32) (w o : am_W), c_o x w = some o → am_run sc (D + 5) 40 [.ref 18, .int x] (ww w) none (ww o) 0 0) (a1 : Int32) (w : am_W) (H : F_Read_one_88 c_e c_o a1 w = some o) : am_gv sc (D + 5) 40 o (88, [(0, .ref 18), (1, .int a1)], [], ww w, 0, 0) := by
  unfold F_Read_one_88 at H
  refine am_go_blk 4 ⟨fun hc => ?_, fun hc => ?_⟩
  · have H := am_ie hc H
    exact T_Read_one_137 Hc_e Hc_o w H
  · have H := am_it hc H
    show am_gv sc (D + 5) 40 o (97, [(0, .ref 18), (1, .int a1)], [], ww w, 0, 0)
    refine am_go_blk 3 ⟨fun hc => ?_, fun hc => ?_⟩
    · have H := am_it hc H
      exact T_Read_one_137 Hc_e Hc_o w H
    · have H := am_ie hc H
      show am_gv sc (D + 5) 40 o (102, [(0, .ref 18), (1, .int a1)], [], ww w, 0, 0)
      obtain ⟨w4, hqw4, H⟩ := am_bnE H
      refine am_go_blk 1 (?_ : am_gv sc (D + 5) 40 o (103, [(0, .ref 18), (1, .int a1)], [.ref 18], ww w, 0, 0))
      refine am_invd rfl rfl rfl rfl (am_callv rfl (M_Read_advance (D := D) hqw4) (?_ : am_gv sc (D + 5) 40 o (106, [(0, .ref 18), (1, .int a1)], [], ww w4, 0, 0)))
      obtain ⟨w5, hqw5, H⟩ := am_bnE H
      refine am_go_blk 5 (?_ : am_gv sc (D + 5) 40 o (111, [(0, .ref 18), (1, .int a1)], [.int (a1 + (nI 1)), .int (nI 0), .ref 18], ww w4, 0, 0))
      refine am_invd rfl rfl rfl rfl (am_callv rfl (Hc_e _ _ _ _ hqw5) (?_ : am_gv sc (D + 5) 40 o (114, [(0, .ref 18), (1, .int a1)], [], ww w5, 0, 0)))
      refine am_go_blk 4 ⟨fun hc => ?_, fun hc => ?_⟩
      · have H := am_ie hc H
        show am_gv sc (D + 5) 40 o (130, [(0, .ref 18)], [], ww w5, 0, 0)
        obtain ⟨w6, hqw6, H⟩ := am_bnE H
        refine am_go_blk 1 (?_ : am_gv sc (D + 5) 40 o (131, [(0, .ref 18)], [.ref 18], ww w5, 0, 0))
        refine am_invd rfl rfl rfl rfl (am_callv rfl (M_Read_refuse (D := D + 4) hqw6) (?_ : am_gv sc (D + 5) 40 o (134, [(0, .ref 18)], [], ww w6, 0, 0)))
        exact am_go_blk 1 (T_Read_one_141 Hc_e Hc_o w6 H)
      · have H := am_it hc H
        show am_gv sc (D + 5) 40 o (123, [(0, .ref 18), (1, .int a1)], [], ww w5, 0, 0)
        obtain ⟨w7, hqw7, H⟩ := am_bnE H
        refine am_go_blk 1 (?_ : am_gv sc (D + 5) 40 o (124, [(0, .ref 18), (1, .int a1)], [.ref 18], ww w5, 0, 0))
        refine am_invd rfl rfl rfl rfl (am_callv rfl (M_Read_advance (D := D) hqw7) (?_ : am_gv sc (D + 5) 40 o (127, [(0, .ref 18), (1, .int a1)], [], ww w7, 0, 0)))
        exact am_go_blk 1 (T_Read_one_141 Hc_e Hc_o w7 H)
theorem T_Read_one {sc : Option (Nat × (Nat → Int32))} {D : Nat} {o : am_W} {c_e : Int32 → Int32 → am_W → Option am_W} {c_o : Int32 → am_W → Option am_W} (Hc_e : ∀ (x y : Int32) (w o : am_W), c_e x y w = some o → am_run sc (D + 5) 38 [.ref 18, .int x, .int y] (ww w) none (ww o) 0 0) (Hc_o : ∀ (x : Int32) (w o : am_W), c_o x w = some o → am_run sc (D + 5) 40 [.ref 18, .int x] (ww w) none (ww o) 0 0) (a1 : Int32) (w : am_W) (H : F_Read_one c_e c_o a1 w = some o) : am_gv sc (D + 5) 40 o (0, [(0, .ref 18), (1, .int a1)], [], ww w, 0, 0) := by
  unfold F_Read_one at H
  refine am_go_blk 4 ⟨fun hc => ?_, fun hc => ?_⟩
  · have H := am_it hc H
    exact T_Read_one_20 Hc_e Hc_o w H
  · have H := am_ie hc H
    show am_gv sc (D + 5) 40 o (10, [(0, .ref 18), (1, .int a1)], [], ww w, 0, 0)
    refine am_go_blk 4 ⟨fun hc => ?_, fun hc => ?_⟩
    · have H := am_ie hc H
      show am_gv sc (D + 5) 40 o (54, [(0, .ref 18), (1, .int a1)], [], ww w, 0, 0)
      refine am_go_blk 4 ⟨fun hc => ?_, fun hc => ?_⟩
      · have H := am_ie hc H
        exact T_Read_one_88 Hc_e Hc_o a1 w H
      · have H := am_it hc H
        show am_gv sc (D + 5) 40 o (63, [(0, .ref 18), (1, .int a1)], [], ww w, 0, 0)
        refine am_go_blk 3 ⟨fun hc => ?_, fun hc => ?_⟩
        · have H := am_it hc H
          exact T_Read_one_88 Hc_e Hc_o a1 w H
        · have H := am_ie hc H
          show am_gv sc (D + 5) 40 o (68, [(0, .ref 18), (1, .int a1)], [], ww w, 0, 0)
          obtain ⟨w8, hqw8, H⟩ := am_bnE H
          refine am_go_blk 1 (?_ : am_gv sc (D + 5) 40 o (69, [(0, .ref 18), (1, .int a1)], [.ref 18], ww w, 0, 0))
          refine am_invd rfl rfl rfl rfl (am_callv rfl (M_Read_advance (D := D) hqw8) (?_ : am_gv sc (D + 5) 40 o (72, [(0, .ref 18), (1, .int a1)], [], ww w8, 0, 0)))
          obtain ⟨w9, hqw9, H⟩ := am_bnE H
          refine am_go_blk 4 (?_ : am_gv sc (D + 5) 40 o (76, [(0, .ref 18), (1, .int a1)], [.int (a1 + (nI 1)), .ref 18], ww w8, 0, 0))
          refine am_invd rfl rfl rfl rfl (am_callv rfl (Hc_o _ _ _ hqw9) (?_ : am_gv sc (D + 5) 40 o (79, [(0, .ref 18), (1, .int a1)], [], ww w9, 0, 0)))
          obtain ⟨w10, hqw10, H⟩ := am_bnE H
          refine am_go_blk 2 (?_ : am_gv sc (D + 5) 40 o (82, [(0, .ref 18), (1, .int a1)], [.int (-nI 7), .ref 18], ww w9, 0, 0))
          refine am_invd rfl rfl rfl rfl (am_callv rfl (M_Read_write (D := D + 4) hqw10) (?_ : am_gv sc (D + 5) 40 o (85, [(0, .ref 18), (1, .int a1)], [], ww w10, 0, 0)))
          exact am_go_blk 1 (T_Read_one_141 Hc_e Hc_o w10 H)
    · have H := am_it hc H
      exact T_Read_one_20 Hc_e Hc_o w H
def X_Read : Nat → (Int32 → Int32 → am_W → Option am_W) × (Int32 → am_W → Option am_W)
  | 0 => (fun _ _ _ => none, fun _ _ => none)
  | n + 1 => (F_Read_expression (X_Read n).1 (X_Read n).2, F_Read_one (X_Read n).1 (X_Read n).2)
def F_Read_x (a1 a2 : Int32) (w : am_W) : Option am_W :=
  (X_Read 100).1 a1 a2 w
theorem MX_Read {sc : Option (Nat × (Nat → Int32))} : ∀ (n D : Nat), (∀ (x y : Int32) (w o : am_W), (X_Read n).1 x y w = some o → am_run sc (D + n + 5) 38 [.ref 18, .int x, .int y] (ww w) none (ww o) 0 0) ∧ (∀ (x : Int32) (w o : am_W), (X_Read n).2 x w = some o → am_run sc (D + n + 5) 40 [.ref 18, .int x] (ww w) none (ww o) 0 0)
  | 0, _ => ⟨fun _ _ _ _ h => (by cases h), fun _ _ _ h => (by cases h)⟩
  | n + 1, D => ⟨fun x y w _ h => am_run_of (d := D + n + 5) rfl (T_Read_expression (D := D + n) (MX_Read n D).1 (MX_Read n D).2 x y w h), fun x w _ h => am_run_of (d := D + n + 5) rfl (T_Read_one (D := D + n) (MX_Read n D).1 (MX_Read n D).2 x w h)⟩
theorem M_Read_x {sc : Option (Nat × (Nat → Int32))} {D : Nat} {o : am_W} {a1 a2 : Int32} {w : am_W} (H : F_Read_x a1 a2 w = some o) : am_run sc (D + 105) 38 [.ref 18, .int a1, .int a2] (ww w) none (ww o) 0 0 :=
  (MX_Read 100 D).1 a1 a2 w o H
def F_Read_read_96 (s0 : Int32) (w : am_W) : Option (Int32 × am_W) :=
  am_ck (am_bo s0) (some (s0, w))
def F_Read_read_79 (w : am_W) : Option (Int32 × am_W) :=
  am_lt (wsf w 18 0 (nI 0)) fun w6 => if (w6.1 18 5) = 0 then (F_Read_read_96 (nI 1) w6) else (F_Read_read_96 (nI 0) w6)
def F_Read_read_26 (r26 : Nat → Int32 → am_W → Option (Int32 × am_W)) (p2 : Nat) (a3 : Int32) (w : am_W) : Option (Int32 × am_W) :=
  if (nI 3) ≤ a3 then (if (w.1 18 3) = (nI 308) then (F_Read_read_79 w) else ((F_Read_refuse w).bind fun w7 => F_Read_read_79 w7)) else ((F_Read_demand ((nI 300) + a3) w).bind fun w8 => (F_Read_x (nI 0) (nI 0) w8).bind fun w9 => (F_Read_demand (nI 59) w9).bind fun w10 => am_ck (am_in a3 3) (am_lt (wst w10 (27 + 1 + p2) a3 (w10.1 18 6)) fun w11 => r26 p2 (a3 + (nI 1)) w11))
def L_Read_read_26 : Nat → Nat → Int32 → am_W → Option (Int32 × am_W)
  | 0, _, _, _ => none
  | n + 1, p2, a3, w => F_Read_read_26 (L_Read_read_26 n) p2 a3 w
def F_Read_read (p1 : Nat) (p2 : Nat) (w : am_W) : Option (Int32 × am_W) :=
  am_lt (wz w p1) fun w1 => am_lt (wsf w1 18 6 (nI 0)) fun w2 => am_lt (wsf w2 18 2 (nI 0)) fun w3 => am_lt (wsf w3 18 5 (nI 0)) fun w4 => (F_Read_advance w4).bind fun w5 => L_Read_read_26 am_NF p2 (nI 0) w5
theorem T_Read_read_96 {sc : Option (Nat × (Nat → Int32))} {D : Nat} {o : Int32 × am_W} (s0 : Int32) (w : am_W) (H : F_Read_read_96 s0 w = some o) : am_gi sc (D + 105) 34 o (96, [], [.int s0], ww w, 0, 0) := by
  unfold F_Read_read_96 at H
  obtain ⟨hc, H⟩ := am_ckE H
  exact am_go_blk 1 ⟨am_boE hc, am_fi H⟩
theorem T_Read_read_79 {sc : Option (Nat × (Nat → Int32))} {D : Nat} {o : Int32 × am_W} (w : am_W) (H : F_Read_read_79 w = some o) : am_gi sc (D + 105) 34 o (79, [(0, .ref 18)], [], ww w, 0, 0) := by
  unfold F_Read_read_79 at H
  obtain ⟨w6, ew6, H⟩ := am_ltE H
  refine am_go_blk 3 ⟨rfl, rfl, am_hp (ww_f18_0 ew6) (?_ : am_gi sc (D + 105) 34 o (84, [(0, .ref 18)], [], ww w6, 0, 0))⟩
  refine am_go_blk 3 ⟨fun hc => ?_, fun hc => ?_⟩
  · have H := am_ie hc H
    show am_gi sc (D + 105) 34 o (95, [], [], ww w6, 0, 0)
    exact am_go_blk 1 (T_Read_read_96 (nI 0) w6 H)
  · have H := am_it hc H
    show am_gi sc (D + 105) 34 o (91, [(0, .ref 18)], [], ww w6, 0, 0)
    exact am_go_blk 2 (T_Read_read_96 (nI 1) w6 H)
theorem T_Read_read_26 {sc : Option (Nat × (Nat → Int32))} {D : Nat} {o : Int32 × am_W} {r26 : Nat → Int32 → am_W → Option (Int32 × am_W)} (Hr26 : ∀ (p2 : Nat) (a3 : Int32) (w : am_W) (hp2 : p2 < 6), r26 p2 a3 w = some o → am_gi sc (D + 105) 34 o (26, [(0, .ref 18), (2, .ref (27 + 1 + p2)), (3, .int a3)], [], ww w, 0, 0)) (p2 : Nat) (a3 : Int32) (w : am_W) (hp2 : p2 < 6) (H : F_Read_read_26 r26 p2 a3 w = some o) : am_gi sc (D + 105) 34 o (26, [(0, .ref 18), (2, .ref (27 + 1 + p2)), (3, .int a3)], [], ww w, 0, 0) := by
  unfold F_Read_read_26 at H
  refine am_go_blk 3 ⟨fun hc => ?_, fun hc => ?_⟩
  · have H := am_it hc H
    show am_gi sc (D + 105) 34 o (65, [(0, .ref 18)], [], ww w, 0, 0)
    refine am_go_blk 4 ⟨fun hc => ?_, fun hc => ?_⟩
    · have H := am_it hc H
      exact T_Read_read_79 w H
    · have H := am_ie hc H
      show am_gi sc (D + 105) 34 o (75, [(0, .ref 18)], [], ww w, 0, 0)
      obtain ⟨w7, hqw7, H⟩ := am_bnE H
      refine am_go_blk 1 (?_ : am_gi sc (D + 105) 34 o (76, [(0, .ref 18)], [.ref 18], ww w, 0, 0))
      refine am_invd rfl rfl rfl rfl (am_callv rfl (M_Read_refuse (D := D + 104) hqw7) (?_ : am_gi sc (D + 105) 34 o (79, [(0, .ref 18)], [], ww w7, 0, 0)))
      exact T_Read_read_79 w7 H
  · have H := am_ie hc H
    show am_gi sc (D + 105) 34 o (31, [(0, .ref 18), (2, .ref (27 + 1 + p2)), (3, .int a3)], [], ww w, 0, 0)
    obtain ⟨w8, hqw8, H⟩ := am_bnE H
    refine am_go_blk 4 (?_ : am_gi sc (D + 105) 34 o (37, [(0, .ref 18), (2, .ref (27 + 1 + p2)), (3, .int a3)], [.int ((nI 300) + a3), .ref 18], ww w, 0, 0))
    refine am_invd rfl rfl rfl rfl (am_callv rfl (M_Read_demand (D := D + 99) hqw8) (?_ : am_gi sc (D + 105) 34 o (40, [(0, .ref 18), (2, .ref (27 + 1 + p2)), (3, .int a3)], [], ww w8, 0, 0)))
    obtain ⟨w9, hqw9, H⟩ := am_bnE H
    refine am_go_blk 3 (?_ : am_gi sc (D + 105) 34 o (43, [(0, .ref 18), (2, .ref (27 + 1 + p2)), (3, .int a3)], [.int (nI 0), .int (nI 0), .ref 18], ww w8, 0, 0))
    refine am_invd rfl rfl rfl rfl (am_callv rfl (M_Read_x (D := D) hqw9) (?_ : am_gi sc (D + 105) 34 o (46, [(0, .ref 18), (2, .ref (27 + 1 + p2)), (3, .int a3)], [], ww w9, 0, 0)))
    obtain ⟨w10, hqw10, H⟩ := am_bnE H
    refine am_go_blk 2 (?_ : am_gi sc (D + 105) 34 o (49, [(0, .ref 18), (2, .ref (27 + 1 + p2)), (3, .int a3)], [.int (nI 59), .ref 18], ww w9, 0, 0))
    refine am_invd rfl rfl rfl rfl (am_callv rfl (M_Read_demand (D := D + 99) hqw10) (?_ : am_gi sc (D + 105) 34 o (52, [(0, .ref 18), (2, .ref (27 + 1 + p2)), (3, .int a3)], [], ww w10, 0, 0)))
    refine am_go_blk 4 (?_ : am_gi sc (D + 105) 34 o (58, [(0, .ref 18), (2, .ref (27 + 1 + p2)), (3, .int a3)], [.int (w10.1 18 6), .int a3, .ref (27 + 1 + p2)], ww w10, 0, 0))
    obtain ⟨hc, H⟩ := am_ckE H
    obtain ⟨w11, ew11, H⟩ := am_ltE H
    refine am_iasd rfl (ww_ends hp2) (am_inv hc) (ww_ends_s hp2 ew11) (?_ : am_gi sc (D + 105) 34 o (59, [(0, .ref 18), (2, .ref (27 + 1 + p2)), (3, .int a3)], [], ww w11, 0, 0))
    exact am_go_blk 2 (Hr26 p2 (a3 + (nI 1)) w11 hp2 H)
theorem TL_Read_read_26 {sc : Option (Nat × (Nat → Int32))} {D : Nat} {o : Int32 × am_W} : ∀ (n : Nat) (p2 : Nat) (a3 : Int32) (w : am_W) (hp2 : p2 < 6), L_Read_read_26 n p2 a3 w = some o → am_gi sc (D + 105) 34 o (26, [(0, .ref 18), (2, .ref (27 + 1 + p2)), (3, .int a3)], [], ww w, 0, 0)
  | 0, _, _, _, _, H => by cases H
  | n + 1, p2, a3, w, hp2, H => T_Read_read_26 (TL_Read_read_26 n) p2 a3 w hp2 H
theorem T_Read_read {sc : Option (Nat × (Nat → Int32))} {D : Nat} {o : Int32 × am_W} (p1 : Nat) (p2 : Nat) (w : am_W) (hp1 : p1 < 6) (hp2 : p2 < 6) (H : F_Read_read p1 p2 w = some o) : am_gi sc (D + 105) 34 o (0, [(0, .ref 18), (1, .ref (20 + 1 + p1)), (2, .ref (27 + 1 + p2))], [], ww w, 0, 0) := by
  unfold F_Read_read at H
  obtain ⟨w1, ew1, H⟩ := am_ltE H
  refine am_go_blk 3 ⟨rfl, rfl, am_hp (ww_sz hp1 ew1) (?_ : am_gi sc (D + 105) 34 o (5, [(0, .ref 18), (1, .ref (20 + 1 + p1)), (2, .ref (27 + 1 + p2))], [], ww w1, 0, 0))⟩
  obtain ⟨w2, ew2, H⟩ := am_ltE H
  refine am_go_blk 3 ⟨rfl, rfl, am_hp (ww_f18_6 ew2) (?_ : am_gi sc (D + 105) 34 o (10, [(0, .ref 18), (1, .ref (20 + 1 + p1)), (2, .ref (27 + 1 + p2))], [], ww w2, 0, 0))⟩
  obtain ⟨w3, ew3, H⟩ := am_ltE H
  refine am_go_blk 3 ⟨rfl, rfl, am_hp (ww_f18_2 ew3) (?_ : am_gi sc (D + 105) 34 o (15, [(0, .ref 18), (1, .ref (20 + 1 + p1)), (2, .ref (27 + 1 + p2))], [], ww w3, 0, 0))⟩
  obtain ⟨w4, ew4, H⟩ := am_ltE H
  refine am_go_blk 3 ⟨rfl, rfl, am_hp (ww_f18_5 ew4) (?_ : am_gi sc (D + 105) 34 o (20, [(0, .ref 18), (1, .ref (20 + 1 + p1)), (2, .ref (27 + 1 + p2))], [], ww w4, 0, 0))⟩
  obtain ⟨w5, hqw5, H⟩ := am_bnE H
  refine am_go_blk 1 (?_ : am_gi sc (D + 105) 34 o (21, [(0, .ref 18), (1, .ref (20 + 1 + p1)), (2, .ref (27 + 1 + p2))], [.ref 18], ww w4, 0, 0))
  refine am_invd rfl rfl rfl rfl (am_callv rfl (M_Read_advance (D := D + 100) hqw5) (?_ : am_gi sc (D + 105) 34 o (24, [(0, .ref 18), (1, .ref (20 + 1 + p1)), (2, .ref (27 + 1 + p2))], [], ww w5, 0, 0)))
  exact am_go_blk 2 (TL_Read_read_26 am_NF p2 (nI 0) w5 hp2 H)
theorem M_Read_read {sc : Option (Nat × (Nat → Int32))} {D : Nat} {o : Int32 × am_W} {p1 : Nat} {p2 : Nat} {w : am_W} (hp1 : p1 < 6) (hp2 : p2 < 6) (H : F_Read_read p1 p2 w = some o) : am_run sc (D + 106) 34 [.ref 18, .ref (20 + 1 + p1), .ref (27 + 1 + p2)] (ww w) (some (.int o.1)) (ww o.2) 0 0 :=
  am_run_of rfl (T_Read_read p1 p2 w hp1 hp2 H)
def F_Law_takeTape_37 (w : am_W) : Option (Int32 × am_W) :=
  some ((nI 0), w)
def F_Law_takeTape (w : am_W) : Option (Int32 × am_W) :=
  if (nI 6) ≤ (w.1 17 1) then (F_Law_takeTape_37 w) else (am_ck (am_in (w.1 17 1) 6) (am_ck (am_in (w.1 17 1) 6) ((F_Read_read ((w.1 17 1).toNatClampNeg) ((w.1 17 1).toNatClampNeg) w).bind fun q3 => if q3.1 = 0 then (F_Law_takeTape_37 q3.2) else (am_lt (wsf q3.2 17 1 ((q3.2.1 17 1) + (nI 1))) fun w4 => some ((nI 1), w4)))))
theorem T_Law_takeTape_37 {sc : Option (Nat × (Nat → Int32))} {D : Nat} {o : Int32 × am_W} (w : am_W) (H : F_Law_takeTape_37 w = some o) : am_gi sc (D + 106) 5 o (37, [], [], ww w, 0, 0) := by
  unfold F_Law_takeTape_37 at H
  exact am_go_blk 2 ⟨rfl, am_fi H⟩
theorem T_Law_takeTape {sc : Option (Nat × (Nat → Int32))} {D : Nat} {o : Int32 × am_W} (w : am_W) (H : F_Law_takeTape w = some o) : am_gi sc (D + 106) 5 o (0, [(0, .ref 17)], [], ww w, 0, 0) := by
  unfold F_Law_takeTape at H
  refine am_go_blk 4 ⟨fun hc => ?_, fun hc => ?_⟩
  · have H := am_it hc H
    exact T_Law_takeTape_37 w H
  · have H := am_ie hc H
    show am_gi sc (D + 106) 5 o (9, [(0, .ref 17)], [], ww w, 0, 0)
    obtain ⟨hi1, H⟩ := am_ckE H
    refine am_go_blk 7 ⟨am_inv hi1, (?_ : am_gi sc (D + 106) 5 o (22, [(0, .ref 17)], [.ref (20 + 1 + (w.1 17 1).toNatClampNeg), .ref 18], ww w, 0, 0))⟩
    obtain ⟨hi2, H⟩ := am_ckE H
    refine am_go_blk 5 ⟨am_inv hi2, (?_ : am_gi sc (D + 106) 5 o (31, [(0, .ref 17)], [.ref (27 + 1 + (w.1 17 1).toNatClampNeg), .ref (20 + 1 + (w.1 17 1).toNatClampNeg), .ref 18], ww w, 0, 0))⟩
    obtain ⟨q3, hqq3, H⟩ := am_bnE H
    refine am_invd rfl rfl rfl rfl (am_calli rfl (M_Read_read (D := D) (am_inl hi1) (am_inl hi2) hqq3) (?_ : am_gi sc (D + 106) 5 o (34, [(0, .ref 17)], [.int q3.1], ww q3.2, 0, 0)))
    refine am_go_blk 1 ⟨fun hc => ?_, fun hc => ?_⟩
    · have H := am_ie hc H
      show am_gi sc (D + 106) 5 o (39, [(0, .ref 17)], [], ww q3.2, 0, 0)
      obtain ⟨w4, ew4, H⟩ := am_ltE H
      refine am_go_blk 6 ⟨rfl, rfl, am_hp (ww_f17_1 ew4) (?_ : am_gi sc (D + 106) 5 o (49, [(0, .ref 17)], [], ww w4, 0, 0))⟩
      exact am_go_blk 2 ⟨rfl, am_fi H⟩
    · have H := am_it hc H
      exact T_Law_takeTape_37 q3.2 H
theorem M_Law_takeTape {sc : Option (Nat × (Nat → Int32))} {D : Nat} {o : Int32 × am_W} {w : am_W} (H : F_Law_takeTape w = some o) : am_run sc (D + 107) 5 [.ref 17] (ww w) (some (.int o.1)) (ww o.2) 0 0 :=
  am_run_of rfl (T_Law_takeTape w H)
def F_Loc_text_50 (s0 : Int32) (w : am_W) : Option (Int32 × am_W) :=
  some (s0, w)
def F_Loc_text (w : am_W) : Option (Int32 × am_W) :=
  if (w.1 17 1) < (nI 6) then ((F_Law_takeTape w).bind fun q1 => if q1.1 = 0 then (F_Loc_text_50 ((-nI 100) - (q1.2.1 18 1)) q1.2) else (F_Loc_text_50 ((q1.2.1 17 1) - (nI 1)) q1.2)) else (some ((-nI 4), w))
theorem T_Loc_text_50 {sc : Option (Nat × (Nat → Int32))} {D : Nat} {o : Int32 × am_W} (s0 : Int32) (w : am_W) (H : F_Loc_text_50 s0 w = some o) : am_gi sc (D + 107) 50 o (50, [], [.int s0], ww w, 0, 0) := by
  unfold F_Loc_text_50 at H
  exact am_go_blk 1 ⟨rfl, am_fi H⟩
theorem T_Loc_text {sc : Option (Nat × (Nat → Int32))} {D : Nat} {o : Int32 × am_W} (w : am_W) (H : F_Loc_text w = some o) : am_gi sc (D + 107) 50 o (0, [(0, .ref 0)], [], ww w, 0, 0) := by
  unfold F_Loc_text at H
  refine am_go_blk 5 ⟨fun hc => ?_, fun hc => ?_⟩
  · have H := am_it hc H
    show am_gi sc (D + 107) 50 o (15, [(0, .ref 0)], [], ww w, 0, 0)
    obtain ⟨q1, hqq1, H⟩ := am_bnE H
    refine am_go_blk 2 (?_ : am_gi sc (D + 107) 50 o (19, [(0, .ref 0)], [.ref 17], ww w, 0, 0))
    refine am_invd rfl rfl rfl rfl (am_calli rfl (M_Law_takeTape (D := D) hqq1) (?_ : am_gi sc (D + 107) 50 o (22, [(0, .ref 0)], [.int q1.1], ww q1.2, 0, 0)))
    refine am_go_blk 1 ⟨fun hc => ?_, fun hc => ?_⟩
    · have H := am_it hc H
      show am_gi sc (D + 107) 50 o (37, [(0, .ref 0)], [], ww q1.2, 0, 0)
      exact am_go_blk 6 (T_Loc_text_50 ((-nI 100) - (q1.2.1 18 1)) q1.2 H)
    · have H := am_ie hc H
      show am_gi sc (D + 107) 50 o (25, [(0, .ref 0)], [], ww q1.2, 0, 0)
      exact am_go_blk 6 (T_Loc_text_50 ((q1.2.1 17 1) - (nI 1)) q1.2 H)
  · have H := am_ie hc H
    show am_gi sc (D + 107) 50 o (12, [(0, .ref 0)], [], ww w, 0, 0)
    exact am_go_blk 2 ⟨rfl, am_fi H⟩
theorem M_Loc_text {sc : Option (Nat × (Nat → Int32))} {D : Nat} {o : Int32 × am_W} {w : am_W} (H : F_Loc_text w = some o) : am_run sc (D + 108) 50 [.ref 0] (ww w) (some (.int o.1)) (ww o.2) 0 0 :=
  am_run_of rfl (T_Loc_text w H)
def F_Loc_force_15 (w : am_W) : Option (Int32 × am_W) :=
  some ((-nI 2), w)
def F_Loc_force (a1 : Int32) (w : am_W) : Option (Int32 × am_W) :=
  if a1 < 0 then (F_Loc_force_15 w) else (if a1 < (w.1 17 1) then (am_lt (wsf w 17 2 a1) fun w1 => some ((w.1 17 2), w1)) else (F_Loc_force_15 w))
theorem T_Loc_force_15 {sc : Option (Nat × (Nat → Int32))} {D : Nat} {o : Int32 × am_W} (w : am_W) (H : F_Loc_force_15 w = some o) : am_gi sc D 51 o (15, [], [], ww w, 0, 0) := by
  unfold F_Loc_force_15 at H
  exact am_go_blk 2 ⟨rfl, am_fi H⟩
theorem T_Loc_force {sc : Option (Nat × (Nat → Int32))} {D : Nat} {o : Int32 × am_W} (a1 : Int32) (w : am_W) (H : F_Loc_force a1 w = some o) : am_gi sc D 51 o (0, [(0, .ref 0), (1, .int a1)], [], ww w, 0, 0) := by
  unfold F_Loc_force at H
  refine am_go_blk 2 ⟨fun hc => ?_, fun hc => ?_⟩
  · have H := am_it hc H
    exact T_Loc_force_15 w H
  · have H := am_ie hc H
    show am_gi sc D 51 o (4, [(0, .ref 0), (1, .int a1)], [], ww w, 0, 0)
    refine am_go_blk 5 ⟨fun hc => ?_, fun hc => ?_⟩
    · have H := am_it hc H
      show am_gi sc D 51 o (18, [(0, .ref 0), (1, .int a1)], [], ww w, 0, 0)
      obtain ⟨w1, ew1, H⟩ := am_ltE H
      refine am_go_blk 8 ⟨rfl, rfl, am_hp (ww_f17_2 ew1) (?_ : am_gi sc D 51 o (34, [(2, .int (w.1 17 2)), (0, .ref 0), (1, .int a1)], [], ww w1, 0, 0))⟩
      exact am_go_blk 2 ⟨rfl, am_fi H⟩
    · have H := am_ie hc H
      exact T_Loc_force_15 w H
theorem M_Loc_force {sc : Option (Nat × (Nat → Int32))} {D : Nat} {o : Int32 × am_W} {a1 : Int32} {w : am_W} (H : F_Loc_force a1 w = some o) : am_run sc (D + 1) 51 [.ref 0, .int a1] (ww w) (some (.int o.1)) (ww o.2) 0 0 :=
  am_run_of rfl (T_Loc_force a1 w H)
def F_Loc_isKind_15 (s0 : Int32) (w : am_W) : Option (Int32 × am_W) :=
  am_ck (am_bo s0) (some (s0, w))
def F_Loc_isKind_14 (w : am_W) : Option (Int32 × am_W) :=
  F_Loc_isKind_15 (nI 0) w
def F_Loc_isKind (a0 : Int32) (w : am_W) : Option (Int32 × am_W) :=
  if a0 < 0 then (F_Loc_isKind_14 w) else (if (nI 6) ≤ a0 then (F_Loc_isKind_14 w) else (F_Loc_isKind_15 (nI 1) w))
theorem T_Loc_isKind_15 {sc : Option (Nat × (Nat → Int32))} {D : Nat} {o : Int32 × am_W} (s0 : Int32) (w : am_W) (H : F_Loc_isKind_15 s0 w = some o) : am_gi sc D 68 o (15, [], [.int s0], ww w, 0, 0) := by
  unfold F_Loc_isKind_15 at H
  obtain ⟨hc, H⟩ := am_ckE H
  exact am_go_blk 1 ⟨am_boE hc, am_fi H⟩
theorem T_Loc_isKind_14 {sc : Option (Nat × (Nat → Int32))} {D : Nat} {o : Int32 × am_W} (w : am_W) (H : F_Loc_isKind_14 w = some o) : am_gi sc D 68 o (14, [], [], ww w, 0, 0) := by
  unfold F_Loc_isKind_14 at H
  exact am_go_blk 1 (T_Loc_isKind_15 (nI 0) w H)
theorem T_Loc_isKind {sc : Option (Nat × (Nat → Int32))} {D : Nat} {o : Int32 × am_W} (a0 : Int32) (w : am_W) (H : F_Loc_isKind a0 w = some o) : am_gi sc D 68 o (0, [(0, .int a0)], [], ww w, 0, 0) := by
  unfold F_Loc_isKind at H
  refine am_go_blk 2 ⟨fun hc => ?_, fun hc => ?_⟩
  · have H := am_it hc H
    exact T_Loc_isKind_14 w H
  · have H := am_ie hc H
    show am_gi sc D 68 o (4, [(0, .int a0)], [], ww w, 0, 0)
    refine am_go_blk 3 ⟨fun hc => ?_, fun hc => ?_⟩
    · have H := am_it hc H
      exact T_Loc_isKind_14 w H
    · have H := am_ie hc H
      show am_gi sc D 68 o (10, [(0, .int a0)], [], ww w, 0, 0)
      exact am_go_blk 2 (T_Loc_isKind_15 (nI 1) w H)
theorem M_Loc_isKind {sc : Option (Nat × (Nat → Int32))} {D : Nat} {o : Int32 × am_W} {a0 : Int32} {w : am_W} (H : F_Loc_isKind a0 w = some o) : am_run sc (D + 1) 68 [.int a0] (ww w) (some (.int o.1)) (ww o.2) 0 0 :=
  am_run_of rfl (T_Loc_isKind a0 w H)
