/-! ===== the reader of texts, before all cells are made: what LawBook's constructor calls ===== -/
/-- the heap while the book of texts is made -/
def wx (w : am_W) : am_H := [
  .inr (6, [.ref 1, .ref 9, .null, .null, .null, .null, .null, .null, .int 0, .int 0]),
  .inr (3, [.int (w.1 1 0), .int (w.1 1 1), .int (w.1 1 2), .int (w.1 1 3), .int (w.1 1 4), .ref 2, .ref 3, .ref 4, .ref 5, .ref 6, .ref 7, .ref 8]),
  .inl (0, 8, .inl (w.1 2)),
  .inl (0, 8, .inl (w.1 3)),
  .inl (0, 8, .inl (w.1 4)),
  .inl (0, 10, .inl (w.1 5)),
  .inl (0, 10, .inl (w.1 6)),
  .inl (0, 10, .inl (w.1 7)),
  .inl (0, 10, .inl (w.1 8)),
  .inr (3, [.int (w.1 9 0), .int (w.1 9 1), .int (w.1 9 2), .int (w.1 9 3), .int (w.1 9 4), .ref 10, .ref 11, .ref 12, .ref 13, .ref 14, .ref 15, .ref 16]),
  .inl (0, 8, .inl (w.1 10)),
  .inl (0, 8, .inl (w.1 11)),
  .inl (0, 8, .inl (w.1 12)),
  .inl (0, 10, .inl (w.1 13)),
  .inl (0, 10, .inl (w.1 14)),
  .inl (0, 10, .inl (w.1 15)),
  .inl (0, 10, .inl (w.1 16)),
  .inr (1, [.ref 18, .int (w.1 17 1), .int (w.1 17 2), .ref 1, .ref 20, .ref 27, .ref 34, .ref 35]),
  .inr (4, [.int (w.1 18 0), .int (w.1 18 1), .int (w.1 18 2), .int (w.1 18 3), .int (w.1 18 4), .int (w.1 18 5), .int (w.1 18 6), zv w.2, .ref 19]),
  .inl (0, 160, .inl (w.1 19)),
  .inl (3, 6, .inr (.inr (.inr (.inr (fun i => some (20 + 1 + i)))))),
  .inl (0, 160, .inl (w.1 21)),
  .inl (0, 160, .inl (w.1 22)),
  .inl (0, 160, .inl (w.1 23)),
  .inl (0, 160, .inl (w.1 24)),
  .inl (0, 160, .inl (w.1 25)),
  .inl (0, 160, .inl (w.1 26)),
  .inl (3, 6, .inr (.inr (.inr (.inr (fun i => some (27 + 1 + i)))))),
  .inl (0, 3, .inl (w.1 28)),
  .inl (0, 3, .inl (w.1 29)),
  .inl (0, 3, .inl (w.1 30)),
  .inl (0, 3, .inl (w.1 31)),
  .inl (0, 3, .inl (w.1 32)),
  .inl (0, 3, .inl (w.1 33)),
  .inl (0, 6, .inl (w.1 34)),
  .inl (0, 64, .inl (w.1 35))]
theorem wx_len (w : am_W) : (wx w).length = 36 := rfl
theorem wx_s19 {w w2 : am_W} {i x : Int32} (e : wst w 19 i x = w2) : (wx w).set 19 (.inl (0, 160, .inl (upd (w.1 19) i.toNatClampNeg x))) = wx w2 := e ▸ rfl
theorem wx_f18_0 {w w2 : am_W} {v : Int32} (e : wsf w 18 0 v = w2) : (wx w).set 18 (.inr (4, ([.int (w.1 18 0), .int (w.1 18 1), .int (w.1 18 2), .int (w.1 18 3), .int (w.1 18 4), .int (w.1 18 5), .int (w.1 18 6), zv w.2, .ref 19] : List Value).set 0 (.int v))) = wx w2 := e ▸ rfl
theorem wx_f18_1 {w w2 : am_W} {v : Int32} (e : wsf w 18 1 v = w2) : (wx w).set 18 (.inr (4, ([.int (w.1 18 0), .int (w.1 18 1), .int (w.1 18 2), .int (w.1 18 3), .int (w.1 18 4), .int (w.1 18 5), .int (w.1 18 6), zv w.2, .ref 19] : List Value).set 1 (.int v))) = wx w2 := e ▸ rfl
theorem wx_f18_2 {w w2 : am_W} {v : Int32} (e : wsf w 18 2 v = w2) : (wx w).set 18 (.inr (4, ([.int (w.1 18 0), .int (w.1 18 1), .int (w.1 18 2), .int (w.1 18 3), .int (w.1 18 4), .int (w.1 18 5), .int (w.1 18 6), zv w.2, .ref 19] : List Value).set 2 (.int v))) = wx w2 := e ▸ rfl
theorem wx_f18_3 {w w2 : am_W} {v : Int32} (e : wsf w 18 3 v = w2) : (wx w).set 18 (.inr (4, ([.int (w.1 18 0), .int (w.1 18 1), .int (w.1 18 2), .int (w.1 18 3), .int (w.1 18 4), .int (w.1 18 5), .int (w.1 18 6), zv w.2, .ref 19] : List Value).set 3 (.int v))) = wx w2 := e ▸ rfl
theorem wx_f18_4 {w w2 : am_W} {v : Int32} (e : wsf w 18 4 v = w2) : (wx w).set 18 (.inr (4, ([.int (w.1 18 0), .int (w.1 18 1), .int (w.1 18 2), .int (w.1 18 3), .int (w.1 18 4), .int (w.1 18 5), .int (w.1 18 6), zv w.2, .ref 19] : List Value).set 4 (.int v))) = wx w2 := e ▸ rfl
theorem wx_f18_5 {w w2 : am_W} {v : Int32} (e : wsf w 18 5 v = w2) : (wx w).set 18 (.inr (4, ([.int (w.1 18 0), .int (w.1 18 1), .int (w.1 18 2), .int (w.1 18 3), .int (w.1 18 4), .int (w.1 18 5), .int (w.1 18 6), zv w.2, .ref 19] : List Value).set 5 (.int v))) = wx w2 := e ▸ rfl
theorem wx_f18_6 {w w2 : am_W} {v : Int32} (e : wsf w 18 6 v = w2) : (wx w).set 18 (.inr (4, ([.int (w.1 18 0), .int (w.1 18 1), .int (w.1 18 2), .int (w.1 18 3), .int (w.1 18 4), .int (w.1 18 5), .int (w.1 18 6), zv w.2, .ref 19] : List Value).set 6 (.int v))) = wx w2 := e ▸ rfl
theorem wx_sz {w w2 : am_W} {t : Nat} (ht : t < 6) (e : wz w t = w2) : (wx w).set 18 (.inr (4, ([.int (w.1 18 0), .int (w.1 18 1), .int (w.1 18 2), .int (w.1 18 3), .int (w.1 18 4), .int (w.1 18 5), .int (w.1 18 6), zv w.2, .ref 19] : List Value).set 7 (.ref (20 + 1 + t)))) = wx w2 := by
  subst e
  match t, ht with
  | 0, _ => rfl
  | 1, _ => rfl
  | 2, _ => rfl
  | 3, _ => rfl
  | 4, _ => rfl
  | 5, _ => rfl
theorem wx_steps {w : am_W} {p : Nat} (h : p < 6) : (wx w)[20 + 1 + p]? = some (.inl (0, 160, .inl (w.1 (20 + 1 + p)))) := by
  match p, h with
  | 0, _ => rfl
  | 1, _ => rfl
  | 2, _ => rfl
  | 3, _ => rfl
  | 4, _ => rfl
  | 5, _ => rfl
theorem wx_steps_s {w w2 : am_W} {p : Nat} {i x : Int32} (h : p < 6) (e : wst w (20 + 1 + p) i x = w2) : (wx w).set (20 + 1 + p) (.inl (0, 160, .inl (upd (w.1 (20 + 1 + p)) i.toNatClampNeg x))) = wx w2 := by
  subst e
  match p, h with
  | 0, _ => rfl
  | 1, _ => rfl
  | 2, _ => rfl
  | 3, _ => rfl
  | 4, _ => rfl
  | 5, _ => rfl
theorem wx_ends {w : am_W} {p : Nat} (h : p < 6) : (wx w)[27 + 1 + p]? = some (.inl (0, 3, .inl (w.1 (27 + 1 + p)))) := by
  match p, h with
  | 0, _ => rfl
  | 1, _ => rfl
  | 2, _ => rfl
  | 3, _ => rfl
  | 4, _ => rfl
  | 5, _ => rfl
theorem wx_ends_s {w w2 : am_W} {p : Nat} {i x : Int32} (h : p < 6) (e : wst w (27 + 1 + p) i x = w2) : (wx w).set (27 + 1 + p) (.inl (0, 3, .inl (upd (w.1 (27 + 1 + p)) i.toNatClampNeg x))) = wx w2 := by
  subst e
  match p, h with
  | 0, _ => rfl
  | 1, _ => rfl
  | 2, _ => rfl
  | 3, _ => rfl
  | 4, _ => rfl
  | 5, _ => rfl
abbrev am_xgi (sc : Option (Nat × (Nat → Int32))) (d y : Nat) (o : Int32 × am_W) (c : am_S) : Prop := am_go (am_fr (am_run sc d)) sc y 0 0 (fun r h => r = some (.int o.1) ∧ h = wx o.2) c
abbrev am_xgv (sc : Option (Nat × (Nat → Int32))) (d y : Nat) (o : am_W) (c : am_S) : Prop := am_go (am_fr (am_run sc d)) sc y 0 0 (fun r h => r = none ∧ h = wx o) c
theorem am_xfi {x : Int32} {w : am_W} {o : Int32 × am_W} (h : some (x, w) = some o) : some (Value.int x) = some (Value.int o.1) ∧ wx w = wx o.2 := by
  cases h
  exact ⟨rfl, rfl⟩
theorem am_xfv {w o : am_W} (h : some w = some o) : (none : Option Value) = none ∧ wx w = wx o := by
  cases h
  exact ⟨rfl, rfl⟩
theorem am_xcalli {E : am_E} {mc ms z pc : Nat} {P : am_S → Prop} {as rest : List Value} {lv : am_L} {kf : Option (List Nat)} {w : am_W} {o : Int32 × am_W} (hl : Nat.ble (am_cat rest) 8 = true) (hE : E z as (wx w) (some (.int o.1)) (wx o.2) 0 0) (H : P (pc + 3, am_pick kf lv, .int o.1 :: rest, wx o.2, 0, 0)) : am_call (am_fr E) mc ms P z as pc lv kf rest (wx w) 0 0 := by
  unfold am_call
  rw [hl, wx_len]
  exact ⟨_, _, _, _, am_fr_of hE (Nat.le_refl _) (by rw [wx_len]; exact Nat.le_of_ble_eq_true rfl), Nat.le_refl _, Nat.zero_le _, Nat.zero_le _, Or.inl rfl, H⟩
theorem am_xcallv {E : am_E} {mc ms z pc : Nat} {P : am_S → Prop} {as rest : List Value} {lv : am_L} {kf : Option (List Nat)} {w o : am_W} (hl : Nat.ble (am_cat rest) 8 = true) (hE : E z as (wx w) none (wx o) 0 0) (H : P (pc + 3, am_pick kf lv, rest, wx o, 0, 0)) : am_call (am_fr E) mc ms P z as pc lv kf rest (wx w) 0 0 := by
  unfold am_call
  rw [hl, wx_len]
  exact ⟨_, _, _, _, am_fr_of hE (Nat.le_refl _) (by rw [wx_len]; exact Nat.le_of_ble_eq_true rfl), Nat.le_refl _, Nat.zero_le _, Nat.zero_le _, Or.inl rfl, H⟩
theorem TC_Read_append_30 {sc : Option (Nat × (Nat → Int32))} {D : Nat} {o : am_W} (w : am_W) (H : F_Read_append_30 w = some o) : am_xgv sc D 33 o (30, [], [], wx w, 0, 0) := by
  unfold F_Read_append_30 at H
  exact am_go_blk 1 (am_xfv H)
theorem TC_Read_append {sc : Option (Nat × (Nat → Int32))} {D : Nat} {o : am_W} (a1 : Int32) (w : am_W) (H : F_Read_append a1 w = some o) : am_xgv sc D 33 o (0, [(0, .ref 18), (1, .int a1)], [], wx w, 0, 0) := by
  unfold F_Read_append at H
  refine am_go_blk 4 ⟨fun hc => ?_, fun hc => ?_⟩
  · have H := am_it hc H
    exact TC_Read_append_30 w H
  · have H := am_ie hc H
    show am_xgv sc D 33 o (10, [(0, .ref 18), (1, .int a1)], [], wx w, 0, 0)
    obtain ⟨hc, H⟩ := am_ckE H
    obtain ⟨w1, ew1, H⟩ := am_ltE H
    refine am_go_blk 6 ⟨am_inv hc, am_hp (wx_s19 ew1) (?_ : am_xgv sc D 33 o (20, [(0, .ref 18), (1, .int a1)], [], wx w1, 0, 0))⟩
    obtain ⟨w2, ew2, H⟩ := am_ltE H
    refine am_go_blk 6 ⟨rfl, rfl, am_hp (wx_f18_0 ew2) (?_ : am_xgv sc D 33 o (30, [], [], wx w2, 0, 0))⟩
    exact TC_Read_append_30 w2 H
theorem MC_Read_append {sc : Option (Nat × (Nat → Int32))} {D : Nat} {o : am_W} {a1 : Int32} {w : am_W} (H : F_Read_append a1 w = some o) : am_run sc (D + 1) 33 [.ref 18, .int a1] (wx w) none (wx o) 0 0 :=
  am_run_of rfl (TC_Read_append a1 w H)
theorem TC_Read_isIn_15 {sc : Option (Nat × (Nat → Int32))} {D : Nat} {o : Int32 × am_W} (s0 : Int32) (w : am_W) (H : F_Read_isIn_15 s0 w = some o) : am_xgi sc D 45 o (15, [], [.int s0], wx w, 0, 0) := by
  unfold F_Read_isIn_15 at H
  obtain ⟨hc, H⟩ := am_ckE H
  exact am_go_blk 1 ⟨am_boE hc, am_xfi H⟩
theorem TC_Read_isIn_14 {sc : Option (Nat × (Nat → Int32))} {D : Nat} {o : Int32 × am_W} (w : am_W) (H : F_Read_isIn_14 w = some o) : am_xgi sc D 45 o (14, [], [], wx w, 0, 0) := by
  unfold F_Read_isIn_14 at H
  exact am_go_blk 1 (TC_Read_isIn_15 (nI 0) w H)
theorem TC_Read_isIn {sc : Option (Nat × (Nat → Int32))} {D : Nat} {o : Int32 × am_W} (a0 : Int32) (a1 : Int32) (a2 : Int32) (w : am_W) (H : F_Read_isIn a0 a1 a2 w = some o) : am_xgi sc D 45 o (0, [(0, .int a0), (1, .int a1), (2, .int a2)], [], wx w, 0, 0) := by
  unfold F_Read_isIn at H
  refine am_go_blk 3 ⟨fun hc => ?_, fun hc => ?_⟩
  · have H := am_it hc H
    exact TC_Read_isIn_14 w H
  · have H := am_ie hc H
    show am_xgi sc D 45 o (5, [(0, .int a0), (1, .int a1), (2, .int a2)], [], wx w, 0, 0)
    refine am_go_blk 3 ⟨fun hc => ?_, fun hc => ?_⟩
    · have H := am_it hc H
      exact TC_Read_isIn_14 w H
    · have H := am_ie hc H
      show am_xgi sc D 45 o (10, [(0, .int a0), (1, .int a1), (2, .int a2)], [], wx w, 0, 0)
      exact am_go_blk 2 (TC_Read_isIn_15 (nI 1) w H)
theorem MC_Read_isIn {sc : Option (Nat × (Nat → Int32))} {D : Nat} {o : Int32 × am_W} {a0 : Int32} {a1 : Int32} {a2 : Int32} {w : am_W} (H : F_Read_isIn a0 a1 a2 w = some o) : am_run sc (D + 1) 45 [.int a0, .int a1, .int a2] (wx w) (some (.int o.1)) (wx o.2) 0 0 :=
  am_run_of rfl (TC_Read_isIn a0 a1 a2 w H)
theorem TC_JstrisLatin1aae02_3000001_18 {sc : Option (Nat × (Nat → Int32))} {D : Nat} {o : Int32 × am_W} (s0 : Int32) (w : am_W) (H : F_JstrisLatin1aae02_3000001_18 s0 w = some o) : am_xgi sc D 94 o (18, [], [.int s0], wx w, 0, 0) := by
  unfold F_JstrisLatin1aae02_3000001_18 at H
  obtain ⟨hc, H⟩ := am_ckE H
  exact am_go_blk 1 ⟨am_boE hc, am_xfi H⟩
theorem TC_JstrisLatin1aae02_3000001_17 {sc : Option (Nat × (Nat → Int32))} {D : Nat} {o : Int32 × am_W} (w : am_W) (H : F_JstrisLatin1aae02_3000001_17 w = some o) : am_xgi sc D 94 o (17, [], [], wx w, 0, 0) := by
  unfold F_JstrisLatin1aae02_3000001_17 at H
  exact am_go_blk 1 (TC_JstrisLatin1aae02_3000001_18 (nI 0) w H)
theorem TC_JstrisLatin1aae02_3000001 {sc : Option (Nat × (Nat → Int32))} {D : Nat} {o : Int32 × am_W} (w : am_W) (H : F_JstrisLatin1aae02_3000001 w = some o) : am_xgi sc D 94 o (0, [(0, .ref 3000001)], [], wx w, 0, 0) := by
  unfold F_JstrisLatin1aae02_3000001 at H
  refine am_go_blk 2 ⟨fun hc => ?_, fun hc => ?_⟩
  · have H := am_it hc H
    exact TC_JstrisLatin1aae02_3000001_17 w H
  · have H := am_ie hc H
    show am_xgi sc D 94 o (6, [(0, .ref 3000001)], [], wx w, 0, 0)
    refine am_go_blk 3 ⟨fun hc => ?_, fun hc => ?_⟩
    · have H := am_ie hc H
      exact TC_JstrisLatin1aae02_3000001_17 w H
    · have H := am_it hc H
      show am_xgi sc D 94 o (13, [(0, .ref 3000001)], [], wx w, 0, 0)
      exact am_go_blk 2 (TC_JstrisLatin1aae02_3000001_18 (nI 1) w H)
theorem MC_JstrisLatin1aae02_3000001 {sc : Option (Nat × (Nat → Int32))} {D : Nat} {o : Int32 × am_W} {w : am_W} (H : F_JstrisLatin1aae02_3000001 w = some o) : am_run sc (D + 1) 94 [.ref 3000001] (wx w) (some (.int o.1)) (wx o.2) 0 0 :=
  am_run_of rfl (TC_JstrisLatin1aae02_3000001 w H)
theorem TC_Jstrcoder7d493_3000001_14 {sc : Option (Nat × (Nat → Int32))} {D : Nat} {o : Int32 × am_W} (s0 : Int32) (w : am_W) (H : F_Jstrcoder7d493_3000001_14 s0 w = some o) : am_xgi sc D 93 o (14, [], [.int s0], wx w, 0, 0) := by
  unfold F_Jstrcoder7d493_3000001_14 at H
  obtain ⟨hc, H⟩ := am_ckE H
  exact am_go_blk 1 ⟨am_byE hc, am_xfi H⟩
theorem TC_Jstrcoder7d493_3000001 {sc : Option (Nat × (Nat → Int32))} {D : Nat} {o : Int32 × am_W} (w : am_W) (H : F_Jstrcoder7d493_3000001 w = some o) : am_xgi sc D 93 o (0, [(0, .ref 3000001)], [], wx w, 0, 0) := by
  unfold F_Jstrcoder7d493_3000001 at H
  refine am_go_blk 2 ⟨fun hc => ?_, fun hc => ?_⟩
  · have H := am_it hc H
    show am_xgi sc D 93 o (13, [], [], wx w, 0, 0)
    exact am_go_blk 1 (TC_Jstrcoder7d493_3000001_14 (nI 1) w H)
  · have H := am_ie hc H
    show am_xgi sc D 93 o (6, [(0, .ref 3000001)], [], wx w, 0, 0)
    exact am_go_blk 3 (TC_Jstrcoder7d493_3000001_14 (nI 0) w H)
theorem MC_Jstrcoder7d493_3000001 {sc : Option (Nat × (Nat → Int32))} {D : Nat} {o : Int32 × am_W} {w : am_W} (H : F_Jstrcoder7d493_3000001 w = some o) : am_run sc (D + 1) 93 [.ref 3000001] (wx w) (some (.int o.1)) (wx o.2) 0 0 :=
  am_run_of rfl (TC_Jstrcoder7d493_3000001 w H)
theorem TC_Jstrlength8abf5_3000001 {sc : Option (Nat × (Nat → Int32))} {D : Nat} {o : Int32 × am_W} (w : am_W) (H : F_Jstrlength8abf5_3000001 w = some o) : am_xgi sc (D + 1) 87 o (0, [(0, .ref 3000001)], [], wx w, 0, 0) := by
  unfold F_Jstrlength8abf5_3000001 at H
  obtain ⟨q1, hqq1, H⟩ := am_bnE H
  refine am_go_blk 4 (?_ : am_xgi sc (D + 1) 87 o (6, [(0, .ref 3000001)], [.ref 3000001, .int (nI 8)], wx w, 0, 0))
  refine am_invs rfl rfl rfl (am_xcalli rfl (MC_Jstrcoder7d493_3000001 (D := D) hqq1) (?_ : am_xgi sc (D + 1) 87 o (9, [(0, .ref 3000001)], [.int q1.1, .int (nI 8)], wx q1.2, 0, 0)))
  exact am_go_blk 2 ⟨rfl, am_xfi H⟩
theorem MC_Jstrlength8abf5_3000001 {sc : Option (Nat × (Nat → Int32))} {D : Nat} {o : Int32 × am_W} {w : am_W} (H : F_Jstrlength8abf5_3000001 w = some o) : am_run sc (D + 2) 87 [.ref 3000001] (wx w) (some (.int o.1)) (wx o.2) 0 0 :=
  am_run_of rfl (TC_Jstrlength8abf5_3000001 w H)
theorem TC_JlatcanEncode9a6ad__16 {sc : Option (Nat × (Nat → Int32))} {D : Nat} {o : Int32 × am_W} (s0 : Int32) (w : am_W) (H : F_JlatcanEncode9a6ad__16 s0 w = some o) : am_xgi sc D 101 o (16, [], [.int s0], wx w, 0, 0) := by
  unfold F_JlatcanEncode9a6ad__16 at H
  obtain ⟨hc, H⟩ := am_ckE H
  exact am_go_blk 1 ⟨am_boE hc, am_xfi H⟩
theorem TC_JlatcanEncode9a6ad__15 {sc : Option (Nat × (Nat → Int32))} {D : Nat} {o : Int32 × am_W} (w : am_W) (H : F_JlatcanEncode9a6ad__15 w = some o) : am_xgi sc D 101 o (15, [], [], wx w, 0, 0) := by
  unfold F_JlatcanEncode9a6ad__15 at H
  exact am_go_blk 1 (TC_JlatcanEncode9a6ad__16 (nI 0) w H)
theorem TC_JlatcanEncode9a6ad_ {sc : Option (Nat × (Nat → Int32))} {D : Nat} {o : Int32 × am_W} (a0 : Int32) (w : am_W) (H : F_JlatcanEncode9a6ad_ a0 w = some o) : am_xgi sc D 101 o (0, [(0, .int a0)], [], wx w, 0, 0) := by
  unfold F_JlatcanEncode9a6ad_ at H
  refine am_go_blk 2 ⟨fun hc => ?_, fun hc => ?_⟩
  · have H := am_it hc H
    exact TC_JlatcanEncode9a6ad__15 w H
  · have H := am_ie hc H
    show am_xgi sc D 101 o (4, [(0, .int a0)], [], wx w, 0, 0)
    refine am_go_blk 3 ⟨fun hc => ?_, fun hc => ?_⟩
    · have H := am_it hc H
      exact TC_JlatcanEncode9a6ad__15 w H
    · have H := am_ie hc H
      show am_xgi sc D 101 o (11, [(0, .int a0)], [], wx w, 0, 0)
      exact am_go_blk 2 (TC_JlatcanEncode9a6ad__16 (nI 1) w H)
theorem MC_JlatcanEncode9a6ad_ {sc : Option (Nat × (Nat → Int32))} {D : Nat} {o : Int32 × am_W} {a0 : Int32} {w : am_W} (H : F_JlatcanEncode9a6ad_ a0 w = some o) : am_run sc (D + 1) 101 [.int a0] (wx w) (some (.int o.1)) (wx o.2) 0 0 :=
  am_run_of rfl (TC_JlatcanEncode9a6ad_ a0 w H)
theorem TC_JlatindexOfChar4cfef_3001001_7 {sc : Option (Nat × (Nat → Int32))} {D : Nat} {o : Int32 × am_W} {r7 : Int32 → Int32 → Int32 → am_W → Option (Int32 × am_W)} (Hr7 : ∀ (a3 : Int32) (a4 : Int32) (a5 : Int32) (w : am_W) , r7 a3 a4 a5 w = some o → am_xgi sc D 103 o (7, [(0, .ref 3001001), (3, .int a3), (4, .int a4), (5, .int a5)], [], wx w, 0, 0)) (a3 : Int32) (a4 : Int32) (a5 : Int32) (w : am_W) (H : F_JlatindexOfChar4cfef_3001001_7 r7 a3 a4 a5 w = some o) : am_xgi sc D 103 o (7, [(0, .ref 3001001), (3, .int a3), (4, .int a4), (5, .int a5)], [], wx w, 0, 0) := by
  unfold F_JlatindexOfChar4cfef_3001001_7 at H
  refine am_go_blk 3 ⟨fun hc => ?_, fun hc => ?_⟩
  · have H := am_it hc H
    show am_xgi sc D 103 o (31, [], [], wx w, 0, 0)
    exact am_go_blk 2 ⟨rfl, am_xfi H⟩
  · have H := am_ie hc H
    show am_xgi sc D 103 o (13, [(0, .ref 3001001), (3, .int a3), (4, .int a4), (5, .int a5)], [], wx w, 0, 0)
    obtain ⟨hc, H⟩ := am_ckE H
    refine am_go_blk 3 ⟨am_inv hc, (?_ : am_xgi sc D 103 o (17, [(0, .ref 3001001), (3, .int a3), (4, .int a4), (5, .int a5)], [.int ((am_byt.getD 1 []).getD a5.toNatClampNeg 0)], wx w, 0, 0))⟩
    refine am_go_blk 2 ⟨fun hc => ?_, fun hc => ?_⟩
    · have H := am_ie hc H
      show am_xgi sc D 103 o (25, [(0, .ref 3001001), (3, .int a3), (4, .int a4), (5, .int a5)], [], wx w, 0, 0)
      exact am_go_blk 2 (Hr7 a3 a4 (a5 + (nI 1)) w H)
    · have H := am_it hc H
      show am_xgi sc D 103 o (22, [(0, .ref 3001001), (3, .int a3), (4, .int a4), (5, .int a5)], [], wx w, 0, 0)
      exact am_go_blk 2 ⟨rfl, am_xfi H⟩
theorem TCL_JlatindexOfChar4cfef_3001001_7 {sc : Option (Nat × (Nat → Int32))} {D : Nat} {o : Int32 × am_W} : ∀ (n : Nat) (a3 : Int32) (a4 : Int32) (a5 : Int32) (w : am_W) , L_JlatindexOfChar4cfef_3001001_7 n a3 a4 a5 w = some o → am_xgi sc D 103 o (7, [(0, .ref 3001001), (3, .int a3), (4, .int a4), (5, .int a5)], [], wx w, 0, 0)
  | 0, _, _, _, _, H => by cases H
  | n + 1, a3, a4, a5, w, H => TC_JlatindexOfChar4cfef_3001001_7 (TCL_JlatindexOfChar4cfef_3001001_7 n) a3 a4 a5 w H
theorem TC_JlatindexOfChar4cfef_3001001 {sc : Option (Nat × (Nat → Int32))} {D : Nat} {o : Int32 × am_W} (a1 : Int32) (a2 : Int32) (a3 : Int32) (w : am_W) (H : F_JlatindexOfChar4cfef_3001001 a1 a2 a3 w = some o) : am_xgi sc D 103 o (0, [(0, .ref 3001001), (1, .int a1), (2, .int a2), (3, .int a3)], [], wx w, 0, 0) := by
  unfold F_JlatindexOfChar4cfef_3001001 at H
  exact am_go_blk 5 (TCL_JlatindexOfChar4cfef_3001001_7 am_NF a3 a1.toInt8.toInt32 a2 w H)
theorem MC_JlatindexOfChar4cfef_3001001 {sc : Option (Nat × (Nat → Int32))} {D : Nat} {o : Int32 × am_W} {a1 : Int32} {a2 : Int32} {a3 : Int32} {w : am_W} (H : F_JlatindexOfChar4cfef_3001001 a1 a2 a3 w = some o) : am_run sc (D + 1) 103 [.ref 3001001, .int a1, .int a2, .int a3] (wx w) (some (.int o.1)) (wx o.2) 0 0 :=
  am_run_of rfl (TC_JlatindexOfChar4cfef_3001001 a1 a2 a3 w H)
theorem TC_JlatindexOf4cfef_3001001 {sc : Option (Nat × (Nat → Int32))} {D : Nat} {o : Int32 × am_W} (a1 : Int32) (a2 : Int32) (a3 : Int32) (w : am_W) (H : F_JlatindexOf4cfef_3001001 a1 a2 a3 w = some o) : am_xgi sc (D + 1) 102 o (0, [(0, .ref 3001001), (1, .int a1), (2, .int a2), (3, .int a3)], [], wx w, 0, 0) := by
  unfold F_JlatindexOf4cfef_3001001 at H
  obtain ⟨q1, hqq1, H⟩ := am_bnE H
  refine am_go_blk 1 (?_ : am_xgi sc (D + 1) 102 o (1, [(0, .ref 3001001), (1, .int a1), (2, .int a2), (3, .int a3)], [.int a1], wx w, 0, 0))
  refine am_cls rfl rfl rfl (am_xcalli rfl (MC_JlatcanEncode9a6ad_ (D := D) hqq1) (?_ : am_xgi sc (D + 1) 102 o (4, [(0, .ref 3001001), (1, .int a1), (2, .int a2), (3, .int a3)], [.int q1.1], wx q1.2, 0, 0)))
  refine am_go_blk 1 ⟨fun hc => ?_, fun hc => ?_⟩
  · have H := am_ie hc H
    show am_xgi sc (D + 1) 102 o (9, [(0, .ref 3001001), (1, .int a1), (2, .int a2), (3, .int a3)], [], wx q1.2, 0, 0)
    refine am_go_blk 3 (?_ : am_xgi sc (D + 1) 102 o (14, [(0, .ref 3001001), (1, .int a1), (2, .int a2), (3, .int a3)], [.int (if a2 < (nI 0) then (nI 0) else a2)], wx q1.2, 0, 0))
    refine am_go_blk 5 (?_ : am_xgi sc (D + 1) 102 o (21, [(2, .int (if a2 < (nI 0) then (nI 0) else a2)), (0, .ref 3001001), (1, .int a1), (3, .int a3)], [.int (if (nI 8) < a3 then (nI 8) else a3)], wx q1.2, 0, 0))
    refine am_go_blk 4 ⟨fun hc => ?_, fun hc => ?_⟩
    · have H := am_it hc H
      show am_xgi sc (D + 1) 102 o (29, [(0, .ref 3001001), (1, .int a1), (2, .int (if a2 < (nI 0) then (nI 0) else a2)), (3, .int (if (nI 8) < a3 then (nI 8) else a3))], [], wx q1.2, 0, 0)
      obtain ⟨q2, hqq2, H⟩ := am_bnE H
      refine am_go_blk 4 (?_ : am_xgi sc (D + 1) 102 o (33, [(0, .ref 3001001), (1, .int a1), (2, .int (if a2 < (nI 0) then (nI 0) else a2)), (3, .int (if (nI 8) < a3 then (nI 8) else a3))], [.int (if (nI 8) < a3 then (nI 8) else a3), .int (if a2 < (nI 0) then (nI 0) else a2), .int a1, .ref 3001001], wx q1.2, 0, 0))
      refine am_cls rfl rfl rfl (am_xcalli rfl (MC_JlatindexOfChar4cfef_3001001 (D := D) hqq2) (?_ : am_xgi sc (D + 1) 102 o (36, [(0, .ref 3001001), (1, .int a1), (2, .int (if a2 < (nI 0) then (nI 0) else a2)), (3, .int (if (nI 8) < a3 then (nI 8) else a3))], [.int q2.1], wx q2.2, 0, 0)))
      exact am_go_blk 1 ⟨rfl, am_xfi H⟩
    · have H := am_ie hc H
      show am_xgi sc (D + 1) 102 o (27, [(3, .int (if (nI 8) < a3 then (nI 8) else a3)), (2, .int (if a2 < (nI 0) then (nI 0) else a2)), (0, .ref 3001001), (1, .int a1)], [], wx q1.2, 0, 0)
      exact am_go_blk 2 ⟨rfl, am_xfi H⟩
  · have H := am_it hc H
    show am_xgi sc (D + 1) 102 o (7, [(0, .ref 3001001), (1, .int a1), (2, .int a2), (3, .int a3)], [], wx q1.2, 0, 0)
    exact am_go_blk 2 ⟨rfl, am_xfi H⟩
theorem MC_JlatindexOf4cfef_3001001 {sc : Option (Nat × (Nat → Int32))} {D : Nat} {o : Int32 × am_W} {a1 : Int32} {a2 : Int32} {a3 : Int32} {w : am_W} (H : F_JlatindexOf4cfef_3001001 a1 a2 a3 w = some o) : am_run sc (D + 2) 102 [.ref 3001001, .int a1, .int a2, .int a3] (wx w) (some (.int o.1)) (wx o.2) 0 0 :=
  am_run_of rfl (TC_JlatindexOf4cfef_3001001 a1 a2 a3 w H)
theorem TC_JstrindexOf7cf53_3000001_36 {sc : Option (Nat × (Nat → Int32))} {D : Nat} {o : Int32 × am_W} (s0 : Int32) (w : am_W) (H : F_JstrindexOf7cf53_3000001_36 s0 w = some o) : am_xgi sc (D + 2) 90 o (36, [], [.int s0], wx w, 0, 0) := by
  unfold F_JstrindexOf7cf53_3000001_36 at H
  exact am_go_blk 1 ⟨rfl, am_xfi H⟩
theorem TC_JstrindexOf7cf53_3000001 {sc : Option (Nat × (Nat → Int32))} {D : Nat} {o : Int32 × am_W} (a1 : Int32) (a2 : Int32) (w : am_W) (H : F_JstrindexOf7cf53_3000001 a1 a2 w = some o) : am_xgi sc (D + 2) 90 o (0, [(0, .ref 3000001), (1, .int a1), (2, .int a2)], [], wx w, 0, 0) := by
  unfold F_JstrindexOf7cf53_3000001 at H
  obtain ⟨q1, hqq1, H⟩ := am_bnE H
  refine am_go_blk 1 (?_ : am_xgi sc (D + 2) 90 o (1, [(0, .ref 3000001), (1, .int a1), (2, .int a2)], [.ref 3000001], wx w, 0, 0))
  refine am_invs rfl rfl rfl (am_xcalli rfl (MC_JstrisLatin1aae02_3000001 (D := D + 1) hqq1) (?_ : am_xgi sc (D + 2) 90 o (4, [(0, .ref 3000001), (1, .int a1), (2, .int a2)], [.int q1.1], wx q1.2, 0, 0)))
  refine am_go_blk 1 ⟨fun hc => ?_, fun hc => ?_⟩
  · have H := am_it hc H
    show am_xgi sc (D + 2) 90 o (23, [(0, .ref 3000001), (1, .int a1), (2, .int a2)], [], wx q1.2, 0, 0)
    obtain ⟨q2, hqq2, H⟩ := am_bnE H
    refine am_go_blk 5 (?_ : am_xgi sc (D + 2) 90 o (30, [(0, .ref 3000001), (1, .int a1), (2, .int a2)], [.ref 3000001, .int a2, .int a1, .ref 3001001], wx q1.2, 0, 0))
    refine am_invs rfl rfl rfl (am_xcalli rfl (MC_Jstrlength8abf5_3000001 (D := D) hqq2) (?_ : am_xgi sc (D + 2) 90 o (33, [(0, .ref 3000001), (1, .int a1), (2, .int a2)], [.int q2.1, .int a2, .int a1, .ref 3001001], wx q2.2, 0, 0)))
    cases H
  · have H := am_ie hc H
    show am_xgi sc (D + 2) 90 o (7, [(0, .ref 3000001), (1, .int a1), (2, .int a2)], [], wx q1.2, 0, 0)
    obtain ⟨q3, hqq3, H⟩ := am_bnE H
    refine am_go_blk 5 (?_ : am_xgi sc (D + 2) 90 o (14, [(0, .ref 3000001), (1, .int a1), (2, .int a2)], [.ref 3000001, .int a2, .int a1, .ref 3001001], wx q1.2, 0, 0))
    refine am_invs rfl rfl rfl (am_xcalli rfl (MC_Jstrlength8abf5_3000001 (D := D) hqq3) (?_ : am_xgi sc (D + 2) 90 o (17, [(0, .ref 3000001), (1, .int a1), (2, .int a2)], [.int q3.1, .int a2, .int a1, .ref 3001001], wx q3.2, 0, 0)))
    obtain ⟨q4, hqq4, H⟩ := am_bnE H
    refine am_cls rfl rfl rfl (am_xcalli rfl (MC_JlatindexOf4cfef_3001001 (D := D) hqq4) (?_ : am_xgi sc (D + 2) 90 o (20, [(0, .ref 3000001), (1, .int a1), (2, .int a2)], [.int q4.1], wx q4.2, 0, 0)))
    exact am_go_blk 1 (TC_JstrindexOf7cf53_3000001_36 q4.1 q4.2 H)
theorem MC_JstrindexOf7cf53_3000001 {sc : Option (Nat × (Nat → Int32))} {D : Nat} {o : Int32 × am_W} {a1 : Int32} {a2 : Int32} {w : am_W} (H : F_JstrindexOf7cf53_3000001 a1 a2 w = some o) : am_run sc (D + 3) 90 [.ref 3000001, .int a1, .int a2] (wx w) (some (.int o.1)) (wx o.2) 0 0 :=
  am_run_of rfl (TC_JstrindexOf7cf53_3000001 a1 a2 w H)
theorem TC_JstrindexOf0f7a4_3000001 {sc : Option (Nat × (Nat → Int32))} {D : Nat} {o : Int32 × am_W} (a1 : Int32) (w : am_W) (H : F_JstrindexOf0f7a4_3000001 a1 w = some o) : am_xgi sc (D + 3) 89 o (0, [(0, .ref 3000001), (1, .int a1)], [], wx w, 0, 0) := by
  unfold F_JstrindexOf0f7a4_3000001 at H
  obtain ⟨q1, hqq1, H⟩ := am_bnE H
  refine am_go_blk 3 (?_ : am_xgi sc (D + 3) 89 o (3, [(0, .ref 3000001), (1, .int a1)], [.int (nI 0), .int a1, .ref 3000001], wx w, 0, 0))
  refine am_invs rfl rfl rfl (am_xcalli rfl (MC_JstrindexOf7cf53_3000001 (D := D) hqq1) (?_ : am_xgi sc (D + 3) 89 o (6, [(0, .ref 3000001), (1, .int a1)], [.int q1.1], wx q1.2, 0, 0)))
  exact am_go_blk 1 ⟨rfl, am_xfi H⟩
theorem MC_JstrindexOf0f7a4_3000001 {sc : Option (Nat × (Nat → Int32))} {D : Nat} {o : Int32 × am_W} {a1 : Int32} {w : am_W} (H : F_JstrindexOf0f7a4_3000001 a1 w = some o) : am_run sc (D + 4) 89 [.ref 3000001, .int a1] (wx w) (some (.int o.1)) (wx o.2) 0 0 :=
  am_run_of rfl (TC_JstrindexOf0f7a4_3000001 a1 w H)
theorem TC_Read_scanNumber_94 {sc : Option (Nat × (Nat → Int32))} {D : Nat} {o : Int32 × am_W} (s0 : Int32) (w : am_W) (H : F_Read_scanNumber_94 s0 w = some o) : am_xgi sc (D + 1) 43 o (94, [], [.int s0], wx w, 0, 0) := by
  unfold F_Read_scanNumber_94 at H
  exact am_go_blk 1 ⟨rfl, am_xfi H⟩
theorem TC_Read_scanNumber_72 {sc : Option (Nat × (Nat → Int32))} {D : Nat} {o : Int32 × am_W} (w : am_W) (H : F_Read_scanNumber_72 w = some o) : am_xgi sc (D + 1) 43 o (72, [(0, .ref 18)], [], wx w, 0, 0) := by
  unfold F_Read_scanNumber_72 at H
  refine am_go_blk 7 ⟨fun hc => ?_, fun hc => ?_⟩
  · have H := am_it hc H
    show am_xgi sc (D + 1) 43 o (91, [], [], wx w, 0, 0)
    exact am_go_blk 1 (TC_Read_scanNumber_94 (nI 307) w H)
  · have H := am_ie hc H
    show am_xgi sc (D + 1) 43 o (85, [(0, .ref 18)], [], wx w, 0, 0)
    exact am_go_blk 2 (TC_Read_scanNumber_94 (nI 309) w H)
theorem TC_Read_scanNumber_5 {sc : Option (Nat × (Nat → Int32))} {D : Nat} {o : Int32 × am_W} {r5 : am_W → Option (Int32 × am_W)} (Hr5 : ∀ (w : am_W) , r5 w = some o → am_xgi sc (D + 1) 43 o (5, [(0, .ref 18)], [], wx w, 0, 0)) (w : am_W) (H : F_Read_scanNumber_5 r5 w = some o) : am_xgi sc (D + 1) 43 o (5, [(0, .ref 18)], [], wx w, 0, 0) := by
  unfold F_Read_scanNumber_5 at H
  refine am_go_blk 5 ⟨fun hc => ?_, fun hc => ?_⟩
  · have H := am_it hc H
    exact TC_Read_scanNumber_72 w H
  · have H := am_ie hc H
    show am_xgi sc (D + 1) 43 o (16, [(0, .ref 18)], [], wx w, 0, 0)
    obtain ⟨hc, H⟩ := am_ckE H
    refine am_go_blk 5 ⟨am_inv hc, (?_ : am_xgi sc (D + 1) 43 o (25, [(0, .ref 18)], [.int (w.1 19 (w.1 18 2).toNatClampNeg)], wx w, 0, 0))⟩
    obtain ⟨q2, hqq2, H⟩ := am_bnE H
    refine am_go_blk 2 (?_ : am_xgi sc (D + 1) 43 o (29, [(0, .ref 18)], [.int (nI 57), .int (nI 48), .int (w.1 19 (w.1 18 2).toNatClampNeg)], wx w, 0, 0))
    refine am_cls rfl rfl rfl (am_xcalli rfl (MC_Read_isIn (D := D) hqq2) (?_ : am_xgi sc (D + 1) 43 o (32, [(0, .ref 18)], [.int q2.1], wx q2.2, 0, 0)))
    refine am_go_blk 1 ⟨fun hc => ?_, fun hc => ?_⟩
    · have H := am_it hc H
      exact TC_Read_scanNumber_72 q2.2 H
    · have H := am_ie hc H
      show am_xgi sc (D + 1) 43 o (35, [(0, .ref 18)], [], wx q2.2, 0, 0)
      obtain ⟨hc, H⟩ := am_ckE H
      refine am_go_blk 10 ⟨am_inv hc, (?_ : am_xgi sc (D + 1) 43 o (52, [(0, .ref 18)], [.int (q2.2.1 19 (q2.2.1 18 2).toNatClampNeg), .int ((q2.2.1 18 4) * (nI 10)), .ref 18], wx q2.2, 0, 0))⟩
      obtain ⟨w3, ew3, H⟩ := am_ltE H
      refine am_go_blk 4 ⟨rfl, rfl, am_hp (wx_f18_4 ew3) (?_ : am_xgi sc (D + 1) 43 o (59, [(0, .ref 18)], [], wx w3, 0, 0))⟩
      obtain ⟨w4, ew4, H⟩ := am_ltE H
      refine am_go_blk 6 ⟨rfl, rfl, am_hp (wx_f18_2 ew4) (?_ : am_xgi sc (D + 1) 43 o (69, [(0, .ref 18)], [], wx w4, 0, 0))⟩
      exact am_go_blk 1 (Hr5 w4 H)
theorem TCL_Read_scanNumber_5 {sc : Option (Nat × (Nat → Int32))} {D : Nat} {o : Int32 × am_W} : ∀ (n : Nat) (w : am_W) , L_Read_scanNumber_5 n w = some o → am_xgi sc (D + 1) 43 o (5, [(0, .ref 18)], [], wx w, 0, 0)
  | 0, _, H => by cases H
  | n + 1, w, H => TC_Read_scanNumber_5 (TCL_Read_scanNumber_5 n) w H
theorem TC_Read_scanNumber {sc : Option (Nat × (Nat → Int32))} {D : Nat} {o : Int32 × am_W} (w : am_W) (H : F_Read_scanNumber w = some o) : am_xgi sc (D + 1) 43 o (0, [(0, .ref 18)], [], wx w, 0, 0) := by
  unfold F_Read_scanNumber at H
  obtain ⟨w1, ew1, H⟩ := am_ltE H
  refine am_go_blk 3 ⟨rfl, rfl, am_hp (wx_f18_4 ew1) (?_ : am_xgi sc (D + 1) 43 o (5, [(0, .ref 18)], [], wx w1, 0, 0))⟩
  exact TCL_Read_scanNumber_5 am_NF w1 H
theorem MC_Read_scanNumber {sc : Option (Nat × (Nat → Int32))} {D : Nat} {o : Int32 × am_W} {w : am_W} (H : F_Read_scanNumber w = some o) : am_run sc (D + 2) 43 [.ref 18] (wx w) (some (.int o.1)) (wx o.2) 0 0 :=
  am_run_of rfl (TC_Read_scanNumber w H)
theorem TC_Jstrcoder7d493_3000002_14 {sc : Option (Nat × (Nat → Int32))} {D : Nat} {o : Int32 × am_W} (s0 : Int32) (w : am_W) (H : F_Jstrcoder7d493_3000002_14 s0 w = some o) : am_xgi sc D 93 o (14, [], [.int s0], wx w, 0, 0) := by
  unfold F_Jstrcoder7d493_3000002_14 at H
  obtain ⟨hc, H⟩ := am_ckE H
  exact am_go_blk 1 ⟨am_byE hc, am_xfi H⟩
theorem TC_Jstrcoder7d493_3000002 {sc : Option (Nat × (Nat → Int32))} {D : Nat} {o : Int32 × am_W} (w : am_W) (H : F_Jstrcoder7d493_3000002 w = some o) : am_xgi sc D 93 o (0, [(0, .ref 3000002)], [], wx w, 0, 0) := by
  unfold F_Jstrcoder7d493_3000002 at H
  refine am_go_blk 2 ⟨fun hc => ?_, fun hc => ?_⟩
  · have H := am_it hc H
    show am_xgi sc D 93 o (13, [], [], wx w, 0, 0)
    exact am_go_blk 1 (TC_Jstrcoder7d493_3000002_14 (nI 1) w H)
  · have H := am_ie hc H
    show am_xgi sc D 93 o (6, [(0, .ref 3000002)], [], wx w, 0, 0)
    exact am_go_blk 3 (TC_Jstrcoder7d493_3000002_14 (nI 0) w H)
theorem MC_Jstrcoder7d493_3000002 {sc : Option (Nat × (Nat → Int32))} {D : Nat} {o : Int32 × am_W} {w : am_W} (H : F_Jstrcoder7d493_3000002 w = some o) : am_run sc (D + 1) 93 [.ref 3000002] (wx w) (some (.int o.1)) (wx o.2) 0 0 :=
  am_run_of rfl (TC_Jstrcoder7d493_3000002 w H)
theorem TC_Jstrlength8abf5_3000002 {sc : Option (Nat × (Nat → Int32))} {D : Nat} {o : Int32 × am_W} (w : am_W) (H : F_Jstrlength8abf5_3000002 w = some o) : am_xgi sc (D + 1) 87 o (0, [(0, .ref 3000002)], [], wx w, 0, 0) := by
  unfold F_Jstrlength8abf5_3000002 at H
  obtain ⟨q1, hqq1, H⟩ := am_bnE H
  refine am_go_blk 4 (?_ : am_xgi sc (D + 1) 87 o (6, [(0, .ref 3000002)], [.ref 3000002, .int (nI 59)], wx w, 0, 0))
  refine am_invs rfl rfl rfl (am_xcalli rfl (MC_Jstrcoder7d493_3000002 (D := D) hqq1) (?_ : am_xgi sc (D + 1) 87 o (9, [(0, .ref 3000002)], [.int q1.1, .int (nI 59)], wx q1.2, 0, 0)))
  exact am_go_blk 2 ⟨rfl, am_xfi H⟩
theorem MC_Jstrlength8abf5_3000002 {sc : Option (Nat × (Nat → Int32))} {D : Nat} {o : Int32 × am_W} {w : am_W} (H : F_Jstrlength8abf5_3000002 w = some o) : am_run sc (D + 2) 87 [.ref 3000002] (wx w) (some (.int o.1)) (wx o.2) 0 0 :=
  am_run_of rfl (TC_Jstrlength8abf5_3000002 w H)
theorem TC_JstrisLatin1aae02_3000002_18 {sc : Option (Nat × (Nat → Int32))} {D : Nat} {o : Int32 × am_W} (s0 : Int32) (w : am_W) (H : F_JstrisLatin1aae02_3000002_18 s0 w = some o) : am_xgi sc D 94 o (18, [], [.int s0], wx w, 0, 0) := by
  unfold F_JstrisLatin1aae02_3000002_18 at H
  obtain ⟨hc, H⟩ := am_ckE H
  exact am_go_blk 1 ⟨am_boE hc, am_xfi H⟩
theorem TC_JstrisLatin1aae02_3000002_17 {sc : Option (Nat × (Nat → Int32))} {D : Nat} {o : Int32 × am_W} (w : am_W) (H : F_JstrisLatin1aae02_3000002_17 w = some o) : am_xgi sc D 94 o (17, [], [], wx w, 0, 0) := by
  unfold F_JstrisLatin1aae02_3000002_17 at H
  exact am_go_blk 1 (TC_JstrisLatin1aae02_3000002_18 (nI 0) w H)
theorem TC_JstrisLatin1aae02_3000002 {sc : Option (Nat × (Nat → Int32))} {D : Nat} {o : Int32 × am_W} (w : am_W) (H : F_JstrisLatin1aae02_3000002 w = some o) : am_xgi sc D 94 o (0, [(0, .ref 3000002)], [], wx w, 0, 0) := by
  unfold F_JstrisLatin1aae02_3000002 at H
  refine am_go_blk 2 ⟨fun hc => ?_, fun hc => ?_⟩
  · have H := am_it hc H
    exact TC_JstrisLatin1aae02_3000002_17 w H
  · have H := am_ie hc H
    show am_xgi sc D 94 o (6, [(0, .ref 3000002)], [], wx w, 0, 0)
    refine am_go_blk 3 ⟨fun hc => ?_, fun hc => ?_⟩
    · have H := am_ie hc H
      exact TC_JstrisLatin1aae02_3000002_17 w H
    · have H := am_it hc H
      show am_xgi sc D 94 o (13, [(0, .ref 3000002)], [], wx w, 0, 0)
      exact am_go_blk 2 (TC_JstrisLatin1aae02_3000002_18 (nI 1) w H)
theorem MC_JstrisLatin1aae02_3000002 {sc : Option (Nat × (Nat → Int32))} {D : Nat} {o : Int32 × am_W} {w : am_W} (H : F_JstrisLatin1aae02_3000002 w = some o) : am_run sc (D + 1) 94 [.ref 3000002] (wx w) (some (.int o.1)) (wx o.2) 0 0 :=
  am_run_of rfl (TC_JstrisLatin1aae02_3000002 w H)
theorem TC_JlatcharAt3b067_3001002 {sc : Option (Nat × (Nat → Int32))} {D : Nat} {o : Int32 × am_W} (a1 : Int32) (w : am_W) (H : F_JlatcharAt3b067_3001002 a1 w = some o) : am_xgi sc D 100 o (0, [(0, .ref 3001002), (1, .int a1)], [], wx w, 0, 0) := by
  unfold F_JlatcharAt3b067_3001002 at H
  obtain ⟨hc, H⟩ := am_ckE H
  refine am_go_blk 4 (am_cixE hc (?_ : am_xgi sc D 100 o (6, [(0, .ref 3001002), (1, .int a1)], [], wx w, 0, 0)))
  obtain ⟨hc, H⟩ := am_ckE H
  refine am_go_blk 3 ⟨am_inv hc, (?_ : am_xgi sc D 100 o (9, [(0, .ref 3001002), (1, .int a1)], [.int ((am_byt.getD 2 []).getD a1.toNatClampNeg 0)], wx w, 0, 0))⟩
  obtain ⟨hc, H⟩ := am_ckE H
  exact am_go_blk 4 ⟨am_chE hc, am_xfi H⟩
theorem MC_JlatcharAt3b067_3001002 {sc : Option (Nat × (Nat → Int32))} {D : Nat} {o : Int32 × am_W} {a1 : Int32} {w : am_W} (H : F_JlatcharAt3b067_3001002 a1 w = some o) : am_run sc (D + 1) 100 [.ref 3001002, .int a1] (wx w) (some (.int o.1)) (wx o.2) 0 0 :=
  am_run_of rfl (TC_JlatcharAt3b067_3001002 a1 w H)
theorem TC_JstrcharAt5068e_3000002 {sc : Option (Nat × (Nat → Int32))} {D : Nat} {o : Int32 × am_W} (a1 : Int32) (w : am_W) (H : F_JstrcharAt5068e_3000002 a1 w = some o) : am_xgi sc (D + 1) 88 o (0, [(0, .ref 3000002), (1, .int a1)], [], wx w, 0, 0) := by
  unfold F_JstrcharAt5068e_3000002 at H
  obtain ⟨q1, hqq1, H⟩ := am_bnE H
  refine am_go_blk 1 (?_ : am_xgi sc (D + 1) 88 o (1, [(0, .ref 3000002), (1, .int a1)], [.ref 3000002], wx w, 0, 0))
  refine am_invs rfl rfl rfl (am_xcalli rfl (MC_JstrisLatin1aae02_3000002 (D := D) hqq1) (?_ : am_xgi sc (D + 1) 88 o (4, [(0, .ref 3000002), (1, .int a1)], [.int q1.1], wx q1.2, 0, 0)))
  refine am_go_blk 1 ⟨fun hc => ?_, fun hc => ?_⟩
  · have H := am_it hc H
    show am_xgi sc (D + 1) 88 o (16, [(0, .ref 3000002), (1, .int a1)], [], wx q1.2, 0, 0)
    cases H
  · have H := am_ie hc H
    show am_xgi sc (D + 1) 88 o (7, [(0, .ref 3000002), (1, .int a1)], [], wx q1.2, 0, 0)
    obtain ⟨q2, hqq2, H⟩ := am_bnE H
    refine am_go_blk 3 (?_ : am_xgi sc (D + 1) 88 o (12, [(0, .ref 3000002), (1, .int a1)], [.int a1, .ref 3001002], wx q1.2, 0, 0))
    refine am_cls rfl rfl rfl (am_xcalli rfl (MC_JlatcharAt3b067_3001002 (D := D) hqq2) (?_ : am_xgi sc (D + 1) 88 o (15, [(0, .ref 3000002), (1, .int a1)], [.int q2.1], wx q2.2, 0, 0)))
    obtain ⟨hc, H⟩ := am_ckE H
    exact am_go_blk 1 ⟨am_chE hc, am_xfi H⟩
theorem MC_JstrcharAt5068e_3000002 {sc : Option (Nat × (Nat → Int32))} {D : Nat} {o : Int32 × am_W} {a1 : Int32} {w : am_W} (H : F_JstrcharAt5068e_3000002 a1 w = some o) : am_run sc (D + 2) 88 [.ref 3000002, .int a1] (wx w) (some (.int o.1)) (wx o.2) 0 0 :=
  am_run_of rfl (TC_JstrcharAt5068e_3000002 a1 w H)
theorem TC_Read_wordNumber_97 {sc : Option (Nat × (Nat → Int32))} {D : Nat} {o : Int32 × am_W} {r12 : Int32 → Int32 → Int32 → Int32 → am_W → Option (Int32 × am_W)} (Hr12 : ∀ (a1 : Int32) (a2 : Int32) (a3 : Int32) (a4 : Int32) (w : am_W) , r12 a1 a2 a3 a4 w = some o → am_xgi sc (D + 2) 44 o (12, [(0, .ref 18), (1, .int a1), (2, .int a2), (3, .int a3), (4, .int a4)], [], wx w, 0, 0)) (a1 : Int32) (a2 : Int32) (a3 : Int32) (a4 : Int32) (w : am_W) (H : F_Read_wordNumber_97 r12 a1 a2 a3 a4 w = some o) : am_xgi sc (D + 2) 44 o (97, [(0, .ref 18), (1, .int a1), (2, .int a2), (3, .int a3), (4, .int a4)], [], wx w, 0, 0) := by
  unfold F_Read_wordNumber_97 at H
  exact am_go_blk 2 (Hr12 a1 a2 a3 (a4 + (nI 1)) w H)
theorem TC_Read_wordNumber_87 {sc : Option (Nat × (Nat → Int32))} {D : Nat} {o : Int32 × am_W} {r12 : Int32 → Int32 → Int32 → Int32 → am_W → Option (Int32 × am_W)} (Hr12 : ∀ (a1 : Int32) (a2 : Int32) (a3 : Int32) (a4 : Int32) (w : am_W) , r12 a1 a2 a3 a4 w = some o → am_xgi sc (D + 2) 44 o (12, [(0, .ref 18), (1, .int a1), (2, .int a2), (3, .int a3), (4, .int a4)], [], wx w, 0, 0)) (a1 : Int32) (a4 : Int32) (w : am_W) (H : F_Read_wordNumber_87 r12 a1 a4 w = some o) : am_xgi sc (D + 2) 44 o (87, [(0, .ref 18), (1, .int a1), (4, .int a4)], [], wx w, 0, 0) := by
  unfold F_Read_wordNumber_87 at H
  exact am_go_blk 6 (TC_Read_wordNumber_97 Hr12 (a1 + (nI 1)) (w.1 18 1) (nI 1) a4 w H)
theorem TC_Read_wordNumber_66 {sc : Option (Nat × (Nat → Int32))} {D : Nat} {o : Int32 × am_W} {r12 : Int32 → Int32 → Int32 → Int32 → am_W → Option (Int32 × am_W)} (Hr12 : ∀ (a1 : Int32) (a2 : Int32) (a3 : Int32) (a4 : Int32) (w : am_W) , r12 a1 a2 a3 a4 w = some o → am_xgi sc (D + 2) 44 o (12, [(0, .ref 18), (1, .int a1), (2, .int a2), (3, .int a3), (4, .int a4)], [], wx w, 0, 0)) (a1 : Int32) (a2 : Int32) (a4 : Int32) (s0 : Int32) (w : am_W) (H : F_Read_wordNumber_66 r12 a1 a2 a4 s0 w = some o) : am_xgi sc (D + 2) 44 o (66, [(0, .ref 18), (1, .int a1), (2, .int a2), (4, .int a4)], [.int s0], wx w, 0, 0) := by
  unfold F_Read_wordNumber_66 at H
  exact am_go_blk 3 (TC_Read_wordNumber_97 Hr12 a1 (a2 + (nI 1)) s0 a4 w H)
theorem TC_Read_wordNumber_65 {sc : Option (Nat × (Nat → Int32))} {D : Nat} {o : Int32 × am_W} {r12 : Int32 → Int32 → Int32 → Int32 → am_W → Option (Int32 × am_W)} (Hr12 : ∀ (a1 : Int32) (a2 : Int32) (a3 : Int32) (a4 : Int32) (w : am_W) , r12 a1 a2 a3 a4 w = some o → am_xgi sc (D + 2) 44 o (12, [(0, .ref 18), (1, .int a1), (2, .int a2), (3, .int a3), (4, .int a4)], [], wx w, 0, 0)) (a1 : Int32) (a2 : Int32) (a4 : Int32) (w : am_W) (H : F_Read_wordNumber_65 r12 a1 a2 a4 w = some o) : am_xgi sc (D + 2) 44 o (65, [(0, .ref 18), (1, .int a1), (2, .int a2), (4, .int a4)], [], wx w, 0, 0) := by
  unfold F_Read_wordNumber_65 at H
  exact am_go_blk 1 (TC_Read_wordNumber_66 Hr12 a1 a2 a4 (nI 0) w H)
theorem TC_Read_wordNumber_12 {sc : Option (Nat × (Nat → Int32))} {D : Nat} {o : Int32 × am_W} {r12 : Int32 → Int32 → Int32 → Int32 → am_W → Option (Int32 × am_W)} (Hr12 : ∀ (a1 : Int32) (a2 : Int32) (a3 : Int32) (a4 : Int32) (w : am_W) , r12 a1 a2 a3 a4 w = some o → am_xgi sc (D + 2) 44 o (12, [(0, .ref 18), (1, .int a1), (2, .int a2), (3, .int a3), (4, .int a4)], [], wx w, 0, 0)) (a1 : Int32) (a2 : Int32) (a3 : Int32) (a4 : Int32) (w : am_W) (H : F_Read_wordNumber_12 r12 a1 a2 a3 a4 w = some o) : am_xgi sc (D + 2) 44 o (12, [(0, .ref 18), (1, .int a1), (2, .int a2), (3, .int a3), (4, .int a4)], [], wx w, 0, 0) := by
  unfold F_Read_wordNumber_12 at H
  obtain ⟨q1, hqq1, H⟩ := am_bnE H
  refine am_go_blk 2 (?_ : am_xgi sc (D + 2) 44 o (16, [(0, .ref 18), (1, .int a1), (2, .int a2), (3, .int a3), (4, .int a4)], [.ref 3000002, .int a4], wx w, 0, 0))
  refine am_invs rfl rfl rfl (am_xcalli rfl (MC_Jstrlength8abf5_3000002 (D := D) hqq1) (?_ : am_xgi sc (D + 2) 44 o (19, [(0, .ref 18), (1, .int a1), (2, .int a2), (3, .int a3), (4, .int a4)], [.int q1.1, .int a4], wx q1.2, 0, 0)))
  refine am_go_blk 1 ⟨fun hc => ?_, fun hc => ?_⟩
  · have H := am_it hc H
    show am_xgi sc (D + 2) 44 o (103, [], [], wx q1.2, 0, 0)
    exact am_go_blk 2 ⟨rfl, am_xfi H⟩
  · have H := am_ie hc H
    show am_xgi sc (D + 2) 44 o (22, [(0, .ref 18), (1, .int a1), (2, .int a2), (3, .int a3), (4, .int a4)], [], wx q1.2, 0, 0)
    obtain ⟨q2, hqq2, H⟩ := am_bnE H
    refine am_go_blk 2 (?_ : am_xgi sc (D + 2) 44 o (26, [(0, .ref 18), (1, .int a1), (2, .int a2), (3, .int a3), (4, .int a4)], [.int a4, .ref 3000002], wx q1.2, 0, 0))
    refine am_invs rfl rfl rfl (am_xcalli rfl (MC_JstrcharAt5068e_3000002 (D := D) hqq2) (?_ : am_xgi sc (D + 2) 44 o (29, [(0, .ref 18), (1, .int a1), (2, .int a2), (3, .int a3), (4, .int a4)], [.int q2.1], wx q2.2, 0, 0)))
    refine am_go_blk 4 ⟨fun hc => ?_, fun hc => ?_⟩
    · have H := am_it hc H
      show am_xgi sc (D + 2) 44 o (73, [(0, .ref 18), (1, .int a1), (2, .int a2), (3, .int a3), (4, .int a4)], [], wx q2.2, 0, 0)
      refine am_go_blk 2 ⟨fun hc => ?_, fun hc => ?_⟩
      · have H := am_it hc H
        exact TC_Read_wordNumber_87 Hr12 a1 a4 q2.2 H
      · have H := am_ie hc H
        show am_xgi sc (D + 2) 44 o (77, [(0, .ref 18), (1, .int a1), (2, .int a2), (3, .int a3), (4, .int a4)], [], wx q2.2, 0, 0)
        refine am_go_blk 4 ⟨fun hc => ?_, fun hc => ?_⟩
        · have H := am_ie hc H
          exact TC_Read_wordNumber_87 Hr12 a1 a4 q2.2 H
        · have H := am_it hc H
          show am_xgi sc (D + 2) 44 o (85, [(0, .ref 18), (1, .int a1), (2, .int a2), (3, .int a3), (4, .int a4)], [], wx q2.2, 0, 0)
          exact am_go_blk 2 ⟨rfl, am_xfi H⟩
    · have H := am_ie hc H
      show am_xgi sc (D + 2) 44 o (38, [(5, .int q2.1), (0, .ref 18), (1, .int a1), (2, .int a2), (3, .int a3), (4, .int a4)], [], wx q2.2, 0, 0)
      refine am_go_blk 2 ⟨fun hc => ?_, fun hc => ?_⟩
      · have H := am_it hc H
        exact TC_Read_wordNumber_65 Hr12 a1 a2 a4 q2.2 H
      · have H := am_ie hc H
        show am_xgi sc (D + 2) 44 o (42, [(5, .int q2.1), (0, .ref 18), (1, .int a1), (2, .int a2), (3, .int a3), (4, .int a4)], [], wx q2.2, 0, 0)
        refine am_go_blk 4 ⟨fun hc => ?_, fun hc => ?_⟩
        · have H := am_it hc H
          exact TC_Read_wordNumber_65 Hr12 a1 a2 a4 q2.2 H
        · have H := am_ie hc H
          show am_xgi sc (D + 2) 44 o (50, [(5, .int q2.1), (0, .ref 18), (1, .int a1), (2, .int a2), (3, .int a3), (4, .int a4)], [], wx q2.2, 0, 0)
          obtain ⟨hc, H⟩ := am_ckE H
          refine am_go_blk 4 ⟨am_inv hc, (?_ : am_xgi sc (D + 2) 44 o (56, [(5, .int q2.1), (0, .ref 18), (1, .int a1), (2, .int a2), (3, .int a3), (4, .int a4)], [.int (q2.2.1 19 a2.toNatClampNeg)], wx q2.2, 0, 0))⟩
          refine am_go_blk 2 ⟨fun hc => ?_, fun hc => ?_⟩
          · have H := am_ie hc H
            exact TC_Read_wordNumber_65 Hr12 a1 a2 a4 q2.2 H
          · have H := am_it hc H
            show am_xgi sc (D + 2) 44 o (61, [(5, .int q2.1), (0, .ref 18), (1, .int a1), (2, .int a2), (3, .int a3), (4, .int a4)], [], wx q2.2, 0, 0)
            exact am_go_blk 2 (TC_Read_wordNumber_66 Hr12 a1 a2 a4 (nI 1) q2.2 H)
theorem TCL_Read_wordNumber_12 {sc : Option (Nat × (Nat → Int32))} {D : Nat} {o : Int32 × am_W} : ∀ (n : Nat) (a1 : Int32) (a2 : Int32) (a3 : Int32) (a4 : Int32) (w : am_W) , L_Read_wordNumber_12 n a1 a2 a3 a4 w = some o → am_xgi sc (D + 2) 44 o (12, [(0, .ref 18), (1, .int a1), (2, .int a2), (3, .int a3), (4, .int a4)], [], wx w, 0, 0)
  | 0, _, _, _, _, _, H => by cases H
  | n + 1, a1, a2, a3, a4, w, H => TC_Read_wordNumber_12 (TCL_Read_wordNumber_12 n) a1 a2 a3 a4 w H
theorem TC_Read_wordNumber {sc : Option (Nat × (Nat → Int32))} {D : Nat} {o : Int32 × am_W} (w : am_W) (H : F_Read_wordNumber w = some o) : am_xgi sc (D + 2) 44 o (0, [(0, .ref 18)], [], wx w, 0, 0) := by
  unfold F_Read_wordNumber at H
  exact am_go_blk 9 (TCL_Read_wordNumber_12 am_NF (nI 0) (w.1 18 1) (nI 1) (nI 0) w H)
theorem MC_Read_wordNumber {sc : Option (Nat × (Nat → Int32))} {D : Nat} {o : Int32 × am_W} {w : am_W} (H : F_Read_wordNumber w = some o) : am_run sc (D + 3) 44 [.ref 18] (wx w) (some (.int o.1)) (wx o.2) 0 0 :=
  am_run_of rfl (TC_Read_wordNumber w H)
theorem TC_Read_scanWord_81 {sc : Option (Nat × (Nat → Int32))} {D : Nat} {o : Int32 × am_W} (s0 : Int32) (w : am_W) (H : F_Read_scanWord_81 s0 w = some o) : am_xgi sc (D + 3) 42 o (81, [], [.int s0], wx w, 0, 0) := by
  unfold F_Read_scanWord_81 at H
  exact am_go_blk 1 ⟨rfl, am_xfi H⟩
theorem TC_Read_scanWord_43 {sc : Option (Nat × (Nat → Int32))} {D : Nat} {o : Int32 × am_W} (w : am_W) (H : F_Read_scanWord_43 w = some o) : am_xgi sc (D + 3) 42 o (43, [(0, .ref 18)], [], wx w, 0, 0) := by
  unfold F_Read_scanWord_43 at H
  obtain ⟨q1, hqq1, H⟩ := am_bnE H
  refine am_go_blk 1 (?_ : am_xgi sc (D + 3) 42 o (44, [(0, .ref 18)], [.ref 18], wx w, 0, 0))
  refine am_invd rfl rfl rfl rfl (am_xcalli rfl (MC_Read_wordNumber (D := D) hqq1) (?_ : am_xgi sc (D + 3) 42 o (47, [(0, .ref 18)], [.int q1.1], wx q1.2, 0, 0)))
  refine am_go_blk 3 ⟨fun hc => ?_, fun hc => ?_⟩
  · have H := am_it hc H
    show am_xgi sc (D + 3) 42 o (56, [(0, .ref 18), (1, .int q1.1)], [], wx q1.2, 0, 0)
    obtain ⟨w2, ew2, H⟩ := am_ltE H
    refine am_go_blk 5 ⟨rfl, rfl, am_hp (wx_f18_4 ew2) (?_ : am_xgi sc (D + 3) 42 o (64, [(0, .ref 18), (1, .int q1.1)], [], wx w2, 0, 0))⟩
    refine am_go_blk 3 ⟨fun hc => ?_, fun hc => ?_⟩
    · have H := am_it hc H
      show am_xgi sc (D + 3) 42 o (78, [], [], wx w2, 0, 0)
      exact am_go_blk 1 (TC_Read_scanWord_81 (nI 306) w2 H)
    · have H := am_ie hc H
      show am_xgi sc (D + 3) 42 o (70, [(0, .ref 18), (1, .int q1.1)], [], wx w2, 0, 0)
      exact am_go_blk 4 (TC_Read_scanWord_81 ((nI 300) + q1.1) w2 H)
  · have H := am_ie hc H
    show am_xgi sc (D + 3) 42 o (52, [(1, .int q1.1), (0, .ref 18)], [], wx q1.2, 0, 0)
    exact am_go_blk 2 ⟨rfl, am_xfi H⟩
theorem TC_Read_scanWord_0 {sc : Option (Nat × (Nat → Int32))} {D : Nat} {o : Int32 × am_W} {r0 : am_W → Option (Int32 × am_W)} (Hr0 : ∀ (w : am_W) , r0 w = some o → am_xgi sc (D + 3) 42 o (0, [(0, .ref 18)], [], wx w, 0, 0)) (w : am_W) (H : F_Read_scanWord_0 r0 w = some o) : am_xgi sc (D + 3) 42 o (0, [(0, .ref 18)], [], wx w, 0, 0) := by
  unfold F_Read_scanWord_0 at H
  refine am_go_blk 5 ⟨fun hc => ?_, fun hc => ?_⟩
  · have H := am_it hc H
    exact TC_Read_scanWord_43 w H
  · have H := am_ie hc H
    show am_xgi sc (D + 3) 42 o (11, [(0, .ref 18)], [], wx w, 0, 0)
    obtain ⟨hc, H⟩ := am_ckE H
    refine am_go_blk 5 ⟨am_inv hc, (?_ : am_xgi sc (D + 3) 42 o (20, [(0, .ref 18)], [.int (w.1 19 (w.1 18 2).toNatClampNeg)], wx w, 0, 0))⟩
    obtain ⟨q3, hqq3, H⟩ := am_bnE H
    refine am_go_blk 2 (?_ : am_xgi sc (D + 3) 42 o (24, [(0, .ref 18)], [.int (nI 122), .int (nI 97), .int (w.1 19 (w.1 18 2).toNatClampNeg)], wx w, 0, 0))
    refine am_cls rfl rfl rfl (am_xcalli rfl (MC_Read_isIn (D := D + 2) hqq3) (?_ : am_xgi sc (D + 3) 42 o (27, [(0, .ref 18)], [.int q3.1], wx q3.2, 0, 0)))
    refine am_go_blk 1 ⟨fun hc => ?_, fun hc => ?_⟩
    · have H := am_it hc H
      exact TC_Read_scanWord_43 q3.2 H
    · have H := am_ie hc H
      show am_xgi sc (D + 3) 42 o (30, [(0, .ref 18)], [], wx q3.2, 0, 0)
      obtain ⟨w4, ew4, H⟩ := am_ltE H
      refine am_go_blk 6 ⟨rfl, rfl, am_hp (wx_f18_2 ew4) (?_ : am_xgi sc (D + 3) 42 o (40, [(0, .ref 18)], [], wx w4, 0, 0))⟩
      exact am_go_blk 1 (Hr0 w4 H)
theorem TCL_Read_scanWord_0 {sc : Option (Nat × (Nat → Int32))} {D : Nat} {o : Int32 × am_W} : ∀ (n : Nat) (w : am_W) , L_Read_scanWord_0 n w = some o → am_xgi sc (D + 3) 42 o (0, [(0, .ref 18)], [], wx w, 0, 0)
  | 0, _, H => by cases H
  | n + 1, w, H => TC_Read_scanWord_0 (TCL_Read_scanWord_0 n) w H
theorem TC_Read_scanWord {sc : Option (Nat × (Nat → Int32))} {D : Nat} {o : Int32 × am_W} (w : am_W) (H : F_Read_scanWord w = some o) : am_xgi sc (D + 3) 42 o (0, [(0, .ref 18)], [], wx w, 0, 0) := by
  unfold F_Read_scanWord at H
  exact TCL_Read_scanWord_0 am_NF w H
theorem MC_Read_scanWord {sc : Option (Nat × (Nat → Int32))} {D : Nat} {o : Int32 × am_W} {w : am_W} (H : F_Read_scanWord w = some o) : am_run sc (D + 4) 42 [.ref 18] (wx w) (some (.int o.1)) (wx o.2) 0 0 :=
  am_run_of rfl (TC_Read_scanWord w H)
theorem TC_Read_advance_204 {sc : Option (Nat × (Nat → Int32))} {D : Nat} {o : am_W} (w : am_W) (H : F_Read_advance_204 w = some o) : am_xgv sc (D + 4) 41 o (204, [], [], wx w, 0, 0) := by
  unfold F_Read_advance_204 at H
  exact am_go_blk 1 (am_xfv H)
theorem TC_Read_advance_201 {sc : Option (Nat × (Nat → Int32))} {D : Nat} {o : am_W} (s0 : Int32) (w : am_W) (H : F_Read_advance_201 s0 w = some o) : am_xgv sc (D + 4) 41 o (201, [], [.int s0, .ref 18], wx w, 0, 0) := by
  unfold F_Read_advance_201 at H
  obtain ⟨w7, ew7, H⟩ := am_ltE H
  refine am_go_blk 1 ⟨rfl, rfl, am_hp (wx_f18_3 ew7) (?_ : am_xgv sc (D + 4) 41 o (204, [], [], wx w7, 0, 0))⟩
  exact TC_Read_advance_204 w7 H
theorem TC_Read_advance_68 {sc : Option (Nat × (Nat → Int32))} {D : Nat} {o : am_W} (w : am_W) (H : F_Read_advance_68 w = some o) : am_xgv sc (D + 4) 41 o (68, [(0, .ref 18)], [], wx w, 0, 0) := by
  unfold F_Read_advance_68 at H
  obtain ⟨w2, ew2, H⟩ := am_ltE H
  refine am_go_blk 4 ⟨rfl, rfl, am_hp (wx_f18_2 ew2) (?_ : am_xgv sc (D + 4) 41 o (76, [(0, .ref 18)], [], wx w2, 0, 0))⟩
  refine am_go_blk 5 ⟨fun hc => ?_, fun hc => ?_⟩
  · have H := am_it hc H
    show am_xgv sc (D + 4) 41 o (97, [(0, .ref 18)], [], wx w2, 0, 0)
    obtain ⟨hc, H⟩ := am_ckE H
    refine am_go_blk 5 ⟨am_inv hc, (?_ : am_xgv sc (D + 4) 41 o (106, [(0, .ref 18)], [.int (w2.1 19 (w2.1 18 1).toNatClampNeg)], wx w2, 0, 0))⟩
    obtain ⟨q3, hqq3, H⟩ := am_bnE H
    refine am_go_blk 2 (?_ : am_xgv sc (D + 4) 41 o (110, [(0, .ref 18)], [.int (nI 122), .int (nI 97), .int (w2.1 19 (w2.1 18 1).toNatClampNeg)], wx w2, 0, 0))
    refine am_cls rfl rfl rfl (am_xcalli rfl (MC_Read_isIn (D := D + 3) hqq3) (?_ : am_xgv sc (D + 4) 41 o (113, [(0, .ref 18)], [.int q3.1], wx q3.2, 0, 0)))
    refine am_go_blk 1 ⟨fun hc => ?_, fun hc => ?_⟩
    · have H := am_it hc H
      show am_xgv sc (D + 4) 41 o (127, [(0, .ref 18)], [], wx q3.2, 0, 0)
      obtain ⟨hc, H⟩ := am_ckE H
      refine am_go_blk 5 ⟨am_inv hc, (?_ : am_xgv sc (D + 4) 41 o (136, [(0, .ref 18)], [.int (q3.2.1 19 (q3.2.1 18 1).toNatClampNeg)], wx q3.2, 0, 0))⟩
      obtain ⟨q4, hqq4, H⟩ := am_bnE H
      refine am_go_blk 2 (?_ : am_xgv sc (D + 4) 41 o (140, [(0, .ref 18)], [.int (nI 57), .int (nI 48), .int (q3.2.1 19 (q3.2.1 18 1).toNatClampNeg)], wx q3.2, 0, 0))
      refine am_cls rfl rfl rfl (am_xcalli rfl (MC_Read_isIn (D := D + 3) hqq4) (?_ : am_xgv sc (D + 4) 41 o (143, [(0, .ref 18)], [.int q4.1], wx q4.2, 0, 0)))
      refine am_go_blk 1 ⟨fun hc => ?_, fun hc => ?_⟩
      · have H := am_it hc H
        show am_xgv sc (D + 4) 41 o (157, [(0, .ref 18)], [], wx q4.2, 0, 0)
        obtain ⟨w5, ew5, H⟩ := am_ltE H
        refine am_go_blk 6 ⟨rfl, rfl, am_hp (wx_f18_2 ew5) (?_ : am_xgv sc (D + 4) 41 o (167, [(0, .ref 18)], [], wx w5, 0, 0))⟩
        obtain ⟨hc, H⟩ := am_ckE H
        refine am_go_blk 7 ⟨am_inv hc, (?_ : am_xgv sc (D + 4) 41 o (179, [(0, .ref 18)], [.int (w5.1 19 (w5.1 18 1).toNatClampNeg), .ref 3000001, .ref 18], wx w5, 0, 0))⟩
        obtain ⟨q6, hqq6, H⟩ := am_bnE H
        refine am_go_blk 1 (?_ : am_xgv sc (D + 4) 41 o (180, [(0, .ref 18)], [.int (((w5.1 19 (w5.1 18 1).toNatClampNeg).toUInt32 % 65536).toInt32), .ref 3000001, .ref 18], wx w5, 0, 0))
        refine am_invs rfl rfl rfl (am_xcalli rfl (MC_JstrindexOf0f7a4_3000001 (D := D) hqq6) (?_ : am_xgv sc (D + 4) 41 o (183, [(0, .ref 18)], [.int q6.1, .ref 18], wx q6.2, 0, 0)))
        refine am_go_blk 1 ⟨fun hc => ?_, fun hc => ?_⟩
        · have H := am_it hc H
          show am_xgv sc (D + 4) 41 o (198, [], [.ref 18], wx q6.2, 0, 0)
          exact am_go_blk 1 (TC_Read_advance_201 (nI 309) q6.2 H)
        · have H := am_ie hc H
          show am_xgv sc (D + 4) 41 o (186, [(0, .ref 18)], [.ref 18], wx q6.2, 0, 0)
          obtain ⟨hc, H⟩ := am_ckE H
          refine am_go_blk 5 ⟨am_inv hc, (?_ : am_xgv sc (D + 4) 41 o (195, [(0, .ref 18)], [.int (q6.2.1 19 (q6.2.1 18 1).toNatClampNeg), .ref 18], wx q6.2, 0, 0))⟩
          exact am_go_blk 1 (TC_Read_advance_201 (q6.2.1 19 (q6.2.1 18 1).toNatClampNeg) q6.2 H)
      · have H := am_ie hc H
        show am_xgv sc (D + 4) 41 o (146, [(0, .ref 18)], [], wx q4.2, 0, 0)
        obtain ⟨q8, hqq8, H⟩ := am_bnE H
        refine am_go_blk 2 (?_ : am_xgv sc (D + 4) 41 o (148, [(0, .ref 18)], [.ref 18, .ref 18], wx q4.2, 0, 0))
        refine am_invd rfl rfl rfl rfl (am_xcalli rfl (MC_Read_scanNumber (D := D + 2) hqq8) (?_ : am_xgv sc (D + 4) 41 o (151, [(0, .ref 18)], [.int q8.1, .ref 18], wx q8.2, 0, 0)))
        obtain ⟨w9, ew9, H⟩ := am_ltE H
        refine am_go_blk 1 ⟨rfl, rfl, am_hp (wx_f18_3 ew9) (?_ : am_xgv sc (D + 4) 41 o (154, [(0, .ref 18)], [], wx w9, 0, 0))⟩
        exact am_go_blk 1 (TC_Read_advance_204 w9 H)
    · have H := am_ie hc H
      show am_xgv sc (D + 4) 41 o (116, [(0, .ref 18)], [], wx q3.2, 0, 0)
      obtain ⟨q10, hqq10, H⟩ := am_bnE H
      refine am_go_blk 2 (?_ : am_xgv sc (D + 4) 41 o (118, [(0, .ref 18)], [.ref 18, .ref 18], wx q3.2, 0, 0))
      refine am_invd rfl rfl rfl rfl (am_xcalli rfl (MC_Read_scanWord (D := D) hqq10) (?_ : am_xgv sc (D + 4) 41 o (121, [(0, .ref 18)], [.int q10.1, .ref 18], wx q10.2, 0, 0)))
      obtain ⟨w11, ew11, H⟩ := am_ltE H
      refine am_go_blk 1 ⟨rfl, rfl, am_hp (wx_f18_3 ew11) (?_ : am_xgv sc (D + 4) 41 o (124, [(0, .ref 18)], [], wx w11, 0, 0))⟩
      exact am_go_blk 1 (TC_Read_advance_204 w11 H)
  · have H := am_ie hc H
    show am_xgv sc (D + 4) 41 o (87, [(0, .ref 18)], [], wx w2, 0, 0)
    obtain ⟨w12, ew12, H⟩ := am_ltE H
    refine am_go_blk 3 ⟨rfl, rfl, am_hp (wx_f18_3 ew12) (?_ : am_xgv sc (D + 4) 41 o (94, [(0, .ref 18)], [], wx w12, 0, 0))⟩
    exact am_go_blk 1 (TC_Read_advance_204 w12 H)
theorem TC_Read_advance_55 {sc : Option (Nat × (Nat → Int32))} {D : Nat} {o : am_W} {r16 : am_W → Option (am_W)} (Hr16 : ∀ (w : am_W) , r16 w = some o → am_xgv sc (D + 4) 41 o (16, [(0, .ref 18)], [], wx w, 0, 0)) (w : am_W) (H : F_Read_advance_55 r16 w = some o) : am_xgv sc (D + 4) 41 o (55, [(0, .ref 18)], [], wx w, 0, 0) := by
  unfold F_Read_advance_55 at H
  obtain ⟨w13, ew13, H⟩ := am_ltE H
  refine am_go_blk 6 ⟨rfl, rfl, am_hp (wx_f18_1 ew13) (?_ : am_xgv sc (D + 4) 41 o (65, [(0, .ref 18)], [], wx w13, 0, 0))⟩
  exact am_go_blk 1 (Hr16 w13 H)
theorem TC_Read_advance_16 {sc : Option (Nat × (Nat → Int32))} {D : Nat} {o : am_W} {r16 : am_W → Option (am_W)} (Hr16 : ∀ (w : am_W) , r16 w = some o → am_xgv sc (D + 4) 41 o (16, [(0, .ref 18)], [], wx w, 0, 0)) (w : am_W) (H : F_Read_advance_16 r16 w = some o) : am_xgv sc (D + 4) 41 o (16, [(0, .ref 18)], [], wx w, 0, 0) := by
  unfold F_Read_advance_16 at H
  refine am_go_blk 5 ⟨fun hc => ?_, fun hc => ?_⟩
  · have H := am_it hc H
    exact TC_Read_advance_68 w H
  · have H := am_ie hc H
    show am_xgv sc (D + 4) 41 o (27, [(0, .ref 18)], [], wx w, 0, 0)
    obtain ⟨hc, H⟩ := am_ckE H
    refine am_go_blk 5 ⟨am_inv hc, (?_ : am_xgv sc (D + 4) 41 o (36, [(0, .ref 18)], [.int (w.1 19 (w.1 18 1).toNatClampNeg)], wx w, 0, 0))⟩
    refine am_go_blk 2 ⟨fun hc => ?_, fun hc => ?_⟩
    · have H := am_it hc H
      exact TC_Read_advance_55 Hr16 w H
    · have H := am_ie hc H
      show am_xgv sc (D + 4) 41 o (41, [(0, .ref 18)], [], wx w, 0, 0)
      obtain ⟨hc, H⟩ := am_ckE H
      refine am_go_blk 5 ⟨am_inv hc, (?_ : am_xgv sc (D + 4) 41 o (50, [(0, .ref 18)], [.int (w.1 19 (w.1 18 1).toNatClampNeg)], wx w, 0, 0))⟩
      refine am_go_blk 2 ⟨fun hc => ?_, fun hc => ?_⟩
      · have H := am_ie hc H
        exact TC_Read_advance_68 w H
      · have H := am_it hc H
        exact TC_Read_advance_55 Hr16 w H
theorem TCL_Read_advance_16 {sc : Option (Nat × (Nat → Int32))} {D : Nat} {o : am_W} : ∀ (n : Nat) (w : am_W) , L_Read_advance_16 n w = some o → am_xgv sc (D + 4) 41 o (16, [(0, .ref 18)], [], wx w, 0, 0)
  | 0, _, H => by cases H
  | n + 1, w, H => TC_Read_advance_16 (TCL_Read_advance_16 n) w H
theorem TC_Read_advance {sc : Option (Nat × (Nat → Int32))} {D : Nat} {o : am_W} (w : am_W) (H : F_Read_advance w = some o) : am_xgv sc (D + 4) 41 o (0, [(0, .ref 18)], [], wx w, 0, 0) := by
  unfold F_Read_advance at H
  refine am_go_blk 3 ⟨fun hc => ?_, fun hc => ?_⟩
  · have H := am_it hc H
    show am_xgv sc (D + 4) 41 o (8, [(0, .ref 18)], [], wx w, 0, 0)
    obtain ⟨w1, ew1, H⟩ := am_ltE H
    refine am_go_blk 4 ⟨rfl, rfl, am_hp (wx_f18_1 ew1) (?_ : am_xgv sc (D + 4) 41 o (16, [(0, .ref 18)], [], wx w1, 0, 0))⟩
    exact TCL_Read_advance_16 am_NF w1 H
  · have H := am_ie hc H
    show am_xgv sc (D + 4) 41 o (7, [(0, .ref 18)], [], wx w, 0, 0)
    exact am_go_blk 1 (am_xfv H)
theorem MC_Read_advance {sc : Option (Nat × (Nat → Int32))} {D : Nat} {o : am_W} {w : am_W} (H : F_Read_advance w = some o) : am_run sc (D + 5) 41 [.ref 18] (wx w) none (wx o) 0 0 :=
  am_run_of rfl (TC_Read_advance w H)
theorem TC_Read_refuse {sc : Option (Nat × (Nat → Int32))} {D : Nat} {o : am_W} (w : am_W) (H : F_Read_refuse w = some o) : am_xgv sc D 35 o (0, [(0, .ref 18)], [], wx w, 0, 0) := by
  unfold F_Read_refuse at H
  obtain ⟨w1, ew1, H⟩ := am_ltE H
  refine am_go_blk 3 ⟨rfl, rfl, am_hp (wx_f18_5 ew1) (?_ : am_xgv sc D 35 o (5, [(0, .ref 18)], [], wx w1, 0, 0))⟩
  obtain ⟨w2, ew2, H⟩ := am_ltE H
  refine am_go_blk 3 ⟨rfl, rfl, am_hp (wx_f18_3 ew2) (?_ : am_xgv sc D 35 o (12, [(0, .ref 18)], [], wx w2, 0, 0))⟩
  exact am_go_blk 1 (am_xfv H)
theorem MC_Read_refuse {sc : Option (Nat × (Nat → Int32))} {D : Nat} {o : am_W} {w : am_W} (H : F_Read_refuse w = some o) : am_run sc (D + 1) 35 [.ref 18] (wx w) none (wx o) 0 0 :=
  am_run_of rfl (TC_Read_refuse w H)
theorem TC_Read_demand_19 {sc : Option (Nat × (Nat → Int32))} {D : Nat} {o : am_W} (w : am_W) (H : F_Read_demand_19 w = some o) : am_xgv sc (D + 5) 36 o (19, [], [], wx w, 0, 0) := by
  unfold F_Read_demand_19 at H
  exact am_go_blk 1 (am_xfv H)
theorem TC_Read_demand {sc : Option (Nat × (Nat → Int32))} {D : Nat} {o : am_W} (a1 : Int32) (w : am_W) (H : F_Read_demand a1 w = some o) : am_xgv sc (D + 5) 36 o (0, [(0, .ref 18), (1, .int a1)], [], wx w, 0, 0) := by
  unfold F_Read_demand at H
  refine am_go_blk 4 ⟨fun hc => ?_, fun hc => ?_⟩
  · have H := am_ie hc H
    show am_xgv sc (D + 5) 36 o (15, [(0, .ref 18)], [], wx w, 0, 0)
    obtain ⟨w1, hqw1, H⟩ := am_bnE H
    refine am_go_blk 1 (?_ : am_xgv sc (D + 5) 36 o (16, [(0, .ref 18)], [.ref 18], wx w, 0, 0))
    refine am_invd rfl rfl rfl rfl (am_xcallv rfl (MC_Read_refuse (D := D + 4) hqw1) (?_ : am_xgv sc (D + 5) 36 o (19, [], [], wx w1, 0, 0)))
    exact TC_Read_demand_19 w1 H
  · have H := am_it hc H
    show am_xgv sc (D + 5) 36 o (8, [(0, .ref 18), (1, .int a1)], [], wx w, 0, 0)
    obtain ⟨w2, hqw2, H⟩ := am_bnE H
    refine am_go_blk 1 (?_ : am_xgv sc (D + 5) 36 o (9, [(0, .ref 18), (1, .int a1)], [.ref 18], wx w, 0, 0))
    refine am_invd rfl rfl rfl rfl (am_xcallv rfl (MC_Read_advance (D := D) hqw2) (?_ : am_xgv sc (D + 5) 36 o (12, [(0, .ref 18), (1, .int a1)], [], wx w2, 0, 0)))
    exact am_go_blk 1 (TC_Read_demand_19 w2 H)
theorem MC_Read_demand {sc : Option (Nat × (Nat → Int32))} {D : Nat} {o : am_W} {a1 : Int32} {w : am_W} (H : F_Read_demand a1 w = some o) : am_run sc (D + 6) 36 [.ref 18, .int a1] (wx w) none (wx o) 0 0 :=
  am_run_of rfl (TC_Read_demand a1 w H)
theorem TC_Read_joiner_48 {sc : Option (Nat × (Nat → Int32))} {D : Nat} {o : Int32 × am_W} (s0 : Int32) (w : am_W) (H : F_Read_joiner_48 s0 w = some o) : am_xgi sc D 39 o (48, [], [.int s0], wx w, 0, 0) := by
  unfold F_Read_joiner_48 at H
  exact am_go_blk 1 ⟨rfl, am_xfi H⟩
theorem TC_Read_joiner_65 {sc : Option (Nat × (Nat → Int32))} {D : Nat} {o : Int32 × am_W} (s0 : Int32) (w : am_W) (H : F_Read_joiner_65 s0 w = some o) : am_xgi sc D 39 o (65, [], [.int s0], wx w, 0, 0) := by
  unfold F_Read_joiner_65 at H
  exact am_go_blk 1 ⟨rfl, am_xfi H⟩
theorem TC_Read_joiner_95 {sc : Option (Nat × (Nat → Int32))} {D : Nat} {o : Int32 × am_W} (s0 : Int32) (w : am_W) (H : F_Read_joiner_95 s0 w = some o) : am_xgi sc D 39 o (95, [], [.int s0], wx w, 0, 0) := by
  unfold F_Read_joiner_95 at H
  exact am_go_blk 1 ⟨rfl, am_xfi H⟩
theorem TC_Read_joiner_125 {sc : Option (Nat × (Nat → Int32))} {D : Nat} {o : Int32 × am_W} (s0 : Int32) (w : am_W) (H : F_Read_joiner_125 s0 w = some o) : am_xgi sc D 39 o (125, [], [.int s0], wx w, 0, 0) := by
  unfold F_Read_joiner_125 at H
  exact am_go_blk 1 ⟨rfl, am_xfi H⟩
theorem TC_Read_joiner_141 {sc : Option (Nat × (Nat → Int32))} {D : Nat} {o : Int32 × am_W} (s0 : Int32) (w : am_W) (H : F_Read_joiner_141 s0 w = some o) : am_xgi sc D 39 o (141, [], [.int s0], wx w, 0, 0) := by
  unfold F_Read_joiner_141 at H
  exact am_go_blk 1 ⟨rfl, am_xfi H⟩
theorem TC_Read_joiner {sc : Option (Nat × (Nat → Int32))} {D : Nat} {o : Int32 × am_W} (a1 : Int32) (w : am_W) (H : F_Read_joiner a1 w = some o) : am_xgi sc D 39 o (0, [(0, .ref 18), (1, .int a1)], [], wx w, 0, 0) := by
  unfold F_Read_joiner at H
  refine am_go_blk 2 ⟨fun hc => ?_, fun hc => ?_⟩
  · have H := am_it hc H
    show am_xgi sc D 39 o (32, [(0, .ref 18)], [], wx w, 0, 0)
    refine am_go_blk 4 ⟨fun hc => ?_, fun hc => ?_⟩
    · have H := am_ie hc H
      show am_xgi sc D 39 o (47, [], [], wx w, 0, 0)
      exact am_go_blk 1 (TC_Read_joiner_48 (nI 0) w H)
    · have H := am_it hc H
      show am_xgi sc D 39 o (42, [(0, .ref 18)], [], wx w, 0, 0)
      exact am_go_blk 2 (TC_Read_joiner_48 (-nI 15) w H)
  have H := am_ie hc H
  refine ⟨fun hc => ?_, fun hc => ?_⟩
  · have H := am_it hc H
    show am_xgi sc D 39 o (49, [(0, .ref 18)], [], wx w, 0, 0)
    refine am_go_blk 4 ⟨fun hc => ?_, fun hc => ?_⟩
    · have H := am_ie hc H
      show am_xgi sc D 39 o (64, [], [], wx w, 0, 0)
      exact am_go_blk 1 (TC_Read_joiner_65 (nI 0) w H)
    · have H := am_it hc H
      show am_xgi sc D 39 o (59, [(0, .ref 18)], [], wx w, 0, 0)
      exact am_go_blk 2 (TC_Read_joiner_65 (-nI 14) w H)
  have H := am_ie hc H
  refine ⟨fun hc => ?_, fun hc => ?_⟩
  · have H := am_it hc H
    show am_xgi sc D 39 o (66, [(0, .ref 18)], [], wx w, 0, 0)
    refine am_go_blk 4 ⟨fun hc => ?_, fun hc => ?_⟩
    · have H := am_ie hc H
      show am_xgi sc D 39 o (80, [(0, .ref 18)], [], wx w, 0, 0)
      refine am_go_blk 4 ⟨fun hc => ?_, fun hc => ?_⟩
      · have H := am_ie hc H
        show am_xgi sc D 39 o (94, [], [], wx w, 0, 0)
        exact am_go_blk 1 (TC_Read_joiner_95 (nI 0) w H)
      · have H := am_it hc H
        show am_xgi sc D 39 o (89, [(0, .ref 18)], [], wx w, 0, 0)
        exact am_go_blk 2 (TC_Read_joiner_95 (-nI 13) w H)
    · have H := am_it hc H
      show am_xgi sc D 39 o (75, [(0, .ref 18)], [], wx w, 0, 0)
      exact am_go_blk 2 (TC_Read_joiner_95 (-nI 12) w H)
  have H := am_ie hc H
  refine ⟨fun hc => ?_, fun hc => ?_⟩
  · have H := am_it hc H
    show am_xgi sc D 39 o (96, [(0, .ref 18)], [], wx w, 0, 0)
    refine am_go_blk 4 ⟨fun hc => ?_, fun hc => ?_⟩
    · have H := am_ie hc H
      show am_xgi sc D 39 o (110, [(0, .ref 18)], [], wx w, 0, 0)
      refine am_go_blk 4 ⟨fun hc => ?_, fun hc => ?_⟩
      · have H := am_ie hc H
        show am_xgi sc D 39 o (124, [], [], wx w, 0, 0)
        exact am_go_blk 1 (TC_Read_joiner_125 (nI 0) w H)
      · have H := am_it hc H
        show am_xgi sc D 39 o (119, [(0, .ref 18)], [], wx w, 0, 0)
        exact am_go_blk 2 (TC_Read_joiner_125 (-nI 11) w H)
    · have H := am_it hc H
      show am_xgi sc D 39 o (105, [(0, .ref 18)], [], wx w, 0, 0)
      exact am_go_blk 2 (TC_Read_joiner_125 (-nI 10) w H)
  have H := am_ie hc H
  show am_xgi sc D 39 o (126, [(0, .ref 18)], [], wx w, 0, 0)
  refine am_go_blk 4 ⟨fun hc => ?_, fun hc => ?_⟩
  · have H := am_ie hc H
    show am_xgi sc D 39 o (140, [], [], wx w, 0, 0)
    exact am_go_blk 1 (TC_Read_joiner_141 (nI 0) w H)
  · have H := am_it hc H
    show am_xgi sc D 39 o (135, [(0, .ref 18)], [], wx w, 0, 0)
    exact am_go_blk 2 (TC_Read_joiner_141 (-nI 9) w H)
theorem MC_Read_joiner {sc : Option (Nat × (Nat → Int32))} {D : Nat} {o : Int32 × am_W} {a1 : Int32} {w : am_W} (H : F_Read_joiner a1 w = some o) : am_run sc (D + 1) 39 [.ref 18, .int a1] (wx w) (some (.int o.1)) (wx o.2) 0 0 :=
  am_run_of rfl (TC_Read_joiner a1 w H)
theorem TC_Read_write_39 {sc : Option (Nat × (Nat → Int32))} {D : Nat} {o : am_W} (w : am_W) (H : F_Read_write_39 w = some o) : am_xgv sc D 37 o (39, [], [], wx w, 0, 0) := by
  unfold F_Read_write_39 at H
  exact am_go_blk 1 (am_xfv H)
theorem TC_Read_write {sc : Option (Nat × (Nat → Int32))} {D : Nat} {o : am_W} (a1 : Int32) (w : am_W) (H : F_Read_write a1 w = some o) : am_xgv sc D 37 o (0, [(0, .ref 18), (1, .int a1)], [], wx w, 0, 0) := by
  unfold F_Read_write at H
  refine am_go_blk 2 (?_ : am_xgv sc D 37 o (4, [(0, .ref 18), (1, .int a1)], [zv w.2], wx w, 0, 0))
  rcases am_zcE H with ⟨hz, H⟩ | ⟨t1, hz, hq, H⟩
  · refine am_ifnull0 rfl hz ?_
    exact TC_Read_write_39 w H
  · refine am_ifnull1 rfl hz ?_
    show am_xgv sc D 37 o (7, [(0, .ref 18), (1, .int a1)], [], wx w, 0, 0)
    refine am_go_blk 4 (?_ : am_xgv sc D 37 o (15, [(0, .ref 18), (1, .int a1)], [zv w.2, .int (w.1 18 6)], wx w, 0, 0))
    refine am_tv (am_zv1 hz hq) (?_ : am_xgv sc D 37 o (15, [(0, .ref 18), (1, .int a1)], [.ref (20 + 1 + t1), .int (w.1 18 6)], wx w, 0, 0))
    refine am_ald rfl (wx_steps hq) (?_ : am_xgv sc D 37 o (16, [(0, .ref 18), (1, .int a1)], [.int (nI 160), .int (w.1 18 6)], wx w, 0, 0))
    refine am_go_blk 1 ⟨fun hc => ?_, fun hc => ?_⟩
    · have H := am_it hc H
      exact TC_Read_write_39 w H
    · have H := am_ie hc H
      show am_xgv sc D 37 o (19, [(0, .ref 18), (1, .int a1)], [], wx w, 0, 0)
      refine am_go_blk 2 (?_ : am_xgv sc D 37 o (23, [(0, .ref 18), (1, .int a1)], [zv w.2], wx w, 0, 0))
      refine am_tv (am_zv1 hz hq) (?_ : am_xgv sc D 37 o (23, [(0, .ref 18), (1, .int a1)], [.ref (20 + 1 + t1)], wx w, 0, 0))
      refine am_go_blk 3 (?_ : am_xgv sc D 37 o (28, [(0, .ref 18), (1, .int a1)], [.int a1, .int (w.1 18 6), .ref (20 + 1 + t1)], wx w, 0, 0))
      obtain ⟨hc, H⟩ := am_ckE H
      obtain ⟨w2, ew2, H⟩ := am_ltE H
      refine am_iasd rfl (wx_steps hq) (am_inv hc) (wx_steps_s hq ew2) (?_ : am_xgv sc D 37 o (29, [(0, .ref 18), (1, .int a1)], [], wx w2, 0, 0))
      obtain ⟨w3, ew3, H⟩ := am_ltE H
      refine am_go_blk 6 ⟨rfl, rfl, am_hp (wx_f18_6 ew3) (?_ : am_xgv sc D 37 o (39, [], [], wx w3, 0, 0))⟩
      exact TC_Read_write_39 w3 H
theorem MC_Read_write {sc : Option (Nat × (Nat → Int32))} {D : Nat} {o : am_W} {a1 : Int32} {w : am_W} (H : F_Read_write a1 w = some o) : am_run sc (D + 1) 37 [.ref 18, .int a1] (wx w) none (wx o) 0 0 :=
  am_run_of rfl (TC_Read_write a1 w H)
theorem TC_Read_expression_127 {sc : Option (Nat × (Nat → Int32))} {D : Nat} {o : am_W} {c_e : Int32 → Int32 → am_W → Option am_W} {c_o : Int32 → am_W → Option am_W} (Hc_e : ∀ (x y : Int32) (w o : am_W), c_e x y w = some o → am_run sc (D + 5) 38 [.ref 18, .int x, .int y] (wx w) none (wx o) 0 0) (Hc_o : ∀ (x : Int32) (w o : am_W), c_o x w = some o → am_run sc (D + 5) 40 [.ref 18, .int x] (wx w) none (wx o) 0 0) (w : am_W) (H : F_Read_expression_127 c_e c_o w = some o) : am_xgv sc (D + 5) 38 o (127, [], [], wx w, 0, 0) := by
  unfold F_Read_expression_127 at H
  exact am_go_blk 1 (am_xfv H)
theorem TC_Read_expression_85 {sc : Option (Nat × (Nat → Int32))} {D : Nat} {o : am_W} {c_e : Int32 → Int32 → am_W → Option am_W} {c_o : Int32 → am_W → Option am_W} {r85 : Int32 → Int32 → Int32 → Int32 → Int32 → am_W → Option (am_W)} (Hc_e : ∀ (x y : Int32) (w o : am_W), c_e x y w = some o → am_run sc (D + 5) 38 [.ref 18, .int x, .int y] (wx w) none (wx o) 0 0) (Hc_o : ∀ (x : Int32) (w o : am_W), c_o x w = some o → am_run sc (D + 5) 40 [.ref 18, .int x] (wx w) none (wx o) 0 0) (Hr85 : ∀ (a1 : Int32) (a2 : Int32) (a3 : Int32) (a4 : Int32) (a5 : Int32) (w : am_W) , r85 a1 a2 a3 a4 a5 w = some o → am_xgv sc (D + 5) 38 o (85, [(0, .ref 18), (1, .int a1), (2, .int a2), (3, .int a3), (4, .int a4), (5, .int a5)], [], wx w, 0, 0)) (a1 : Int32) (a2 : Int32) (a3 : Int32) (a4 : Int32) (a5 : Int32) (w : am_W) (H : F_Read_expression_85 c_e c_o r85 a1 a2 a3 a4 a5 w = some o) : am_xgv sc (D + 5) 38 o (85, [(0, .ref 18), (1, .int a1), (2, .int a2), (3, .int a3), (4, .int a4), (5, .int a5)], [], wx w, 0, 0) := by
  unfold F_Read_expression_85 at H
  refine am_go_blk 3 ⟨fun hc => ?_, fun hc => ?_⟩
  · have H := am_it hc H
    exact TC_Read_expression_127 Hc_e Hc_o w H
  · have H := am_ie hc H
    show am_xgv sc (D + 5) 38 o (91, [(0, .ref 18), (1, .int a1), (2, .int a2), (3, .int a3), (4, .int a4), (5, .int a5)], [], wx w, 0, 0)
    refine am_go_blk 2 ⟨fun hc => ?_, fun hc => ?_⟩
    · have H := am_it hc H
      exact TC_Read_expression_127 Hc_e Hc_o w H
    · have H := am_ie hc H
      show am_xgv sc (D + 5) 38 o (96, [(0, .ref 18), (1, .int a1), (2, .int a2), (3, .int a3), (4, .int a4), (5, .int a5)], [], wx w, 0, 0)
      obtain ⟨w3, hqw3, H⟩ := am_bnE H
      refine am_go_blk 1 (?_ : am_xgv sc (D + 5) 38 o (97, [(0, .ref 18), (1, .int a1), (2, .int a2), (3, .int a3), (4, .int a4), (5, .int a5)], [.ref 18], wx w, 0, 0))
      refine am_invd rfl rfl rfl rfl (am_xcallv rfl (MC_Read_advance (D := D) hqw3) (?_ : am_xgv sc (D + 5) 38 o (100, [(0, .ref 18), (1, .int a1), (2, .int a2), (3, .int a3), (4, .int a4), (5, .int a5)], [], wx w3, 0, 0)))
      obtain ⟨w4, hqw4, H⟩ := am_bnE H
      refine am_go_blk 5 (?_ : am_xgv sc (D + 5) 38 o (105, [(0, .ref 18), (1, .int a1), (2, .int a2), (3, .int a3), (4, .int a4), (5, .int a5)], [.int a2, .int (a1 + (nI 1)), .ref 18], wx w3, 0, 0))
      refine am_invd rfl rfl rfl rfl (am_xcallv rfl (Hc_e _ _ _ _ hqw4) (?_ : am_xgv sc (D + 5) 38 o (108, [(0, .ref 18), (1, .int a1), (2, .int a2), (3, .int a3), (4, .int a4), (5, .int a5)], [], wx w4, 0, 0)))
      obtain ⟨w5, hqw5, H⟩ := am_bnE H
      refine am_go_blk 2 (?_ : am_xgv sc (D + 5) 38 o (111, [(0, .ref 18), (1, .int a1), (2, .int a2), (3, .int a3), (4, .int a4), (5, .int a5)], [.int a4, .ref 18], wx w4, 0, 0))
      refine am_invd rfl rfl rfl rfl (am_xcallv rfl (MC_Read_write (D := D + 4) hqw5) (?_ : am_xgv sc (D + 5) 38 o (114, [(0, .ref 18), (1, .int a1), (2, .int a2), (3, .int a3), (4, .int a4), (5, .int a5)], [], wx w5, 0, 0)))
      obtain ⟨q6, hqq6, H⟩ := am_bnE H
      refine am_go_blk 2 (?_ : am_xgv sc (D + 5) 38 o (116, [(0, .ref 18), (1, .int a1), (2, .int a2), (3, .int a3), (4, .int a4), (5, .int a5)], [.int a1, .ref 18], wx w5, 0, 0))
      refine am_invd rfl rfl rfl rfl (am_xcalli rfl (MC_Read_joiner (D := D + 4) hqq6) (?_ : am_xgv sc (D + 5) 38 o (119, [(0, .ref 18), (1, .int a1), (2, .int a2), (3, .int a3), (4, .int a4), (5, .int a5)], [.int q6.1], wx q6.2, 0, 0)))
      exact am_go_blk 3 (Hr85 a1 a2 a3 q6.1 (a5 + (nI 1)) q6.2 H)
theorem TCL_Read_expression_85 {sc : Option (Nat × (Nat → Int32))} {D : Nat} {o : am_W} {c_e : Int32 → Int32 → am_W → Option am_W} {c_o : Int32 → am_W → Option am_W} (Hc_e : ∀ (x y : Int32) (w o : am_W), c_e x y w = some o → am_run sc (D + 5) 38 [.ref 18, .int x, .int y] (wx w) none (wx o) 0 0) (Hc_o : ∀ (x : Int32) (w o : am_W), c_o x w = some o → am_run sc (D + 5) 40 [.ref 18, .int x] (wx w) none (wx o) 0 0) : ∀ (n : Nat) (a1 : Int32) (a2 : Int32) (a3 : Int32) (a4 : Int32) (a5 : Int32) (w : am_W) , L_Read_expression_85 c_e c_o n a1 a2 a3 a4 a5 w = some o → am_xgv sc (D + 5) 38 o (85, [(0, .ref 18), (1, .int a1), (2, .int a2), (3, .int a3), (4, .int a4), (5, .int a5)], [], wx w, 0, 0)
  | 0, _, _, _, _, _, _, H => by cases H
  | n + 1, a1, a2, a3, a4, a5, w, H => TC_Read_expression_85 Hc_e Hc_o (TCL_Read_expression_85 Hc_e Hc_o n) a1 a2 a3 a4 a5 w H
theorem TC_Read_expression_74 {sc : Option (Nat × (Nat → Int32))} {D : Nat} {o : am_W} {c_e : Int32 → Int32 → am_W → Option am_W} {c_o : Int32 → am_W → Option am_W} (Hc_e : ∀ (x y : Int32) (w o : am_W), c_e x y w = some o → am_run sc (D + 5) 38 [.ref 18, .int x, .int y] (wx w) none (wx o) 0 0) (Hc_o : ∀ (x : Int32) (w o : am_W), c_o x w = some o → am_run sc (D + 5) 40 [.ref 18, .int x] (wx w) none (wx o) 0 0) (a1 : Int32) (a2 : Int32) (s0 : Int32) (w : am_W) (H : F_Read_expression_74 c_e c_o a1 a2 s0 w = some o) : am_xgv sc (D + 5) 38 o (74, [(0, .ref 18), (1, .int a1), (2, .int a2)], [.int s0], wx w, 0, 0) := by
  unfold F_Read_expression_74 at H
  obtain ⟨q2, hqq2, H⟩ := am_bnE H
  refine am_go_blk 3 (?_ : am_xgv sc (D + 5) 38 o (77, [(3, .int s0), (0, .ref 18), (1, .int a1), (2, .int a2)], [.int a1, .ref 18], wx w, 0, 0))
  refine am_invd rfl rfl rfl rfl (am_xcalli rfl (MC_Read_joiner (D := D + 4) hqq2) (?_ : am_xgv sc (D + 5) 38 o (80, [(3, .int s0), (0, .ref 18), (1, .int a1), (2, .int a2)], [.int q2.1], wx q2.2, 0, 0)))
  exact am_go_blk 3 (TCL_Read_expression_85 Hc_e Hc_o am_NF a1 a2 s0 q2.1 (nI 0) q2.2 H)
theorem TC_Read_expression_54 {sc : Option (Nat × (Nat → Int32))} {D : Nat} {o : am_W} {c_e : Int32 → Int32 → am_W → Option am_W} {c_o : Int32 → am_W → Option am_W} (Hc_e : ∀ (x y : Int32) (w o : am_W), c_e x y w = some o → am_run sc (D + 5) 38 [.ref 18, .int x, .int y] (wx w) none (wx o) 0 0) (Hc_o : ∀ (x : Int32) (w o : am_W), c_o x w = some o → am_run sc (D + 5) 40 [.ref 18, .int x] (wx w) none (wx o) 0 0) (a1 : Int32) (a2 : Int32) (w : am_W) (H : F_Read_expression_54 c_e c_o a1 a2 w = some o) : am_xgv sc (D + 5) 38 o (54, [(0, .ref 18), (1, .int a1), (2, .int a2)], [], wx w, 0, 0) := by
  unfold F_Read_expression_54 at H
  obtain ⟨w1, hqw1, H⟩ := am_bnE H
  refine am_go_blk 5 (?_ : am_xgv sc (D + 5) 38 o (59, [(0, .ref 18), (1, .int a1), (2, .int a2)], [.int a2, .int (a1 + (nI 1)), .ref 18], wx w, 0, 0))
  refine am_invd rfl rfl rfl rfl (am_xcallv rfl (Hc_e _ _ _ _ hqw1) (?_ : am_xgv sc (D + 5) 38 o (62, [(0, .ref 18), (1, .int a1), (2, .int a2)], [], wx w1, 0, 0)))
  refine am_go_blk 3 ⟨fun hc => ?_, fun hc => ?_⟩
  · have H := am_ie hc H
    show am_xgv sc (D + 5) 38 o (71, [(0, .ref 18), (1, .int a1), (2, .int a2)], [], wx w1, 0, 0)
    exact am_go_blk 1 (TC_Read_expression_74 Hc_e Hc_o a1 a2 (nI 160) w1 H)
  · have H := am_it hc H
    show am_xgv sc (D + 5) 38 o (67, [(0, .ref 18), (1, .int a1), (2, .int a2)], [], wx w1, 0, 0)
    exact am_go_blk 2 (TC_Read_expression_74 Hc_e Hc_o a1 a2 (nI 1) w1 H)
theorem TC_Read_expression {sc : Option (Nat × (Nat → Int32))} {D : Nat} {o : am_W} {c_e : Int32 → Int32 → am_W → Option am_W} {c_o : Int32 → am_W → Option am_W} (Hc_e : ∀ (x y : Int32) (w o : am_W), c_e x y w = some o → am_run sc (D + 5) 38 [.ref 18, .int x, .int y] (wx w) none (wx o) 0 0) (Hc_o : ∀ (x : Int32) (w o : am_W), c_o x w = some o → am_run sc (D + 5) 40 [.ref 18, .int x] (wx w) none (wx o) 0 0) (a1 : Int32) (a2 : Int32) (w : am_W) (H : F_Read_expression c_e c_o a1 a2 w = some o) : am_xgv sc (D + 5) 38 o (0, [(0, .ref 18), (1, .int a1), (2, .int a2)], [], wx w, 0, 0) := by
  unfold F_Read_expression at H
  refine am_go_blk 3 ⟨fun hc => ?_, fun hc => ?_⟩
  · have H := am_it hc H
    show am_xgv sc (D + 5) 38 o (13, [(0, .ref 18), (1, .int a1), (2, .int a2)], [], wx w, 0, 0)
    refine am_go_blk 3 ⟨fun hc => ?_, fun hc => ?_⟩
    · have H := am_ie hc H
      exact TC_Read_expression_54 Hc_e Hc_o a1 a2 w H
    · have H := am_it hc H
      show am_xgv sc (D + 5) 38 o (18, [(0, .ref 18), (1, .int a1), (2, .int a2)], [], wx w, 0, 0)
      refine am_go_blk 4 ⟨fun hc => ?_, fun hc => ?_⟩
      · have H := am_ie hc H
        exact TC_Read_expression_54 Hc_e Hc_o a1 a2 w H
      · have H := am_it hc H
        show am_xgv sc (D + 5) 38 o (28, [(0, .ref 18), (1, .int a1), (2, .int a2)], [], wx w, 0, 0)
        refine am_go_blk 3 ⟨fun hc => ?_, fun hc => ?_⟩
        · have H := am_it hc H
          exact TC_Read_expression_54 Hc_e Hc_o a1 a2 w H
        · have H := am_ie hc H
          show am_xgv sc (D + 5) 38 o (33, [(0, .ref 18), (1, .int a1), (2, .int a2)], [], wx w, 0, 0)
          obtain ⟨w7, hqw7, H⟩ := am_bnE H
          refine am_go_blk 1 (?_ : am_xgv sc (D + 5) 38 o (34, [(0, .ref 18), (1, .int a1), (2, .int a2)], [.ref 18], wx w, 0, 0))
          refine am_invd rfl rfl rfl rfl (am_xcallv rfl (MC_Read_advance (D := D) hqw7) (?_ : am_xgv sc (D + 5) 38 o (37, [(0, .ref 18), (1, .int a1), (2, .int a2)], [], wx w7, 0, 0)))
          obtain ⟨w8, hqw8, H⟩ := am_bnE H
          refine am_go_blk 5 (?_ : am_xgv sc (D + 5) 38 o (42, [(0, .ref 18), (1, .int a1), (2, .int a2)], [.int (a2 + (nI 1)), .int (nI 2), .ref 18], wx w7, 0, 0))
          refine am_invd rfl rfl rfl rfl (am_xcallv rfl (Hc_e _ _ _ _ hqw8) (?_ : am_xgv sc (D + 5) 38 o (45, [(0, .ref 18), (1, .int a1), (2, .int a2)], [], wx w8, 0, 0)))
          obtain ⟨w9, hqw9, H⟩ := am_bnE H
          refine am_go_blk 2 (?_ : am_xgv sc (D + 5) 38 o (48, [(0, .ref 18), (1, .int a1), (2, .int a2)], [.int (-nI 8), .ref 18], wx w8, 0, 0))
          refine am_invd rfl rfl rfl rfl (am_xcallv rfl (MC_Read_write (D := D + 4) hqw9) (?_ : am_xgv sc (D + 5) 38 o (51, [(0, .ref 18), (1, .int a1), (2, .int a2)], [], wx w9, 0, 0)))
          exact am_go_blk 1 (TC_Read_expression_127 Hc_e Hc_o w9 H)
  · have H := am_ie hc H
    show am_xgv sc (D + 5) 38 o (5, [(0, .ref 18), (1, .int a1), (2, .int a2)], [], wx w, 0, 0)
    obtain ⟨w10, hqw10, H⟩ := am_bnE H
    refine am_go_blk 2 (?_ : am_xgv sc (D + 5) 38 o (7, [(0, .ref 18), (1, .int a1), (2, .int a2)], [.int a2, .ref 18], wx w, 0, 0))
    refine am_invd rfl rfl rfl rfl (am_xcallv rfl (Hc_o _ _ _ hqw10) (?_ : am_xgv sc (D + 5) 38 o (10, [(0, .ref 18), (1, .int a1), (2, .int a2)], [], wx w10, 0, 0)))
    exact am_go_blk 1 (TC_Read_expression_127 Hc_e Hc_o w10 H)
theorem TC_Read_one_141 {sc : Option (Nat × (Nat → Int32))} {D : Nat} {o : am_W} {c_e : Int32 → Int32 → am_W → Option am_W} {c_o : Int32 → am_W → Option am_W} (Hc_e : ∀ (x y : Int32) (w o : am_W), c_e x y w = some o → am_run sc (D + 5) 38 [.ref 18, .int x, .int y] (wx w) none (wx o) 0 0) (Hc_o : ∀ (x : Int32) (w o : am_W), c_o x w = some o → am_run sc (D + 5) 40 [.ref 18, .int x] (wx w) none (wx o) 0 0) (w : am_W) (H : F_Read_one_141 c_e c_o w = some o) : am_xgv sc (D + 5) 40 o (141, [], [], wx w, 0, 0) := by
  unfold F_Read_one_141 at H
  exact am_go_blk 1 (am_xfv H)
theorem TC_Read_one_44 {sc : Option (Nat × (Nat → Int32))} {D : Nat} {o : am_W} {c_e : Int32 → Int32 → am_W → Option am_W} {c_o : Int32 → am_W → Option am_W} (Hc_e : ∀ (x y : Int32) (w o : am_W), c_e x y w = some o → am_run sc (D + 5) 38 [.ref 18, .int x, .int y] (wx w) none (wx o) 0 0) (Hc_o : ∀ (x : Int32) (w o : am_W), c_o x w = some o → am_run sc (D + 5) 40 [.ref 18, .int x] (wx w) none (wx o) 0 0) (s0 : Int32) (w : am_W) (H : F_Read_one_44 c_e c_o s0 w = some o) : am_xgv sc (D + 5) 40 o (44, [(0, .ref 18)], [.int s0, .ref 18], wx w, 0, 0) := by
  unfold F_Read_one_44 at H
  obtain ⟨w1, hqw1, H⟩ := am_bnE H
  refine am_invd rfl rfl rfl rfl (am_xcallv rfl (MC_Read_write (D := D + 4) hqw1) (?_ : am_xgv sc (D + 5) 40 o (47, [(0, .ref 18)], [], wx w1, 0, 0)))
  obtain ⟨w2, hqw2, H⟩ := am_bnE H
  refine am_go_blk 1 (?_ : am_xgv sc (D + 5) 40 o (48, [(0, .ref 18)], [.ref 18], wx w1, 0, 0))
  refine am_invd rfl rfl rfl rfl (am_xcallv rfl (MC_Read_advance (D := D) hqw2) (?_ : am_xgv sc (D + 5) 40 o (51, [(0, .ref 18)], [], wx w2, 0, 0)))
  exact am_go_blk 1 (TC_Read_one_141 Hc_e Hc_o w2 H)
theorem TC_Read_one_20 {sc : Option (Nat × (Nat → Int32))} {D : Nat} {o : am_W} {c_e : Int32 → Int32 → am_W → Option am_W} {c_o : Int32 → am_W → Option am_W} (Hc_e : ∀ (x y : Int32) (w o : am_W), c_e x y w = some o → am_run sc (D + 5) 38 [.ref 18, .int x, .int y] (wx w) none (wx o) 0 0) (Hc_o : ∀ (x : Int32) (w o : am_W), c_o x w = some o → am_run sc (D + 5) 40 [.ref 18, .int x] (wx w) none (wx o) 0 0) (w : am_W) (H : F_Read_one_20 c_e c_o w = some o) : am_xgv sc (D + 5) 40 o (20, [(0, .ref 18)], [], wx w, 0, 0) := by
  unfold F_Read_one_20 at H
  refine am_go_blk 5 ⟨fun hc => ?_, fun hc => ?_⟩
  · have H := am_ie hc H
    show am_xgv sc (D + 5) 40 o (38, [(0, .ref 18)], [.ref 18], wx w, 0, 0)
    exact am_go_blk 4 (TC_Read_one_44 Hc_e Hc_o ((-nI 1) - (w.1 18 4)) w H)
  · have H := am_it hc H
    show am_xgv sc (D + 5) 40 o (31, [(0, .ref 18)], [.ref 18], wx w, 0, 0)
    exact am_go_blk 3 (TC_Read_one_44 Hc_e Hc_o (w.1 18 4) w H)
theorem TC_Read_one_137 {sc : Option (Nat × (Nat → Int32))} {D : Nat} {o : am_W} {c_e : Int32 → Int32 → am_W → Option am_W} {c_o : Int32 → am_W → Option am_W} (Hc_e : ∀ (x y : Int32) (w o : am_W), c_e x y w = some o → am_run sc (D + 5) 38 [.ref 18, .int x, .int y] (wx w) none (wx o) 0 0) (Hc_o : ∀ (x : Int32) (w o : am_W), c_o x w = some o → am_run sc (D + 5) 40 [.ref 18, .int x] (wx w) none (wx o) 0 0) (w : am_W) (H : F_Read_one_137 c_e c_o w = some o) : am_xgv sc (D + 5) 40 o (137, [(0, .ref 18)], [], wx w, 0, 0) := by
  unfold F_Read_one_137 at H
  obtain ⟨w3, hqw3, H⟩ := am_bnE H
  refine am_go_blk 1 (?_ : am_xgv sc (D + 5) 40 o (138, [(0, .ref 18)], [.ref 18], wx w, 0, 0))
  refine am_invd rfl rfl rfl rfl (am_xcallv rfl (MC_Read_refuse (D := D + 4) hqw3) (?_ : am_xgv sc (D + 5) 40 o (141, [], [], wx w3, 0, 0)))
  exact TC_Read_one_141 Hc_e Hc_o w3 H
theorem TC_Read_one_88 {sc : Option (Nat × (Nat → Int32))} {D : Nat} {o : am_W} {c_e : Int32 → Int32 → am_W → Option am_W} {c_o : Int32 → am_W → Option am_W} (Hc_e : ∀ (x y : Int32) (w o : am_W), c_e x y w = some o → am_run sc (D + 5) 38 [.ref 18, .int x, .int y] (wx w) none (wx o) 0 0) (Hc_o : ∀ (x : Int32) (w o : am_W), c_o x w = some o → am_run sc (D + 5) 40 [.ref 18, .int x] (wx w) none (wx o) 0 0) (a1 : Int32) (w : am_W) (H : F_Read_one_88 c_e c_o a1 w = some o) : am_xgv sc (D + 5) 40 o (88, [(0, .ref 18), (1, .int a1)], [], wx w, 0, 0) := by
  unfold F_Read_one_88 at H
  refine am_go_blk 4 ⟨fun hc => ?_, fun hc => ?_⟩
  · have H := am_ie hc H
    exact TC_Read_one_137 Hc_e Hc_o w H
  · have H := am_it hc H
    show am_xgv sc (D + 5) 40 o (97, [(0, .ref 18), (1, .int a1)], [], wx w, 0, 0)
    refine am_go_blk 3 ⟨fun hc => ?_, fun hc => ?_⟩
    · have H := am_it hc H
      exact TC_Read_one_137 Hc_e Hc_o w H
    · have H := am_ie hc H
      show am_xgv sc (D + 5) 40 o (102, [(0, .ref 18), (1, .int a1)], [], wx w, 0, 0)
      obtain ⟨w4, hqw4, H⟩ := am_bnE H
      refine am_go_blk 1 (?_ : am_xgv sc (D + 5) 40 o (103, [(0, .ref 18), (1, .int a1)], [.ref 18], wx w, 0, 0))
      refine am_invd rfl rfl rfl rfl (am_xcallv rfl (MC_Read_advance (D := D) hqw4) (?_ : am_xgv sc (D + 5) 40 o (106, [(0, .ref 18), (1, .int a1)], [], wx w4, 0, 0)))
      obtain ⟨w5, hqw5, H⟩ := am_bnE H
      refine am_go_blk 5 (?_ : am_xgv sc (D + 5) 40 o (111, [(0, .ref 18), (1, .int a1)], [.int (a1 + (nI 1)), .int (nI 0), .ref 18], wx w4, 0, 0))
      refine am_invd rfl rfl rfl rfl (am_xcallv rfl (Hc_e _ _ _ _ hqw5) (?_ : am_xgv sc (D + 5) 40 o (114, [(0, .ref 18), (1, .int a1)], [], wx w5, 0, 0)))
      refine am_go_blk 4 ⟨fun hc => ?_, fun hc => ?_⟩
      · have H := am_ie hc H
        show am_xgv sc (D + 5) 40 o (130, [(0, .ref 18)], [], wx w5, 0, 0)
        obtain ⟨w6, hqw6, H⟩ := am_bnE H
        refine am_go_blk 1 (?_ : am_xgv sc (D + 5) 40 o (131, [(0, .ref 18)], [.ref 18], wx w5, 0, 0))
        refine am_invd rfl rfl rfl rfl (am_xcallv rfl (MC_Read_refuse (D := D + 4) hqw6) (?_ : am_xgv sc (D + 5) 40 o (134, [(0, .ref 18)], [], wx w6, 0, 0)))
        exact am_go_blk 1 (TC_Read_one_141 Hc_e Hc_o w6 H)
      · have H := am_it hc H
        show am_xgv sc (D + 5) 40 o (123, [(0, .ref 18), (1, .int a1)], [], wx w5, 0, 0)
        obtain ⟨w7, hqw7, H⟩ := am_bnE H
        refine am_go_blk 1 (?_ : am_xgv sc (D + 5) 40 o (124, [(0, .ref 18), (1, .int a1)], [.ref 18], wx w5, 0, 0))
        refine am_invd rfl rfl rfl rfl (am_xcallv rfl (MC_Read_advance (D := D) hqw7) (?_ : am_xgv sc (D + 5) 40 o (127, [(0, .ref 18), (1, .int a1)], [], wx w7, 0, 0)))
        exact am_go_blk 1 (TC_Read_one_141 Hc_e Hc_o w7 H)
theorem TC_Read_one {sc : Option (Nat × (Nat → Int32))} {D : Nat} {o : am_W} {c_e : Int32 → Int32 → am_W → Option am_W} {c_o : Int32 → am_W → Option am_W} (Hc_e : ∀ (x y : Int32) (w o : am_W), c_e x y w = some o → am_run sc (D + 5) 38 [.ref 18, .int x, .int y] (wx w) none (wx o) 0 0) (Hc_o : ∀ (x : Int32) (w o : am_W), c_o x w = some o → am_run sc (D + 5) 40 [.ref 18, .int x] (wx w) none (wx o) 0 0) (a1 : Int32) (w : am_W) (H : F_Read_one c_e c_o a1 w = some o) : am_xgv sc (D + 5) 40 o (0, [(0, .ref 18), (1, .int a1)], [], wx w, 0, 0) := by
  unfold F_Read_one at H
  refine am_go_blk 4 ⟨fun hc => ?_, fun hc => ?_⟩
  · have H := am_it hc H
    exact TC_Read_one_20 Hc_e Hc_o w H
  · have H := am_ie hc H
    show am_xgv sc (D + 5) 40 o (10, [(0, .ref 18), (1, .int a1)], [], wx w, 0, 0)
    refine am_go_blk 4 ⟨fun hc => ?_, fun hc => ?_⟩
    · have H := am_ie hc H
      show am_xgv sc (D + 5) 40 o (54, [(0, .ref 18), (1, .int a1)], [], wx w, 0, 0)
      refine am_go_blk 4 ⟨fun hc => ?_, fun hc => ?_⟩
      · have H := am_ie hc H
        exact TC_Read_one_88 Hc_e Hc_o a1 w H
      · have H := am_it hc H
        show am_xgv sc (D + 5) 40 o (63, [(0, .ref 18), (1, .int a1)], [], wx w, 0, 0)
        refine am_go_blk 3 ⟨fun hc => ?_, fun hc => ?_⟩
        · have H := am_it hc H
          exact TC_Read_one_88 Hc_e Hc_o a1 w H
        · have H := am_ie hc H
          show am_xgv sc (D + 5) 40 o (68, [(0, .ref 18), (1, .int a1)], [], wx w, 0, 0)
          obtain ⟨w8, hqw8, H⟩ := am_bnE H
          refine am_go_blk 1 (?_ : am_xgv sc (D + 5) 40 o (69, [(0, .ref 18), (1, .int a1)], [.ref 18], wx w, 0, 0))
          refine am_invd rfl rfl rfl rfl (am_xcallv rfl (MC_Read_advance (D := D) hqw8) (?_ : am_xgv sc (D + 5) 40 o (72, [(0, .ref 18), (1, .int a1)], [], wx w8, 0, 0)))
          obtain ⟨w9, hqw9, H⟩ := am_bnE H
          refine am_go_blk 4 (?_ : am_xgv sc (D + 5) 40 o (76, [(0, .ref 18), (1, .int a1)], [.int (a1 + (nI 1)), .ref 18], wx w8, 0, 0))
          refine am_invd rfl rfl rfl rfl (am_xcallv rfl (Hc_o _ _ _ hqw9) (?_ : am_xgv sc (D + 5) 40 o (79, [(0, .ref 18), (1, .int a1)], [], wx w9, 0, 0)))
          obtain ⟨w10, hqw10, H⟩ := am_bnE H
          refine am_go_blk 2 (?_ : am_xgv sc (D + 5) 40 o (82, [(0, .ref 18), (1, .int a1)], [.int (-nI 7), .ref 18], wx w9, 0, 0))
          refine am_invd rfl rfl rfl rfl (am_xcallv rfl (MC_Read_write (D := D + 4) hqw10) (?_ : am_xgv sc (D + 5) 40 o (85, [(0, .ref 18), (1, .int a1)], [], wx w10, 0, 0)))
          exact am_go_blk 1 (TC_Read_one_141 Hc_e Hc_o w10 H)
    · have H := am_it hc H
      exact TC_Read_one_20 Hc_e Hc_o w H
theorem MCX_Read {sc : Option (Nat × (Nat → Int32))} : ∀ (n D : Nat), (∀ (x y : Int32) (w o : am_W), (X_Read n).1 x y w = some o → am_run sc (D + n + 5) 38 [.ref 18, .int x, .int y] (wx w) none (wx o) 0 0) ∧ (∀ (x : Int32) (w o : am_W), (X_Read n).2 x w = some o → am_run sc (D + n + 5) 40 [.ref 18, .int x] (wx w) none (wx o) 0 0)
  | 0, _ => ⟨fun _ _ _ _ h => (by cases h), fun _ _ _ h => (by cases h)⟩
  | n + 1, D => ⟨fun x y w _ h => am_run_of (d := D + n + 5) rfl (TC_Read_expression (D := D + n) (MCX_Read n D).1 (MCX_Read n D).2 x y w h), fun x w _ h => am_run_of (d := D + n + 5) rfl (TC_Read_one (D := D + n) (MCX_Read n D).1 (MCX_Read n D).2 x w h)⟩
theorem MC_Read_x {sc : Option (Nat × (Nat → Int32))} {D : Nat} {o : am_W} {a1 a2 : Int32} {w : am_W} (H : F_Read_x a1 a2 w = some o) : am_run sc (D + 105) 38 [.ref 18, .int a1, .int a2] (wx w) none (wx o) 0 0 :=
  (MCX_Read 100 D).1 a1 a2 w o H
theorem TC_Read_read_96 {sc : Option (Nat × (Nat → Int32))} {D : Nat} {o : Int32 × am_W} (s0 : Int32) (w : am_W) (H : F_Read_read_96 s0 w = some o) : am_xgi sc (D + 105) 34 o (96, [], [.int s0], wx w, 0, 0) := by
  unfold F_Read_read_96 at H
  obtain ⟨hc, H⟩ := am_ckE H
  exact am_go_blk 1 ⟨am_boE hc, am_xfi H⟩
theorem TC_Read_read_79 {sc : Option (Nat × (Nat → Int32))} {D : Nat} {o : Int32 × am_W} (w : am_W) (H : F_Read_read_79 w = some o) : am_xgi sc (D + 105) 34 o (79, [(0, .ref 18)], [], wx w, 0, 0) := by
  unfold F_Read_read_79 at H
  obtain ⟨w6, ew6, H⟩ := am_ltE H
  refine am_go_blk 3 ⟨rfl, rfl, am_hp (wx_f18_0 ew6) (?_ : am_xgi sc (D + 105) 34 o (84, [(0, .ref 18)], [], wx w6, 0, 0))⟩
  refine am_go_blk 3 ⟨fun hc => ?_, fun hc => ?_⟩
  · have H := am_ie hc H
    show am_xgi sc (D + 105) 34 o (95, [], [], wx w6, 0, 0)
    exact am_go_blk 1 (TC_Read_read_96 (nI 0) w6 H)
  · have H := am_it hc H
    show am_xgi sc (D + 105) 34 o (91, [(0, .ref 18)], [], wx w6, 0, 0)
    exact am_go_blk 2 (TC_Read_read_96 (nI 1) w6 H)
theorem TC_Read_read_26 {sc : Option (Nat × (Nat → Int32))} {D : Nat} {o : Int32 × am_W} {r26 : Nat → Int32 → am_W → Option (Int32 × am_W)} (Hr26 : ∀ (p2 : Nat) (a3 : Int32) (w : am_W) (hp2 : p2 < 6), r26 p2 a3 w = some o → am_xgi sc (D + 105) 34 o (26, [(0, .ref 18), (2, .ref (27 + 1 + p2)), (3, .int a3)], [], wx w, 0, 0)) (p2 : Nat) (a3 : Int32) (w : am_W) (hp2 : p2 < 6) (H : F_Read_read_26 r26 p2 a3 w = some o) : am_xgi sc (D + 105) 34 o (26, [(0, .ref 18), (2, .ref (27 + 1 + p2)), (3, .int a3)], [], wx w, 0, 0) := by
  unfold F_Read_read_26 at H
  refine am_go_blk 3 ⟨fun hc => ?_, fun hc => ?_⟩
  · have H := am_it hc H
    show am_xgi sc (D + 105) 34 o (65, [(0, .ref 18)], [], wx w, 0, 0)
    refine am_go_blk 4 ⟨fun hc => ?_, fun hc => ?_⟩
    · have H := am_it hc H
      exact TC_Read_read_79 w H
    · have H := am_ie hc H
      show am_xgi sc (D + 105) 34 o (75, [(0, .ref 18)], [], wx w, 0, 0)
      obtain ⟨w7, hqw7, H⟩ := am_bnE H
      refine am_go_blk 1 (?_ : am_xgi sc (D + 105) 34 o (76, [(0, .ref 18)], [.ref 18], wx w, 0, 0))
      refine am_invd rfl rfl rfl rfl (am_xcallv rfl (MC_Read_refuse (D := D + 104) hqw7) (?_ : am_xgi sc (D + 105) 34 o (79, [(0, .ref 18)], [], wx w7, 0, 0)))
      exact TC_Read_read_79 w7 H
  · have H := am_ie hc H
    show am_xgi sc (D + 105) 34 o (31, [(0, .ref 18), (2, .ref (27 + 1 + p2)), (3, .int a3)], [], wx w, 0, 0)
    obtain ⟨w8, hqw8, H⟩ := am_bnE H
    refine am_go_blk 4 (?_ : am_xgi sc (D + 105) 34 o (37, [(0, .ref 18), (2, .ref (27 + 1 + p2)), (3, .int a3)], [.int ((nI 300) + a3), .ref 18], wx w, 0, 0))
    refine am_invd rfl rfl rfl rfl (am_xcallv rfl (MC_Read_demand (D := D + 99) hqw8) (?_ : am_xgi sc (D + 105) 34 o (40, [(0, .ref 18), (2, .ref (27 + 1 + p2)), (3, .int a3)], [], wx w8, 0, 0)))
    obtain ⟨w9, hqw9, H⟩ := am_bnE H
    refine am_go_blk 3 (?_ : am_xgi sc (D + 105) 34 o (43, [(0, .ref 18), (2, .ref (27 + 1 + p2)), (3, .int a3)], [.int (nI 0), .int (nI 0), .ref 18], wx w8, 0, 0))
    refine am_invd rfl rfl rfl rfl (am_xcallv rfl (MC_Read_x (D := D) hqw9) (?_ : am_xgi sc (D + 105) 34 o (46, [(0, .ref 18), (2, .ref (27 + 1 + p2)), (3, .int a3)], [], wx w9, 0, 0)))
    obtain ⟨w10, hqw10, H⟩ := am_bnE H
    refine am_go_blk 2 (?_ : am_xgi sc (D + 105) 34 o (49, [(0, .ref 18), (2, .ref (27 + 1 + p2)), (3, .int a3)], [.int (nI 59), .ref 18], wx w9, 0, 0))
    refine am_invd rfl rfl rfl rfl (am_xcallv rfl (MC_Read_demand (D := D + 99) hqw10) (?_ : am_xgi sc (D + 105) 34 o (52, [(0, .ref 18), (2, .ref (27 + 1 + p2)), (3, .int a3)], [], wx w10, 0, 0)))
    refine am_go_blk 4 (?_ : am_xgi sc (D + 105) 34 o (58, [(0, .ref 18), (2, .ref (27 + 1 + p2)), (3, .int a3)], [.int (w10.1 18 6), .int a3, .ref (27 + 1 + p2)], wx w10, 0, 0))
    obtain ⟨hc, H⟩ := am_ckE H
    obtain ⟨w11, ew11, H⟩ := am_ltE H
    refine am_iasd rfl (wx_ends hp2) (am_inv hc) (wx_ends_s hp2 ew11) (?_ : am_xgi sc (D + 105) 34 o (59, [(0, .ref 18), (2, .ref (27 + 1 + p2)), (3, .int a3)], [], wx w11, 0, 0))
    exact am_go_blk 2 (Hr26 p2 (a3 + (nI 1)) w11 hp2 H)
theorem TCL_Read_read_26 {sc : Option (Nat × (Nat → Int32))} {D : Nat} {o : Int32 × am_W} : ∀ (n : Nat) (p2 : Nat) (a3 : Int32) (w : am_W) (hp2 : p2 < 6), L_Read_read_26 n p2 a3 w = some o → am_xgi sc (D + 105) 34 o (26, [(0, .ref 18), (2, .ref (27 + 1 + p2)), (3, .int a3)], [], wx w, 0, 0)
  | 0, _, _, _, _, H => by cases H
  | n + 1, p2, a3, w, hp2, H => TC_Read_read_26 (TCL_Read_read_26 n) p2 a3 w hp2 H
theorem TC_Read_read {sc : Option (Nat × (Nat → Int32))} {D : Nat} {o : Int32 × am_W} (p1 : Nat) (p2 : Nat) (w : am_W) (hp1 : p1 < 6) (hp2 : p2 < 6) (H : F_Read_read p1 p2 w = some o) : am_xgi sc (D + 105) 34 o (0, [(0, .ref 18), (1, .ref (20 + 1 + p1)), (2, .ref (27 + 1 + p2))], [], wx w, 0, 0) := by
  unfold F_Read_read at H
  obtain ⟨w1, ew1, H⟩ := am_ltE H
  refine am_go_blk 3 ⟨rfl, rfl, am_hp (wx_sz hp1 ew1) (?_ : am_xgi sc (D + 105) 34 o (5, [(0, .ref 18), (1, .ref (20 + 1 + p1)), (2, .ref (27 + 1 + p2))], [], wx w1, 0, 0))⟩
  obtain ⟨w2, ew2, H⟩ := am_ltE H
  refine am_go_blk 3 ⟨rfl, rfl, am_hp (wx_f18_6 ew2) (?_ : am_xgi sc (D + 105) 34 o (10, [(0, .ref 18), (1, .ref (20 + 1 + p1)), (2, .ref (27 + 1 + p2))], [], wx w2, 0, 0))⟩
  obtain ⟨w3, ew3, H⟩ := am_ltE H
  refine am_go_blk 3 ⟨rfl, rfl, am_hp (wx_f18_2 ew3) (?_ : am_xgi sc (D + 105) 34 o (15, [(0, .ref 18), (1, .ref (20 + 1 + p1)), (2, .ref (27 + 1 + p2))], [], wx w3, 0, 0))⟩
  obtain ⟨w4, ew4, H⟩ := am_ltE H
  refine am_go_blk 3 ⟨rfl, rfl, am_hp (wx_f18_5 ew4) (?_ : am_xgi sc (D + 105) 34 o (20, [(0, .ref 18), (1, .ref (20 + 1 + p1)), (2, .ref (27 + 1 + p2))], [], wx w4, 0, 0))⟩
  obtain ⟨w5, hqw5, H⟩ := am_bnE H
  refine am_go_blk 1 (?_ : am_xgi sc (D + 105) 34 o (21, [(0, .ref 18), (1, .ref (20 + 1 + p1)), (2, .ref (27 + 1 + p2))], [.ref 18], wx w4, 0, 0))
  refine am_invd rfl rfl rfl rfl (am_xcallv rfl (MC_Read_advance (D := D + 100) hqw5) (?_ : am_xgi sc (D + 105) 34 o (24, [(0, .ref 18), (1, .ref (20 + 1 + p1)), (2, .ref (27 + 1 + p2))], [], wx w5, 0, 0)))
  exact am_go_blk 2 (TCL_Read_read_26 am_NF p2 (nI 0) w5 hp2 H)
theorem MC_Read_read {sc : Option (Nat × (Nat → Int32))} {D : Nat} {o : Int32 × am_W} {p1 : Nat} {p2 : Nat} {w : am_W} (hp1 : p1 < 6) (hp2 : p2 < 6) (H : F_Read_read p1 p2 w = some o) : am_run sc (D + 106) 34 [.ref 18, .ref (20 + 1 + p1), .ref (27 + 1 + p2)] (wx w) (some (.int o.1)) (wx o.2) 0 0 :=
  am_run_of rfl (TC_Read_read p1 p2 w hp1 hp2 H)
def F_Jstrcoder7d493_3000000_14 (s0 : Int32) (w : am_W) : Option (Int32 × am_W) :=
  am_ck (am_by s0) (some (s0, w))
theorem TC_Jstrcoder7d493_3000000_14 {sc : Option (Nat × (Nat → Int32))} {D : Nat} {o : Int32 × am_W} (s0 : Int32) (w : am_W) (H : F_Jstrcoder7d493_3000000_14 s0 w = some o) : am_xgi sc D 93 o (14, [], [.int s0], wx w, 0, 0) := by
  unfold F_Jstrcoder7d493_3000000_14 at H
  obtain ⟨hc, H⟩ := am_ckE H
  exact am_go_blk 1 ⟨am_byE hc, am_xfi H⟩
def F_Jstrcoder7d493_3000000 (w : am_W) : Option (Int32 × am_W) :=
  if (nI 1) = 0 then (F_Jstrcoder7d493_3000000_14 (nI 1) w) else (F_Jstrcoder7d493_3000000_14 (nI 0) w)
theorem TC_Jstrcoder7d493_3000000 {sc : Option (Nat × (Nat → Int32))} {D : Nat} {o : Int32 × am_W} (w : am_W) (H : F_Jstrcoder7d493_3000000 w = some o) : am_xgi sc D 93 o (0, [(0, .ref 3000000)], [], wx w, 0, 0) := by
  unfold F_Jstrcoder7d493_3000000 at H
  refine am_go_blk 2 ⟨fun hc => ?_, fun hc => ?_⟩
  · have H := am_it hc H
    show am_xgi sc D 93 o (13, [], [], wx w, 0, 0)
    exact am_go_blk 1 (TC_Jstrcoder7d493_3000000_14 (nI 1) w H)
  · have H := am_ie hc H
    show am_xgi sc D 93 o (6, [(0, .ref 3000000)], [], wx w, 0, 0)
    exact am_go_blk 3 (TC_Jstrcoder7d493_3000000_14 (nI 0) w H)
theorem MC_Jstrcoder7d493_3000000 {sc : Option (Nat × (Nat → Int32))} {D : Nat} {o : Int32 × am_W} {w : am_W} (H : F_Jstrcoder7d493_3000000 w = some o) : am_run sc (D + 1) 93 [.ref 3000000] (wx w) (some (.int o.1)) (wx o.2) 0 0 :=
  am_run_of rfl (TC_Jstrcoder7d493_3000000 w H)
def F_Jstrlength8abf5_3000000 (w : am_W) : Option (Int32 × am_W) :=
  (F_Jstrcoder7d493_3000000 w).bind fun q1 => some (((nI 40) >>> (q1.1 &&& 31)), q1.2)
theorem TC_Jstrlength8abf5_3000000 {sc : Option (Nat × (Nat → Int32))} {D : Nat} {o : Int32 × am_W} (w : am_W) (H : F_Jstrlength8abf5_3000000 w = some o) : am_xgi sc (D + 1) 87 o (0, [(0, .ref 3000000)], [], wx w, 0, 0) := by
  unfold F_Jstrlength8abf5_3000000 at H
  obtain ⟨q1, hqq1, H⟩ := am_bnE H
  refine am_go_blk 4 (?_ : am_xgi sc (D + 1) 87 o (6, [(0, .ref 3000000)], [.ref 3000000, .int (nI 40)], wx w, 0, 0))
  refine am_invs rfl rfl rfl (am_xcalli rfl (MC_Jstrcoder7d493_3000000 (D := D) hqq1) (?_ : am_xgi sc (D + 1) 87 o (9, [(0, .ref 3000000)], [.int q1.1, .int (nI 40)], wx q1.2, 0, 0)))
  exact am_go_blk 2 ⟨rfl, am_xfi H⟩
theorem MC_Jstrlength8abf5_3000000 {sc : Option (Nat × (Nat → Int32))} {D : Nat} {o : Int32 × am_W} {w : am_W} (H : F_Jstrlength8abf5_3000000 w = some o) : am_run sc (D + 2) 87 [.ref 3000000] (wx w) (some (.int o.1)) (wx o.2) 0 0 :=
  am_run_of rfl (TC_Jstrlength8abf5_3000000 w H)
def F_JstrisLatin1aae02_3000000_18 (s0 : Int32) (w : am_W) : Option (Int32 × am_W) :=
  am_ck (am_bo s0) (some (s0, w))
theorem TC_JstrisLatin1aae02_3000000_18 {sc : Option (Nat × (Nat → Int32))} {D : Nat} {o : Int32 × am_W} (s0 : Int32) (w : am_W) (H : F_JstrisLatin1aae02_3000000_18 s0 w = some o) : am_xgi sc D 94 o (18, [], [.int s0], wx w, 0, 0) := by
  unfold F_JstrisLatin1aae02_3000000_18 at H
  obtain ⟨hc, H⟩ := am_ckE H
  exact am_go_blk 1 ⟨am_boE hc, am_xfi H⟩
def F_JstrisLatin1aae02_3000000_17 (w : am_W) : Option (Int32 × am_W) :=
  F_JstrisLatin1aae02_3000000_18 (nI 0) w
theorem TC_JstrisLatin1aae02_3000000_17 {sc : Option (Nat × (Nat → Int32))} {D : Nat} {o : Int32 × am_W} (w : am_W) (H : F_JstrisLatin1aae02_3000000_17 w = some o) : am_xgi sc D 94 o (17, [], [], wx w, 0, 0) := by
  unfold F_JstrisLatin1aae02_3000000_17 at H
  exact am_go_blk 1 (TC_JstrisLatin1aae02_3000000_18 (nI 0) w H)
def F_JstrisLatin1aae02_3000000 (w : am_W) : Option (Int32 × am_W) :=
  if (nI 1) = 0 then (F_JstrisLatin1aae02_3000000_17 w) else (if (nI 0) = 0 then (F_JstrisLatin1aae02_3000000_18 (nI 1) w) else (F_JstrisLatin1aae02_3000000_17 w))
theorem TC_JstrisLatin1aae02_3000000 {sc : Option (Nat × (Nat → Int32))} {D : Nat} {o : Int32 × am_W} (w : am_W) (H : F_JstrisLatin1aae02_3000000 w = some o) : am_xgi sc D 94 o (0, [(0, .ref 3000000)], [], wx w, 0, 0) := by
  unfold F_JstrisLatin1aae02_3000000 at H
  refine am_go_blk 2 ⟨fun hc => ?_, fun hc => ?_⟩
  · have H := am_it hc H
    exact TC_JstrisLatin1aae02_3000000_17 w H
  · have H := am_ie hc H
    show am_xgi sc D 94 o (6, [(0, .ref 3000000)], [], wx w, 0, 0)
    refine am_go_blk 3 ⟨fun hc => ?_, fun hc => ?_⟩
    · have H := am_ie hc H
      exact TC_JstrisLatin1aae02_3000000_17 w H
    · have H := am_it hc H
      show am_xgi sc D 94 o (13, [(0, .ref 3000000)], [], wx w, 0, 0)
      exact am_go_blk 2 (TC_JstrisLatin1aae02_3000000_18 (nI 1) w H)
theorem MC_JstrisLatin1aae02_3000000 {sc : Option (Nat × (Nat → Int32))} {D : Nat} {o : Int32 × am_W} {w : am_W} (H : F_JstrisLatin1aae02_3000000 w = some o) : am_run sc (D + 1) 94 [.ref 3000000] (wx w) (some (.int o.1)) (wx o.2) 0 0 :=
  am_run_of rfl (TC_JstrisLatin1aae02_3000000 w H)
def F_JlatcharAt3b067_3001000 (a1 : Int32) (w : am_W) : Option (Int32 × am_W) :=
  am_ck (am_cix a1 (nI 40)) (am_ck (am_in a1 40) (am_ck (am_ch (((((am_byt.getD 0 []).getD a1.toNatClampNeg 0) &&& (nI 255)).toUInt32 % 65536).toInt32)) (some (((((am_byt.getD 0 []).getD a1.toNatClampNeg 0) &&& (nI 255)).toUInt32 % 65536).toInt32, w))))
theorem TC_JlatcharAt3b067_3001000 {sc : Option (Nat × (Nat → Int32))} {D : Nat} {o : Int32 × am_W} (a1 : Int32) (w : am_W) (H : F_JlatcharAt3b067_3001000 a1 w = some o) : am_xgi sc D 100 o (0, [(0, .ref 3001000), (1, .int a1)], [], wx w, 0, 0) := by
  unfold F_JlatcharAt3b067_3001000 at H
  obtain ⟨hc, H⟩ := am_ckE H
  refine am_go_blk 4 (am_cixE hc (?_ : am_xgi sc D 100 o (6, [(0, .ref 3001000), (1, .int a1)], [], wx w, 0, 0)))
  obtain ⟨hc, H⟩ := am_ckE H
  refine am_go_blk 3 ⟨am_inv hc, (?_ : am_xgi sc D 100 o (9, [(0, .ref 3001000), (1, .int a1)], [.int ((am_byt.getD 0 []).getD a1.toNatClampNeg 0)], wx w, 0, 0))⟩
  obtain ⟨hc, H⟩ := am_ckE H
  exact am_go_blk 4 ⟨am_chE hc, am_xfi H⟩
theorem MC_JlatcharAt3b067_3001000 {sc : Option (Nat × (Nat → Int32))} {D : Nat} {o : Int32 × am_W} {a1 : Int32} {w : am_W} (H : F_JlatcharAt3b067_3001000 a1 w = some o) : am_run sc (D + 1) 100 [.ref 3001000, .int a1] (wx w) (some (.int o.1)) (wx o.2) 0 0 :=
  am_run_of rfl (TC_JlatcharAt3b067_3001000 a1 w H)
def F_JstrcharAt5068e_3000000 (a1 : Int32) (w : am_W) : Option (Int32 × am_W) :=
  (F_JstrisLatin1aae02_3000000 w).bind fun q1 => if q1.1 = 0 then (none) else ((F_JlatcharAt3b067_3001000 a1 q1.2).bind fun q2 => am_ck (am_ch q2.1) (some (q2.1, q2.2)))
theorem TC_JstrcharAt5068e_3000000 {sc : Option (Nat × (Nat → Int32))} {D : Nat} {o : Int32 × am_W} (a1 : Int32) (w : am_W) (H : F_JstrcharAt5068e_3000000 a1 w = some o) : am_xgi sc (D + 1) 88 o (0, [(0, .ref 3000000), (1, .int a1)], [], wx w, 0, 0) := by
  unfold F_JstrcharAt5068e_3000000 at H
  obtain ⟨q1, hqq1, H⟩ := am_bnE H
  refine am_go_blk 1 (?_ : am_xgi sc (D + 1) 88 o (1, [(0, .ref 3000000), (1, .int a1)], [.ref 3000000], wx w, 0, 0))
  refine am_invs rfl rfl rfl (am_xcalli rfl (MC_JstrisLatin1aae02_3000000 (D := D) hqq1) (?_ : am_xgi sc (D + 1) 88 o (4, [(0, .ref 3000000), (1, .int a1)], [.int q1.1], wx q1.2, 0, 0)))
  refine am_go_blk 1 ⟨fun hc => ?_, fun hc => ?_⟩
  · have H := am_it hc H
    show am_xgi sc (D + 1) 88 o (16, [(0, .ref 3000000), (1, .int a1)], [], wx q1.2, 0, 0)
    cases H
  · have H := am_ie hc H
    show am_xgi sc (D + 1) 88 o (7, [(0, .ref 3000000), (1, .int a1)], [], wx q1.2, 0, 0)
    obtain ⟨q2, hqq2, H⟩ := am_bnE H
    refine am_go_blk 3 (?_ : am_xgi sc (D + 1) 88 o (12, [(0, .ref 3000000), (1, .int a1)], [.int a1, .ref 3001000], wx q1.2, 0, 0))
    refine am_cls rfl rfl rfl (am_xcalli rfl (MC_JlatcharAt3b067_3001000 (D := D) hqq2) (?_ : am_xgi sc (D + 1) 88 o (15, [(0, .ref 3000000), (1, .int a1)], [.int q2.1], wx q2.2, 0, 0)))
    obtain ⟨hc, H⟩ := am_ckE H
    exact am_go_blk 1 ⟨am_chE hc, am_xfi H⟩
theorem MC_JstrcharAt5068e_3000000 {sc : Option (Nat × (Nat → Int32))} {D : Nat} {o : Int32 × am_W} {a1 : Int32} {w : am_W} (H : F_JstrcharAt5068e_3000000 a1 w = some o) : am_run sc (D + 2) 88 [.ref 3000000, .int a1] (wx w) (some (.int o.1)) (wx o.2) 0 0 :=
  am_run_of rfl (TC_JstrcharAt5068e_3000000 a1 w H)
