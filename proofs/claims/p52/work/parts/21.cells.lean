/-! ===== the class's cells, at their places: σ holds every int, z the field that holds an array ===== -/
abbrev am_M : Type := Nat → Nat → Int32
def mf (σ : am_M) (c : Nat) (f : Nat → Int32) : am_M := fun a => bif Nat.beq a c then f else σ a
def wd (σ : am_M) (z : Value) : am_H := [
  .inr (6, [.ref 1, .ref 9, .ref 17, .ref 36, .ref 40, .ref 42, .ref 43, .ref 44, .int (σ 0 8), .int (σ 0 9)]),
  .inr (3, [.int (σ 1 0), .int (σ 1 1), .int (σ 1 2), .int (σ 1 3), .int (σ 1 4), .ref 2, .ref 3, .ref 4, .ref 5, .ref 6, .ref 7, .ref 8]),
  .inl (0, 8, .inl (σ 2)),
  .inl (0, 8, .inl (σ 3)),
  .inl (0, 8, .inl (σ 4)),
  .inl (0, 10, .inl (σ 5)),
  .inl (0, 10, .inl (σ 6)),
  .inl (0, 10, .inl (σ 7)),
  .inl (0, 10, .inl (σ 8)),
  .inr (3, [.int (σ 9 0), .int (σ 9 1), .int (σ 9 2), .int (σ 9 3), .int (σ 9 4), .ref 10, .ref 11, .ref 12, .ref 13, .ref 14, .ref 15, .ref 16]),
  .inl (0, 8, .inl (σ 10)),
  .inl (0, 8, .inl (σ 11)),
  .inl (0, 8, .inl (σ 12)),
  .inl (0, 10, .inl (σ 13)),
  .inl (0, 10, .inl (σ 14)),
  .inl (0, 10, .inl (σ 15)),
  .inl (0, 10, .inl (σ 16)),
  .inr (1, [.ref 18, .int (σ 17 1), .int (σ 17 2), .ref 1, .ref 20, .ref 27, .ref 34, .ref 35]),
  .inr (4, [.int (σ 18 0), .int (σ 18 1), .int (σ 18 2), .int (σ 18 3), .int (σ 18 4), .int (σ 18 5), .int (σ 18 6), z, .ref 19]),
  .inl (0, 160, .inl (σ 19)),
  .inl (3, 6, .inr (.inr (.inr (.inr (fun i => some (20 + 1 + i)))))),
  .inl (0, 160, .inl (σ 21)),
  .inl (0, 160, .inl (σ 22)),
  .inl (0, 160, .inl (σ 23)),
  .inl (0, 160, .inl (σ 24)),
  .inl (0, 160, .inl (σ 25)),
  .inl (0, 160, .inl (σ 26)),
  .inl (3, 6, .inr (.inr (.inr (.inr (fun i => some (27 + 1 + i)))))),
  .inl (0, 3, .inl (σ 28)),
  .inl (0, 3, .inl (σ 29)),
  .inl (0, 3, .inl (σ 30)),
  .inl (0, 3, .inl (σ 31)),
  .inl (0, 3, .inl (σ 32)),
  .inl (0, 3, .inl (σ 33)),
  .inl (0, 6, .inl (σ 34)),
  .inl (0, 64, .inl (σ 35)),
  .inr (2, [.ref 1, .ref 37, .ref 38, .ref 39]),
  .inl (0, 256, .inl (σ 37)),
  .inl (0, 256, .inl (σ 38)),
  .inl (0, 8, .inl (σ 39)),
  .inr (0, [.ref 1, .ref 41]),
  .inl (0, 8, .inl (σ 41)),
  .inl (2, 4, .inr (.inr (.inr (.inr (va_up (va_up (va_up (va_up (fun _ => none) 0 (some 45)) 1 (some 47)) 2 (some 49)) 3 (some 51)))))),
  .inl (0, 8, .inl (σ 43)),
  .inl (0, 10, .inl (σ 44)),
  .inr (5, [.int (σ 45 0), .int (σ 45 1), .ref 46]),
  .inl (0, 40, .inl (σ 46)),
  .inr (5, [.int (σ 47 0), .int (σ 47 1), .ref 48]),
  .inl (0, 40, .inl (σ 48)),
  .inr (5, [.int (σ 49 0), .int (σ 49 1), .ref 50]),
  .inl (0, 40, .inl (σ 50)),
  .inr (5, [.int (σ 51 0), .int (σ 51 1), .ref 52]),
  .inl (0, 40, .inl (σ 52))]
/-- the class's memory: the ints of every cell, which text the reader writes -/
abbrev am_W : Type := am_M × Option Nat
def zv (o : Option Nat) : Value := match o with
  | none => .null
  | some t => .ref (20 + 1 + t % 6)
def ww (w : am_W) : am_H := wd w.1 (zv w.2)
theorem ww_len (w : am_W) : (ww w).length = 53 := rfl
/-! stores -/
def wst (w : am_W) (c : Nat) (i x : Int32) : am_W := (mf w.1 c (upd (w.1 c) i.toNatClampNeg x), w.2)
def wsf (w : am_W) (c j : Nat) (x : Int32) : am_W := (mf w.1 c (upd (w.1 c) j x), w.2)
def wz (w : am_W) (t : Nat) : am_W := (w.1, some t)
def wcp (w : am_W) (c d : Nat) (sp dp n : Int32) : am_W := (mf w.1 d (va_cpy (w.1 c) (w.1 d) sp.toNatClampNeg dp.toNatClampNeg n.toNatClampNeg), w.2)
theorem am_hp {E : am_E} {sc : Option (Nat × (Nat → Int32))} {y mc ms pc k n : Nat} {Φ : Option Value → am_H → Prop} {lv : am_L} {st : List Value} {h h1 : am_H} (e : h1 = h) (H : am_go E sc y mc ms Φ (pc, lv, st, h, k, n)) : am_go E sc y mc ms Φ (pc, lv, st, h1, k, n) := e ▸ H
theorem ww_f0_8 {w w2 : am_W} {v : Int32} (e : wsf w 0 8 v = w2) : (ww w).set 0 (.inr (6, ([.ref 1, .ref 9, .ref 17, .ref 36, .ref 40, .ref 42, .ref 43, .ref 44, .int (w.1 0 8), .int (w.1 0 9)] : List Value).set 8 (.int v))) = ww w2 := e ▸ rfl
theorem ww_f0_9 {w w2 : am_W} {v : Int32} (e : wsf w 0 9 v = w2) : (ww w).set 0 (.inr (6, ([.ref 1, .ref 9, .ref 17, .ref 36, .ref 40, .ref 42, .ref 43, .ref 44, .int (w.1 0 8), .int (w.1 0 9)] : List Value).set 9 (.int v))) = ww w2 := e ▸ rfl
theorem ww_f1_0 {w w2 : am_W} {v : Int32} (e : wsf w 1 0 v = w2) : (ww w).set 1 (.inr (3, ([.int (w.1 1 0), .int (w.1 1 1), .int (w.1 1 2), .int (w.1 1 3), .int (w.1 1 4), .ref 2, .ref 3, .ref 4, .ref 5, .ref 6, .ref 7, .ref 8] : List Value).set 0 (.int v))) = ww w2 := e ▸ rfl
theorem ww_f1_1 {w w2 : am_W} {v : Int32} (e : wsf w 1 1 v = w2) : (ww w).set 1 (.inr (3, ([.int (w.1 1 0), .int (w.1 1 1), .int (w.1 1 2), .int (w.1 1 3), .int (w.1 1 4), .ref 2, .ref 3, .ref 4, .ref 5, .ref 6, .ref 7, .ref 8] : List Value).set 1 (.int v))) = ww w2 := e ▸ rfl
theorem ww_f1_2 {w w2 : am_W} {v : Int32} (e : wsf w 1 2 v = w2) : (ww w).set 1 (.inr (3, ([.int (w.1 1 0), .int (w.1 1 1), .int (w.1 1 2), .int (w.1 1 3), .int (w.1 1 4), .ref 2, .ref 3, .ref 4, .ref 5, .ref 6, .ref 7, .ref 8] : List Value).set 2 (.int v))) = ww w2 := e ▸ rfl
theorem ww_f1_3 {w w2 : am_W} {v : Int32} (e : wsf w 1 3 v = w2) : (ww w).set 1 (.inr (3, ([.int (w.1 1 0), .int (w.1 1 1), .int (w.1 1 2), .int (w.1 1 3), .int (w.1 1 4), .ref 2, .ref 3, .ref 4, .ref 5, .ref 6, .ref 7, .ref 8] : List Value).set 3 (.int v))) = ww w2 := e ▸ rfl
theorem ww_f1_4 {w w2 : am_W} {v : Int32} (e : wsf w 1 4 v = w2) : (ww w).set 1 (.inr (3, ([.int (w.1 1 0), .int (w.1 1 1), .int (w.1 1 2), .int (w.1 1 3), .int (w.1 1 4), .ref 2, .ref 3, .ref 4, .ref 5, .ref 6, .ref 7, .ref 8] : List Value).set 4 (.int v))) = ww w2 := e ▸ rfl
theorem ww_s2 {w w2 : am_W} {i x : Int32} (e : wst w 2 i x = w2) : (ww w).set 2 (.inl (0, 8, .inl (upd (w.1 2) i.toNatClampNeg x))) = ww w2 := e ▸ rfl
theorem ww_c2 {w w2 : am_W} {a : Nat} {sp dp n : Int32} (e : wcp w a 2 sp dp n = w2) : (ww w).set 2 (.inl (0, 8, .inl (va_cpy (w.1 a) (w.1 2) sp.toNatClampNeg dp.toNatClampNeg n.toNatClampNeg))) = ww w2 := e ▸ rfl
theorem ww_s3 {w w2 : am_W} {i x : Int32} (e : wst w 3 i x = w2) : (ww w).set 3 (.inl (0, 8, .inl (upd (w.1 3) i.toNatClampNeg x))) = ww w2 := e ▸ rfl
theorem ww_c3 {w w2 : am_W} {a : Nat} {sp dp n : Int32} (e : wcp w a 3 sp dp n = w2) : (ww w).set 3 (.inl (0, 8, .inl (va_cpy (w.1 a) (w.1 3) sp.toNatClampNeg dp.toNatClampNeg n.toNatClampNeg))) = ww w2 := e ▸ rfl
theorem ww_s4 {w w2 : am_W} {i x : Int32} (e : wst w 4 i x = w2) : (ww w).set 4 (.inl (0, 8, .inl (upd (w.1 4) i.toNatClampNeg x))) = ww w2 := e ▸ rfl
theorem ww_c4 {w w2 : am_W} {a : Nat} {sp dp n : Int32} (e : wcp w a 4 sp dp n = w2) : (ww w).set 4 (.inl (0, 8, .inl (va_cpy (w.1 a) (w.1 4) sp.toNatClampNeg dp.toNatClampNeg n.toNatClampNeg))) = ww w2 := e ▸ rfl
theorem ww_s5 {w w2 : am_W} {i x : Int32} (e : wst w 5 i x = w2) : (ww w).set 5 (.inl (0, 10, .inl (upd (w.1 5) i.toNatClampNeg x))) = ww w2 := e ▸ rfl
theorem ww_c5 {w w2 : am_W} {a : Nat} {sp dp n : Int32} (e : wcp w a 5 sp dp n = w2) : (ww w).set 5 (.inl (0, 10, .inl (va_cpy (w.1 a) (w.1 5) sp.toNatClampNeg dp.toNatClampNeg n.toNatClampNeg))) = ww w2 := e ▸ rfl
theorem ww_s6 {w w2 : am_W} {i x : Int32} (e : wst w 6 i x = w2) : (ww w).set 6 (.inl (0, 10, .inl (upd (w.1 6) i.toNatClampNeg x))) = ww w2 := e ▸ rfl
theorem ww_c6 {w w2 : am_W} {a : Nat} {sp dp n : Int32} (e : wcp w a 6 sp dp n = w2) : (ww w).set 6 (.inl (0, 10, .inl (va_cpy (w.1 a) (w.1 6) sp.toNatClampNeg dp.toNatClampNeg n.toNatClampNeg))) = ww w2 := e ▸ rfl
theorem ww_s7 {w w2 : am_W} {i x : Int32} (e : wst w 7 i x = w2) : (ww w).set 7 (.inl (0, 10, .inl (upd (w.1 7) i.toNatClampNeg x))) = ww w2 := e ▸ rfl
theorem ww_c7 {w w2 : am_W} {a : Nat} {sp dp n : Int32} (e : wcp w a 7 sp dp n = w2) : (ww w).set 7 (.inl (0, 10, .inl (va_cpy (w.1 a) (w.1 7) sp.toNatClampNeg dp.toNatClampNeg n.toNatClampNeg))) = ww w2 := e ▸ rfl
theorem ww_s8 {w w2 : am_W} {i x : Int32} (e : wst w 8 i x = w2) : (ww w).set 8 (.inl (0, 10, .inl (upd (w.1 8) i.toNatClampNeg x))) = ww w2 := e ▸ rfl
theorem ww_c8 {w w2 : am_W} {a : Nat} {sp dp n : Int32} (e : wcp w a 8 sp dp n = w2) : (ww w).set 8 (.inl (0, 10, .inl (va_cpy (w.1 a) (w.1 8) sp.toNatClampNeg dp.toNatClampNeg n.toNatClampNeg))) = ww w2 := e ▸ rfl
theorem ww_f9_0 {w w2 : am_W} {v : Int32} (e : wsf w 9 0 v = w2) : (ww w).set 9 (.inr (3, ([.int (w.1 9 0), .int (w.1 9 1), .int (w.1 9 2), .int (w.1 9 3), .int (w.1 9 4), .ref 10, .ref 11, .ref 12, .ref 13, .ref 14, .ref 15, .ref 16] : List Value).set 0 (.int v))) = ww w2 := e ▸ rfl
theorem ww_f9_1 {w w2 : am_W} {v : Int32} (e : wsf w 9 1 v = w2) : (ww w).set 9 (.inr (3, ([.int (w.1 9 0), .int (w.1 9 1), .int (w.1 9 2), .int (w.1 9 3), .int (w.1 9 4), .ref 10, .ref 11, .ref 12, .ref 13, .ref 14, .ref 15, .ref 16] : List Value).set 1 (.int v))) = ww w2 := e ▸ rfl
theorem ww_f9_2 {w w2 : am_W} {v : Int32} (e : wsf w 9 2 v = w2) : (ww w).set 9 (.inr (3, ([.int (w.1 9 0), .int (w.1 9 1), .int (w.1 9 2), .int (w.1 9 3), .int (w.1 9 4), .ref 10, .ref 11, .ref 12, .ref 13, .ref 14, .ref 15, .ref 16] : List Value).set 2 (.int v))) = ww w2 := e ▸ rfl
theorem ww_f9_3 {w w2 : am_W} {v : Int32} (e : wsf w 9 3 v = w2) : (ww w).set 9 (.inr (3, ([.int (w.1 9 0), .int (w.1 9 1), .int (w.1 9 2), .int (w.1 9 3), .int (w.1 9 4), .ref 10, .ref 11, .ref 12, .ref 13, .ref 14, .ref 15, .ref 16] : List Value).set 3 (.int v))) = ww w2 := e ▸ rfl
theorem ww_f9_4 {w w2 : am_W} {v : Int32} (e : wsf w 9 4 v = w2) : (ww w).set 9 (.inr (3, ([.int (w.1 9 0), .int (w.1 9 1), .int (w.1 9 2), .int (w.1 9 3), .int (w.1 9 4), .ref 10, .ref 11, .ref 12, .ref 13, .ref 14, .ref 15, .ref 16] : List Value).set 4 (.int v))) = ww w2 := e ▸ rfl
theorem ww_s10 {w w2 : am_W} {i x : Int32} (e : wst w 10 i x = w2) : (ww w).set 10 (.inl (0, 8, .inl (upd (w.1 10) i.toNatClampNeg x))) = ww w2 := e ▸ rfl
theorem ww_c10 {w w2 : am_W} {a : Nat} {sp dp n : Int32} (e : wcp w a 10 sp dp n = w2) : (ww w).set 10 (.inl (0, 8, .inl (va_cpy (w.1 a) (w.1 10) sp.toNatClampNeg dp.toNatClampNeg n.toNatClampNeg))) = ww w2 := e ▸ rfl
theorem ww_s11 {w w2 : am_W} {i x : Int32} (e : wst w 11 i x = w2) : (ww w).set 11 (.inl (0, 8, .inl (upd (w.1 11) i.toNatClampNeg x))) = ww w2 := e ▸ rfl
theorem ww_c11 {w w2 : am_W} {a : Nat} {sp dp n : Int32} (e : wcp w a 11 sp dp n = w2) : (ww w).set 11 (.inl (0, 8, .inl (va_cpy (w.1 a) (w.1 11) sp.toNatClampNeg dp.toNatClampNeg n.toNatClampNeg))) = ww w2 := e ▸ rfl
theorem ww_s12 {w w2 : am_W} {i x : Int32} (e : wst w 12 i x = w2) : (ww w).set 12 (.inl (0, 8, .inl (upd (w.1 12) i.toNatClampNeg x))) = ww w2 := e ▸ rfl
theorem ww_c12 {w w2 : am_W} {a : Nat} {sp dp n : Int32} (e : wcp w a 12 sp dp n = w2) : (ww w).set 12 (.inl (0, 8, .inl (va_cpy (w.1 a) (w.1 12) sp.toNatClampNeg dp.toNatClampNeg n.toNatClampNeg))) = ww w2 := e ▸ rfl
theorem ww_s13 {w w2 : am_W} {i x : Int32} (e : wst w 13 i x = w2) : (ww w).set 13 (.inl (0, 10, .inl (upd (w.1 13) i.toNatClampNeg x))) = ww w2 := e ▸ rfl
theorem ww_c13 {w w2 : am_W} {a : Nat} {sp dp n : Int32} (e : wcp w a 13 sp dp n = w2) : (ww w).set 13 (.inl (0, 10, .inl (va_cpy (w.1 a) (w.1 13) sp.toNatClampNeg dp.toNatClampNeg n.toNatClampNeg))) = ww w2 := e ▸ rfl
theorem ww_s14 {w w2 : am_W} {i x : Int32} (e : wst w 14 i x = w2) : (ww w).set 14 (.inl (0, 10, .inl (upd (w.1 14) i.toNatClampNeg x))) = ww w2 := e ▸ rfl
theorem ww_c14 {w w2 : am_W} {a : Nat} {sp dp n : Int32} (e : wcp w a 14 sp dp n = w2) : (ww w).set 14 (.inl (0, 10, .inl (va_cpy (w.1 a) (w.1 14) sp.toNatClampNeg dp.toNatClampNeg n.toNatClampNeg))) = ww w2 := e ▸ rfl
theorem ww_s15 {w w2 : am_W} {i x : Int32} (e : wst w 15 i x = w2) : (ww w).set 15 (.inl (0, 10, .inl (upd (w.1 15) i.toNatClampNeg x))) = ww w2 := e ▸ rfl
theorem ww_c15 {w w2 : am_W} {a : Nat} {sp dp n : Int32} (e : wcp w a 15 sp dp n = w2) : (ww w).set 15 (.inl (0, 10, .inl (va_cpy (w.1 a) (w.1 15) sp.toNatClampNeg dp.toNatClampNeg n.toNatClampNeg))) = ww w2 := e ▸ rfl
theorem ww_s16 {w w2 : am_W} {i x : Int32} (e : wst w 16 i x = w2) : (ww w).set 16 (.inl (0, 10, .inl (upd (w.1 16) i.toNatClampNeg x))) = ww w2 := e ▸ rfl
theorem ww_c16 {w w2 : am_W} {a : Nat} {sp dp n : Int32} (e : wcp w a 16 sp dp n = w2) : (ww w).set 16 (.inl (0, 10, .inl (va_cpy (w.1 a) (w.1 16) sp.toNatClampNeg dp.toNatClampNeg n.toNatClampNeg))) = ww w2 := e ▸ rfl
theorem ww_f17_1 {w w2 : am_W} {v : Int32} (e : wsf w 17 1 v = w2) : (ww w).set 17 (.inr (1, ([.ref 18, .int (w.1 17 1), .int (w.1 17 2), .ref 1, .ref 20, .ref 27, .ref 34, .ref 35] : List Value).set 1 (.int v))) = ww w2 := e ▸ rfl
theorem ww_f17_2 {w w2 : am_W} {v : Int32} (e : wsf w 17 2 v = w2) : (ww w).set 17 (.inr (1, ([.ref 18, .int (w.1 17 1), .int (w.1 17 2), .ref 1, .ref 20, .ref 27, .ref 34, .ref 35] : List Value).set 2 (.int v))) = ww w2 := e ▸ rfl
theorem ww_f18_0 {w w2 : am_W} {v : Int32} (e : wsf w 18 0 v = w2) : (ww w).set 18 (.inr (4, ([.int (w.1 18 0), .int (w.1 18 1), .int (w.1 18 2), .int (w.1 18 3), .int (w.1 18 4), .int (w.1 18 5), .int (w.1 18 6), zv w.2, .ref 19] : List Value).set 0 (.int v))) = ww w2 := e ▸ rfl
theorem ww_f18_1 {w w2 : am_W} {v : Int32} (e : wsf w 18 1 v = w2) : (ww w).set 18 (.inr (4, ([.int (w.1 18 0), .int (w.1 18 1), .int (w.1 18 2), .int (w.1 18 3), .int (w.1 18 4), .int (w.1 18 5), .int (w.1 18 6), zv w.2, .ref 19] : List Value).set 1 (.int v))) = ww w2 := e ▸ rfl
theorem ww_f18_2 {w w2 : am_W} {v : Int32} (e : wsf w 18 2 v = w2) : (ww w).set 18 (.inr (4, ([.int (w.1 18 0), .int (w.1 18 1), .int (w.1 18 2), .int (w.1 18 3), .int (w.1 18 4), .int (w.1 18 5), .int (w.1 18 6), zv w.2, .ref 19] : List Value).set 2 (.int v))) = ww w2 := e ▸ rfl
theorem ww_f18_3 {w w2 : am_W} {v : Int32} (e : wsf w 18 3 v = w2) : (ww w).set 18 (.inr (4, ([.int (w.1 18 0), .int (w.1 18 1), .int (w.1 18 2), .int (w.1 18 3), .int (w.1 18 4), .int (w.1 18 5), .int (w.1 18 6), zv w.2, .ref 19] : List Value).set 3 (.int v))) = ww w2 := e ▸ rfl
theorem ww_f18_4 {w w2 : am_W} {v : Int32} (e : wsf w 18 4 v = w2) : (ww w).set 18 (.inr (4, ([.int (w.1 18 0), .int (w.1 18 1), .int (w.1 18 2), .int (w.1 18 3), .int (w.1 18 4), .int (w.1 18 5), .int (w.1 18 6), zv w.2, .ref 19] : List Value).set 4 (.int v))) = ww w2 := e ▸ rfl
theorem ww_f18_5 {w w2 : am_W} {v : Int32} (e : wsf w 18 5 v = w2) : (ww w).set 18 (.inr (4, ([.int (w.1 18 0), .int (w.1 18 1), .int (w.1 18 2), .int (w.1 18 3), .int (w.1 18 4), .int (w.1 18 5), .int (w.1 18 6), zv w.2, .ref 19] : List Value).set 5 (.int v))) = ww w2 := e ▸ rfl
theorem ww_f18_6 {w w2 : am_W} {v : Int32} (e : wsf w 18 6 v = w2) : (ww w).set 18 (.inr (4, ([.int (w.1 18 0), .int (w.1 18 1), .int (w.1 18 2), .int (w.1 18 3), .int (w.1 18 4), .int (w.1 18 5), .int (w.1 18 6), zv w.2, .ref 19] : List Value).set 6 (.int v))) = ww w2 := e ▸ rfl
theorem ww_sz {w w2 : am_W} {t : Nat} (ht : t < 6) (e : wz w t = w2) : (ww w).set 18 (.inr (4, ([.int (w.1 18 0), .int (w.1 18 1), .int (w.1 18 2), .int (w.1 18 3), .int (w.1 18 4), .int (w.1 18 5), .int (w.1 18 6), zv w.2, .ref 19] : List Value).set 7 (.ref (20 + 1 + t)))) = ww w2 := by
  subst e
  match t, ht with
  | 0, _ => rfl
  | 1, _ => rfl
  | 2, _ => rfl
  | 3, _ => rfl
  | 4, _ => rfl
  | 5, _ => rfl
theorem ww_s19 {w w2 : am_W} {i x : Int32} (e : wst w 19 i x = w2) : (ww w).set 19 (.inl (0, 160, .inl (upd (w.1 19) i.toNatClampNeg x))) = ww w2 := e ▸ rfl
theorem ww_c19 {w w2 : am_W} {a : Nat} {sp dp n : Int32} (e : wcp w a 19 sp dp n = w2) : (ww w).set 19 (.inl (0, 160, .inl (va_cpy (w.1 a) (w.1 19) sp.toNatClampNeg dp.toNatClampNeg n.toNatClampNeg))) = ww w2 := e ▸ rfl
theorem ww_s21 {w w2 : am_W} {i x : Int32} (e : wst w 21 i x = w2) : (ww w).set 21 (.inl (0, 160, .inl (upd (w.1 21) i.toNatClampNeg x))) = ww w2 := e ▸ rfl
theorem ww_c21 {w w2 : am_W} {a : Nat} {sp dp n : Int32} (e : wcp w a 21 sp dp n = w2) : (ww w).set 21 (.inl (0, 160, .inl (va_cpy (w.1 a) (w.1 21) sp.toNatClampNeg dp.toNatClampNeg n.toNatClampNeg))) = ww w2 := e ▸ rfl
theorem ww_s22 {w w2 : am_W} {i x : Int32} (e : wst w 22 i x = w2) : (ww w).set 22 (.inl (0, 160, .inl (upd (w.1 22) i.toNatClampNeg x))) = ww w2 := e ▸ rfl
theorem ww_c22 {w w2 : am_W} {a : Nat} {sp dp n : Int32} (e : wcp w a 22 sp dp n = w2) : (ww w).set 22 (.inl (0, 160, .inl (va_cpy (w.1 a) (w.1 22) sp.toNatClampNeg dp.toNatClampNeg n.toNatClampNeg))) = ww w2 := e ▸ rfl
theorem ww_s23 {w w2 : am_W} {i x : Int32} (e : wst w 23 i x = w2) : (ww w).set 23 (.inl (0, 160, .inl (upd (w.1 23) i.toNatClampNeg x))) = ww w2 := e ▸ rfl
theorem ww_c23 {w w2 : am_W} {a : Nat} {sp dp n : Int32} (e : wcp w a 23 sp dp n = w2) : (ww w).set 23 (.inl (0, 160, .inl (va_cpy (w.1 a) (w.1 23) sp.toNatClampNeg dp.toNatClampNeg n.toNatClampNeg))) = ww w2 := e ▸ rfl
theorem ww_s24 {w w2 : am_W} {i x : Int32} (e : wst w 24 i x = w2) : (ww w).set 24 (.inl (0, 160, .inl (upd (w.1 24) i.toNatClampNeg x))) = ww w2 := e ▸ rfl
theorem ww_c24 {w w2 : am_W} {a : Nat} {sp dp n : Int32} (e : wcp w a 24 sp dp n = w2) : (ww w).set 24 (.inl (0, 160, .inl (va_cpy (w.1 a) (w.1 24) sp.toNatClampNeg dp.toNatClampNeg n.toNatClampNeg))) = ww w2 := e ▸ rfl
theorem ww_s25 {w w2 : am_W} {i x : Int32} (e : wst w 25 i x = w2) : (ww w).set 25 (.inl (0, 160, .inl (upd (w.1 25) i.toNatClampNeg x))) = ww w2 := e ▸ rfl
theorem ww_c25 {w w2 : am_W} {a : Nat} {sp dp n : Int32} (e : wcp w a 25 sp dp n = w2) : (ww w).set 25 (.inl (0, 160, .inl (va_cpy (w.1 a) (w.1 25) sp.toNatClampNeg dp.toNatClampNeg n.toNatClampNeg))) = ww w2 := e ▸ rfl
theorem ww_s26 {w w2 : am_W} {i x : Int32} (e : wst w 26 i x = w2) : (ww w).set 26 (.inl (0, 160, .inl (upd (w.1 26) i.toNatClampNeg x))) = ww w2 := e ▸ rfl
theorem ww_c26 {w w2 : am_W} {a : Nat} {sp dp n : Int32} (e : wcp w a 26 sp dp n = w2) : (ww w).set 26 (.inl (0, 160, .inl (va_cpy (w.1 a) (w.1 26) sp.toNatClampNeg dp.toNatClampNeg n.toNatClampNeg))) = ww w2 := e ▸ rfl
theorem ww_s28 {w w2 : am_W} {i x : Int32} (e : wst w 28 i x = w2) : (ww w).set 28 (.inl (0, 3, .inl (upd (w.1 28) i.toNatClampNeg x))) = ww w2 := e ▸ rfl
theorem ww_c28 {w w2 : am_W} {a : Nat} {sp dp n : Int32} (e : wcp w a 28 sp dp n = w2) : (ww w).set 28 (.inl (0, 3, .inl (va_cpy (w.1 a) (w.1 28) sp.toNatClampNeg dp.toNatClampNeg n.toNatClampNeg))) = ww w2 := e ▸ rfl
theorem ww_s29 {w w2 : am_W} {i x : Int32} (e : wst w 29 i x = w2) : (ww w).set 29 (.inl (0, 3, .inl (upd (w.1 29) i.toNatClampNeg x))) = ww w2 := e ▸ rfl
theorem ww_c29 {w w2 : am_W} {a : Nat} {sp dp n : Int32} (e : wcp w a 29 sp dp n = w2) : (ww w).set 29 (.inl (0, 3, .inl (va_cpy (w.1 a) (w.1 29) sp.toNatClampNeg dp.toNatClampNeg n.toNatClampNeg))) = ww w2 := e ▸ rfl
theorem ww_s30 {w w2 : am_W} {i x : Int32} (e : wst w 30 i x = w2) : (ww w).set 30 (.inl (0, 3, .inl (upd (w.1 30) i.toNatClampNeg x))) = ww w2 := e ▸ rfl
theorem ww_c30 {w w2 : am_W} {a : Nat} {sp dp n : Int32} (e : wcp w a 30 sp dp n = w2) : (ww w).set 30 (.inl (0, 3, .inl (va_cpy (w.1 a) (w.1 30) sp.toNatClampNeg dp.toNatClampNeg n.toNatClampNeg))) = ww w2 := e ▸ rfl
theorem ww_s31 {w w2 : am_W} {i x : Int32} (e : wst w 31 i x = w2) : (ww w).set 31 (.inl (0, 3, .inl (upd (w.1 31) i.toNatClampNeg x))) = ww w2 := e ▸ rfl
theorem ww_c31 {w w2 : am_W} {a : Nat} {sp dp n : Int32} (e : wcp w a 31 sp dp n = w2) : (ww w).set 31 (.inl (0, 3, .inl (va_cpy (w.1 a) (w.1 31) sp.toNatClampNeg dp.toNatClampNeg n.toNatClampNeg))) = ww w2 := e ▸ rfl
theorem ww_s32 {w w2 : am_W} {i x : Int32} (e : wst w 32 i x = w2) : (ww w).set 32 (.inl (0, 3, .inl (upd (w.1 32) i.toNatClampNeg x))) = ww w2 := e ▸ rfl
theorem ww_c32 {w w2 : am_W} {a : Nat} {sp dp n : Int32} (e : wcp w a 32 sp dp n = w2) : (ww w).set 32 (.inl (0, 3, .inl (va_cpy (w.1 a) (w.1 32) sp.toNatClampNeg dp.toNatClampNeg n.toNatClampNeg))) = ww w2 := e ▸ rfl
theorem ww_s33 {w w2 : am_W} {i x : Int32} (e : wst w 33 i x = w2) : (ww w).set 33 (.inl (0, 3, .inl (upd (w.1 33) i.toNatClampNeg x))) = ww w2 := e ▸ rfl
theorem ww_c33 {w w2 : am_W} {a : Nat} {sp dp n : Int32} (e : wcp w a 33 sp dp n = w2) : (ww w).set 33 (.inl (0, 3, .inl (va_cpy (w.1 a) (w.1 33) sp.toNatClampNeg dp.toNatClampNeg n.toNatClampNeg))) = ww w2 := e ▸ rfl
theorem ww_s34 {w w2 : am_W} {i x : Int32} (e : wst w 34 i x = w2) : (ww w).set 34 (.inl (0, 6, .inl (upd (w.1 34) i.toNatClampNeg x))) = ww w2 := e ▸ rfl
theorem ww_c34 {w w2 : am_W} {a : Nat} {sp dp n : Int32} (e : wcp w a 34 sp dp n = w2) : (ww w).set 34 (.inl (0, 6, .inl (va_cpy (w.1 a) (w.1 34) sp.toNatClampNeg dp.toNatClampNeg n.toNatClampNeg))) = ww w2 := e ▸ rfl
theorem ww_s35 {w w2 : am_W} {i x : Int32} (e : wst w 35 i x = w2) : (ww w).set 35 (.inl (0, 64, .inl (upd (w.1 35) i.toNatClampNeg x))) = ww w2 := e ▸ rfl
theorem ww_c35 {w w2 : am_W} {a : Nat} {sp dp n : Int32} (e : wcp w a 35 sp dp n = w2) : (ww w).set 35 (.inl (0, 64, .inl (va_cpy (w.1 a) (w.1 35) sp.toNatClampNeg dp.toNatClampNeg n.toNatClampNeg))) = ww w2 := e ▸ rfl
theorem ww_s37 {w w2 : am_W} {i x : Int32} (e : wst w 37 i x = w2) : (ww w).set 37 (.inl (0, 256, .inl (upd (w.1 37) i.toNatClampNeg x))) = ww w2 := e ▸ rfl
theorem ww_c37 {w w2 : am_W} {a : Nat} {sp dp n : Int32} (e : wcp w a 37 sp dp n = w2) : (ww w).set 37 (.inl (0, 256, .inl (va_cpy (w.1 a) (w.1 37) sp.toNatClampNeg dp.toNatClampNeg n.toNatClampNeg))) = ww w2 := e ▸ rfl
theorem ww_s38 {w w2 : am_W} {i x : Int32} (e : wst w 38 i x = w2) : (ww w).set 38 (.inl (0, 256, .inl (upd (w.1 38) i.toNatClampNeg x))) = ww w2 := e ▸ rfl
theorem ww_c38 {w w2 : am_W} {a : Nat} {sp dp n : Int32} (e : wcp w a 38 sp dp n = w2) : (ww w).set 38 (.inl (0, 256, .inl (va_cpy (w.1 a) (w.1 38) sp.toNatClampNeg dp.toNatClampNeg n.toNatClampNeg))) = ww w2 := e ▸ rfl
theorem ww_s39 {w w2 : am_W} {i x : Int32} (e : wst w 39 i x = w2) : (ww w).set 39 (.inl (0, 8, .inl (upd (w.1 39) i.toNatClampNeg x))) = ww w2 := e ▸ rfl
theorem ww_c39 {w w2 : am_W} {a : Nat} {sp dp n : Int32} (e : wcp w a 39 sp dp n = w2) : (ww w).set 39 (.inl (0, 8, .inl (va_cpy (w.1 a) (w.1 39) sp.toNatClampNeg dp.toNatClampNeg n.toNatClampNeg))) = ww w2 := e ▸ rfl
theorem ww_s41 {w w2 : am_W} {i x : Int32} (e : wst w 41 i x = w2) : (ww w).set 41 (.inl (0, 8, .inl (upd (w.1 41) i.toNatClampNeg x))) = ww w2 := e ▸ rfl
theorem ww_c41 {w w2 : am_W} {a : Nat} {sp dp n : Int32} (e : wcp w a 41 sp dp n = w2) : (ww w).set 41 (.inl (0, 8, .inl (va_cpy (w.1 a) (w.1 41) sp.toNatClampNeg dp.toNatClampNeg n.toNatClampNeg))) = ww w2 := e ▸ rfl
theorem ww_s43 {w w2 : am_W} {i x : Int32} (e : wst w 43 i x = w2) : (ww w).set 43 (.inl (0, 8, .inl (upd (w.1 43) i.toNatClampNeg x))) = ww w2 := e ▸ rfl
theorem ww_c43 {w w2 : am_W} {a : Nat} {sp dp n : Int32} (e : wcp w a 43 sp dp n = w2) : (ww w).set 43 (.inl (0, 8, .inl (va_cpy (w.1 a) (w.1 43) sp.toNatClampNeg dp.toNatClampNeg n.toNatClampNeg))) = ww w2 := e ▸ rfl
theorem ww_s44 {w w2 : am_W} {i x : Int32} (e : wst w 44 i x = w2) : (ww w).set 44 (.inl (0, 10, .inl (upd (w.1 44) i.toNatClampNeg x))) = ww w2 := e ▸ rfl
theorem ww_c44 {w w2 : am_W} {a : Nat} {sp dp n : Int32} (e : wcp w a 44 sp dp n = w2) : (ww w).set 44 (.inl (0, 10, .inl (va_cpy (w.1 a) (w.1 44) sp.toNatClampNeg dp.toNatClampNeg n.toNatClampNeg))) = ww w2 := e ▸ rfl
theorem ww_f45_0 {w w2 : am_W} {v : Int32} (e : wsf w 45 0 v = w2) : (ww w).set 45 (.inr (5, ([.int (w.1 45 0), .int (w.1 45 1), .ref 46] : List Value).set 0 (.int v))) = ww w2 := e ▸ rfl
theorem ww_f45_1 {w w2 : am_W} {v : Int32} (e : wsf w 45 1 v = w2) : (ww w).set 45 (.inr (5, ([.int (w.1 45 0), .int (w.1 45 1), .ref 46] : List Value).set 1 (.int v))) = ww w2 := e ▸ rfl
theorem ww_s46 {w w2 : am_W} {i x : Int32} (e : wst w 46 i x = w2) : (ww w).set 46 (.inl (0, 40, .inl (upd (w.1 46) i.toNatClampNeg x))) = ww w2 := e ▸ rfl
theorem ww_c46 {w w2 : am_W} {a : Nat} {sp dp n : Int32} (e : wcp w a 46 sp dp n = w2) : (ww w).set 46 (.inl (0, 40, .inl (va_cpy (w.1 a) (w.1 46) sp.toNatClampNeg dp.toNatClampNeg n.toNatClampNeg))) = ww w2 := e ▸ rfl
theorem ww_f47_0 {w w2 : am_W} {v : Int32} (e : wsf w 47 0 v = w2) : (ww w).set 47 (.inr (5, ([.int (w.1 47 0), .int (w.1 47 1), .ref 48] : List Value).set 0 (.int v))) = ww w2 := e ▸ rfl
theorem ww_f47_1 {w w2 : am_W} {v : Int32} (e : wsf w 47 1 v = w2) : (ww w).set 47 (.inr (5, ([.int (w.1 47 0), .int (w.1 47 1), .ref 48] : List Value).set 1 (.int v))) = ww w2 := e ▸ rfl
theorem ww_s48 {w w2 : am_W} {i x : Int32} (e : wst w 48 i x = w2) : (ww w).set 48 (.inl (0, 40, .inl (upd (w.1 48) i.toNatClampNeg x))) = ww w2 := e ▸ rfl
theorem ww_c48 {w w2 : am_W} {a : Nat} {sp dp n : Int32} (e : wcp w a 48 sp dp n = w2) : (ww w).set 48 (.inl (0, 40, .inl (va_cpy (w.1 a) (w.1 48) sp.toNatClampNeg dp.toNatClampNeg n.toNatClampNeg))) = ww w2 := e ▸ rfl
theorem ww_f49_0 {w w2 : am_W} {v : Int32} (e : wsf w 49 0 v = w2) : (ww w).set 49 (.inr (5, ([.int (w.1 49 0), .int (w.1 49 1), .ref 50] : List Value).set 0 (.int v))) = ww w2 := e ▸ rfl
theorem ww_f49_1 {w w2 : am_W} {v : Int32} (e : wsf w 49 1 v = w2) : (ww w).set 49 (.inr (5, ([.int (w.1 49 0), .int (w.1 49 1), .ref 50] : List Value).set 1 (.int v))) = ww w2 := e ▸ rfl
theorem ww_s50 {w w2 : am_W} {i x : Int32} (e : wst w 50 i x = w2) : (ww w).set 50 (.inl (0, 40, .inl (upd (w.1 50) i.toNatClampNeg x))) = ww w2 := e ▸ rfl
theorem ww_c50 {w w2 : am_W} {a : Nat} {sp dp n : Int32} (e : wcp w a 50 sp dp n = w2) : (ww w).set 50 (.inl (0, 40, .inl (va_cpy (w.1 a) (w.1 50) sp.toNatClampNeg dp.toNatClampNeg n.toNatClampNeg))) = ww w2 := e ▸ rfl
theorem ww_f51_0 {w w2 : am_W} {v : Int32} (e : wsf w 51 0 v = w2) : (ww w).set 51 (.inr (5, ([.int (w.1 51 0), .int (w.1 51 1), .ref 52] : List Value).set 0 (.int v))) = ww w2 := e ▸ rfl
theorem ww_f51_1 {w w2 : am_W} {v : Int32} (e : wsf w 51 1 v = w2) : (ww w).set 51 (.inr (5, ([.int (w.1 51 0), .int (w.1 51 1), .ref 52] : List Value).set 1 (.int v))) = ww w2 := e ▸ rfl
theorem ww_s52 {w w2 : am_W} {i x : Int32} (e : wst w 52 i x = w2) : (ww w).set 52 (.inl (0, 40, .inl (upd (w.1 52) i.toNatClampNeg x))) = ww w2 := e ▸ rfl
theorem ww_c52 {w w2 : am_W} {a : Nat} {sp dp n : Int32} (e : wcp w a 52 sp dp n = w2) : (ww w).set 52 (.inl (0, 40, .inl (va_cpy (w.1 a) (w.1 52) sp.toNatClampNeg dp.toNatClampNeg n.toNatClampNeg))) = ww w2 := e ▸ rfl
theorem mv_6 {a off : Nat} (ha : a + 6 ≤ 52) : am_mc (am_ro 0 53 off) (.inl (3, 6, .inr (.inr (.inr (.inr (fun i => some (a + 1 + i))))))) = .inl (3, 6, .inr (.inr (.inr (.inr (fun i => some (a + 1 + i)))))) := by
  show Sum.inl (3, 6, _) = Sum.inl (3, 6, _)
  congr 7
  funext i
  by_cases hi : i < 6
  · rw [if_pos hi]
    show some (am_ro 0 53 off (a + 1 + i)) = _
    unfold am_ro
    rw [show Nat.ble am_pX (a + 1 + i) = false from Bool.eq_false_iff.mpr (fun q => by have : 2000000 ≤ a + 1 + i := Nat.le_of_ble_eq_true q; omega), show Nat.ble 53 (a + 1 + i) = false from Bool.eq_false_iff.mpr (fun q => by have := Nat.le_of_ble_eq_true q; omega)]
    rfl
  · rw [if_neg hi]
theorem mv_4 {off : Nat} : am_mc (am_ro 0 53 off) (.inl (2, 4, .inr (.inr (.inr (.inr (va_up (va_up (va_up (va_up (fun _ => none) 0 (some 45)) 1 (some 47)) 2 (some 49)) 3 (some 51))))))) = .inl (2, 4, .inr (.inr (.inr (.inr (va_up (va_up (va_up (va_up (fun _ => none) 0 (some 45)) 1 (some 47)) 2 (some 49)) 3 (some 51)))))) := by
  show Sum.inl (2, 4, _) = Sum.inl (2, 4, _)
  congr 7
  funext i
  by_cases hi : i < 4
  · rw [if_pos hi]
    match i, hi with
    | 0, _ => rfl
    | 1, _ => rfl
    | 2, _ => rfl
    | 3, _ => rfl
  · rw [if_neg hi]
theorem wd_mv {σ : am_M} {z : Value} {off : Nat} (hz : am_mv (am_ro 0 53 off) z = z) : (wd σ z).map (am_mc (am_ro 0 53 off)) = wd σ z := by
  have h18 : am_mc (am_ro 0 53 off) (.inr (4, [.int (σ 18 0), .int (σ 18 1), .int (σ 18 2), .int (σ 18 3), .int (σ 18 4), .int (σ 18 5), .int (σ 18 6), z, .ref 19])) = .inr (4, [.int (σ 18 0), .int (σ 18 1), .int (σ 18 2), .int (σ 18 3), .int (σ 18 4), .int (σ 18 5), .int (σ 18 6), z, .ref 19]) := by
    show Sum.inr (4, [.int (σ 18 0), .int (σ 18 1), .int (σ 18 2), .int (σ 18 3), .int (σ 18 4), .int (σ 18 5), .int (σ 18 6), am_mv (am_ro 0 53 off) z, .ref 19]) = _
    rw [hz]
  unfold wd
  rw [List.map_cons, List.map_cons, List.map_cons, List.map_cons, List.map_cons, List.map_cons, List.map_cons, List.map_cons, List.map_cons, List.map_cons, List.map_cons, List.map_cons, List.map_cons, List.map_cons, List.map_cons, List.map_cons, List.map_cons, List.map_cons, List.map_cons, List.map_cons, List.map_cons, List.map_cons, List.map_cons, List.map_cons, List.map_cons, List.map_cons, List.map_cons, List.map_cons, List.map_cons, List.map_cons, List.map_cons, List.map_cons, List.map_cons, List.map_cons, List.map_cons, List.map_cons, List.map_cons, List.map_cons, List.map_cons, List.map_cons, List.map_cons, List.map_cons, List.map_cons]
  rw [h18, mv_6 (a := 20) (by omega), mv_6 (a := 27) (by omega), mv_4]
  rfl
/-- the cells, moved with others behind them, are the same -/
theorem ww_mv (w : am_W) (off : Nat) : (ww w).map (am_mc (am_ro 0 53 off)) = ww w := by
  obtain ⟨σ, z⟩ := w
  refine wd_mv ?_
  cases z with
  | none => rfl
  | some t =>
    have h : t % 6 < 6 := Nat.mod_lt _ (by omega)
    show am_mv _ (.ref (20 + 1 + t % 6)) = .ref (20 + 1 + t % 6)
    generalize t % 6 = k at h
    match k, h with
    | 0, _ => rfl
    | 1, _ => rfl
    | 2, _ => rfl
    | 3, _ => rfl
    | 4, _ => rfl
    | 5, _ => rfl
/-! places that an index picks -/
theorem ww_sheet {w : am_W} {p : Nat} (h : p < 4) : (ww w)[45 + 2 * p]? = some (.inr (5, [.int (w.1 (45 + 2 * p) 0), .int (w.1 (45 + 2 * p) 1), .ref (46 + 2 * p)])) := by
  match p, h with
  | 0, _ => rfl
  | 1, _ => rfl
  | 2, _ => rfl
  | 3, _ => rfl
theorem ww_sheet_f0 {w w2 : am_W} {p : Nat} {v : Int32} (h : p < 4) (e : wsf w (45 + 2 * p) 0 v = w2) : (ww w).set (45 + 2 * p) (.inr (5, ([.int (w.1 (45 + 2 * p) 0), .int (w.1 (45 + 2 * p) 1), .ref (46 + 2 * p)] : List Value).set 0 (.int v))) = ww w2 := by
  subst e
  match p, h with
  | 0, _ => rfl
  | 1, _ => rfl
  | 2, _ => rfl
  | 3, _ => rfl
theorem ww_sheet_f1 {w w2 : am_W} {p : Nat} {v : Int32} (h : p < 4) (e : wsf w (45 + 2 * p) 1 v = w2) : (ww w).set (45 + 2 * p) (.inr (5, ([.int (w.1 (45 + 2 * p) 0), .int (w.1 (45 + 2 * p) 1), .ref (46 + 2 * p)] : List Value).set 1 (.int v))) = ww w2 := by
  subst e
  match p, h with
  | 0, _ => rfl
  | 1, _ => rfl
  | 2, _ => rfl
  | 3, _ => rfl
theorem ww_numbers {w : am_W} {p : Nat} (h : p < 4) : (ww w)[46 + 2 * p]? = some (.inl (0, 40, .inl (w.1 (46 + 2 * p)))) := by
  match p, h with
  | 0, _ => rfl
  | 1, _ => rfl
  | 2, _ => rfl
  | 3, _ => rfl
theorem ww_numbers_s {w w2 : am_W} {p : Nat} {i x : Int32} (h : p < 4) (e : wst w (46 + 2 * p) i x = w2) : (ww w).set (46 + 2 * p) (.inl (0, 40, .inl (upd (w.1 (46 + 2 * p)) i.toNatClampNeg x))) = ww w2 := by
  subst e
  match p, h with
  | 0, _ => rfl
  | 1, _ => rfl
  | 2, _ => rfl
  | 3, _ => rfl
theorem ww_numbers_c {w w2 : am_W} {a p : Nat} {sp dp n : Int32} (h : p < 4) (e : wcp w a (46 + 2 * p) sp dp n = w2) : (ww w).set (46 + 2 * p) (.inl (0, 40, .inl (va_cpy (w.1 a) (w.1 (46 + 2 * p)) sp.toNatClampNeg dp.toNatClampNeg n.toNatClampNeg))) = ww w2 := by
  subst e
  match p, h with
  | 0, _ => rfl
  | 1, _ => rfl
  | 2, _ => rfl
  | 3, _ => rfl
theorem ww_steps {w : am_W} {p : Nat} (h : p < 6) : (ww w)[20 + 1 + p]? = some (.inl (0, 160, .inl (w.1 (20 + 1 + p)))) := by
  match p, h with
  | 0, _ => rfl
  | 1, _ => rfl
  | 2, _ => rfl
  | 3, _ => rfl
  | 4, _ => rfl
  | 5, _ => rfl
theorem ww_steps_s {w w2 : am_W} {p : Nat} {i x : Int32} (h : p < 6) (e : wst w (20 + 1 + p) i x = w2) : (ww w).set (20 + 1 + p) (.inl (0, 160, .inl (upd (w.1 (20 + 1 + p)) i.toNatClampNeg x))) = ww w2 := by
  subst e
  match p, h with
  | 0, _ => rfl
  | 1, _ => rfl
  | 2, _ => rfl
  | 3, _ => rfl
  | 4, _ => rfl
  | 5, _ => rfl
theorem ww_steps_c {w w2 : am_W} {a p : Nat} {sp dp n : Int32} (h : p < 6) (e : wcp w a (20 + 1 + p) sp dp n = w2) : (ww w).set (20 + 1 + p) (.inl (0, 160, .inl (va_cpy (w.1 a) (w.1 (20 + 1 + p)) sp.toNatClampNeg dp.toNatClampNeg n.toNatClampNeg))) = ww w2 := by
  subst e
  match p, h with
  | 0, _ => rfl
  | 1, _ => rfl
  | 2, _ => rfl
  | 3, _ => rfl
  | 4, _ => rfl
  | 5, _ => rfl
theorem ww_ends {w : am_W} {p : Nat} (h : p < 6) : (ww w)[27 + 1 + p]? = some (.inl (0, 3, .inl (w.1 (27 + 1 + p)))) := by
  match p, h with
  | 0, _ => rfl
  | 1, _ => rfl
  | 2, _ => rfl
  | 3, _ => rfl
  | 4, _ => rfl
  | 5, _ => rfl
theorem ww_ends_s {w w2 : am_W} {p : Nat} {i x : Int32} (h : p < 6) (e : wst w (27 + 1 + p) i x = w2) : (ww w).set (27 + 1 + p) (.inl (0, 3, .inl (upd (w.1 (27 + 1 + p)) i.toNatClampNeg x))) = ww w2 := by
  subst e
  match p, h with
  | 0, _ => rfl
  | 1, _ => rfl
  | 2, _ => rfl
  | 3, _ => rfl
  | 4, _ => rfl
  | 5, _ => rfl
theorem ww_ends_c {w w2 : am_W} {a p : Nat} {sp dp n : Int32} (h : p < 6) (e : wcp w a (27 + 1 + p) sp dp n = w2) : (ww w).set (27 + 1 + p) (.inl (0, 3, .inl (va_cpy (w.1 a) (w.1 (27 + 1 + p)) sp.toNatClampNeg dp.toNatClampNeg n.toNatClampNeg))) = ww w2 := by
  subst e
  match p, h with
  | 0, _ => rfl
  | 1, _ => rfl
  | 2, _ => rfl
  | 3, _ => rfl
  | 4, _ => rfl
  | 5, _ => rfl
theorem ww_hrs {w : am_W} {p : Nat} (h : p = 4 ∨ p = 43) : (ww w)[p]? = some (.inl (0, 8, .inl (w.1 p))) := by
  rcases h with rfl | rfl <;> rfl
theorem ww_hrs_s {w w2 : am_W} {p : Nat} {i x : Int32} (h : p = 4 ∨ p = 43) (e : wst w p i x = w2) : (ww w).set p (.inl (0, 8, .inl (upd (w.1 p) i.toNatClampNeg x))) = ww w2 := by
  subst e
  rcases h with rfl | rfl <;> rfl
