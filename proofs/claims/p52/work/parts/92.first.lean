/-! ===== the first cells: what the constructors lay ===== -/
abbrev am_gc (sc : Option (Nat × (Nat → Int32))) (d y mc ms : Nat) (H : am_H) (c : am_S) : Prop := am_go (am_fr (am_run sc d)) sc y mc ms (fun r h => r = none ∧ h = H) c
/-- an array filled from its first place on -/
def fwl (L : List Int32) : Nat → Nat → Int32
  | 0 => fun _ => 0
  | i + 1 => upd (fwl L i) (nI i).toNatClampNeg (L.getD i 0)
def lawB : List Nat := [116, 97, 107, 101, 115, 32, 48, 32, 59, 32, 115, 97, 119, 115, 32, 49, 48, 32, 43, 32, 115, 111, 114, 116, 32, 42, 32, 53, 32, 59, 32, 109, 105, 110, 100, 115, 32, 49, 32, 59]
def lawL : List Int32 := [nI 116, nI 97, nI 107, nI 101, nI 115, nI 32, nI 48, nI 32, nI 59, nI 32, nI 115, nI 97, nI 119, nI 115, nI 32, nI 49, nI 48, nI 32, nI 43, nI 32, nI 115, nI 111, nI 114, nI 116, nI 32, nI 42, nI 32, nI 53, nI 32, nI 59, nI 32, nI 109, nI 105, nI 110, nI 100, nI 115, nI 32, nI 49, nI 32, nI 59]
/-- what the constructors lay, the reader's work left out -/
def sg0 : am_M := fun c => bif Nat.beq c 18 then (fun j => bif Nat.beq j 3 then nI 308 else 0) else bif Nat.beq c 45 || (Nat.beq c 47 || (Nat.beq c 49 || Nat.beq c 51)) then (fun j => bif Nat.beq j 0 then -nI 1 else 0) else fun _ => 0
/-- the class's tape being filled -/
def wL : Nat → am_W
  | 0 => (sg0, none)
  | i + 1 => wsf (wsf (wL i) 19 i (nI (lawB.getD i 0))) 18 0 (nI (i + 1))
/-- the first places without the first -/
def wy (w : am_W) : am_H := [
  .inr (3, [.int (w.1 1 0), .int (w.1 1 1), .int (w.1 1 2), .int (w.1 1 3), .int (w.1 1 4), .ref 2, .ref 3, .ref 4, .ref 5, .ref 6, .ref 7, .ref 8]),
  .inl (0, 8, .inl (w.1 2)),
  .inl (0, 8, .inl (w.1 3)),
  .inl (0, 8, .inl (w.1 4)),
  .inl (0, 10, .inl (w.1 5)),
  .inl (0, 10, .inl (w.1 6)),
  .inl (0, 10, .inl (w.1 7)),
  .inl (0, 10, .inl (w.1 8)),
  .inr (3, [.int (w.1 9 0), .int (w.1 9 1), .int (w.1 9 2), .int (w.1 9 3), .int (w.1 9 4), .ref 10, .ref 11, .ref 12, .ref 13, .ref 14, .ref 15, .ref 16]),
  .inl (0, 8, .inl (w.1 10)),
  .inl (0, 8, .inl (w.1 11)),
  .inl (0, 8, .inl (w.1 12)),
  .inl (0, 10, .inl (w.1 13)),
  .inl (0, 10, .inl (w.1 14)),
  .inl (0, 10, .inl (w.1 15)),
  .inl (0, 10, .inl (w.1 16)),
  .inr (1, [.ref 18, .int (w.1 17 1), .int (w.1 17 2), .ref 1, .ref 20, .ref 27, .ref 34, .ref 35]),
  .inr (4, [.int (w.1 18 0), .int (w.1 18 1), .int (w.1 18 2), .int (w.1 18 3), .int (w.1 18 4), .int (w.1 18 5), .int (w.1 18 6), .ref 21, .ref 19]),
  .inl (0, 160, .inl (w.1 19)),
  .inl (3, 6, .inr (.inr (.inr (.inr (fun i => some (20 + 1 + i)))))),
  .inl (0, 160, .inl (w.1 21)),
  .inl (0, 160, .inl (w.1 22)),
  .inl (0, 160, .inl (w.1 23)),
  .inl (0, 160, .inl (w.1 24)),
  .inl (0, 160, .inl (w.1 25)),
  .inl (0, 160, .inl (w.1 26)),
  .inl (3, 6, .inr (.inr (.inr (.inr (fun i => some (27 + 1 + i)))))),
  .inl (0, 3, .inl (w.1 28)),
  .inl (0, 3, .inl (w.1 29)),
  .inl (0, 3, .inl (w.1 30)),
  .inl (0, 3, .inl (w.1 31)),
  .inl (0, 3, .inl (w.1 32)),
  .inl (0, 3, .inl (w.1 33)),
  .inl (0, 6, .inl (w.1 34)),
  .inl (0, 64, .inl (w.1 35))]
theorem wx_y {w : am_W} (h : w.2 = some 0) : wx w = .inr (6, [.ref 1, .ref 9, .null, .null, .null, .null, .null, .null, .int 0, .int 0]) :: wy w := by
  unfold wx
  rw [h]; rfl
theorem wL_s : ∀ i, i ≤ 40 → (wL i).1 18 0 = nI i ∧ (∀ j, ¬ j = 0 → (wL i).1 18 j = sg0 18 j) ∧ (∀ c, ¬ c = 18 → ¬ c = 19 → (wL i).1 c = sg0 c) ∧ ∀ j, j < i → (wL i).1 19 j = nI (lawB.getD j 0)
  | 0, _ => ⟨rfl, fun _ _ => rfl, fun _ _ _ => rfl, fun _ h => absurd h (Nat.not_lt_zero _)⟩
  | i + 1, h => by
    obtain ⟨h1, h2, h3, h4⟩ := wL_s i (by omega)
    refine ⟨wsf_at _ _ _ _, fun j hj => ?_, fun c c1 c2 => ?_, fun j hj => ?_⟩
    · show (wsf _ 18 0 _).1 18 j = _
      rw [wsf_ne hj, wsf_nc rfl]; exact h2 j hj
    · exact (wsf_fc c1).trans ((wsf_fc c2).trans (h3 c c1 c2))
    · show (wsf _ 18 0 _).1 19 j = _
      rw [wsf_nc rfl]
      by_cases e : j = i
      · subst e; exact wsf_at _ _ _ _
      · rw [wsf_ne e]; exact h4 j (by omega)
theorem S_app0 {i : Nat} (h : i < 40) : F_Read_append (nI (lawB.getD i 0)) (wL i) = some (wL (i + 1)) := S_append (by omega) (wL_s i (by omega)).1
theorem S_wlen0 (w : am_W) : F_Jstrlength8abf5_3000000 w = some (nI 40, w) := by
  have hc : F_Jstrcoder7d493_3000000 w = some (nI 0, w) := by
    unfold F_Jstrcoder7d493_3000000 F_Jstrcoder7d493_3000000_14
    rw [if_neg (by decide)]; rfl
  unfold F_Jstrlength8abf5_3000000
  rw [hc, bn_s]
  dsimp only
  rw [show nI 40 >>> (nI 0 &&& 31) = nI 40 from by decide]
theorem lw_all : ((List.range 40).all fun i => am_cix (nI i) (nI 40) && (am_ch ((((am_byt.getD 0 []).getD i 0 &&& nI 255).toUInt32 % 65536).toInt32) && decide ((((am_byt.getD 0 []).getD i 0 &&& nI 255).toUInt32 % 65536).toInt32 = nI (lawB.getD i 0)))) = true := by decide +kernel
theorem S_charAt0 {i : Nat} (hi : i < 40) (w : am_W) : F_JstrcharAt5068e_3000000 (nI i) w = some (nI (lawB.getD i 0), w) := by
  have h := List.all_eq_true.mp lw_all i (List.mem_range.mpr hi)
  rw [Bool.and_eq_true, Bool.and_eq_true, decide_eq_true_eq] at h
  obtain ⟨h1, h2, h3⟩ := h
  have hL : F_JstrisLatin1aae02_3000000 w = some (nI 1, w) := rfl
  unfold F_JstrcharAt5068e_3000000 F_JlatcharAt3b067_3001000
  rw [hL, bn_s]
  dsimp only
  rw [if_neg (by decide), h1, in_nI hi (by omega), nI_clamp (by omega), h2, am_ckT, am_ckT, am_ckT, bn_s]
  dsimp only
  rw [h2, am_ckT, h3]
theorem wx_f17 {w w2 : am_W} {v : Int32} (e : wsf w 17 1 v = w2) : (wx w).set 17 (.inr (1, ([.ref 18, .int (w.1 17 1), .int (w.1 17 2), .ref 1, .ref 20, .ref 27, .ref 34, .ref 35] : List Value).set 1 (.int v))) = wx w2 := e ▸ rfl
theorem C10_loop {sc : Option (Nat × (Nat → Int32))} {D mc ms : Nat} {w1 w : am_W} (hr : F_Read_read 0 0 (wL 40) = some (nI 1, w1)) (hw : wsf w1 17 1 (nI 1) = w) {k n : Nat} (hk : k ≤ mc) (hn : n ≤ ms) : ∀ d i, i + d = 40 → am_gc sc (D + 106) 4 mc ms (wx w) (72, [(0, .ref 17), (2, .int (nI i))], [], wx (wL i), k, n)
  | 0, i, hi => by
    obtain rfl : i = 40 := hi
    generalize wL 40 = wz at hr ⊢
    refine am_go_blk 2 (?_ : am_gc sc (D + 106) 4 mc ms (wx w) (75, [(0, .ref 17), (2, .int (nI 40))], [.ref 3000000, .int (nI 40)], wx wz, k, n))
    refine am_invs rfl rfl rfl (am_kcall rfl (MC_Jstrlength8abf5_3000000 (D := D + 104) (S_wlen0 wz)) rfl hk hn (?_ : am_gc sc (D + 106) 4 mc ms (wx w) (78, [(0, .ref 17), (2, .int (nI 40))], [.int (nI 40), .int (nI 40)], wx wz, k, n)))
    refine am_go_blk 1 ⟨fun _ => (?_ : am_gc sc (D + 106) 4 mc ms (wx w) (100, [(0, .ref 17)], [], wx wz, k, n)), fun hc => absurd (by decide) hc⟩
    refine am_go_blk 6 ⟨am_inv rfl, (?_ : am_gc sc (D + 106) 4 mc ms (wx w) (110, [(0, .ref 17)], [.ref (20 + 1 + 0), .ref 18], wx wz, k, n))⟩
    refine am_go_blk 4 ⟨am_inv rfl, (?_ : am_gc sc (D + 106) 4 mc ms (wx w) (116, [(0, .ref 17)], [.ref (27 + 1 + 0), .ref (20 + 1 + 0), .ref 18], wx wz, k, n))⟩
    refine am_invd rfl rfl rfl rfl (am_kcall rfl (MC_Read_read (D := D) (p1 := 0) (p2 := 0) (by omega) (by omega) hr) rfl hk hn (?_ : am_gc sc (D + 106) 4 mc ms (wx w) (119, [(0, .ref 17)], [.int (nI 1)], wx w1, k, n)))
    refine am_go_blk 1 ⟨fun hc => absurd hc (by decide), fun _ => (?_ : am_gc sc (D + 106) 4 mc ms (wx w) (122, [(0, .ref 17)], [], wx w1, k, n))⟩
    refine am_go_blk 3 ⟨rfl, rfl, am_hp (wx_f17 hw) (?_ : am_gc sc (D + 106) 4 mc ms (wx w) (127, [], [], wx w, k, n))⟩
    exact am_go_blk 1 ⟨rfl, rfl⟩
  | d + 1, i, hi => by
    have ih := C10_loop (sc := sc) (D := D) hr hw hk hn d (i + 1) (by omega)
    have hge : ¬ nI 40 ≤ nI i := nI_ge (by omega) (by omega)
    refine am_go_blk 2 (?_ : am_gc sc (D + 106) 4 mc ms (wx w) (75, [(0, .ref 17), (2, .int (nI i))], [.ref 3000000, .int (nI i)], wx (wL i), k, n))
    refine am_invs rfl rfl rfl (am_kcall rfl (MC_Jstrlength8abf5_3000000 (D := D + 104) (S_wlen0 (wL i))) rfl hk hn (?_ : am_gc sc (D + 106) 4 mc ms (wx w) (78, [(0, .ref 17), (2, .int (nI i))], [.int (nI 40), .int (nI i)], wx (wL i), k, n)))
    refine am_go_blk 1 ⟨fun hc => absurd hc hge, fun _ => (?_ : am_gc sc (D + 106) 4 mc ms (wx w) (81, [(0, .ref 17), (2, .int (nI i))], [], wx (wL i), k, n))⟩
    refine am_go_blk 4 (?_ : am_gc sc (D + 106) 4 mc ms (wx w) (88, [(0, .ref 17), (2, .int (nI i))], [.int (nI i), .ref 3000000, .ref 18], wx (wL i), k, n))
    refine am_invs rfl rfl rfl (am_kcall rfl (MC_JstrcharAt5068e_3000000 (D := D + 104) (S_charAt0 (i := i) (by omega) (wL i))) rfl hk hn (?_ : am_gc sc (D + 106) 4 mc ms (wx w) (91, [(0, .ref 17), (2, .int (nI i))], [.int (nI (lawB.getD i 0)), .ref 18], wx (wL i), k, n)))
    refine am_invd rfl rfl rfl rfl (am_kcall rfl (MC_Read_append (D := D + 105) (S_app0 (i := i) (by omega))) rfl hk hn (?_ : am_gc sc (D + 106) 4 mc ms (wx w) (94, [(0, .ref 17), (2, .int (nI i))], [], wx (wL (i + 1)), k, n)))
    refine am_go_blk 2 (?_ : am_gc sc (D + 106) 4 mc ms (wx w) (72, [(0, .ref 17), (2, .int (nI i + nI 1))], [], wx (wL (i + 1)), k, n))
    rw [nI_add]
    exact ih
