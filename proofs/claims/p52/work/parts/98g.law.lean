/-! ===== the law, from its first instruction to its last ===== -/
theorem T_W_law2 {L : Nat} {xs : Nat → Int32} {X : am_H} {k n : Nat} (hX : X.length ≤ 1000) (hk : k ≤ 600000) (hn : n ≤ 7302250) (Hx : ∀ u, am_gw L xs k n (871, [], [], hlw X u, k, n)) (u : am_U) (H : F_W_law L xs u = some (nI 1)) : am_gw L xs k n (11, [(2, .ref ((53 + X.length))), (1, .ref 0), (0, .ref am_pL)], [], hlw X u, k, n) := by
  unfold F_W_law at H
  refine am_go_blk 2 (?_ : am_gw L xs k n (13, [(2, .ref ((53 + X.length))), (1, .ref 0), (0, .ref am_pL)], [.ref ((53 + X.length)), .ref am_pL], hlw X u, k, n))
  obtain ⟨q1, hq1, H⟩ := am_bnE H
  refine am_cls rfl rfl rfl (am_kcall (am_hl rfl (hl_le hX)) (M_W_start (D := 996) hX hq1) hl_len2 hk hn (?_ : am_gw L xs k n (16, [(2, .ref ((53 + X.length))), (1, .ref 0), (0, .ref am_pL)], [], hlw X q1, k, n)))
  refine am_go_blk 1 (?_ : am_gw L xs k n (17, [(2, .ref ((53 + X.length))), (1, .ref 0), (0, .ref am_pL)], [.ref am_pL], hlw X q1, k, n))
  obtain ⟨q2, hq2, H⟩ := am_bnE H
  refine am_cls rfl rfl rfl (am_kcall (am_hl rfl (hl_le hX)) (M_W_things (D := 998) (hl_le hX) hq2) rfl hk hn (?_ : am_gw L xs k n (20, [(2, .ref ((53 + X.length))), (1, .ref 0), (0, .ref am_pL)], [.int q2], hlw X q1, k, n)))
  refine am_go_blk 2 (?_ : am_gw L xs k n (22, [(3, .int q2), (2, .ref ((53 + X.length))), (1, .ref 0), (0, .ref am_pL)], [.ref am_pL], hlw X q1, k, n))
  obtain ⟨q3, hq3, H⟩ := am_bnE H
  refine am_cls rfl rfl rfl (am_kcall (am_hl rfl (hl_le hX)) (M_W_locks (D := 998) (hl_le hX) hq3) rfl hk hn (?_ : am_gw L xs k n (25, [(3, .int q2), (2, .ref ((53 + X.length))), (1, .ref 0), (0, .ref am_pL)], [.int q3], hlw X q1, k, n)))
  exact am_go_blk 11 (TL_W_law_40 hX hk hn Hx am_NF q2 q3 (((nI 1) <<< (q2 &&& 31)) - (nI 1)) (nI 0) (nI 0) q1 H)
section
variable {E : am_E} {sc : Option (Nat × (Nat → Int32))} {y mc ms : Nat} {Φ : Option Value → am_H → Prop} {pc a b hint : Nat} {kf kt : Option (List Nat)} {tg : List (Nat × List Nat)} {lv : am_L} {st : List Value} {h h1 : am_H} {k n : Nat}
theorem am_newld {x : Int32} (he : am_tb y pc = some (.newarray .long, a, b, hint, kf, kt, tg)) (hn : am_nh h.length (h.length + 1) lv st h = true) (hb : (!decide (x < 0) && (Nat.ble x.toNatClampNeg 4096 && (Nat.ble (k + 1) mc && Nat.ble (n + x.toNatClampNeg) ms))) = true) (H : am_go E sc y mc ms Φ (pc + 2, am_pick kf lv, .ref h.length :: st, h ++ [.inl (1, x.toNatClampNeg, .inr (.inl (fun _ => 0)))], k + 1, n + x.toNatClampNeg)) : am_go E sc y mc ms Φ (pc, lv, .int x :: st, h, k, n) := by
  refine am_go_step ?_
  unfold am_step
  dsimp only
  rw [he]
  simp only [am_ex, am_i1, hn, hb, am_b]
  exact H
end
theorem nr_lo {lo hi a : Nat} (h : a < lo) : am_nr lo hi (.ref a) = true := by
  show (!(Nat.ble lo a && Nat.ble (a + 1) hi)) = true
  rw [show Nat.ble lo a = false from Bool.eq_false_iff.mpr (fun q => by have := Nat.le_of_ble_eq_true q; omega)]
  rfl
theorem nr_hi {lo hi a : Nat} (h : hi ≤ a) : am_nr lo hi (.ref a) = true := by
  show (!(Nat.ble lo a && Nat.ble (a + 1) hi)) = true
  rw [show Nat.ble (a + 1) hi = false from Bool.eq_false_iff.mpr (fun q => by have := Nat.le_of_ble_eq_true q; omega), Bool.and_false]
  rfl
/-- cells that point to none from lo on -/
def NC (X : am_H) (b : Nat) : Prop := ∀ lo hi, b ≤ lo → hi ≤ am_pX → X.all (am_nc lo hi) = true
theorem NC_n {b : Nat} : NC [] b := fun _ _ _ _ => rfl
theorem NC_XT {K J M : Nat} : NC (XT K J M) 59 := fun lo hi h1 h2 => by
  show (((am_nr lo hi (.ref 56) && true) && (true && (true && (true && (((am_nr lo hi (.ref 58) && true) && (true && true))))))) = true)
  rw [nr_lo (by omega), nr_lo (by omega)]
  rfl
theorem hlw_nc {X : am_H} {u : am_U} {lo hi b : Nat} (hX : NC X b) (hb : b ≤ lo) (h1 : 53 ≤ lo) (h2 : hi ≤ am_pX) : (hlw X u).all (am_nc lo hi) = true := by
  unfold hlw
  rw [List.all_append, List.all_append, ww_nc h1 h2, hX lo hi hb h2]
  rfl
/-- another class, made over a heap: its cells behind the rest -/
theorem am_fr_n {E : am_E} {z : Nat} {pre H : am_H} {mc ms : Nat} (hE : E z [.ref 0] [.inr (6, [.null, .null, .null, .null, .null, .null, .null, .null, .int 0, .int 0])] none H mc ms) (hH : H.length = 53) (hp : pre.length ≤ 1000) (hc : pre.all (am_nc (pre.length + 1) (pre.length + 53)) = true) : am_fr E z [.ref pre.length] (pre ++ [.inr (6, [.null, .null, .null, .null, .null, .null, .null, .null, .int 0, .int 0])]) none (pre ++ H.map (am_mc (am_ro pre.length 1 pre.length))) mc ms := by
  refine ⟨pre, [], [.inr (6, [.null, .null, .null, .null, .null, .null, .null, .null, .int 0, .int 0])], H, [.ref 0], none, hE, by rw [hH]; exact Nat.le_of_ble_eq_true rfl, ?_, Or.inr ?_, ?_, ?_, rfl, ?_⟩
  · rw [hH]
    show 53 + (pre.length + 0) ≤ 2000000; omega
  · rw [List.append_nil, hH]
    exact hc
  · show [.ref pre.length] = [am_mv (am_ro pre.length 1 (pre.length + 0)) (.ref 0)]
    show [Value.ref pre.length] = [.ref (0 + pre.length)]
    rw [Nat.zero_add]
  · rw [List.append_nil]
    rfl
  · rw [List.nil_append, ← List.map_append, List.take_append_drop]
    rfl
/-- a call of another class's, the rest of the heap untouched -/
theorem am_fr_k {E : am_E} {z : Nat} {pre : am_H} {w w2 : am_W} {x : Int32} (hE : E z [.ref 0] (ww w) (some (.int x)) (ww w2) 0 0) (hp : pre.length ≤ 1000) : am_fr E z [.ref pre.length] (pre ++ (ww w).map (am_mc (am_ro pre.length 53 pre.length))) (some (.int x)) (pre ++ (ww w2).map (am_mc (am_ro pre.length 53 pre.length))) 0 0 := by
  refine ⟨pre, [], ww w, ww w2, [.ref 0], some (.int x), hE, Nat.le_refl _, ?_, Or.inl rfl, ?_, ?_, rfl, ?_⟩
  · show 53 + (pre.length + 0) ≤ 2000000; omega
  · show [.ref pre.length] = [am_mv (am_ro pre.length 53 (pre.length + 0)) (.ref 0)]
    show [Value.ref pre.length] = [.ref (0 + pre.length)]
    rw [Nat.zero_add]
  · rw [List.append_nil]
    rfl
  · rw [List.nil_append, ← List.map_append, List.take_append_drop]
    rfl
theorem ro_n (lo n1 n2 : Nat) : am_ro lo n1 lo = am_ro lo n2 lo := funext fun k => by
  unfold am_ro
  cases Nat.ble n1 k <;> cases Nat.ble n2 k <;> rfl
theorem nc_mcp {c : am_C} {lo hi9 p n : Nat} (e : am_mc (am_ro 0 53 1) c = c) (h1 : 53 + p ≤ lo) (h2 : hi9 ≤ am_pX) : am_nc lo hi9 (am_mc (am_ro p n p) c) = true := by
  have key : ∀ a, am_ro 0 53 1 a = a → am_nr lo hi9 (.ref (am_ro p n p a)) = true := fun a h => by
    unfold am_ro at h ⊢
    cases hx : Nat.ble am_pX a with
    | true =>
      have := Nat.le_of_ble_eq_true hx
      exact nr_hi (by show hi9 ≤ a; omega)
    | false =>
      rw [hx] at h
      cases hy : Nat.ble 53 a with
      | true =>
        rw [hy] at h
        have h : a + 1 = a := h
        omega
      | false =>
        have h53 : ¬ 53 ≤ a := fun q => by rw [Nat.ble_eq_true_of_le q] at hy; cases hy
        cases Nat.ble n a
        · exact nr_lo (by show a + p < lo; omega)
        · exact nr_lo (by show a + p < lo; omega)
  match c, e with
  | .inr (k, fs), e =>
    have e2 : fs.map (am_mv (am_ro 0 53 1)) = fs := (Prod.mk.inj (Sum.inr.inj e)).2
    have e3 := List.map_inj_left.mp (e2.trans (List.map_id fs).symm)
    show (fs.map (am_mv (am_ro p n p))).all (am_nr lo hi9) = true
    refine List.all_eq_true.mpr (fun v hv => ?_)
    obtain ⟨v0, hv0, rfl⟩ := List.mem_map.mp hv
    have e4 := e3 v0 hv0
    cases v0 with
    | ref a => exact key a (Value.ref.inj e4)
    | _ => rfl
  | .inl (t, m, .inr (.inr (.inr (.inr f)))), e =>
    have e2 : (fun i => if i < m then (f i).map (am_ro 0 53 1) else f i) = f := Sum.inr.inj (Sum.inr.inj (Sum.inr.inj (Sum.inr.inj (Prod.mk.inj (Prod.mk.inj (Sum.inl.inj e)).2).2)))
    refine List.all_eq_true.mpr (fun i hi => ?_)
    have hi := List.mem_range.mp hi
    have e3 := congrFun e2 i
    rw [if_pos hi] at e3
    show (match (if i < m then (f i).map (am_ro p n p) else f i) with
      | some a => am_nr lo hi9 (.ref a)
      | none => true) = true
    rw [if_pos hi]
    cases hf : f i with
    | none => rfl
    | some a =>
      rw [hf] at e3
      exact key a (Option.some.inj e3)
  | .inl (t, m, .inl f), e => rfl
  | .inl (t, m, .inr (.inl f)), e => rfl
  | .inl (t, m, .inr (.inr (.inl f))), e => rfl
  | .inl (t, m, .inr (.inr (.inr (.inl f)))), e => rfl
theorem ww_ncp {w : am_W} {lo hi p n : Nat} (h1 : 53 + p ≤ lo) (h2 : hi ≤ am_pX) : ((ww w).map (am_mc (am_ro p n p))).all (am_nc lo hi) = true := by
  refine List.all_eq_true.mpr (fun c hc => ?_)
  obtain ⟨c0, hc0, rfl⟩ := List.mem_map.mp hc
  exact nc_mcp (List.map_inj_left.mp ((ww_mv w 1).trans (List.map_id (ww w)).symm) c0 hc0) h1 h2
theorem free_0 (v : am_V) {te tc : Nat → Nat → Nat} {w : am_W} (h : PQ 0 0 0 0 1 0 v te tc w) : F_Loc_free w = some (nI 0, w) ∧ F_Loc_never w = some (nI 0, w) := by
  refine ⟨P_free h, ?_⟩
  rw [P_never h]
  refine congrArg (fun q => some (q, w)) ?_
  exact b_z (fun i hi => by
    rw [b_and, b_all (by omega) hi, decide_eq_false (by omega), Bool.false_and])
section
variable {L : Nat} {xs : Nat → Int32}
/-- two classes newly made: nobody to go, nobody who never can -/
theorem LAST {X : am_H} {u : am_U} {bX : Nat} (hX : X.length ≤ 6) (hN : NC X bX) (hb : bX ≤ 53 + X.length) {k n : Nat} (hk : k + 200 ≤ 600000) (hn : n + 10000 ≤ 7302250) : am_gw L xs k n (871, [], [], hlw X u, k, n) := by
  obtain ⟨w1, hr, hz, hP, h17, h18⟩ := BEGIN (fun _ _ => 0)
  generalize hw : wsf w1 17 1 (nI 1) = w at hz hP h17 h18
  obtain ⟨f1, f2⟩ := free_0 _ hP
  have hl : (hlw X u).length = 53 + X.length + 1 := hl_len
  have hnc : ∀ lo hi, (hlw X u).length ≤ lo → hi ≤ am_pX → (hlw X u).all (am_nc lo hi) = true := fun lo hi h1 h2 => hlw_nc hN (by omega) (by omega) h2
  generalize hlw X u = H0 at hl hnc ⊢
  refine am_newd rfl ?_ ?_ (?_ : am_gw L xs k n (874, [], [.ref H0.length], H0 ++ [.inr (6, [.null, .null, .null, .null, .null, .null, .null, .null, .int 0, .int 0])], k + 1, n + 10))
  · unfold am_nh
    rw [hnc _ _ (Nat.le_refl _) (by show H0.length + 1 ≤ 2000000; omega)]
    rfl
  · show (Nat.ble (k + 1) 600000 && Nat.ble (n + 10) 7302250) = true
    rw [Nat.ble_eq_true_of_le (by omega), Nat.ble_eq_true_of_le (by omega)]
    rfl
  refine am_go_blk 1 (?_ : am_gw L xs k n (875, [], [.ref H0.length, .ref H0.length], H0 ++ [.inr (6, [.null, .null, .null, .null, .null, .null, .null, .null, .int 0, .int 0])], k + 1, n + 10))
  have hh1 : Nat.ble (H0 ++ ([.inr (6, [.null, .null, .null, .null, .null, .null, .null, .null, .int 0, .int 0])] : am_H)).length am_pX = true := Nat.ble_eq_true_of_le (by rw [List.length_append]; show H0.length + 1 ≤ 2000000; omega)
  have hl1 : (H0 ++ (H_C68 w).map (am_mc (am_ro H0.length 1 H0.length))).length = H0.length + 53 := by
    rw [List.length_append, List.length_map]
    rfl
  refine am_ispd (o := H0.length) (as := []) (rest := [.ref H0.length]) rfl rfl rfl (am_kfr (h1 := H0 ++ (H_C68 w).map (am_mc (am_ro H0.length 1 H0.length))) (r := none) (mc1 := 52) (ms1 := 2117) ?_ (am_fr_n (C68 (D := 892) hr hw hz) rfl (by omega) (hnc _ _ (by omega) (by show H0.length + 53 ≤ 2000000; omega))) ?_ (by omega) (by omega) (Or.inr ?_) (?_ : am_gw L xs k n (878, [], [.ref H0.length], H0 ++ (H_C68 w).map (am_mc (am_ro H0.length 1 H0.length)), k + 1 + 52, n + 10 + 2117)))
  · rw [hh1]
    rfl
  · rw [hl1, List.length_append]
    show H0.length + 1 ≤ H0.length + 53
    omega
  · rw [hl1, List.length_append]
    show (true && ((am_nr (H0.length + 1) (H0.length + 53) (.ref H0.length) && true) && true)) = true
    rw [nr_lo (Nat.lt_succ_self _)]
    rfl
  rw [ro_n H0.length 1 53]
  show am_gw L xs k n (878, [], [.ref H0.length], (H0 ++ (ww (wB w)).map (am_mc (am_ro H0.length 53 H0.length))), k + 1 + 52, n + 10 + 2117)
  have hL1 : (H0 ++ (ww (wB w)).map (am_mc (am_ro H0.length 53 H0.length))).length = H0.length + 53 := by
    rw [List.length_append, List.length_map]
    rfl
  have hN1 : ∀ lo hi, (H0 ++ (ww (wB w)).map (am_mc (am_ro H0.length 53 H0.length))).length ≤ lo → hi ≤ am_pX → (H0 ++ (ww (wB w)).map (am_mc (am_ro H0.length 53 H0.length))).all (am_nc lo hi) = true := fun lo hi h1 h2 => by
    rw [hL1] at h1
    rw [List.all_append, hnc lo hi (by omega) h2, ww_ncp (by omega) h2]
    rfl
  refine am_invd (o := H0.length) (ci := 6) (fs := _) (as := []) (rest := []) rfl rfl (by rw [List.getElem?_append_right (Nat.le_refl _), Nat.sub_self]; rfl) rfl (am_kfr (h1 := (H0 ++ (ww (wB w)).map (am_mc (am_ro H0.length 53 H0.length)))) (r := some (.int (nI 0))) (mc1 := 0) (ms1 := 0) ?_ (am_fr_k (M_Loc_free (D := 997) f1) (by omega)) (Nat.le_refl _) (by omega) (by omega) (Or.inl rfl) (?_ : am_gw L xs k n (881, [], [.int (nI 0)], (H0 ++ (ww (wB w)).map (am_mc (am_ro H0.length 53 H0.length))), k + 1 + 52, n + 10 + 2117)))
  · show (true && Nat.ble (H0 ++ (ww (wB w)).map (am_mc (am_ro H0.length 53 H0.length))).length am_pX) = true
    rw [hL1, Nat.ble_eq_true_of_le (by show H0.length + 53 ≤ 2000000; omega)]
    rfl
  refine am_go_blk 1 ⟨fun hc => absurd rfl hc, fun _ => (?_ : am_gw L xs k n (884, [], [], (H0 ++ (ww (wB w)).map (am_mc (am_ro H0.length 53 H0.length))), k + 1 + 52, n + 10 + 2117))⟩
  generalize hH1 : (H0 ++ (ww (wB w)).map (am_mc (am_ro H0.length 53 H0.length))) = H1 at hL1 hN1 ⊢
  refine am_newd rfl ?_ ?_ (?_ : am_gw L xs k n (887, [], [.ref H1.length], H1 ++ [.inr (6, [.null, .null, .null, .null, .null, .null, .null, .null, .int 0, .int 0])], k + 1 + 52 + 1, n + 10 + 2117 + 10))
  · unfold am_nh
    rw [hN1 _ _ (Nat.le_refl _) (by show H1.length + 1 ≤ 2000000; omega)]
    rfl
  · show (Nat.ble (k + 1 + 52 + 1) 600000 && Nat.ble (n + 10 + 2117 + 10) 7302250) = true
    rw [Nat.ble_eq_true_of_le (by omega), Nat.ble_eq_true_of_le (by omega)]
    rfl
  refine am_go_blk 1 (?_ : am_gw L xs k n (888, [], [.ref H1.length, .ref H1.length], H1 ++ [.inr (6, [.null, .null, .null, .null, .null, .null, .null, .null, .int 0, .int 0])], k + 1 + 52 + 1, n + 10 + 2117 + 10))
  have hh2 : Nat.ble (H1 ++ ([.inr (6, [.null, .null, .null, .null, .null, .null, .null, .null, .int 0, .int 0])] : am_H)).length am_pX = true := Nat.ble_eq_true_of_le (by rw [List.length_append]; show H1.length + 1 ≤ 2000000; omega)
  have hl2 : (H1 ++ (H_C68 w).map (am_mc (am_ro H1.length 1 H1.length))).length = H1.length + 53 := by
    rw [List.length_append, List.length_map]
    rfl
  refine am_ispd (o := H1.length) (as := []) (rest := [.ref H1.length]) rfl rfl rfl (am_kfr (h1 := H1 ++ (H_C68 w).map (am_mc (am_ro H1.length 1 H1.length))) (r := none) (mc1 := 52) (ms1 := 2117) ?_ (am_fr_n (C68 (D := 892) hr hw hz) rfl (by omega) (hN1 _ _ (by omega) (by show H1.length + 53 ≤ 2000000; omega))) ?_ (by omega) (by omega) (Or.inr ?_) (?_ : am_gw L xs k n (891, [], [.ref H1.length], H1 ++ (H_C68 w).map (am_mc (am_ro H1.length 1 H1.length)), k + 1 + 52 + 1 + 52, n + 10 + 2117 + 10 + 2117)))
  · rw [hh2]
    rfl
  · rw [hl2, List.length_append]
    show H1.length + 1 ≤ H1.length + 53
    omega
  · rw [hl2, List.length_append]
    show (true && ((am_nr (H1.length + 1) (H1.length + 53) (.ref H1.length) && true) && true)) = true
    rw [nr_lo (Nat.lt_succ_self _)]
    rfl
  rw [ro_n H1.length 1 53]
  show am_gw L xs k n (891, [], [.ref H1.length], (H1 ++ (ww (wB w)).map (am_mc (am_ro H1.length 53 H1.length))), k + 1 + 52 + 1 + 52, n + 10 + 2117 + 10 + 2117)
  have hL2 : (H1 ++ (ww (wB w)).map (am_mc (am_ro H1.length 53 H1.length))).length = H1.length + 53 := by
    rw [List.length_append, List.length_map]
    rfl
  have hN2 : ∀ lo hi, (H1 ++ (ww (wB w)).map (am_mc (am_ro H1.length 53 H1.length))).length ≤ lo → hi ≤ am_pX → (H1 ++ (ww (wB w)).map (am_mc (am_ro H1.length 53 H1.length))).all (am_nc lo hi) = true := fun lo hi h1 h2 => by
    rw [hL2] at h1
    rw [List.all_append, hN1 lo hi (by omega) h2, ww_ncp (by omega) h2]
    rfl
  refine am_invd (o := H1.length) (ci := 6) (fs := _) (as := []) (rest := []) rfl rfl (by rw [List.getElem?_append_right (Nat.le_refl _), Nat.sub_self]; rfl) rfl (am_kfr (h1 := (H1 ++ (ww (wB w)).map (am_mc (am_ro H1.length 53 H1.length)))) (r := some (.int (nI 0))) (mc1 := 0) (ms1 := 0) ?_ (am_fr_k (M_Loc_never (D := 996) f2) (by omega)) (Nat.le_refl _) (by omega) (by omega) (Or.inl rfl) (?_ : am_gw L xs k n (894, [], [.int (nI 0)], (H1 ++ (ww (wB w)).map (am_mc (am_ro H1.length 53 H1.length))), k + 1 + 52 + 1 + 52, n + 10 + 2117 + 10 + 2117)))
  · show (true && Nat.ble (H1 ++ (ww (wB w)).map (am_mc (am_ro H1.length 53 H1.length))).length am_pX) = true
    rw [hL2, Nat.ble_eq_true_of_le (by show H1.length + 53 ≤ 2000000; omega)]
    rfl
  refine am_go_blk 1 ⟨fun hc => absurd rfl hc, fun _ => (?_ : am_gw L xs k n (897, [], [], (H1 ++ (ww (wB w)).map (am_mc (am_ro H1.length 53 H1.length))), k + 1 + 52 + 1 + 52, n + 10 + 2117 + 10 + 2117))⟩
  refine am_go_blk 2 (?_ : am_gw L xs k n (902, [], [.int (nI 1)], (H1 ++ (ww (wB w)).map (am_mc (am_ro H1.length 53 H1.length))), k + 1 + 52 + 1 + 52, n + 10 + 2117 + 10 + 2117))
  exact am_go_blk 1 ⟨rfl, rfl⟩
theorem LAWX (hL : L ≤ 260) {X : am_H} {w : am_W} {bX T f : Nat} {te tc : Nat → Nat → Nat} (hX : X.length ≤ 6) (hN : NC X bX) (hb : bX ≤ 53 + X.length) (hP : PQ (wN L xs) (wM L xs) 0 (mkN (wSw L xs) (wM L xs)) T f (wV L xs) te tc w) (hq : ∀ l, l < wM L xs → F_W_saws L xs (nI (wO L xs l)) (nI l) = some (sw (wV L xs) te tc f l)) (hB : am_run (some (L, xs)) 1000 111 [.ref am_pL] [] (some (.ref 0)) (ww w ++ X) 59 2314) : am_gw L xs 0 0 (0, [(0, .ref am_pL)], [], [], 0, 0) := by
  have hl : (ww w ++ X).length = 53 + X.length := by rw [List.length_append, ww_len]
  have hH := E_law hL hq (fun l _ => sw_ok) (w := w) (r := fun _ => 0) hP
  refine am_go_blk 1 (?_ : am_gw L xs 0 0 (1, [(0, .ref am_pL)], [.ref am_pL], [], 0, 0))
  refine am_cls (as := [.ref am_pL]) (rest := []) rfl rfl rfl (am_kfr (h1 := ww w ++ X) (r := some (.ref 0)) (mc1 := 59) (ms1 := 2314) rfl (am_fr_of hB (Nat.zero_le _) (by rw [hl]; show _ ≤ 2000000; omega)) (Nat.zero_le _) (by omega) (by omega) (Or.inr ?_) (?_ : am_gw L xs 0 0 (4, [(0, .ref am_pL)], [.ref 0], ww w ++ X, 0 + 59, 0 + 2314)))
  · rw [hl]
    show ((am_nr 0 (53 + X.length) (.ref am_pL) && true) && true) = true
    rw [nr_hi (by show _ ≤ 2500000; omega)]
    rfl
  show am_gw L xs 0 0 (4, [(0, .ref am_pL)], [.ref 0], ww w ++ X, 59, 2314)
  refine am_go_blk 1 (?_ : am_gw L xs 0 0 (5, [(1, .ref 0), (0, .ref am_pL)], [], ww w ++ X, 59, 2314))
  refine am_go_blk 1 (?_ : am_gw L xs 0 0 (8, [(1, .ref 0), (0, .ref am_pL)], [.int (nI 160)], ww w ++ X, 59, 2314))
  refine am_newld rfl ?_ (by decide) (?_ : am_gw L xs 0 0 (10, [(1, .ref 0), (0, .ref am_pL)], [.ref (ww w ++ X).length], (ww w ++ X) ++ [.inl (1, (nI 160).toNatClampNeg, .inr (.inl (fun _ => 0)))], 59 + 1, 2314 + (nI 160).toNatClampNeg))
  · unfold am_nh
    rw [List.all_append, ww_nc (by omega) (by rw [hl]; show _ ≤ 2000000; omega), hN _ _ (by omega) (by rw [hl]; show _ ≤ 2000000; omega), hl]
    show ((am_nr (53 + X.length) (53 + X.length + 1) (.ref 0) && (am_nr (53 + X.length) (53 + X.length + 1) (.ref am_pL) && true)) && (true && (true && true))) = true
    rw [nr_lo (by omega), nr_hi (by show _ ≤ 2500000; omega)]
    rfl
  rw [hl, List.append_assoc]
  show am_gw L xs 60 2474 (10, [(1, .ref 0), (0, .ref am_pL)], [.ref (53 + X.length)], hlw X (w, fun _ => 0), 60, 2474)
  refine am_go_blk 1 (?_ : am_gw L xs 60 2474 (11, [(2, .ref (53 + X.length)), (1, .ref 0), (0, .ref am_pL)], [], hlw X (w, fun _ => 0), 60, 2474))
  exact T_W_law2 (by omega) (by omega) (by omega) (fun u => LAST hX hN hb (by omega) (by omega)) (w, fun _ => 0) hH
end
theorem am_law_ok : am_law := fun L xs hL => by
  obtain ⟨w, X, ⟨hX, T, f, te, tc, hP, hq⟩, hB⟩ := BUILD (xs := xs) hL (D := 889)
  rcases hX with rfl | ⟨K, J, M, rfl⟩
  · exact LAWX hL (bX := 0) (by decide) NC_n (by omega) hP hq hB
  · exact LAWX hL (bX := 59) (Nat.le_of_ble_eq_true rfl) NC_XT (Nat.le_of_ble_eq_true rfl) hP hq hB
