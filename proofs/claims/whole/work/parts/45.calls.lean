/-! ===== calls that write nothing ===== -/
theorem ex_ite {c : Prop} {hd hd2 : Decidable c} {A B A2 B2 : Option (Int32 × am_W)} {w : am_W} (h1 : c → ∃ r, A = some (r, w) ∧ A2 = some (r, w)) (h2 : ¬ c → ∃ r, B = some (r, w) ∧ B2 = some (r, w)) : ∃ r, (@ite _ c hd A B) = some (r, w) ∧ (@ite _ c hd2 A2 B2) = some (r, w) := by
  by_cases h : c
  · obtain ⟨r, e1, e2⟩ := h1 h
    exact ⟨r, by rw [if_pos h]; exact e1, by rw [if_pos h]; exact e2⟩
  · obtain ⟨r, e1, e2⟩ := h2 h
    exact ⟨r, by rw [if_neg h]; exact e1, by rw [if_neg h]; exact e2⟩
theorem ti_0 : (0 : Int32).toInt = 0 := rfl
theorem nI_ti {a : Int32} {k : Nat} (h : a.toInt = (k : Int)) (hk : k < 2 ^ 31) : a = nI k := Int32.toInt_inj.mp (h.trans (nI_toInt hk).symm)
theorem S_lt {a : Int32} {k : Nat} {w : am_W} {F G : am_W → Option (Int32 × am_W)} (hk : k < 2 ^ 31) (hF : F w = some (nI 0, w)) (hG : G w = some (nI 1, w)) : (if a < 0 then F w else if nI k ≤ a then F w else G w) = some (bi (am_in a k), w) := by
  rw [in_dec]
  by_cases h1 : a < 0
  · rw [if_pos h1, hF, decide_eq_false (fun q => by rw [Int32.lt_iff_toInt_lt, ti_0] at h1; omega)]; rfl
  · rw [if_neg h1]
    by_cases h2 : nI k ≤ a
    · rw [if_pos h2, hF, decide_eq_false (fun q => by rw [Int32.le_iff_toInt_le, nI_toInt hk] at h2; omega)]; rfl
    · rw [if_neg h2, hG, decide_eq_true (by rw [Int32.lt_iff_toInt_lt, ti_0] at h1; rw [Int32.le_iff_toInt_le, nI_toInt hk] at h2; omega)]; rfl
theorem S_le {a : Int32} {k : Nat} {w : am_W} {F G : am_W → Option (Int32 × am_W)} (hk : k < 2 ^ 30) (hF : F w = some (nI 0, w)) (hG : G w = some (nI 1, w)) : (if a < 0 then F w else if nI k < a then F w else G w) = some (bi (am_in a (k + 1)), w) := by
  rw [in_dec]
  by_cases h1 : a < 0
  · rw [if_pos h1, hF, decide_eq_false (fun q => by rw [Int32.lt_iff_toInt_lt, ti_0] at h1; omega)]; rfl
  · rw [if_neg h1]
    by_cases h2 : nI k < a
    · rw [if_pos h2, hF, decide_eq_false (fun q => by rw [Int32.lt_iff_toInt_lt, nI_toInt (by omega)] at h2; omega)]; rfl
    · rw [if_neg h2, hG, decide_eq_true (by rw [Int32.lt_iff_toInt_lt, ti_0] at h1; rw [Int32.lt_iff_toInt_lt, nI_toInt (by omega)] at h2; omega)]; rfl
theorem S_isByte {a : Int32} {w : am_W} : F_Loc_isByte a w = some (bi (am_in a 256), w) := S_le (k := 255) (F := F_Loc_isByte_15) (G := F_Loc_isByte_16 (nI 1)) (by omega) rfl rfl
theorem S_isHour {a : Int32} {w : am_W} : F_Loc_isHour a w = some (bi (am_in a 24), w) := S_lt (F := F_Loc_isHour_14) (G := F_Loc_isHour_15 (nI 1)) (by omega) rfl rfl
theorem S_isKind {a : Int32} {w : am_W} : F_Loc_isKind a w = some (bi (am_in a 6), w) := S_lt (F := F_Loc_isKind_14) (G := F_Loc_isKind_15 (nI 1)) (by omega) rfl rfl
theorem S_isSort {a : Int32} {w : am_W} : F_Loc_isSort a w = some (bi (am_in a 3), w) := S_lt (F := F_Loc_isSort_13) (G := F_Loc_isSort_14 (nI 1)) (by omega) rfl rfl
theorem S_isSheet {a : Int32} {w : am_W} : F_Loc_isSheet a w = some (bi (am_in a 4), w) := S_lt (F := F_Loc_isSheet_13) (G := F_Loc_isSheet_14 (nI 1)) (by omega) rfl rfl
theorem S_isEither {a : Int32} {w : am_W} : F_Loc_isEither a w = some (bi (am_in a 2), w) := by
  unfold F_Loc_isEither
  by_cases h0 : a = 0
  · subst h0
    rfl
  · by_cases h1 : a = nI 1
    · subst h1
      rfl
    · have h : am_in a 2 = false := Bool.eq_false_iff.mpr (fun q => by
        obtain ⟨t, ht, rfl⟩ := in_ex q (by omega)
        match t, ht with
        | 0, _ => exact h0 rfl
        | 1, _ => exact h1 rfl)
      rw [if_neg h0, h]
      first | (rw [if_neg h1]; rfl) | (rw [if_neg (fun q => h1 q)]; rfl)
theorem D_isHour {a : Int32} {w : am_W} : F_Mod_isHour a w = some (bi (am_in a 24), w) := by
  unfold F_Mod_isHour
  rw [D_in0 (k := 23) (by omega)]
  simp only [Option.bind_some, am_ltU, am_ckT, cond_true, cond_false, bi_ite, ck_bi, ite_T, ite_F]
theorem D_isByte {a : Int32} {w : am_W} : F_Mod_isByte a w = some (bi (am_in a 256), w) := by
  unfold F_Mod_isByte
  rw [D_in0 (k := 255) (by omega)]
  simp only [Option.bind_some, am_ltU, am_ckT, cond_true, cond_false, bi_ite, ck_bi, ite_T, ite_F]
theorem B_count (a : Int32) : BOTH (F_Loc_count a) (F_Mod_count a) := BOTH_0 (fun {n m g s T f v te tc w} hq => by
  obtain ⟨hV, hg, hs, hC, hM, hT, hX, hS, hP, hI, hA⟩ := hq
  obtain ⟨z, hz, z1, z2, z3⟩ := hP
  unfold F_Loc_count F_Mod_count
  refine ex_ite (fun _ => ⟨nI n, by rw [hC.1], by rw [hM.1]⟩) (fun _ => ex_ite (fun _ => ⟨nI m, by rw [hC.2.2.1], by rw [hM.2.2.1]⟩) (fun _ => ex_ite (fun _ => ⟨nI g, by rw [hC.2.1], by rw [hM.2.1]⟩) (fun _ => ex_ite (fun _ => ⟨nI s, by rw [hC.2.2.2.1], by rw [hM.2.2.2.1]⟩) (fun _ => ex_ite (fun _ => ⟨nI T, by rw [hT.2.2.1], by rw [hT.2.2.2.2.1]⟩) (fun _ => ex_ite (fun _ => ⟨nI f, by rw [hT.2.2.2.1], by rw [hT.2.2.2.2.2]⟩) (fun _ => ex_ite (fun _ => ⟨nI z, by rw [z1], by rw [z2]⟩) (fun _ => ⟨_, rfl, rfl⟩))))))))
theorem B_told (a b : Int32) : BOTH (F_Loc_told a b) (F_Mod_told a b) := BOTH_0 (fun {n m g s T f v te tc w} hq => by
  obtain ⟨hV, hg, hs, hC, hM, hT, hX, hS, hP, hI, hA⟩ := hq
  have hn := hV.1
  unfold F_Loc_told F_Mod_told
  simp only [S_isThing hV hC, D_isThing hV hM, Option.bind_some, am_ltU, am_ckT, cond_true, cond_false, bi_ite, ck_bi, ite_T, ite_F]
  cases h : am_in a n with
  | false => exact ⟨_, rfl, rfl⟩
  | true =>
    obtain ⟨t, ht, rfl⟩ := in_ex h (by omega)
    obtain ⟨c1, c2, c3⟩ := hC.2.2.2.2.2.1 t ht
    obtain ⟨m1, m2, m3⟩ := hM.2.2.2.2.1 t ht
    simp (disch := omega) only [cond_true, nI_clamp, am_ckI, ile_t, ile_f, ilt_t, ilt_f, ieq_t, ieq_f, iz_t, iz_f, ilz_f, nI_add, c1, c2, c3, m1, m2, m3, S_isGone hC, D_isGone hM, Option.bind_some, am_ltU, am_ckT, cond_true, cond_false, bi_ite, ck_bi, ite_T, ite_F]
    refine ex_ite (fun _ => ⟨_, rfl, rfl⟩) (fun _ => ex_ite (fun _ => ⟨_, rfl, rfl⟩) (fun _ => ex_ite (fun _ => ⟨_, rfl, rfl⟩) (fun _ => ex_ite (fun _ => ?_) (fun _ => ⟨_, rfl, rfl⟩))))
    cases g.testBit t <;> exact ⟨_, rfl, rfl⟩)
theorem B_lockTold (a b : Int32) : BOTH (F_Loc_lockTold a b) (F_Mod_lockTold a b) := BOTH_0 (fun {n m g s T f v te tc w} hq => by
  obtain ⟨hV, hg, hs, hC, hM, hT, hX, hS, hP, hI, hA⟩ := hq
  have hm := hV.2.1
  unfold F_Loc_lockTold F_Mod_lockTold
  simp only [S_isLock hV hC, D_isLock hV hM, Option.bind_some, am_ltU, am_ckT, cond_true, cond_false, bi_ite, ck_bi, ite_T, ite_F]
  cases h : am_in a m with
  | false => exact ⟨_, rfl, rfl⟩
  | true =>
    obtain ⟨l, hl, rfl⟩ := in_ex h (by omega)
    obtain ⟨c1, c2, c3, c4⟩ := hC.2.2.2.2.2.2 l hl
    obtain ⟨m1, m2, m3⟩ := hM.2.2.2.2.2 l hl
    simp (disch := omega) only [cond_true, nI_clamp, am_ckI, ile_t, ile_f, ilt_t, ilt_f, ieq_t, ieq_f, iz_t, iz_f, ilz_f, nI_add, c1, c2, c3, hC.2.2.2.1, b_has, b_nI, S_isShut hV hC hl, D_isShut hV hM hl, D_isSawn hM, Option.bind_some, am_ltU, am_ckT, cond_true, cond_false, bi_ite, ck_bi, ite_T, ite_F]
    refine ex_ite (fun h0 => ⟨_, rfl, ?_⟩) (fun _ => ex_ite (fun h1 => ⟨_, rfl, ?_⟩) (fun _ => ex_ite (fun h2 => ⟨_, rfl, ?_⟩) (fun _ => ex_ite (fun _ => ?_) (fun _ => ex_ite (fun _ => ?_) (fun _ => ⟨_, rfl, rfl⟩)))))
    · rw [nI_ti (k := 0) h0 (by omega)]
      unfold F_Mod_lockTold_48
      simp (disch := omega) only [pk_mul, nI_clamp, am_ckI, ile_t, ile_f, ilt_t, ilt_f, ieq_t, ieq_f, iz_t, iz_f, ilz_f, nI_add, Nat.add_zero, m1]
    · rw [nI_ti (k := 1) h1 (by omega)]
      unfold F_Mod_lockTold_48
      simp (disch := omega) only [pk_mul, nI_clamp, am_ckI, ile_t, ile_f, ilt_t, ilt_f, ieq_t, ieq_f, iz_t, iz_f, ilz_f, nI_add, m2]
    · rw [nI_ti (k := 2) h2 (by omega)]
      unfold F_Mod_lockTold_48
      simp (disch := omega) only [pk_mul, nI_clamp, am_ckI, ile_t, ile_f, ilt_t, ilt_f, ieq_t, ieq_f, iz_t, iz_f, ilz_f, nI_add, m3]
    · cases s.testBit l <;> exact ⟨_, rfl, rfl⟩
    · cases shu v g s l <;> exact ⟨_, rfl, rfl⟩)
theorem B_holds (a : Int32) : BOTH (F_Loc_holds a) (F_Mod_holds a) := BOTH_0 (fun {n m g s T f v te tc w} hq => by
  obtain ⟨hV, hg, hs, hC, hM, hT, hX, hS, hP, hI, hA⟩ := hq
  have hn := hV.1
  unfold F_Loc_holds F_Mod_holds
  simp only [S_isThing hV hC, D_isThing hV hM, Option.bind_some, am_ltU, am_ckT, cond_true, cond_false, bi_ite, ck_bi, ite_T, ite_F]
  cases h : am_in a n with
  | false => exact ⟨_, rfl, rfl⟩
  | true =>
    obtain ⟨t, ht, rfl⟩ := in_ex h (by omega)
    simp only [S_holders hV hC ht, D_holdsNow hV hM ht, Option.bind_some, am_ltU, am_ckT, cond_true, cond_false, bi_ite, ck_bi, ite_T, ite_F]
    exact ⟨_, rfl, rfl⟩)
theorem B_free : BOTH F_Loc_free F_Mod_free := BOTH_0 (fun {n m g s T f v te tc w} hq => by
  obtain ⟨hV, hg, hs, hC, hM, hT, hX, hS, hP, hI, hA⟩ := hq
  refine ⟨_, ?_, D_free hV hM⟩
  unfold F_Loc_free
  rw [hC.2.1, hC.2.2.2.1, S_canGo hV hC]
  rfl)
section
variable {n m g s : Nat} {v : am_V} {w : am_W}
theorem D_waitsFor (hV : VI n m v) (hM : MM n m g s v w) {t : Nat} (ht : t < n) : F_Mod_waitsFor (nI t) w = some (mk (aw m v g s t) n, w) := by
  have hm := hV.2.1
  have hn := hV.1
  unfold F_Mod_waitsFor
  have e0 : nI 0 = mk (aw 0 v g s t) n := mk_ext (by omega) (fun i hi => by rw [b_0i]; unfold aw; simp)
  refine Eq.trans ?_ (lp_0 (n := am_NF) (G := fun k i => L_Mod_waitsFor_4 k (nI t) (mk (aw i v g s t) n) (nI i) w) (m := m) ?_ ?_ (by show m < 4000; omega))
  · rw [← e0]
  · intro k i hi
    show F_Mod_waitsFor_4 _ _ _ _ _ = _
    have h4 := (hV.2.2.2 i hi).1
    unfold F_Mod_waitsFor_4
    simp (disch := omega) only [hM.2.2.1, nI_clamp, am_ckI, ile_t, ile_f, ilt_t, ilt_f, ieq_t, ieq_f, iz_t, iz_f, ilz_f, nI_add, D_holdsNow hV hM ht, D_owner hV hM hi, b_has, mk_b, bi1_ite, Option.bind_some, am_ltU, am_ckT, cond_true, cond_false, bi_ite, ck_bi, ite_T, ite_F, decide_eq_true hi, Bool.true_and]
    cases h1 : ho v g s t i
    · have e : mk (aw (i + 1) v g s t) n = mk (aw i v g s t) n ||| nI 0 := by
        rw [show mk (aw i v g s t) n ||| nI 0 = mk (aw i v g s t) n from b_ext (fun j hj => by rw [b_or, b_0i, Bool.or_false])]
        exact mk_c (fun u _ => by unfold aw; rw [List.range_succ, List.any_append]; simp [h1])
      rw [e, ← nI_add]; rfl
    · have e : mk (aw (i + 1) v g s t) n = mk (aw i v g s t) n ||| (nI 1 <<< (nI (v 4 i) &&& 31)) := by
        refine (mk_ext (by omega) ?_).symm
        exact or_one (p := aw i v g s t) (by omega) h4 (fun j hj => mk_b _ n (by omega) hj) (fun u => by unfold aw; rw [List.range_succ, List.any_append]; simp [h1])
      rw [e, ← nI_add]; rfl
  · intro k
    show F_Mod_waitsFor_4 _ _ _ _ _ = _
    unfold F_Mod_waitsFor_4
    simp (disch := omega) only [hM.2.2.1, nI_clamp, am_ckI, ile_t, ile_f, ilt_t, ilt_f, ieq_t, ieq_f, iz_t, iz_f, ilz_f, nI_add]
theorem D_shutNow (hV : VI n m v) (hM : MM n m g s v w) : F_Mod_shutNow w = some (mk (shu v g s) m, w) := by
  have hm := hV.2.1
  unfold F_Mod_shutNow
  refine lp_0 (G := fun k i => L_Mod_shutNow_4 k (mk (shu v g s) i) (nI i) w) (m := m) ?_ ?_ (by show m < 4000; omega)
  · intro k i hi
    show F_Mod_shutNow_4 _ _ _ _ = _
    unfold F_Mod_shutNow_4
    simp (disch := omega) only [hM.2.2.1, nI_clamp, am_ckI, ile_t, ile_f, ilt_t, ilt_f, ieq_t, ieq_f, iz_t, iz_f, ilz_f, nI_add, D_isShut hV hM hi, Option.bind_some, am_ltU, am_ckT, cond_true, cond_false, bi_ite, ck_bi, ite_T, ite_F]
    cases h : shu v g s i
    · rw [mk_n0 h, ← nI_add]; rfl
    · rw [mk_s h (by omega), ← nI_add]; rfl
  · intro k
    show F_Mod_shutNow_4 _ _ _ _ = _
    unfold F_Mod_shutNow_4
    simp (disch := omega) only [hM.2.2.1, nI_clamp, am_ckI, ile_t, ile_f, ilt_t, ilt_f, ieq_t, ieq_f, iz_t, iz_f, ilz_f, nI_add]
theorem MM_s (hM : MM n m g s v w) (h : Nat) : MM n m g h v (wsf w 53 7 (nI h)) := ⟨hM.1, hM.2.1, hM.2.2.1, rfl, hM.2.2.2.2.1, hM.2.2.2.2.2⟩
end
theorem B_waits (a : Int32) : BOTH (F_Loc_waits a) (F_Mod_waits a) := BOTH_0 (fun {n m g s T f v te tc w} hq => by
  obtain ⟨hV, hg, hs, hC, hM, hT, hX, hS, hP, hI, hA⟩ := hq
  have hn := hV.1
  unfold F_Loc_waits F_Mod_waits
  simp only [S_isThing hV hC, D_isThing hV hM, Option.bind_some, am_ltU, am_ckT, cond_true, cond_false, bi_ite, ck_bi, ite_T, ite_F]
  cases h : am_in a n with
  | false => exact ⟨_, rfl, rfl⟩
  | true =>
    obtain ⟨t, ht, rfl⟩ := in_ex h (by omega)
    simp only [S_awaited hV hC ht, D_waitsFor hV hM ht, Option.bind_some, am_ltU, am_ckT, cond_true, cond_false, bi_ite, ck_bi, ite_T, ite_F]
    exact ⟨_, rfl, rfl⟩)
theorem B_never : BOTH F_Loc_never F_Mod_never := BOTH_0 (fun {n m g s T f v te tc w} hq => by
  obtain ⟨hV, hg, hs, hC, hM, hT, hX, hS, hP, hI, hA⟩ := hq
  unfold F_Loc_never F_Mod_never
  simp only [S_allThings hV hC, hC.2.2.2.1, S_gal hV hC, D_everything hV hM, D_gal hV hM (x := 0), Option.bind_some, am_ltU, am_ckT, cond_true, cond_false, bi_ite, ck_bi, ite_T, ite_F]
  exact ⟨_, rfl, rfl⟩)
theorem B_steals : BOTH F_Loc_steals F_Mod_steals := BOTH_0 (fun {n m g s T f v te tc w} hq => by
  obtain ⟨hV, hg, hs, hC, hM, hT, hX, hS, hP, hI, hA⟩ := hq
  have hn := hV.1
  have hm := hV.2.1
  let p : Nat → Bool := fun t => !g.testBit t && ((List.range m).all fun l => !fx v g s t l)
  refine ⟨mk p n, ?_, ?_⟩
  · unfold F_Loc_steals
    refine lp_0 (G := fun k i => L_Loc_steals_4 k (mk p i) (nI i) w) (m := n) ?_ ?_ (by show n < 4000; omega)
    · intro k i hi
      show F_Loc_steals_4 _ _ _ _ = _
      unfold F_Loc_steals_4
      simp (disch := omega) only [hC.1, nI_clamp, am_ckI, ile_t, ile_f, ilt_t, ilt_f, ieq_t, ieq_f, iz_t, iz_f, ilz_f, nI_add, S_isGone hC, S_fixers hV hC hi, Option.bind_some, am_ltU, am_ckT, cond_true, cond_false, bi_ite, ck_bi, ite_T, ite_F]
      rw [ite_b1 (mk_z (by omega))]
      cases h1 : g.testBit i
      · cases h2 : ((List.range m).all fun l => !fx v g s i l)
        · rw [mk_n (show p i = false by show (!g.testBit i && _) = false; rw [h1]; exact h2), ← nI_add]; rfl
        · rw [mk_s (show p i = true by show (!g.testBit i && _) = true; rw [h1]; exact h2) (by omega), ← nI_add]; rfl
      · rw [mk_n (show p i = false by show (!g.testBit i && _) = false; rw [h1]; rfl), ← nI_add]; rfl
    · intro k
      show F_Loc_steals_4 _ _ _ _ = _
      unfold F_Loc_steals_4
      simp (disch := omega) only [hC.1, nI_clamp, am_ckI, ile_t, ile_f, ilt_t, ilt_f, ieq_t, ieq_f, iz_t, iz_f, ilz_f, nI_add]
  · unfold F_Mod_steals
    refine lp_0 (G := fun k i => L_Mod_steals_4 k (mk p i) (nI i) w) (m := n) ?_ ?_ (by show n < 4000; omega)
    · intro k i hi
      show F_Mod_steals_4 _ _ _ _ = _
      unfold F_Mod_steals_4
      simp (disch := omega) only [hM.1, nI_clamp, am_ckI, ile_t, ile_f, ilt_t, ilt_f, ieq_t, ieq_f, iz_t, iz_f, ilz_f, nI_add, D_isGone hM, D_fixedBy hV hM hi, Option.bind_some, am_ltU, am_ckT, cond_true, cond_false, bi_ite, ck_bi, ite_T, ite_F]
      rw [ite_b1 (mk_z (by omega))]
      cases h1 : g.testBit i
      · cases h2 : ((List.range m).all fun l => !fx v g s i l)
        · rw [mk_n0 (show p i = false by show (!g.testBit i && _) = false; rw [h1]; exact h2), ← nI_add]; rfl
        · rw [mk_s (show p i = true by show (!g.testBit i && _) = true; rw [h1]; exact h2) (by omega), ← nI_add]; rfl
      · rw [mk_n0 (show p i = false by show (!g.testBit i && _) = false; rw [h1]; rfl), ← nI_add]; rfl
    · intro k
      show F_Mod_steals_4 _ _ _ _ = _
      unfold F_Mod_steals_4
      simp (disch := omega) only [hM.1, nI_clamp, am_ckI, ile_t, ile_f, ilt_t, ilt_f, ieq_t, ieq_f, iz_t, iz_f, ilz_f, nI_add])
theorem B_keys (a : Int32) : BOTH (F_Loc_keys a) (F_Mod_keys a) := BOTH_0 (fun {n m g s T f v te tc w} hq => by
  obtain ⟨hV, hg, hs, hC, hM, hT, hX, hS, hP, hI, hA⟩ := hq
  have hn := hV.1
  have hm := hV.2.1
  unfold F_Loc_keys F_Mod_keys
  simp only [S_isThing hV hC, D_isThing hV hM, Option.bind_some, am_ltU, am_ckT, cond_true, cond_false, bi_ite, ck_bi, ite_T, ite_F]
  cases h : am_in a n with
  | false => exact ⟨_, rfl, rfl⟩
  | true =>
    obtain ⟨t, ht, rfl⟩ := in_ex h (by omega)
    simp (disch := omega) only [hC.2.2.2.1, S_gal hV hC, S_hasN, D_gal hV hM (x := 0), b_has, b_nI, bi1_ite, D_shutNow hV hM, hM.2.2.2.1, Option.bind_some, am_ltU, am_ckT, cond_true, cond_false, bi_ite, ck_bi, ite_T, ite_F]
    cases (gal n m v 0 s g).testBit t with
    | true => exact ⟨_, rfl, rfl⟩
    | false =>
      let p : Nat → Bool := fun l => shu v g s l && (gal n m v 0 (s ||| 2 ^ l) g).testBit t
      refine ⟨mk p m, ?_, ?_⟩
      · refine lp_0 (G := fun k i => L_Loc_keys_41 k (nI t) (mk p i) (nI i) w) (m := m) ?_ ?_ (by show m < 4000; omega)
        · intro k i hi
          show F_Loc_keys_41 _ _ _ _ _ = _
          unfold F_Loc_keys_41
          simp (disch := omega) only [hC.2.2.1, hC.2.2.2.1, nI_clamp, am_ckI, ile_t, ile_f, ilt_t, ilt_f, ieq_t, ieq_f, iz_t, iz_f, ilz_f, nI_add, S_isShut hV hC hi, s_one, nx_or, S_gal hV hC, S_hasN, Option.bind_some, am_ltU, am_ckT, cond_true, cond_false, bi_ite, ck_bi, ite_T, ite_F]
          cases h1 : shu v g s i
          · rw [mk_n (show p i = false by show (shu v g s i && _) = false; rw [h1]; rfl), ← nI_add]; rfl
          · cases h2 : (gal n m v 0 (s ||| 2 ^ i) g).testBit t
            · rw [mk_n (show p i = false by show (shu v g s i && _) = false; rw [h1]; exact h2), ← nI_add]; rfl
            · rw [mk_s (show p i = true by show (shu v g s i && _) = true; rw [h1]; exact h2) (by omega), ← nI_add, s_one i (by omega)]; rfl
        · intro k
          show F_Loc_keys_41 _ _ _ _ _ = _
          unfold F_Loc_keys_41
          simp (disch := omega) only [hC.2.2.1, nI_clamp, am_ckI, ile_t, ile_f, ilt_t, ilt_f, ieq_t, ieq_f, iz_t, iz_f, ilz_f, nI_add]
      · have key : ∀ (d i k z : Nat), i + d = m → d < k → L_Mod_keys_42 k (nI t) (mk (shu v g s) m) (nI s) (mk p i) (nI i) (wsf w 53 7 (nI z)) = some (mk p m, w) := by
          intro d
          induction d with
          | zero =>
            intro i k z hi hk
            obtain ⟨k, rfl⟩ : ∃ j, k = j + 1 := ⟨k - 1, by omega⟩
            show F_Mod_keys_42 _ _ _ _ _ _ _ = _
            unfold F_Mod_keys_42
            simp (disch := omega) only [(MM_s hM z).2.2.1, nI_clamp, am_ckI, ile_t, ile_f, ilt_t, ilt_f, ieq_t, ieq_f, iz_t, iz_f, ilz_f, nI_add, wsf_wsf, Option.bind_some, am_ltU, am_ckT, cond_true, cond_false, bi_ite, ck_bi, ite_T, ite_F, wsf_e hM.2.2.2.1]
            rw [show i = m from by omega]
          | succ d ih =>
            intro i k z hi hk
            obtain ⟨k, rfl⟩ : ∃ j, k = j + 1 := ⟨k - 1, by omega⟩
            have hin : i < m := by omega
            show F_Mod_keys_42 _ _ _ _ _ _ _ = _
            unfold F_Mod_keys_42 F_Mod_keys_94 F_Mod_keys_97
            simp (disch := omega) only [(MM_s hM z).2.2.1, nI_clamp, am_ckI, ile_t, ile_f, ilt_t, ilt_f, ieq_t, ieq_f, iz_t, iz_f, ilz_f, nI_add, wsf_wsf, Option.bind_some, am_ltU, am_ckT, cond_true, cond_false, bi_ite, ck_bi, ite_T, ite_F, b_has, mk_b, bi1_ite, decide_eq_true hin, Bool.true_and, s_one, nx_or, D_gal hV (MM_s hM _) (x := 0), b_nI]
            have t1 := ih (i + 1) k z (by omega) (by omega)
            have t2 := ih (i + 1) k (s ||| 2 ^ i) (by omega) (by omega)
            cases h1 : shu v g s i
            · rw [mk_n (show p i = false by show (shu v g s i && _) = false; rw [h1]; rfl)] at t1
              exact t1
            · cases h2 : (gal n m v 0 (s ||| 2 ^ i) g).testBit t
              · rw [mk_n0 (show p i = false by show (shu v g s i && _) = false; rw [h1]; exact h2)] at t2
                exact t2
              · rw [mk_s (show p i = true by show (shu v g s i && _) = true; rw [h1]; exact h2) (by omega), s_one i (by omega)] at t2
                exact t2
        have h9 := key m 0 am_NF s (by omega) (by show m < 4000; omega)
        rw [wsf_e hM.2.2.2.1] at h9
        exact h9)
