/-! ===== relock, taken ===== -/
section
variable {n m g s : Nat} {v : am_V} {w : am_W}
theorem MM_re (hM : MM n m g s v w) {a l x : Nat} (ha : a = 4 ∨ a = 5 ∨ a = 6) : MM n m g s (vset v a l x) (wsf w 57 (3 * l + (a - 4)) (nI x)) := by
  have e : ∀ j, (wsf w 57 (3 * l + (a - 4)) (nI x)).1 57 j = upd (w.1 57) (3 * l + (a - 4)) (nI x) j := fun j => rfl
  refine ⟨hM.1, hM.2.1, hM.2.2.1, hM.2.2.2.1, fun t ht => ?_, fun j hj => ?_⟩
  · have q1 : vset v a l x 1 t = v 1 t := vset_nc (nbf (by omega))
    have q2 : vset v a l x 2 t = v 2 t := vset_nc (nbf (by omega))
    have q3 : vset v a l x 3 t = v 3 t := vset_nc (nbf (by omega))
    rw [q1, q2, q3]
    exact hM.2.2.2.2.1 t ht
  · rw [e, e, e]
    obtain ⟨m1, m2, m3⟩ := hM.2.2.2.2.2 j hj
    have r1 : upd (w.1 57) (3 * l + (a - 4)) (nI x) (3 * j) = nI (vset v a l x 4 j) := by
      by_cases h : a = 4 ∧ j = l
      · obtain ⟨rfl, rfl⟩ := h
        rw [vset_at, Nat.sub_self, Nat.add_zero, pk_us]
      · rw [pk_un (by omega), m1]
        refine congrArg nI ?_
        by_cases h4 : a = 4
        · subst h4; exact (vset_ne (by omega)).symm
        · exact (vset_nc (nbf (by omega))).symm
    have r2 : upd (w.1 57) (3 * l + (a - 4)) (nI x) (3 * j + 1) = nI (vset v a l x 5 j) := by
      by_cases h : a = 5 ∧ j = l
      · obtain ⟨rfl, rfl⟩ := h
        rw [vset_at, pk_us]
      · rw [pk_un (by omega), m2]
        refine congrArg nI ?_
        by_cases h4 : a = 5
        · subst h4; exact (vset_ne (by omega)).symm
        · exact (vset_nc (nbf (by omega))).symm
    have r3 : upd (w.1 57) (3 * l + (a - 4)) (nI x) (3 * j + 2) = nI (vset v a l x 6 j) := by
      by_cases h : a = 6 ∧ j = l
      · obtain ⟨rfl, rfl⟩ := h
        rw [vset_at, pk_us]
      · rw [pk_un (by omega), m3]
        refine congrArg nI ?_
        by_cases h4 : a = 6
        · subst h4; exact (vset_ne (by omega)).symm
        · exact (vset_nc (nbf (by omega))).symm
    exact ⟨r1, r2, r3⟩
theorem CC_own (hC : CC n m g s v w) {l x : Nat} : CC n m g s (vset v 4 l x) (wsf w 5 l (nI x)) := by
  refine ⟨hC.1, hC.2.1, hC.2.2.1, hC.2.2.2.1, hC.2.2.2.2.1, hC.2.2.2.2.2.1, fun j hj => ?_⟩
  obtain ⟨c1, c2, c3, c4⟩ := hC.2.2.2.2.2.2 j hj
  refine ⟨?_, c2, c3, c4⟩
  show (wsf w 5 l (nI x)).1 5 j = _
  by_cases e : j = l
  · subst e; rw [wsf_at, vset_at]
  · rw [wsf_ne e, vset_ne e]; exact c1
theorem S_putSort (hV : VI n m v) (hC : CC n m g s v w) {l x : Nat} (hl : l < m) (hx : x < 3) : F_Rail_putSort (nI l) (nI x) w = some (wsf (wsf w 6 l (nI x)) 8 l (mk (gr (vset v 5 l x) l) n)) ∧ CC n m g s (vset v 5 l x) (wsf (wsf w 6 l (nI x)) 8 l (mk (gr (vset v 5 l x) l) n)) := by
  have hm := hV.2.1
  obtain ⟨c1, c2, c3, c4⟩ := hC.2.2.2.2.2.2 l hl
  constructor
  · unfold F_Rail_putSort
    simp (disch := omega) only [nI_clamp, am_ckI, ile_t, ile_f, ilt_t, ilt_f, ieq_t, ieq_f, iz_t, iz_f, ilz_f, nI_add, wst_f, Option.bind_some, am_ltU, am_ckT, cond_true, cond_false, bi_ite, ck_bi, ite_T, ite_F]
    rw [S_regrip (v := vset v 5 l x) (w := wsf w 6 l (nI x)) hV.1 hC.1 (by omega) c3 (by rw [wsf_at, vset_at]) (by rw [vset_at]; exact hx) (fun t ht => ⟨(hC.2.2.2.2.2.1 t ht).1, (hC.2.2.2.2.2.1 t ht).2.1, (hV.2.2.1 t ht).1, (hV.2.2.1 t ht).2.1⟩)]
    rfl
  · refine ⟨hC.1, hC.2.1, hC.2.2.1, hC.2.2.2.1, hC.2.2.2.2.1, hC.2.2.2.2.2.1, fun j hj => ?_⟩
    show w.1 5 j = _ ∧ upd (w.1 6) l (nI x) j = _ ∧ w.1 7 j = _ ∧ upd (w.1 8) l _ j = _
    obtain ⟨d1, d2, d3, d4⟩ := hC.2.2.2.2.2.2 j hj
    by_cases e : j = l
    · subst e
      rw [pk_us, pk_us, vset_at]
      exact ⟨d1, rfl, d3, rfl⟩
    · rw [pk_un e, pk_un e, vset_ne e]
      refine ⟨d1, d2, d3, d4.trans (mk_c (fun t _ => ?_))⟩
      unfold gr
      rw [vset_ne e]; rfl
theorem S_putSet (hV : VI n m v) (hC : CC n m g s v w) {l x : Nat} (hl : l < m) : F_Rail_putSet (nI l) (nI x) w = some (wsf (wsf w 7 l (nI x)) 8 l (mk (gr (vset v 6 l x) l) n)) ∧ CC n m g s (vset v 6 l x) (wsf (wsf w 7 l (nI x)) 8 l (mk (gr (vset v 6 l x) l) n)) := by
  have hm := hV.2.1
  obtain ⟨c1, c2, c3, c4⟩ := hC.2.2.2.2.2.2 l hl
  constructor
  · unfold F_Rail_putSet
    simp (disch := omega) only [nI_clamp, am_ckI, ile_t, ile_f, ilt_t, ilt_f, ieq_t, ieq_f, iz_t, iz_f, ilz_f, nI_add, wst_f, Option.bind_some, am_ltU, am_ckT, cond_true, cond_false, bi_ite, ck_bi, ite_T, ite_F]
    rw [S_regrip (v := vset v 6 l x) (w := wsf w 7 l (nI x)) hV.1 hC.1 (by omega) (by rw [wsf_at, vset_at]) c2 (hV.2.2.2 l hl).2.1 (fun t ht => ⟨(hC.2.2.2.2.2.1 t ht).1, (hC.2.2.2.2.2.1 t ht).2.1, (hV.2.2.1 t ht).1, (hV.2.2.1 t ht).2.1⟩)]
    rfl
  · refine ⟨hC.1, hC.2.1, hC.2.2.1, hC.2.2.2.1, hC.2.2.2.2.1, hC.2.2.2.2.2.1, fun j hj => ?_⟩
    show w.1 5 j = _ ∧ w.1 6 j = _ ∧ upd (w.1 7) l (nI x) j = _ ∧ upd (w.1 8) l _ j = _
    obtain ⟨d1, d2, d3, d4⟩ := hC.2.2.2.2.2.2 j hj
    by_cases e : j = l
    · subst e
      rw [pk_us, pk_us, vset_at]
      exact ⟨d1, d2, rfl, rfl⟩
    · rw [pk_un e, pk_un e, vset_ne e]
      refine ⟨d1, d2, d3, d4.trans (mk_c (fun t _ => ?_))⟩
      unfold gr
      rw [vset_ne e]; rfl
theorem VI_re (hV : VI n m v) {a l x : Nat} (ha : a = 4 ∧ x < n ∨ a = 5 ∧ x < 3 ∨ a = 6 ∧ x < 512 ∧ ∀ i, i < 8 → n ≤ i → x.testBit i = false) : VI n m (vset v a l x) := by
  refine ⟨hV.1, hV.2.1, fun t ht => ?_, fun j hj => ?_⟩
  · have q1 : vset v a l x 1 t = v 1 t := vset_nc (nbf (by omega))
    have q2 : vset v a l x 2 t = v 2 t := vset_nc (nbf (by omega))
    have q3 : vset v a l x 3 t = v 3 t := vset_nc (nbf (by omega))
    rw [q1, q2, q3]
    exact hV.2.2.1 t ht
  · obtain ⟨d1, d2, d3, d4⟩ := hV.2.2.2 j hj
    rcases ha with ⟨rfl, h⟩ | ⟨rfl, h⟩ | ⟨rfl, h, h2⟩
    · refine ⟨?_, d2, d3, d4⟩
      by_cases e : j = l
      · subst e; rw [vset_at]; exact h
      · rw [vset_ne e]; exact d1
    · refine ⟨d1, ?_, d3, d4⟩
      by_cases e : j = l
      · subst e; rw [vset_at]; exact h
      · rw [vset_ne e]; exact d2
    · by_cases e : j = l
      · subst e; rw [vset_at]; exact ⟨d1, d2, h, h2⟩
      · rw [vset_ne e]; exact ⟨d1, d2, d3, d4⟩
end
theorem n10 : ¬ nI 1 = (0 : Int32) := by decide
theorem n20 : ¬ nI 2 = (0 : Int32) := by decide
theorem n21 : ¬ nI 2 = nI 1 := by decide
theorem n12 : ¬ nI 1 = nI 2 := by decide
theorem n01 : ¬ (0 : Int32) = nI 1 := by decide
theorem n02 : ¬ (0 : Int32) = nI 2 := by decide
theorem B_relock (a b c : Int32) : BOTH (F_Loc_relock a b c) (F_Mod_relock a b c) := fun w ⟨n, m, g, s, T, f, v, te, tc, hq⟩ => by
  obtain ⟨hV, hg, hs, hC, hM, hT, hX, hS, hP, hI, hA⟩ := id hq
  have hn := hV.1
  have hm := hV.2.1
  have same : ∀ r : Int32, F_Loc_relock a b c w = some (r, w) → F_Mod_relock a b c w = some (r, w) → ∃ (r : Int32) (w1 w2 : am_W), F_Loc_relock a b c w = some (r, w1) ∧ F_Mod_relock a b c w1 = some (r, w2) ∧ RR w2 := fun r h1 h2 => ⟨r, w, w, h1, h2, n, m, g, s, T, f, v, te, tc, hq⟩
  cases h1 : am_in a m with
  | false =>
    refine same (-nI 5) ?_ ?_
    · unfold F_Loc_relock
      simp only [S_isLock hV hC, h1, Option.bind_some, am_ltU, am_ckT, cond_true, cond_false, bi_ite, ck_bi, ite_T, ite_F]
    · unfold F_Mod_relock
      simp only [D_isLock hV hM, h1, Option.bind_some, am_ltU, am_ckT, cond_true, cond_false, bi_ite, ck_bi, ite_T, ite_F]
  | true =>
    obtain ⟨l, hl, rfl⟩ := in_ex h1 (by omega)
    obtain ⟨c1, c2, c3, c4⟩ := hC.2.2.2.2.2.2 l hl
    obtain ⟨m1, m2, m3⟩ := hM.2.2.2.2.2 l hl
    by_cases b0 : b = 0
    · subst b0
      cases h2 : am_in c n with
      | false =>
        refine same (-nI 7) ?_ ?_
        · unfold F_Loc_relock F_Loc_relock_53 F_Loc_relock_88
          simp only [S_isLock hV hC, h1, S_isThing hV hC, h2, n01, n02, if_true, if_false, Option.bind_some, am_ltU, am_ckT, cond_true, cond_false, bi_ite, ck_bi, ite_T, ite_F]
          rfl
        · unfold F_Mod_relock
          simp only [D_isLock hV hM, h1, D_isThing hV hM, h2, if_true, Option.bind_some, am_ltU, am_ckT, cond_true, cond_false, bi_ite, ck_bi, ite_T, ite_F]
          rfl
      | true =>
        obtain ⟨x, hx, rfl⟩ := in_ex h2 (by omega)
        have hM1 : MM n m g s v (wsf w 5 l (nI x)) := hM
        refine ⟨nI (v 4 l), wsf w 5 l (nI x), wsf (wsf w 5 l (nI x)) 57 (3 * l + (4 - 4)) (nI x), ?_, ?_, n, m, g, s, T, f, vset v 4 l x, te, tc, RQ_rl (FRA_t (FRA_sf rfl) (FRA_sf rfl)) hq (VI_re hV (Or.inl ⟨rfl, hx⟩)) hg hs (CC_own hC) (MM_re hM1 (Or.inl rfl)) (IM_v hI (Nat.le_refl _) (fun t ht => ⟨rfl, rfl⟩))⟩
        · unfold F_Loc_relock
          simp (disch := omega) only [S_isLock hV hC, h1, S_isThing hV hC, h2, if_true, Option.bind_some, am_ltU, am_ckT, cond_true, cond_false, bi_ite, ck_bi, ite_T, ite_F, nI_clamp, am_ckI, ile_t, ile_f, ilt_t, ilt_f, ieq_t, ieq_f, iz_t, iz_f, ilz_f, nI_add, wst_f, c1]
          rfl
        · unfold F_Mod_relock
          simp (disch := omega) only [D_isLock hV hM1, h1, D_isThing hV hM1, h2, if_true, Option.bind_some, am_ltU, am_ckT, cond_true, cond_false, bi_ite, ck_bi, ite_T, ite_F]
          unfold F_Mod_relock_55
          rw [show (0 : Int32) = nI 0 from rfl]
          have m1b : (wsf w 5 l (nI x)).1 57 (3 * l + 0) = nI (v 4 l) := m1
          simp (disch := omega) only [pk_mul, Option.bind_some, am_ltU, am_ckT, cond_true, cond_false, bi_ite, ck_bi, ite_T, ite_F, nI_clamp, am_ckI, ile_t, ile_f, ilt_t, ilt_f, ieq_t, ieq_f, iz_t, iz_f, ilz_f, nI_add, wst_f, m1b]
          rfl
    · by_cases b1 : b = nI 1
      · subst b1
        cases h2 : am_in c 3 with
        | false =>
          refine same (-nI 7) ?_ ?_
          · unfold F_Loc_relock F_Loc_relock_53 F_Loc_relock_88
            simp only [S_isLock hV hC, h1, S_isSort, h2, n10, n12, if_true, if_false, Option.bind_some, am_ltU, am_ckT, cond_true, cond_false, bi_ite, ck_bi, ite_T, ite_F]
            rfl
          · unfold F_Mod_relock
            simp (disch := omega) only [D_isLock hV hM, h1, D_in0 (k := 2), h2, n10, if_true, if_false, Option.bind_some, am_ltU, am_ckT, cond_true, cond_false, bi_ite, ck_bi, ite_T, ite_F]
            rfl
        | true =>
          obtain ⟨x, hx, rfl⟩ := in_ex h2 (by omega)
          obtain ⟨p1, p2⟩ := S_putSort hV hC hl hx
          have hM1 : MM n m g s v (wsf (wsf w 6 l (nI x)) 8 l (mk (gr (vset v 5 l x) l) n)) := hM
          refine ⟨nI (v 5 l), wsf (wsf w 6 l (nI x)) 8 l (mk (gr (vset v 5 l x) l) n), wsf (wsf (wsf w 6 l (nI x)) 8 l (mk (gr (vset v 5 l x) l) n)) 57 (3 * l + (5 - 4)) (nI x), ?_, ?_, n, m, g, s, T, f, vset v 5 l x, te, tc, RQ_rl (FRA_t (FRA_t (FRA_sf rfl) (FRA_sf rfl)) (FRA_sf rfl)) hq (VI_re hV (Or.inr (Or.inl ⟨rfl, hx⟩))) hg hs p2 (MM_re hM1 (Or.inr (Or.inl rfl))) (IM_v hI (Nat.le_refl _) (fun t ht => ⟨rfl, rfl⟩))⟩
          · unfold F_Loc_relock F_Loc_relock_53
            simp (disch := omega) only [S_isLock hV hC, h1, S_isSort, h2, n10, if_true, if_false, Option.bind_some, am_ltU, am_ckT, cond_true, cond_false, bi_ite, ck_bi, ite_T, ite_F, nI_clamp, am_ckI, ile_t, ile_f, ilt_t, ilt_f, ieq_t, ieq_f, iz_t, iz_f, ilz_f, nI_add, p1, c2]
            rfl
          · unfold F_Mod_relock
            simp (disch := omega) only [D_isLock hV hM1, h1, D_in0 (k := 2), h2, n10, if_true, if_false, Option.bind_some, am_ltU, am_ckT, cond_true, cond_false, bi_ite, ck_bi, ite_T, ite_F]
            unfold F_Mod_relock_55
            have m1b : (wsf (wsf w 6 l (nI x)) 8 l (mk (gr (vset v 5 l x) l) n)).1 57 (3 * l + 1) = nI (v 5 l) := m2
            simp (disch := omega) only [pk_mul, Option.bind_some, am_ltU, am_ckT, cond_true, cond_false, bi_ite, ck_bi, ite_T, ite_F, nI_clamp, am_ckI, ile_t, ile_f, ilt_t, ilt_f, ieq_t, ieq_f, iz_t, iz_f, ilz_f, nI_add, wst_f, m1b]
      · by_cases b2 : b = nI 2
        · subst b2
          cases h2 : thr n c with
          | false =>
            refine same (-nI 7) ?_ ?_
            · unfold F_Loc_relock F_Loc_relock_53 F_Loc_relock_88
              simp only [S_isLock hV hC, h1, S_isThrough hV hC, h2, n20, n21, if_true, if_false, Option.bind_some, am_ltU, am_ckT, cond_true, cond_false, bi_ite, ck_bi, ite_T, ite_F]
              rfl
            · unfold F_Mod_relock
              simp (disch := omega) only [D_isLock hV hM, h1, D_areSome hV hM, h2, n20, n21, if_true, if_false, Option.bind_some, am_ltU, am_ckT, cond_true, cond_false, bi_ite, ck_bi, ite_T, ite_F]
              rfl
          | true =>
            obtain ⟨x, hx, rfl, _, hb⟩ := thr_ex hn h2
            obtain ⟨p1, p2⟩ := S_putSet hV hC hl (x := x)
            have hM1 : MM n m g s v (wsf (wsf w 7 l (nI x)) 8 l (mk (gr (vset v 6 l x) l) n)) := hM
            refine ⟨nI (v 6 l), wsf (wsf w 7 l (nI x)) 8 l (mk (gr (vset v 6 l x) l) n), wsf (wsf (wsf w 7 l (nI x)) 8 l (mk (gr (vset v 6 l x) l) n)) 57 (3 * l + (6 - 4)) (nI x), ?_, ?_, n, m, g, s, T, f, vset v 6 l x, te, tc, RQ_rl (FRA_t (FRA_t (FRA_sf rfl) (FRA_sf rfl)) (FRA_sf rfl)) hq (VI_re hV (Or.inr (Or.inr ⟨rfl, hx, hb⟩))) hg hs p2 (MM_re hM1 (Or.inr (Or.inr rfl))) (IM_v hI (Nat.le_refl _) (fun t ht => ⟨rfl, rfl⟩))⟩
            · unfold F_Loc_relock F_Loc_relock_53 F_Loc_relock_88
              simp (disch := omega) only [S_isLock hV hC, h1, S_isThrough hV hC, h2, n20, n21, if_true, if_false, Option.bind_some, am_ltU, am_ckT, cond_true, cond_false, bi_ite, ck_bi, ite_T, ite_F, nI_clamp, am_ckI, ile_t, ile_f, ilt_t, ilt_f, ieq_t, ieq_f, iz_t, iz_f, ilz_f, nI_add, p1, c3]
              rfl
            · unfold F_Mod_relock
              simp (disch := omega) only [D_isLock hV hM1, h1, D_areSome hV hM1, h2, n20, n21, if_true, if_false, Option.bind_some, am_ltU, am_ckT, cond_true, cond_false, bi_ite, ck_bi, ite_T, ite_F]
              unfold F_Mod_relock_55
              have m1b : (wsf (wsf w 7 l (nI x)) 8 l (mk (gr (vset v 6 l x) l) n)).1 57 (3 * l + 2) = nI (v 6 l) := m3
              simp (disch := omega) only [pk_mul, Option.bind_some, am_ltU, am_ckT, cond_true, cond_false, bi_ite, ck_bi, ite_T, ite_F, nI_clamp, am_ckI, ile_t, ile_f, ilt_t, ilt_f, ieq_t, ieq_f, iz_t, iz_f, ilz_f, nI_add, wst_f, m1b, iz_f]
        · refine same (-nI 7) ?_ ?_
          · unfold F_Loc_relock F_Loc_relock_53 F_Loc_relock_88
            simp only [S_isLock hV hC, h1, b0, b1, b2, if_false, Option.bind_some, am_ltU, am_ckT, cond_true, cond_false, bi_ite, ck_bi, ite_T, ite_F]
            rfl
          · unfold F_Mod_relock
            simp only [D_isLock hV hM, h1, b0, b1, b2, if_false, Option.bind_some, am_ltU, am_ckT, cond_true, cond_false, bi_ite, ck_bi, ite_T, ite_F]
            rfl
/-! taken -/
def io (k o : Nat) : Bool := Nat.beq o 0 || Nat.beq k o || Nat.beq o 1 && Nat.beq k 3 || Nat.beq o 2 && Nat.beq k 4
theorem S_isOne {k o : Nat} {w : am_W} (hk : k < 6) (ho : o < 7) : F_Kinds_isOne (nI k) (nI o) w = some (bi (io k o), w) := by
  match k, hk with
  | 0, _ => match o, ho with
    | 0, _ => rfl
    | 1, _ => rfl
    | 2, _ => rfl
    | 3, _ => rfl
    | 4, _ => rfl
    | 5, _ => rfl
    | 6, _ => rfl
  | 1, _ => match o, ho with
    | 0, _ => rfl
    | 1, _ => rfl
    | 2, _ => rfl
    | 3, _ => rfl
    | 4, _ => rfl
    | 5, _ => rfl
    | 6, _ => rfl
  | 2, _ => match o, ho with
    | 0, _ => rfl
    | 1, _ => rfl
    | 2, _ => rfl
    | 3, _ => rfl
    | 4, _ => rfl
    | 5, _ => rfl
    | 6, _ => rfl
  | 3, _ => match o, ho with
    | 0, _ => rfl
    | 1, _ => rfl
    | 2, _ => rfl
    | 3, _ => rfl
    | 4, _ => rfl
    | 5, _ => rfl
    | 6, _ => rfl
  | 4, _ => match o, ho with
    | 0, _ => rfl
    | 1, _ => rfl
    | 2, _ => rfl
    | 3, _ => rfl
    | 4, _ => rfl
    | 5, _ => rfl
    | 6, _ => rfl
  | 5, _ => match o, ho with
    | 0, _ => rfl
    | 1, _ => rfl
    | 2, _ => rfl
    | 3, _ => rfl
    | 4, _ => rfl
    | 5, _ => rfl
    | 6, _ => rfl
theorem D_isUnder {k o : Nat} {w : am_W} (hk : k < 6) (ho : o < 7) : F_Mod_isUnder (nI k) (nI o) w = some (bi (io k o), w) := by
  unfold F_Mod_isUnder F_Mod_isUnder_19 io
  simp (disch := omega) only [iz_b, ieq_b]
  cases Nat.beq o 0 <;> cases Nat.beq k o <;> cases h1 : Nat.beq o 1 <;> cases h2 : Nat.beq o 2 <;> cases Nat.beq k 3 <;> cases Nat.beq k 4 <;> rfl
