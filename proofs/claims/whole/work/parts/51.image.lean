/-! ===== taken, image, back ===== -/
theorem B_taken (a b : Int32) : BOTH (F_Loc_taken a b) (F_Mod_taken a b) := BOTH_0 (fun {n m g s T f v te tc w} hq => by
  obtain ⟨hV, hg, hs, hC, hM, hT, hX, hS, hP, hI, hA⟩ := hq
  have hn := hV.1
  have hm := hV.2.1
  cases h1 : am_in b 7 with
  | false =>
    refine ⟨-nI 2, ?_, ?_⟩
    · unfold F_Loc_taken
      have h6 : am_in b 6 = false := Bool.eq_false_iff.mpr (fun q => by rw [in_le q (by omega : 6 ≤ 7)] at h1; cases h1)
      have hb : ¬ b = nI 6 := fun q => by rw [q, in_nI (by omega) (by omega)] at h1; cases h1
      simp only [S_isKind, h6, hb, if_false, Option.bind_some, am_ltU, am_ckT, cond_true, cond_false, bi_ite, ck_bi, ite_T, ite_F]
    · unfold F_Mod_taken
      rw [D_in0 (k := 6) (by omega), h1]
      rfl
  | true =>
    obtain ⟨k, hk, rfl⟩ := in_ex h1 (by omega)
    have e1 : F_Loc_taken a (nI k) w = F_Loc_taken_16 a (nI k) w := by
      unfold F_Loc_taken
      rw [S_isKind, bn_s]
      dsimp only
      rw [bi_ite]
      by_cases h6 : k = 6
      · subst h6; rfl
      · rw [in_nI (by omega) (by omega)]; rfl
    rw [e1]
    unfold F_Mod_taken
    simp (disch := omega) only [D_in0 (k := 6), h1, D_in0 (k := 17), Option.bind_some, am_ltU, am_ckT, cond_true, cond_false, bi_ite, ck_bi, ite_T, ite_F]
    cases h2 : am_in a 18 with
    | false =>
      refine ⟨-nI 12, ?_, rfl⟩
      unfold F_Loc_taken_16
      rw [in_dec, decide_eq_false_iff_not] at h2
      by_cases q1 : a < 0
      · rw [if_pos q1]; rfl
      · rw [if_neg q1, if_neg (fun q2 => by
          rw [Int32.lt_iff_toInt_lt, ti_0] at q1
          rw [Int32.lt_iff_toInt_lt, nI_toInt (by omega)] at q2
          omega)]; rfl
    | true =>
      obtain ⟨i, hi, rfl⟩ := in_ex h2 (by omega)
      unfold F_Loc_taken_16
      rw [ilz_f (by omega), ilt_t hi (by omega)]
      by_cases h10 : 10 ≤ i
      · rw [ile_t h10 (by omega), cond_true, ile_t h10 (by omega), pk_sub h10]
        unfold F_Rail_isThere
        simp (disch := omega) only [S_isThing hV hC, D_isThing hV hM, Option.bind_some, am_ltU, am_ckT, cond_true, cond_false, bi_ite, ck_bi, ite_T, ite_F]
        cases h3 : am_in (nI (i - 10)) n with
        | false => exact ⟨_, rfl, rfl⟩
        | true =>
          obtain ⟨t, ht, e⟩ := in_ex h3 (by omega)
          have e := (nI_eq (by omega) (by omega)).mp e
          rw [e]
          obtain ⟨c1, c2, c3⟩ := hC.2.2.2.2.2.1 t ht
          obtain ⟨m1, m2, m3⟩ := hM.2.2.2.2.1 t ht
          obtain ⟨k1, k2, k3⟩ := hV.2.2.1 t ht
          simp (disch := omega) only [S_isGone hC, D_isGone hM, Option.bind_some, am_ltU, am_ckT, cond_true, cond_false, bi_ite, ck_bi, ite_T, ite_F]
          cases g.testBit t with
          | true => exact ⟨_, rfl, rfl⟩
          | false =>
            refine ⟨bif io (v 1 t) k then nI t else -nI 13, ?_, ?_⟩
            · show am_ck (am_in (nI t) 8) _ = _
              simp (disch := omega) only [nI_clamp, am_ckI, ile_t, ile_f, ilt_t, ilt_f, ieq_t, ieq_f, iz_t, iz_f, ilz_f, nI_add, c1, S_isOne k1 hk, Option.bind_some, am_ltU, am_ckT, cond_true, cond_false, bi_ite, ck_bi, ite_T, ite_F]
              cases io (v 1 t) k <;> rfl
            · rw [cond_false]
              by_cases h6 : k = 6
              · subst h6
                rw [ile_t (by omega) (by omega)]
                have : io (v 1 t) 6 = false := by
                  unfold io
                  rw [nbf (by omega : ¬ v 1 t = 6)]; rfl
                rw [this]; rfl
              · rw [ile_f (by omega) (by omega)]
                simp (disch := omega) only [nI_clamp, am_ckI, ile_t, ile_f, ilt_t, ilt_f, ieq_t, ieq_f, iz_t, iz_f, ilz_f, nI_add, m1, D_isUnder k1 hk, Option.bind_some, am_ltU, am_ckT, cond_true, cond_false, bi_ite, ck_bi, ite_T, ite_F]
                cases io (v 1 t) k <;> rfl
      · rw [ile_f (by omega) (by omega), cond_true, ile_f (by omega) (by omega)]
        simp (disch := omega) only [S_isLock hV hC, D_isLock hV hM, Option.bind_some, am_ltU, am_ckT, cond_true, cond_false, bi_ite, ck_bi, ite_T, ite_F]
        cases h3 : am_in (nI i) m with
        | false => exact ⟨_, rfl, rfl⟩
        | true =>
          obtain ⟨l, hl, e⟩ := in_ex h3 (by omega)
          have e := (nI_eq (by omega) (by omega)).mp e
          subst e
          obtain ⟨c1, c2, c3, c4⟩ := hC.2.2.2.2.2.2 i hl
          simp (disch := omega) only [S_isShut hV hC hl, D_isShut hV hM hl, D_through hV hM hl, Option.bind_some, am_ltU, am_ckT, cond_true, cond_false, bi_ite, ck_bi, ite_T, ite_F, nI_clamp, am_ckI, ile_t, ile_f, ilt_t, ilt_f, ieq_t, ieq_f, iz_t, iz_f, ilz_f, nI_add, c3]
          cases shu v g s i with
          | false => exact ⟨_, rfl, rfl⟩
          | true =>
            refine ex_ite (fun _ => ⟨_, rfl, rfl⟩) (fun _ => ⟨_, rfl, rfl⟩))
theorem cp_at {f h : Nat → Int32} {k t : Nat} (ht : t < k) (hk : k < 2 ^ 31) : va_cpy f h (nI 0).toNatClampNeg (nI 0).toNatClampNeg (nI k).toNatClampNeg t = f t := by
  rw [nI_clamp hk]
  show (if 0 ≤ t ∧ t < 0 + k then f (0 + (t - 0)) else h t) = f t
  rw [if_pos ⟨Nat.zero_le _, by omega⟩, Nat.sub_zero, Nat.zero_add]
theorem S_like9 (w : am_W) : ∃ w', F_Rail_becomeLike_9_1 w = some w' ∧ (∀ c, (c < 9 ∨ 16 < c) → w'.1 c = w.1 c) ∧ (∀ j, j < 5 → w'.1 9 j = w.1 1 j) ∧ (∀ t, t < 8 → w'.1 10 t = w.1 2 t ∧ w'.1 11 t = w.1 3 t ∧ w'.1 12 t = w.1 4 t) ∧ ∀ l, l < 10 → w'.1 13 l = w.1 5 l ∧ w'.1 14 l = w.1 6 l ∧ w'.1 15 l = w.1 7 l ∧ w'.1 16 l = w.1 8 l := by
  refine ⟨(wcp (wcp (wcp (wcp (wcp (wcp (wcp (wsf (wsf (wsf (wsf (wsf w 9 0 (w.1 1 0)) 9 1 (w.1 1 1)) 9 2 (w.1 1 2)) 9 3 (w.1 1 3)) 9 4 (w.1 1 4)) 2 10 (nI 0) (nI 0) (nI 8)) 3 11 (nI 0) (nI 0) (nI 8)) 4 12 (nI 0) (nI 0) (nI 8)) 5 13 (nI 0) (nI 0) (nI 10)) 6 14 (nI 0) (nI 0) (nI 10)) 7 15 (nI 0) (nI 0) (nI 10)) 8 16 (nI 0) (nI 0) (nI 10)), ?_, fun c hc => ?_, fun j hj => ?_, fun t ht => ⟨cp_at ht (by omega), cp_at ht (by omega), cp_at ht (by omega)⟩, fun l hl => ⟨cp_at hl (by omega), cp_at hl (by omega), cp_at hl (by omega), cp_at hl (by omega)⟩⟩
  · unfold F_Rail_becomeLike_9_1
    rfl
  · exact (mf_n (nbf (by omega))).trans ((mf_n (nbf (by omega))).trans ((mf_n (nbf (by omega))).trans ((mf_n (nbf (by omega))).trans ((mf_n (nbf (by omega))).trans ((mf_n (nbf (by omega))).trans ((mf_n (nbf (by omega))).trans ((mf_n (nbf (by omega))).trans ((mf_n (nbf (by omega))).trans ((mf_n (nbf (by omega))).trans ((mf_n (nbf (by omega))).trans (mf_n (nbf (by omega)))))))))))))
  · match j, hj with
    | 0, _ => rfl
    | 1, _ => rfl
    | 2, _ => rfl
    | 3, _ => rfl
    | 4, _ => rfl
theorem S_like1 (w : am_W) : ∃ w', F_Rail_becomeLike_1_9 w = some w' ∧ (∀ c, (c < 1 ∨ 8 < c) → w'.1 c = w.1 c) ∧ (∀ j, j < 5 → w'.1 1 j = w.1 9 j) ∧ (∀ t, t < 8 → w'.1 2 t = w.1 10 t ∧ w'.1 3 t = w.1 11 t ∧ w'.1 4 t = w.1 12 t) ∧ ∀ l, l < 10 → w'.1 5 l = w.1 13 l ∧ w'.1 6 l = w.1 14 l ∧ w'.1 7 l = w.1 15 l ∧ w'.1 8 l = w.1 16 l := by
  refine ⟨(wcp (wcp (wcp (wcp (wcp (wcp (wcp (wsf (wsf (wsf (wsf (wsf w 1 0 (w.1 9 0)) 1 1 (w.1 9 1)) 1 2 (w.1 9 2)) 1 3 (w.1 9 3)) 1 4 (w.1 9 4)) 10 2 (nI 0) (nI 0) (nI 8)) 11 3 (nI 0) (nI 0) (nI 8)) 12 4 (nI 0) (nI 0) (nI 8)) 13 5 (nI 0) (nI 0) (nI 10)) 14 6 (nI 0) (nI 0) (nI 10)) 15 7 (nI 0) (nI 0) (nI 10)) 16 8 (nI 0) (nI 0) (nI 10)), ?_, fun c hc => ?_, fun j hj => ?_, fun t ht => ⟨cp_at ht (by omega), cp_at ht (by omega), cp_at ht (by omega)⟩, fun l hl => ⟨cp_at hl (by omega), cp_at hl (by omega), cp_at hl (by omega), cp_at hl (by omega)⟩⟩
  · unfold F_Rail_becomeLike_1_9
    rfl
  · exact (mf_n (nbf (by omega))).trans ((mf_n (nbf (by omega))).trans ((mf_n (nbf (by omega))).trans ((mf_n (nbf (by omega))).trans ((mf_n (nbf (by omega))).trans ((mf_n (nbf (by omega))).trans ((mf_n (nbf (by omega))).trans ((mf_n (nbf (by omega))).trans ((mf_n (nbf (by omega))).trans ((mf_n (nbf (by omega))).trans ((mf_n (nbf (by omega))).trans (mf_n (nbf (by omega)))))))))))))
  · match j, hj with
    | 0, _ => rfl
    | 1, _ => rfl
    | 2, _ => rfl
    | 3, _ => rfl
    | 4, _ => rfl
/-- the model's copy of its locks, of its hours -/
theorem D_img2 (w0 : Int32) : ∀ (d i k : Nat) (w : am_W), i + d = 30 → d < k → ∃ w', L_Mod_image_73 k (nI i) w = some (w.1 53 0, w') ∧ (∀ c, ¬ c = 61 → w'.1 c = w.1 c) ∧ (∀ j, j < 8 + i → w'.1 61 j = w.1 61 j) ∧ ∀ j, i ≤ j → j < 30 → w'.1 61 (8 + j) = w.1 57 j := by
  intro d
  induction d with
  | zero =>
    intro i k w hi hk
    obtain ⟨k, rfl⟩ : ∃ j, k = j + 1 := ⟨k - 1, by omega⟩
    refine ⟨w, ?_, fun _ _ => rfl, fun _ _ => rfl, fun j h1 h2 => by omega⟩
    show F_Mod_image_73 _ _ _ = _
    unfold F_Mod_image_73
    simp (disch := omega) only [nI_clamp, am_ckI, ile_t, ile_f, ilt_t, ilt_f, ieq_t, ieq_f, iz_t, iz_f, ilz_f, nI_add]
  | succ d ih =>
    intro i k w hi hk
    obtain ⟨k, rfl⟩ : ∃ j, k = j + 1 := ⟨k - 1, by omega⟩
    obtain ⟨w', e1, e2, e3, e4⟩ := ih (i + 1) k (wsf w 61 (8 + i) (w.1 57 i)) (by omega) (by omega)
    refine ⟨w', ?_, fun c hc => (e2 c hc).trans (mf_n (nbf hc)), fun j hj => (e3 j (by omega)).trans (wsf_ne (by omega)), fun j h1 h2 => ?_⟩
    · show F_Mod_image_73 _ _ _ = _
      unfold F_Mod_image_73
      simp (disch := omega) only [nI_clamp, am_ckI, ile_t, ile_f, ilt_t, ilt_f, ieq_t, ieq_f, iz_t, iz_f, ilz_f, nI_add, wst_f, Option.bind_some, am_ltU, am_ckT, cond_true, cond_false, bi_ite, ck_bi, ite_T, ite_F]
      exact e1
    · by_cases e : j = i
      · subst e; rw [e3 (8 + j) (by omega), wsf_at]
      · exact (e4 j (by omega) h2).trans (wsf_nc rfl)
theorem D_img1 : ∀ (d i k : Nat) (w : am_W), i + d = 8 → d < k → ∃ w', L_Mod_image_47 k (nI i) w = some (w.1 53 0, w') ∧ (∀ c, ¬ c = 61 → w'.1 c = w.1 c) ∧ (∀ j, j < i → w'.1 61 j = w.1 61 j) ∧ (∀ j, i ≤ j → j < 8 → w'.1 61 j = w.1 56 j) ∧ ∀ j, j < 30 → w'.1 61 (8 + j) = w.1 57 j := by
  intro d
  induction d with
  | zero =>
    intro i k w hi hk
    obtain ⟨k, rfl⟩ : ∃ j, k = j + 1 := ⟨k - 1, by omega⟩
    obtain ⟨w', e1, e2, e3, e4⟩ := D_img2 0 30 0 am_NF w (by omega) (by show 30 < 4000; omega)
    refine ⟨w', ?_, e2, fun j hj => e3 j (by omega), fun j h1 h2 => by omega, fun j hj => e4 j (by omega) hj⟩
    show F_Mod_image_47 _ _ _ = _
    unfold F_Mod_image_47
    simp (disch := omega) only [nI_clamp, am_ckI, ile_t, ile_f, ilt_t, ilt_f, ieq_t, ieq_f, iz_t, iz_f, ilz_f, nI_add]
    exact e1
  | succ d ih =>
    intro i k w hi hk
    obtain ⟨k, rfl⟩ : ∃ j, k = j + 1 := ⟨k - 1, by omega⟩
    obtain ⟨w', e1, e2, e3, e4, e5⟩ := ih (i + 1) k (wsf w 61 i (w.1 56 i)) (by omega) (by omega)
    refine ⟨w', ?_, fun c hc => (e2 c hc).trans (mf_n (nbf hc)), fun j hj => (e3 j (by omega)).trans (wsf_ne (by omega)), fun j h1 h2 => ?_, fun j hj => (e5 j hj).trans (wsf_nc rfl)⟩
    · show F_Mod_image_47 _ _ _ = _
      unfold F_Mod_image_47
      simp (disch := omega) only [nI_clamp, am_ckI, ile_t, ile_f, ilt_t, ilt_f, ieq_t, ieq_f, iz_t, iz_f, ilz_f, nI_add, wst_f, Option.bind_some, am_ltU, am_ckT, cond_true, cond_false, bi_ite, ck_bi, ite_T, ite_F]
      exact e1
    · by_cases e : j = i
      · subst e; rw [e3 j (by omega), wsf_at]
      · exact (e4 j (by omega) h2).trans (wsf_nc rfl)
theorem D_bk2 : ∀ (d i k : Nat) (w : am_W), i + d = 30 → d < k → ∃ w', L_Mod_back_78 k (nI i) w = some (w.1 53 0, w') ∧ (∀ c, ¬ c = 57 → w'.1 c = w.1 c) ∧ (∀ j, j < i → w'.1 57 j = w.1 57 j) ∧ ∀ j, i ≤ j → j < 30 → w'.1 57 j = w.1 61 (8 + j) := by
  intro d
  induction d with
  | zero =>
    intro i k w hi hk
    obtain ⟨k, rfl⟩ : ∃ j, k = j + 1 := ⟨k - 1, by omega⟩
    refine ⟨w, ?_, fun _ _ => rfl, fun _ _ => rfl, fun j h1 h2 => by omega⟩
    show F_Mod_back_78 _ _ _ = _
    unfold F_Mod_back_78
    simp (disch := omega) only [nI_clamp, am_ckI, ile_t, ile_f, ilt_t, ilt_f, ieq_t, ieq_f, iz_t, iz_f, ilz_f, nI_add]
  | succ d ih =>
    intro i k w hi hk
    obtain ⟨k, rfl⟩ : ∃ j, k = j + 1 := ⟨k - 1, by omega⟩
    obtain ⟨w', e1, e2, e3, e4⟩ := ih (i + 1) k (wsf w 57 i (w.1 61 (8 + i))) (by omega) (by omega)
    refine ⟨w', ?_, fun c hc => (e2 c hc).trans (mf_n (nbf hc)), fun j hj => (e3 j (by omega)).trans (wsf_ne (by omega)), fun j h1 h2 => ?_⟩
    · show F_Mod_back_78 _ _ _ = _
      unfold F_Mod_back_78
      simp (disch := omega) only [nI_clamp, am_ckI, ile_t, ile_f, ilt_t, ilt_f, ieq_t, ieq_f, iz_t, iz_f, ilz_f, nI_add, wst_f, Option.bind_some, am_ltU, am_ckT, cond_true, cond_false, bi_ite, ck_bi, ite_T, ite_F]
      exact e1
    · by_cases e : j = i
      · subst e; rw [e3 j (by omega), wsf_at]
      · exact (e4 j (by omega) h2).trans (wsf_nc rfl)
theorem D_bk1 : ∀ (d i k : Nat) (w : am_W), i + d = 8 → d < k → ∃ w', L_Mod_back_52 k (nI i) w = some (w.1 53 0, w') ∧ (∀ c, ¬ c = 57 → ¬ c = 56 → w'.1 c = w.1 c) ∧ (∀ j, j < i → w'.1 56 j = w.1 56 j) ∧ (∀ j, i ≤ j → j < 8 → w'.1 56 j = w.1 61 j) ∧ ∀ j, j < 30 → w'.1 57 j = w.1 61 (8 + j) := by
  intro d
  induction d with
  | zero =>
    intro i k w hi hk
    obtain ⟨k, rfl⟩ : ∃ j, k = j + 1 := ⟨k - 1, by omega⟩
    obtain ⟨w', e1, e2, e3, e4⟩ := D_bk2 30 0 am_NF w (by omega) (by show 30 < 4000; omega)
    refine ⟨w', ?_, fun c h1 _ => e2 c h1, fun j hj => by rw [e2 56 (by omega)], fun j h1 h2 => by omega, fun j hj => e4 j (by omega) hj⟩
    show F_Mod_back_52 _ _ _ = _
    unfold F_Mod_back_52
    simp (disch := omega) only [nI_clamp, am_ckI, ile_t, ile_f, ilt_t, ilt_f, ieq_t, ieq_f, iz_t, iz_f, ilz_f, nI_add]
    exact e1
  | succ d ih =>
    intro i k w hi hk
    obtain ⟨k, rfl⟩ : ∃ j, k = j + 1 := ⟨k - 1, by omega⟩
    obtain ⟨w', e1, e2, e3, e4, e5⟩ := ih (i + 1) k (wsf w 56 i (w.1 61 i)) (by omega) (by omega)
    refine ⟨w', ?_, fun c h1 h2 => (e2 c h1 h2).trans (mf_n (nbf h2)), fun j hj => (e3 j (by omega)).trans (wsf_ne (by omega)), fun j h1 h2 => ?_, fun j hj => (e5 j hj).trans (wsf_nc rfl)⟩
    · show F_Mod_back_52 _ _ _ = _
      unfold F_Mod_back_52
      simp (disch := omega) only [nI_clamp, am_ckI, ile_t, ile_f, ilt_t, ilt_f, ieq_t, ieq_f, iz_t, iz_f, ilz_f, nI_add, wst_f, Option.bind_some, am_ltU, am_ckT, cond_true, cond_false, bi_ite, ck_bi, ite_T, ite_F]
      exact e1
    · by_cases e : j = i
      · subst e; rw [e3 j (by omega), wsf_at]
      · exact (e4 j (by omega) h2).trans (wsf_nc rfl)
theorem FRA_l {A : Nat → Bool} {w w' : am_W} {L : List Nat} (h : ∀ c, c ∉ L → w'.1 c = w.1 c) (hA : ∀ c, c ∈ L → ∀ j, A (area c j) = false → w'.1 c j = w.1 c j) : FRA A w w' := fun c j q => by
  by_cases hc : c ∈ L
  · exact hA c hc j q
  · rw [h c hc]
theorem B_image : BOTH F_Loc_image F_Mod_image := fun w ⟨n, m, g, s, T, f, v, te, tc, hq⟩ => by
  obtain ⟨hV, hg, hs, hC, hM, hT, hX, hS, hP, hI, hA⟩ := id hq
  have hn := hV.1
  have hm := hV.2.1
  obtain ⟨w1, a1, a2, a3, a4, a5⟩ := S_like9 w
  have hC1 : CC n m g s v (wsf (wsf w1 0 9 (nI f)) 0 8 (nI 1)) := by
    show CC n m g s v w1
    unfold CC
    rw [a2 1 (by omega), a2 2 (by omega), a2 3 (by omega), a2 4 (by omega), a2 5 (by omega), a2 6 (by omega), a2 7 (by omega), a2 8 (by omega)]
    exact hC
  have hM1 : MM n m g s v w1 := MM_hi (fun c hc => a2 c (by omega)) hM
  let u := wsf (wsf (wsf (wsf (wsf (wsf (wsf (wsf w1 0 9 (nI f)) 0 8 (nI 1)) 53 14 (nI 1)) 53 15 (nI n)) 53 16 (nI m)) 53 17 (nI g)) 53 18 (nI s)) 53 19 (nI f)
  obtain ⟨w2, b1, b2, b3, b4, b5⟩ := D_img1 8 0 am_NF u rfl (by show 8 < 4000; omega)
  have hT1 : w1.1 53 13 = nI f := by rw [a2 53 (by omega)]; exact hT.2.2.2.2.2
  refine ⟨nI n, wsf (wsf w1 0 9 (nI f)) 0 8 (nI 1), w2, ?_, ?_, n, m, g, s, T, f, v, te, tc, ?_⟩
  · unfold F_Loc_image
    rw [a1, bn_s, am_ltU, am_ltU, a2 17 (by omega), hT.2.2.2.1, hC1.1]
  · unfold F_Mod_image
    simp (disch := decide) only [am_ltU, wsf_ne, wsf_nc, hM1.1, hM1.2.1, hM1.2.2.1, hM1.2.2.2.1, hT1]
    rw [b1]
    refine congrArg (fun x => some (x, w2)) ?_
    show u.1 53 0 = nI n
    exact hM1.1
  · have hfr : FRA (fun a => Nat.beq a 2) w w2 := by
      intro c j q
      by_cases c61 : c = 61
      · subst c61; cases q
      · rw [b2 c c61]
        by_cases c53 : c = 53
        · subst c53
          show upd (upd (upd (upd (upd (upd (w1.1 53) 14 (nI 1)) 15 (nI n)) 16 (nI m)) 17 (nI g)) 18 (nI s)) 19 (nI f) j = _
          rw [pk_un (fun e => by subst e; cases q), pk_un (fun e => by subst e; cases q), pk_un (fun e => by subst e; cases q), pk_un (fun e => by subst e; cases q), pk_un (fun e => by subst e; cases q), pk_un (fun e => by subst e; cases q), a2 53 (by omega)]
        · have e : u.1 c = (wsf (wsf w1 0 9 (nI f)) 0 8 (nI 1)).1 c := (mf_n (nbf c53)).trans ((mf_n (nbf c53)).trans ((mf_n (nbf c53)).trans ((mf_n (nbf c53)).trans ((mf_n (nbf c53)).trans (mf_n (nbf c53))))))
          rw [e]
          by_cases c0 : c = 0
          · subst c0; cases q
          · have e2 : (wsf (wsf w1 0 9 (nI f)) 0 8 (nI 1)).1 c = w1.1 c := (mf_n (nbf c0)).trans (mf_n (nbf c0))
            rw [e2]
            by_cases h9 : c < 9 ∨ 16 < c
            · rw [a2 c h9]
            · exfalso
              have : c = 9 ∨ c = 10 ∨ c = 11 ∨ c = 12 ∨ c = 13 ∨ c = 14 ∨ c = 15 ∨ c = 16 := by omega
              rcases this with rfl | rfl | rfl | rfl | rfl | rfl | rfl | rfl <;> cases q
    refine ⟨hV, hg, hs, CC_fr rfl hfr hC, MM_fr rfl hfr hM, TT_fr rfl hfr hT, TX_fr rfl hfr hX hT.1, SS_fr rfl hfr hS, TP_fr rfl hfr hP, ?_, ABC_fr rfl hfr hA⟩
    have r : ∀ j, w2.1 53 j = u.1 53 j := fun j => by rw [b2 53 (by omega)]
    have r9 : ∀ c, 9 ≤ c → c ≤ 16 → w2.1 c = w1.1 c := fun c h1 h2 => by
      rw [b2 c (by omega)]
      exact (mf_n (nbf (by omega))).trans ((mf_n (nbf (by omega))).trans ((mf_n (nbf (by omega))).trans ((mf_n (nbf (by omega))).trans ((mf_n (nbf (by omega))).trans ((mf_n (nbf (by omega))).trans ((mf_n (nbf (by omega))).trans (mf_n (nbf (by omega)))))))))
    have r0 : ∀ j, w2.1 0 j = u.1 0 j := fun j => by rw [b2 0 (by omega)]
    refine Or.inr ⟨(r0 8).trans rfl, (r 14).trans rfl, n, m, g, s, f, v, Nat.le_refl _, hT.2.1, hV, hg, hs, fun t ht => ⟨rfl, rfl⟩, ?_, ?_, (r0 9).trans rfl, (r 19).trans rfl⟩
    · unfold KC
      rw [r9 9 (by omega) (by omega), r9 10 (by omega) (by omega), r9 11 (by omega) (by omega), r9 12 (by omega) (by omega), r9 13 (by omega) (by omega), r9 14 (by omega) (by omega), r9 15 (by omega) (by omega), r9 16 (by omega) (by omega)]
      refine ⟨(a3 0 (by omega)).trans hC.1, (a3 1 (by omega)).trans hC.2.1, (a3 2 (by omega)).trans hC.2.2.1, (a3 3 (by omega)).trans hC.2.2.2.1, (a3 4 (by omega)).trans hC.2.2.2.2.1, fun t ht => ?_, fun l hl => ?_⟩
      · obtain ⟨x1, x2, x3⟩ := a4 t (by omega)
        obtain ⟨y1, y2, y3⟩ := hC.2.2.2.2.2.1 t ht
        exact ⟨x1.trans y1, x2.trans y2, x3.trans y3⟩
      · obtain ⟨x1, x2, x3, x4⟩ := a5 l (by omega)
        obtain ⟨y1, y2, y3, y4⟩ := hC.2.2.2.2.2.2 l hl
        exact ⟨x1.trans y1, x2.trans y2, x3.trans y3, x4.trans y4⟩
    · refine ⟨(r 15).trans rfl, (r 16).trans rfl, (r 17).trans rfl, (r 18).trans rfl, fun t ht => ?_, fun l hl => ?_⟩
      · rw [b4 t (by omega) (by omega)]
        exact (hM1.2.2.2.2.1 t ht).2.2
      · obtain ⟨y1, y2, y3⟩ := hM1.2.2.2.2.2 l hl
        rw [b5 (3 * l) (by omega), show 8 + 3 * l + 1 = 8 + (3 * l + 1) from by omega, b5 (3 * l + 1) (by omega), show 8 + 3 * l + 2 = 8 + (3 * l + 2) from by omega, b5 (3 * l + 2) (by omega)]
        exact ⟨y1, y2, y3⟩
