/-! ===== copy; judge, whose, kinds ===== -/
/-- a stretch of so many from a place lies in a row of z -/
def str (z : Nat) (a b : Int32) : Bool := decide (0 ≤ a.toInt ∧ 0 ≤ b.toInt ∧ a.toInt + b.toInt ≤ z)
theorem str_ex {z : Nat} {a b : Int32} (hz : z ≤ 40) (h : str z a b = true) : ∃ i l, a = nI i ∧ b = nI l ∧ i + l ≤ z := by
  have h := of_decide_eq_true h
  obtain ⟨i, hi⟩ : ∃ i : Nat, a.toInt = (i : Int) := ⟨a.toInt.toNat, by omega⟩
  obtain ⟨l, hl⟩ : ∃ l : Nat, b.toInt = (l : Int) := ⟨b.toInt.toNat, by omega⟩
  exact ⟨i, l, nI_ti hi (by omega), nI_ti hl (by omega), by omega⟩
theorem lz_iff {a : Int32} : a < 0 ↔ a.toInt < 0 := by rw [Int32.lt_iff_toInt_lt, ti_0]
theorem lt_iff {a : Int32} {k : Nat} (hk : k < 2 ^ 31) : nI k < a ↔ (k : Int) < a.toInt := by rw [Int32.lt_iff_toInt_lt, nI_toInt hk]
theorem sub_ti {z i : Nat} (h : i ≤ z) (hz : z < 2 ^ 31) : (nI z - nI i).toInt = (z : Int) - i := by
  rw [pk_sub h, nI_toInt (by omega)]; omega
theorem S_isStretch {w : am_W} {p z : Nat} {a b : Int32} (hz : z ≤ 40) (h : w.1 (45 + 2 * p) 1 = nI z) : F_Sheet_isStretch p a b w = some (bi (str z a b), w) := by
  unfold F_Sheet_isStretch F_Sheet_isStretch_30 F_Sheet_isStretch_31 str
  rw [h]
  by_cases h1 : a.toInt < 0
  · rw [if_pos (lz_iff.mpr h1), decide_eq_false (by omega)]; rfl
  · rw [if_neg (fun q => h1 (lz_iff.mp q))]
    by_cases h2 : b.toInt < 0
    · rw [if_pos (lz_iff.mpr h2), decide_eq_false (by omega)]; rfl
    · rw [if_neg (fun q => h2 (lz_iff.mp q))]
      by_cases h3 : (z : Int) < a.toInt
      · rw [if_pos ((lt_iff (by omega)).mpr h3), decide_eq_false (by omega)]; rfl
      · rw [if_neg (fun q => h3 ((lt_iff (by omega)).mp q))]
        obtain ⟨i, hi⟩ : ∃ i : Nat, a.toInt = (i : Int) := ⟨a.toInt.toNat, by omega⟩
        have ha := nI_ti hi (by omega)
        have h5 : (nI z - a).toInt = (z : Int) - i := by rw [ha]; exact sub_ti (by omega) (by omega)
        by_cases h4 : (nI z - a).toInt < b.toInt
        · rw [if_pos (Int32.lt_iff_toInt_lt.mpr h4), decide_eq_false (by omega)]; rfl
        · rw [if_neg (fun q => h4 (Int32.lt_iff_toInt_lt.mp q)), decide_eq_true (by omega)]; rfl
theorem cpk_G {i j l l1 l2 : Nat} (h1 : i + l ≤ l1) (h2 : j + l ≤ l2) (b1 : l1 < 2 ^ 31) (b2 : l2 < 2 ^ 31) : am_cpk (nI i) (nI j) (nI l) l1 l2 = true := by
  unfold am_cpk
  rw [nI_clamp (by omega), nI_clamp (by omega), nI_clamp (by omega), decide_eq_false (nI_pos (by omega)), decide_eq_false (nI_pos (by omega)), decide_eq_false (nI_pos (by omega)), Nat.ble_eq_true_of_le h1, Nat.ble_eq_true_of_le h2]; rfl
theorem D_copyL {a b l : Nat} (ha : a + l ≤ 160) (hb : b + l ≤ 160) (hl : l ≤ 40) (w : am_W) : ∃ w2, L_Mod_copy_147 am_NF (nI l) (nI a) (nI b) (nI 0) w = some (nI l, w2) ∧ EX (fun c => Nat.beq c 64) w w2 ∧ (∀ x, x < l → w2.1 64 (b + x) = w.1 64 (a + x)) ∧ ∀ y, (y < b ∨ b + l ≤ y) → w2.1 64 y = w.1 64 y := by
  by_cases hd : b ≤ a
  · have key : ∀ (d i k : Nat) (w1 : am_W), i + d = l → d < k → EX (fun c => Nat.beq c 64) w w1 → (∀ x, x < i → w1.1 64 (b + x) = w.1 64 (a + x)) → (∀ y, (y < b ∨ b + i ≤ y) → w1.1 64 y = w.1 64 y) → ∃ w2, L_Mod_copy_147 k (nI l) (nI a) (nI b) (nI i) w1 = some (nI l, w2) ∧ EX (fun c => Nat.beq c 64) w w2 ∧ (∀ x, x < l → w2.1 64 (b + x) = w.1 64 (a + x)) ∧ ∀ y, (y < b ∨ b + l ≤ y) → w2.1 64 y = w.1 64 y := by
      intro d
      induction d with
      | zero =>
        intro i k w1 hi hk h0 h1 h2
        obtain ⟨k, rfl⟩ : ∃ j, k = j + 1 := ⟨k - 1, by omega⟩
        refine ⟨w1, ?_, h0, fun x hx => h1 x (by omega), fun y hy => h2 y (by omega)⟩
        show F_Mod_copy_147 _ _ _ _ _ _ = _
        unfold F_Mod_copy_147
        simp (disch := omega) only [nI_clamp, am_ckI, ile_t, ile_f, ilt_t, ilt_f, ieq_t, ieq_f, iz_t, iz_f, ilz_f, nI_add]
      | succ d ih =>
        intro i k w1 hi hk h0 h1 h2
        obtain ⟨k, rfl⟩ : ∃ j, k = j + 1 := ⟨k - 1, by omega⟩
        show ∃ w2, F_Mod_copy_147 _ _ _ _ _ _ = _ ∧ _
        unfold F_Mod_copy_147 F_Mod_copy_173
        simp (disch := omega) only [nI_clamp, am_ckI, ile_t, ile_f, ilt_t, ilt_f, ieq_t, ieq_f, iz_t, iz_f, ilz_f, nI_add, bn_V, am_ltV, am_ckV, cond_V1, cond_V0, bi_ite, ck_bi, ite_T, ite_F, wst_f]
        refine ih (i + 1) k _ (by omega) (by omega) (EX_t h0 (EX_sf rfl)) (fun x hx => ?_) (fun y hy => ?_)
        · by_cases e : x = i
          · rw [e, wsf_at]; exact h2 (a + i) (by omega)
          · rw [wsf_ne (by omega)]; exact h1 x (by omega)
        · rw [wsf_ne (by omega)]; exact h2 y (by omega)
    exact key l 0 am_NF w (by omega) (by show l < 4000; omega) (EX_r _ _) (fun x hx => by omega) (fun y _ => rfl)
  · have key : ∀ (d i k : Nat) (w1 : am_W), i + d = l → d < k → EX (fun c => Nat.beq c 64) w w1 → (∀ x, l - i ≤ x → x < l → w1.1 64 (b + x) = w.1 64 (a + x)) → (∀ y, (y < b + (l - i) ∨ b + l ≤ y) → w1.1 64 y = w.1 64 y) → ∃ w2, L_Mod_copy_147 k (nI l) (nI a) (nI b) (nI i) w1 = some (nI l, w2) ∧ EX (fun c => Nat.beq c 64) w w2 ∧ (∀ x, x < l → w2.1 64 (b + x) = w.1 64 (a + x)) ∧ ∀ y, (y < b ∨ b + l ≤ y) → w2.1 64 y = w.1 64 y := by
      intro d
      induction d with
      | zero =>
        intro i k w1 hi hk h0 h1 h2
        obtain ⟨k, rfl⟩ : ∃ j, k = j + 1 := ⟨k - 1, by omega⟩
        refine ⟨w1, ?_, h0, fun x hx => h1 x (by omega) hx, fun y hy => h2 y (by omega)⟩
        show F_Mod_copy_147 _ _ _ _ _ _ = _
        unfold F_Mod_copy_147
        simp (disch := omega) only [nI_clamp, am_ckI, ile_t, ile_f, ilt_t, ilt_f, ieq_t, ieq_f, iz_t, iz_f, ilz_f, nI_add]
      | succ d ih =>
        intro i k w1 hi hk h0 h1 h2
        obtain ⟨k, rfl⟩ : ∃ j, k = j + 1 := ⟨k - 1, by omega⟩
        show ∃ w2, F_Mod_copy_147 _ _ _ _ _ _ = _ ∧ _
        unfold F_Mod_copy_147 F_Mod_copy_173
        rw [ile_f (by omega) (by omega), ile_f (by omega) (by omega), pk_sub (by omega), pk_sub (by omega)]
        simp (disch := omega) only [nI_clamp, am_ckI, ile_t, ile_f, ilt_t, ilt_f, ieq_t, ieq_f, iz_t, iz_f, ilz_f, nI_add, bn_V, am_ltV, am_ckV, cond_V1, cond_V0, bi_ite, ck_bi, ite_T, ite_F, wst_f]
        refine ih (i + 1) k _ (by omega) (by omega) (EX_t h0 (EX_sf rfl)) (fun x hx hx2 => ?_) (fun y hy => ?_)
        · by_cases e : x = l - 1 - i
          · rw [e, wsf_at]; exact h2 (a + (l - 1 - i)) (by omega)
          · rw [wsf_ne (by omega)]; exact h1 x (by omega) hx2
        · rw [wsf_ne (by omega)]; exact h2 y (by omega)
    exact key l 0 am_NF w (by omega) (by show l < 4000; omega) (EX_r _ _) (fun x _ hx => by omega) (fun y _ => rfl)
theorem B_copy (a b c d e : Int32) : BOTH (F_Loc_copy a b c d e) (F_Mod_copy a b c d e) := fun w ⟨n, m, g, s, T, f, v, te, tc, hq⟩ => by
  have same : ∀ r, F_Loc_copy a b c d e w = some (r, w) → F_Mod_copy a b c d e w = some (r, w) → ∃ (r : Int32) (w1 w2 : am_W), F_Loc_copy a b c d e w = some (r, w1) ∧ F_Mod_copy a b c d e w1 = some (r, w2) ∧ RR w2 := fun r h1 h2 => ⟨r, w, w, h1, h2, n, m, g, s, T, f, v, te, tc, hq⟩
  obtain ⟨hV, hg, hs, hC, hM, hT, hX, hS, hP, hI, hA⟩ := id hq
  cases ha : am_in a 4 with
  | false =>
    refine same (-nI 2) ?_ ?_
    · unfold F_Loc_copy F_Loc_copy_14
      rw [S_isSheet, ha]; rfl
    · unfold F_Mod_copy F_Mod_copy_18
      rw [D_in0 (k := 3) (by omega), ha]; rfl
  | true =>
    cases hc : am_in c 4 with
    | false =>
      refine same (-nI 2) ?_ ?_
      · unfold F_Loc_copy F_Loc_copy_14
        rw [S_isSheet, ha, bn_s, bi_ite, cond_true, S_isSheet, hc]; rfl
      · unfold F_Mod_copy F_Mod_copy_18
        rw [D_in0 (k := 3) (by omega), ha, bn_s, bi_ite, cond_true, D_in0 (k := 3) (by omega), hc]; rfl
    | true =>
      obtain ⟨p, hp, rfl⟩ := in_ex ha (by omega)
      obtain ⟨q, hq4, rfl⟩ := in_ex hc (by omega)
      obtain ⟨s1, s2, ⟨z, hz, s3, s4⟩, s5⟩ := hS p hp
      obtain ⟨t1, t2, ⟨y, hy, t3, t4⟩, t5⟩ := hS q hq4
      have hS0 : ∀ w2, F_Loc_isSheet (nI p) w2 = some (bi true, w2) := fun w2 => by rw [S_isSheet, ha]
      have hS1 : ∀ w2, F_Loc_isSheet (nI q) w2 = some (bi true, w2) := fun w2 => by rw [S_isSheet, hc]
      have hD0 : ∀ w2, F_Mod_in (nI p) (nI 0) (nI 3) w2 = some (bi true, w2) := fun w2 => by rw [D_in0 (k := 3) (by omega), ha]
      have hD1 : ∀ w2, F_Mod_in (nI q) (nI 0) (nI 3) w2 = some (bi true, w2) := fun w2 => by rw [D_in0 (k := 3) (by omega), hc]
      rcases s2 with s2 | ⟨so, hso, s2⟩
      · refine same (-nI 11) ?_ ?_
        · unfold F_Loc_copy F_Loc_copy_49
          simp (disch := omega) only [hS0, hS1, bn_V, am_ltV, am_ckV, cond_V1, cond_V0, bi_ite, ck_bi, ite_T, ite_F, nI_clamp, am_ckI, ile_t, ile_f, ilt_t, ilt_f, ieq_t, ieq_f, iz_t, iz_f, ilz_f, nI_add, S_miss (s1.trans s2), decide_eq_true_eq]
          rfl
        · unfold F_Mod_copy F_Mod_copy_41
          rw [hD0, bn_s, bi_ite, cond_true, hD1, bn_s, bi_ite, cond_true]
          dsimp only
          simp (disch := omega) only [am_ckI, nI_clamp, s2, ite_T]
      · rcases t2 with t2 | ⟨st, hst, t2⟩
        · refine same (-nI 11) ?_ ?_
          · unfold F_Loc_copy F_Loc_copy_49
            simp (disch := omega) only [hS0, hS1, bn_V, am_ltV, am_ckV, cond_V1, cond_V0, bi_ite, ck_bi, ite_T, ite_F, nI_clamp, am_ckI, ile_t, ile_f, ilt_t, ilt_f, ieq_t, ieq_f, iz_t, iz_f, ilz_f, nI_add, S_miss (s1.trans s2), S_miss (t1.trans t2), decide_eq_false (m1_ne (by omega : so < 2 ^ 31))]
            rfl
          · unfold F_Mod_copy F_Mod_copy_41
            rw [hD0, bn_s, bi_ite, cond_true, hD1, bn_s, bi_ite, cond_true]
            dsimp only
            simp (disch := omega) only [am_ckI, nI_clamp, s2, t2, ite_T, if_neg (m1_ne (by omega : so < 2 ^ 31))]
        · by_cases hst2 : so = st
          · subst hst2
            have hSf : F_Loc_copy (nI p) b (nI q) d e w = bif str z b e && str y d e then (am_ck (am_cpk b d e 40 40) (some (e, wcp w (46 + 2 * p) (46 + 2 * q) b d e))) else some (-nI 12, w) := by
              unfold F_Loc_copy F_Loc_copy_91
              simp (disch := omega) only [hS0, hS1, bn_V, am_ltV, am_ckV, cond_V1, cond_V0, bi_ite, ck_bi, ite_T, ite_F, nI_clamp, am_ckI, ile_t, ile_f, ilt_t, ilt_f, ieq_t, ieq_f, iz_t, iz_f, ilz_f, nI_add, S_miss (s1.trans s2), S_miss (t1.trans t2), decide_eq_false (m1_ne (by omega : so < 2 ^ 31)), S_isStretch hz s4, S_isStretch hy t4, s1.trans s2, t1.trans t2]
              cases str z b e <;> cases str y d e <;> rfl
            have hDf : ∀ w2, w2.1 62 = w.1 62 → w2.1 63 = w.1 63 → F_Mod_copy (nI p) b (nI q) d e w2 = bif str z b e && str y d e then L_Mod_copy_147 am_NF e ((nI 40 * nI p) + b) ((nI 40 * nI q) + d) (nI 0) w2 else some (-nI 12, w2) := fun w2 h62 h63 => by
              unfold F_Mod_copy F_Mod_copy_124
              rw [hD0, bn_s, bi_ite, cond_true, hD1, bn_s, bi_ite, cond_true]
              dsimp only
              simp (disch := omega) only [am_ckI, nI_clamp, h62, h63, s2, t2, s3, t3, ite_T, if_neg (m1_ne (by omega : so < 2 ^ 31))]
              unfold str
              by_cases h1 : e.toInt < 0
              · rw [if_pos (lz_iff.mpr h1), decide_eq_false (by omega)]; rfl
              rw [if_neg (fun q => h1 (lz_iff.mp q))]
              by_cases h2 : b.toInt < 0
              · rw [if_pos (lz_iff.mpr h2), decide_eq_false (by omega)]; rfl
              rw [if_neg (fun q => h2 (lz_iff.mp q))]
              by_cases h3 : d.toInt < 0
              · rw [if_pos (lz_iff.mpr h3), decide_eq_false (p := 0 ≤ d.toInt ∧ _) (by omega), Bool.and_false]; rfl
              rw [if_neg (fun q => h3 (lz_iff.mp q))]
              by_cases h4 : (z : Int) < b.toInt
              · rw [if_pos ((lt_iff (by omega)).mpr h4), decide_eq_false (by omega)]; rfl
              rw [if_neg (fun q => h4 ((lt_iff (by omega)).mp q))]
              by_cases h5 : (y : Int) < d.toInt
              · rw [if_pos ((lt_iff (by omega)).mpr h5), decide_eq_false (p := 0 ≤ d.toInt ∧ _) (by omega), Bool.and_false]; rfl
              rw [if_neg (fun q => h5 ((lt_iff (by omega)).mp q))]
              obtain ⟨i, hi⟩ : ∃ i : Nat, b.toInt = (i : Int) := ⟨b.toInt.toNat, by omega⟩
              have hb := nI_ti hi (by omega)
              obtain ⟨j, hj⟩ : ∃ j : Nat, d.toInt = (j : Int) := ⟨d.toInt.toNat, by omega⟩
              have hd := nI_ti hj (by omega)
              have h6 : (nI z - b).toInt = (z : Int) - i := by rw [hb]; exact sub_ti (by omega) (by omega)
              have h7 : (nI y - d).toInt = (y : Int) - j := by rw [hd]; exact sub_ti (by omega) (by omega)
              by_cases h8 : (nI z - b).toInt < e.toInt
              · rw [if_pos (Int32.lt_iff_toInt_lt.mpr h8), decide_eq_false (by omega)]; rfl
              rw [if_neg (fun q => h8 (Int32.lt_iff_toInt_lt.mp q))]
              by_cases h9 : e.toInt ≤ (nI y - d).toInt
              · rw [if_pos (Int32.le_iff_toInt_le.mpr h9), decide_eq_true (by omega), decide_eq_true (by omega)]; rfl
              · rw [if_neg (fun q => h9 (Int32.le_iff_toInt_le.mp q)), decide_eq_false (p := 0 ≤ d.toInt ∧ _) (by omega), Bool.and_false]; rfl
            cases hx : str z b e && str y d e with
            | false =>
              refine same (-nI 12) ?_ ?_
              · rw [hSf, hx]; rfl
              · rw [hDf w rfl rfl, hx]; rfl
            | true =>
              rw [hSf, hx, cond_true]
              rw [Bool.and_eq_true] at hx
              obtain ⟨i, l, rfl, rfl, hil⟩ := str_ex hz hx.1
              obtain ⟨j, l2, rfl, el, hjl⟩ := str_ex hy hx.2
              have hx1 := of_decide_eq_true hx.2
              have hl2 : l2 = l := by
                have h10 := congrArg Int32.toInt el
                rw [nI_toInt (by omega), nI_toInt (by omega)] at h10
                omega
              subst hl2
              rw [cpk_G (by omega) (by omega) (by omega) (by omega), am_ckT]
              obtain ⟨w2, e2, k2, r2, r3⟩ := D_copyL (a := 40 * p + i) (b := 40 * q + j) (l := l2) (by omega) (by omega) (by omega) (wcp w (46 + 2 * p) (46 + 2 * q) (nI i) (nI j) (nI l2))
              have hw : ∀ c, ¬ c = 46 + 2 * q → (wcp w (46 + 2 * p) (46 + 2 * q) (nI i) (nI j) (nI l2)).1 c = w.1 c := fun c hc => mf_n (nbf hc)
              refine ⟨nI l2, _, w2, rfl, ?_, n, m, g, s, T, f, v, te, tc, RQ_put hq4 hq ⟨fun c c1 c2 c3 c4 c5 u _ => ?_, fun k hk => ?_, fun k hk => ?_, fun u hu => ?_⟩ ⟨?_, ?_, ⟨y, hy, ?_, ?_⟩, fun u hu => ?_⟩⟩
              · rw [hDf _ (hw 62 (by omega)) (hw 63 (by omega)), hx.1, hx.2, Bool.and_true, cond_true, pk_mul, pk_mul, nI_add, nI_add]
                exact e2
              · rw [k2 c (nbf c5), hw c c2]
              · rw [k2 62 rfl, hw 62 (by omega)]
              · rw [k2 63 rfl, hw 63 (by omega)]
              · rw [r3 u (by omega), hw 64 (by omega)]
              · rw [k2 _ (nbf (by omega)), hw _ (by omega), k2 62 rfl, hw 62 (by omega)]; exact t1
              · rw [k2 62 rfl, hw 62 (by omega)]; exact Or.inr ⟨so, hso, t2⟩
              · rw [k2 63 rfl, hw 63 (by omega)]; exact t3
              · rw [k2 _ (nbf (by omega)), hw _ (by omega)]; exact t4
              · have e9 : (wcp w (46 + 2 * p) (46 + 2 * q) (nI i) (nI j) (nI l2)).1 (46 + 2 * q) u = if j ≤ u ∧ u < j + l2 then w.1 (46 + 2 * p) (i + (u - j)) else w.1 (46 + 2 * q) u := by
                  show mf w.1 (46 + 2 * q) _ (46 + 2 * q) u = _
                  rw [mf_s, nI_clamp (by omega), nI_clamp (by omega), nI_clamp (by omega)]
                  rfl
                rw [k2 _ (nbf (by omega)), e9]
                by_cases h : j ≤ u ∧ u < j + l2
                · have h11 := r2 (u - j) (by omega)
                  rw [show 40 * q + j + (u - j) = 40 * q + u from by omega, hw 64 (by omega)] at h11
                  rw [if_pos h, h11, s5 _ (by omega), Nat.add_assoc]
                · rw [if_neg h, r3 _ (by omega), hw 64 (by omega)]; exact t5 u hu
          · have hne : ¬ nI so = nI st := fun q => hst2 ((nI_eq (by omega) (by omega)).mp q)
            refine same (-nI 13) ?_ ?_
            · unfold F_Loc_copy
              simp (disch := omega) only [hS0, hS1, bn_V, am_ltV, am_ckV, cond_V1, cond_V0, bi_ite, ck_bi, ite_T, ite_F, nI_clamp, am_ckI, ile_t, ile_f, ilt_t, ilt_f, ieq_t, ieq_f, iz_t, iz_f, ilz_f, nI_add, S_miss (s1.trans s2), S_miss (t1.trans t2), decide_eq_false (m1_ne (by omega : so < 2 ^ 31)), decide_eq_false (m1_ne (by omega : st < 2 ^ 31)), s1.trans s2, t1.trans t2]
            · unfold F_Mod_copy
              rw [hD0, bn_s, bi_ite, cond_true, hD1, bn_s, bi_ite, cond_true]
              dsimp only
              simp (disch := omega) only [am_ckI, nI_clamp, s2, t2, if_neg (m1_ne (by omega : so < 2 ^ 31)), if_neg (m1_ne (by omega : st < 2 ^ 31)), if_neg hne]
