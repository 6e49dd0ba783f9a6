/-! ===== sheets: sheet, cell, film, seen ===== -/
/-! loops with a fixed end: rules that no kernel takes as computation -/
theorem bn_V {α β : Type} (x : α) (f : α → Option β) : (some x).bind f = f x := (Eq.refl _).trans (Eq.refl _)
theorem am_ltV {α β : Type} (x : α) (f : α → β) : am_lt x f = f x := (Eq.refl _).trans (Eq.refl _)
theorem am_ckV {α : Type} {k : Option α} : am_ck true k = k := (Eq.refl _).trans (Eq.refl _)
theorem cond_V1 {α : Type} {a b : α} : (bif true then a else b) = a := (Eq.refl _).trans (Eq.refl _)
theorem cond_V0 {α : Type} {a b : α} : (bif false then a else b) = b := (Eq.refl _).trans (Eq.refl _)
theorem wsf_fc {w : am_W} {c j a : Nat} {x : Int32} (h : ¬ a = c) : (wsf w c j x).1 a = w.1 a := mf_n (nbf h)
def SS1 (w : am_W) (k : Nat) : Prop := w.1 (45 + 2 * k) 0 = w.1 62 k ∧ (w.1 62 k = -nI 1 ∨ ∃ so, so < 3 ∧ w.1 62 k = nI so) ∧ (∃ z, z ≤ 40 ∧ w.1 63 k = nI z ∧ w.1 (45 + 2 * k) 1 = nI z) ∧ ∀ i, i < 40 → w.1 (46 + 2 * k) i = w.1 64 (40 * k + i)
theorem ar_sh {k j : Nat} (hk : k < 4) : area (45 + 2 * k) j = 4 ∧ area (46 + 2 * k) j = 4 := by
  match k, hk with
  | 0, _ => exact ⟨rfl, rfl⟩
  | 1, _ => exact ⟨rfl, rfl⟩
  | 2, _ => exact ⟨rfl, rfl⟩
  | 3, _ => exact ⟨rfl, rfl⟩
def shA (a : Nat) : Bool := Nat.beq a 4 || Nat.beq a 0
theorem KP_sh {a b : am_W} (h : KP a b) : FRA shA a b := FRA_m (fun i hi => by
  unfold shA at hi
  rw [Bool.or_eq_false_iff] at hi
  exact hi.2) h
/-- only what tells of one sheet was written -/
def SW (p : Nat) (w w2 : am_W) : Prop := (∀ c, ¬ c = 45 + 2 * p → ¬ c = 46 + 2 * p → ¬ c = 62 → ¬ c = 63 → ¬ c = 64 → ∀ j, ¬ area c j = 0 → w2.1 c j = w.1 c j) ∧ (∀ k, ¬ k = p → w2.1 62 k = w.1 62 k) ∧ (∀ k, ¬ k = p → w2.1 63 k = w.1 63 k) ∧ ∀ j, (j < 40 * p ∨ 40 * p + 40 ≤ j) → w2.1 64 j = w.1 64 j
theorem RQ_put {n m g s T f p : Nat} {v : am_V} {te tc : Nat → Nat → Nat} {w w2 : am_W} (hp : p < 4) (hq : RQ n m g s T f v te tc w) (hw : SW p w w2) (hn : SS1 w2 p) : RQ n m g s T f v te tc w2 := by
  obtain ⟨hV, hg, hs, hC, hM, hT, hX, hS, hP, hI, hA⟩ := id hq
  obtain ⟨h1, h2, h3, h4⟩ := hw
  have k : FRA shA w w2 := fun c j q => by
    by_cases c1 : c = 45 + 2 * p
    · rw [c1, (ar_sh hp).1] at q; cases q
    by_cases c2 : c = 46 + 2 * p
    · rw [c2, (ar_sh hp).2] at q; cases q
    by_cases c3 : c = 62
    · rw [c3] at q; cases q
    by_cases c4 : c = 63
    · rw [c4] at q; cases q
    by_cases c5 : c = 64
    · rw [c5] at q; cases q
    exact h1 c c1 c2 c3 c4 c5 j (fun e => by rw [e] at q; cases q)
  have hS2 : SS w2 := fun k hk => by
    by_cases e : k = p
    · rw [e]; exact hn
    · obtain ⟨s1, s2, s3, s4⟩ := hS k hk
      have e1 : ∀ j, w2.1 (45 + 2 * k) j = w.1 (45 + 2 * k) j := fun j => h1 _ (by omega) (by omega) (by omega) (by omega) (by omega) j (by rw [(ar_sh hk).1]; omega)
      have e2 : ∀ j, w2.1 (46 + 2 * k) j = w.1 (46 + 2 * k) j := fun j => h1 _ (by omega) (by omega) (by omega) (by omega) (by omega) j (by rw [(ar_sh hk).2]; omega)
      rw [e1 0, e1 1, h2 k e, h3 k e]
      exact ⟨s1, s2, s3, fun i hi => by rw [e2, h4 _ (by omega)]; exact s4 i hi⟩
  exact ⟨hV, hg, hs, CC_fr rfl k hC, MM_fr rfl k hM, TT_fr rfl k hT, TX_fr rfl k hX hT.1, hS2, TP_fr rfl k hP, IM_fr rfl k hI, ABC_fr rfl k hA⟩
theorem m1_ne {a : Nat} (ha : a < 2 ^ 31) : ¬ nI a = -nI 1 := fun q => by
  have := congrArg Int32.toInt q
  rw [nI_toInt ha, m1_ti] at this
  omega
theorem S_miss {w : am_W} {p : Nat} {x : Int32} (h : w.1 (45 + 2 * p) 0 = x) : F_Sheet_isMissing p w = some (bi (decide (x = -nI 1)), w) := by
  unfold F_Sheet_isMissing F_Sheet_isMissing_13
  rw [h]
  by_cases h1 : x = -nI 1
  · rw [if_pos h1, decide_eq_true h1]; rfl
  · rw [if_neg h1, decide_eq_false h1]; rfl
theorem S_ref0 {w : am_W} {a : Int32} (h : am_in a 4 = false) : F_Loc_refusalOf a w = some (-nI 2, w) := by
  unfold F_Loc_refusalOf
  rw [S_isSheet, h]; rfl
theorem D_ref0 {w : am_W} {a : Int32} (h : am_in a 4 = false) : F_Mod_sheetWrong a w = some (-nI 2, w) := by
  unfold F_Mod_sheetWrong
  rw [D_in0 (k := 3) (by omega), h]; rfl
theorem S_ref1 {w : am_W} {p : Nat} {x : Int32} (hp : p < 4) (h : w.1 (45 + 2 * p) 0 = x) : F_Loc_refusalOf (nI p) w = some (if x = -nI 1 then -nI 11 else nI 0, w) := by
  unfold F_Loc_refusalOf F_Loc_refusalOf_28
  simp (disch := omega) only [S_isSheet, in_nI, bn_V, am_ltV, am_ckV, cond_V1, cond_V0, bi_ite, ck_bi, ite_T, ite_F, nI_clamp, am_ckI, ile_t, ile_f, ilt_t, ilt_f, ieq_t, ieq_f, iz_t, iz_f, ilz_f, nI_add, S_miss h]
  by_cases h1 : x = -nI 1
  · rw [if_pos h1, decide_eq_true h1]; rfl
  · rw [if_neg h1, decide_eq_false h1]; rfl
theorem D_ref1 {w : am_W} {p : Nat} {x : Int32} (hp : p < 4) (h : w.1 62 p = x) : F_Mod_sheetWrong (nI p) w = some (if x = -nI 1 then -nI 11 else nI 0, w) := by
  unfold F_Mod_sheetWrong F_Mod_sheetWrong_28
  rw [D_in0 (k := 3) (by omega), in_nI hp (by omega)]
  simp (disch := omega) only [bn_V, am_ltV, am_ckV, cond_V1, cond_V0, bi_ite, ck_bi, ite_T, ite_F, nI_clamp, am_ckI, ile_t, ile_f, ilt_t, ilt_f, ieq_t, ieq_f, iz_t, iz_f, ilz_f, nI_add, h]
  by_cases h1 : x = -nI 1
  · rw [if_pos h1, if_pos h1]
  · rw [if_neg h1, if_neg h1]
theorem S_become (p : Nat) (x y : Int32) (w : am_W) : ∃ w2, F_Sheet_become p x y w = some w2 ∧ (∀ c, ¬ c = 45 + 2 * p → ¬ c = 46 + 2 * p → w2.1 c = w.1 c) ∧ w2.1 (45 + 2 * p) 0 = x ∧ w2.1 (45 + 2 * p) 1 = y ∧ ∀ i, i < 40 → w2.1 (46 + 2 * p) i = nI 0 := by
  unfold F_Sheet_become
  simp only [am_ltV]
  have key : ∀ (d i k : Nat) (w1 : am_W), i + d = 40 → d < k → (∀ t, t < i → w1.1 (46 + 2 * p) t = nI 0) → ∃ w2, L_Sheet_become_12 k p (nI i) w1 = some w2 ∧ EX (fun a => Nat.beq a (46 + 2 * p)) w1 w2 ∧ ∀ t, t < 40 → w2.1 (46 + 2 * p) t = nI 0 := by
    intro d
    induction d with
    | zero =>
      intro i k w1 hi hk h
      obtain ⟨k, rfl⟩ : ∃ j, k = j + 1 := ⟨k - 1, by omega⟩
      refine ⟨w1, ?_, EX_r _ _, fun t ht => h t (by omega)⟩
      show F_Sheet_become_12 _ _ _ _ = _
      unfold F_Sheet_become_12
      simp (disch := omega) only [nI_clamp, am_ckI, ile_t, ile_f, ilt_t, ilt_f, ieq_t, ieq_f, iz_t, iz_f, ilz_f, nI_add]
    | succ d ih =>
      intro i k w1 hi hk h
      obtain ⟨k, rfl⟩ : ∃ j, k = j + 1 := ⟨k - 1, by omega⟩
      show ∃ w2, F_Sheet_become_12 _ _ _ _ = _ ∧ _
      unfold F_Sheet_become_12
      simp (disch := omega) only [nI_clamp, am_ckI, ile_t, ile_f, ilt_t, ilt_f, ieq_t, ieq_f, iz_t, iz_f, ilz_f, nI_add, bn_V, am_ltV, am_ckV, cond_V1, cond_V0, bi_ite, ck_bi, ite_T, ite_F, wst_f]
      obtain ⟨w2, e2, k2, h2⟩ := ih (i + 1) k (wsf w1 (46 + 2 * p) i (nI 0)) (by omega) (by omega) (fun t ht => by
        by_cases e : t = i
        · rw [e, wsf_at]
        · rw [wsf_ne e]; exact h t (by omega))
      exact ⟨w2, e2, EX_t (EX_sf (Nat.beq_refl _)) k2, h2⟩
  obtain ⟨w2, e2, k2, h2⟩ := key 40 0 am_NF (wsf (wsf w (45 + 2 * p) 0 x) (45 + 2 * p) 1 y) (by omega) (by show 40 < 4000; omega) (fun t ht => by omega)
  refine ⟨w2, e2, fun c c1 c2 => ?_, ?_, ?_, h2⟩
  · exact (k2 c (nbf c2)).trans ((wsf_fc c1).trans (wsf_fc c1))
  · rw [k2 _ (nbf (by omega)), wsf_ne (by omega), wsf_at]
  · rw [k2 _ (nbf (by omega)), wsf_at]
theorem D_zero {p : Nat} (hp : p < 4) (w : am_W) : ∃ w2, L_Mod_sheet_70 am_NF (nI p) (nI 0) w = some (nI 1, w2) ∧ EX (fun a => Nat.beq a 64) w w2 ∧ (∀ t, t < 40 → w2.1 64 (40 * p + t) = nI 0) ∧ ∀ j, (j < 40 * p ∨ 40 * p + 40 ≤ j) → w2.1 64 j = w.1 64 j := by
  have key : ∀ (d i k : Nat) (w1 : am_W), i + d = 40 → d < k → (∀ t, t < i → w1.1 64 (40 * p + t) = nI 0) → ∃ w2, L_Mod_sheet_70 k (nI p) (nI i) w1 = some (nI 1, w2) ∧ EX (fun a => Nat.beq a 64) w1 w2 ∧ (∀ t, t < 40 → w2.1 64 (40 * p + t) = nI 0) ∧ ∀ j, (j < 40 * p ∨ 40 * p + 40 ≤ j) → w2.1 64 j = w1.1 64 j := by
    intro d
    induction d with
    | zero =>
      intro i k w1 hi hk h
      obtain ⟨k, rfl⟩ : ∃ j, k = j + 1 := ⟨k - 1, by omega⟩
      refine ⟨w1, ?_, EX_r _ _, fun t ht => h t (by omega), fun j _ => rfl⟩
      show F_Mod_sheet_70 _ _ _ _ = _
      unfold F_Mod_sheet_70
      simp (disch := omega) only [nI_clamp, am_ckI, ile_t, ile_f, ilt_t, ilt_f, ieq_t, ieq_f, iz_t, iz_f, ilz_f, nI_add]
    | succ d ih =>
      intro i k w1 hi hk h
      obtain ⟨k, rfl⟩ : ∃ j, k = j + 1 := ⟨k - 1, by omega⟩
      show ∃ w2, F_Mod_sheet_70 _ _ _ _ = _ ∧ _
      unfold F_Mod_sheet_70
      simp (disch := omega) only [nI_clamp, am_ckI, ile_t, ile_f, ilt_t, ilt_f, ieq_t, ieq_f, iz_t, iz_f, ilz_f, nI_add, bn_V, am_ltV, am_ckV, cond_V1, cond_V0, bi_ite, ck_bi, ite_T, ite_F, pk_mul, wst_f]
      obtain ⟨w2, e2, k2, h2, h3⟩ := ih (i + 1) k (wsf w1 64 (40 * p + i) (nI 0)) (by omega) (by omega) (fun t ht => by
        by_cases e : t = i
        · rw [e, wsf_at]
        · rw [wsf_ne (by omega)]; exact h t (by omega))
      exact ⟨w2, e2, EX_t (EX_sf rfl) k2, h2, fun j hj => (h3 j hj).trans (wsf_ne (by omega))⟩
  exact key 40 0 am_NF w (by omega) (by show 40 < 4000; omega) (fun t ht => by omega)
/-- a sheet that both have made anew -/
theorem sh_new {n m g s T f p : Nat} {v : am_V} {te tc : Nat → Nat → Nat} {w w1 : am_W} (hp : p < 4) (hq : RQ n m g s T f v te tc w) {x : Int32} {z : Nat} (hx : x = -nI 1 ∨ ∃ so, so < 3 ∧ x = nI so) (hz : z ≤ 40) (h1 : ∀ c, ¬ c = 45 + 2 * p → ¬ c = 46 + 2 * p → w1.1 c = w.1 c) (h2 : w1.1 (45 + 2 * p) 0 = x) (h3 : w1.1 (45 + 2 * p) 1 = nI z) (h4 : ∀ i, i < 40 → w1.1 (46 + 2 * p) i = nI 0) : ∃ w2, L_Mod_sheet_70 am_NF (nI p) (nI 0) (wsf (wsf w1 62 p x) 63 p (nI z)) = some (nI 1, w2) ∧ RQ n m g s T f v te tc w2 := by
  obtain ⟨w2, e2, k2, r2, r3⟩ := D_zero hp (wsf (wsf w1 62 p x) 63 p (nI z))
  have c45 : ∀ j, w2.1 (45 + 2 * p) j = w1.1 (45 + 2 * p) j := fun j => by rw [k2 _ (nbf (by omega)), wsf_nc (nbf (by omega)), wsf_nc (nbf (by omega))]
  have c46 : ∀ j, w2.1 (46 + 2 * p) j = w1.1 (46 + 2 * p) j := fun j => by rw [k2 _ (nbf (by omega)), wsf_nc (nbf (by omega)), wsf_nc (nbf (by omega))]
  have c62 : w2.1 62 p = x := by rw [k2 62 rfl, wsf_nc rfl, wsf_at]
  have c63 : w2.1 63 p = nI z := by rw [k2 63 rfl, wsf_at]
  refine ⟨w2, e2, RQ_put hp hq ⟨fun c c1 c2 c3 c4 c5 j _ => ?_, fun k hk => ?_, fun k hk => ?_, fun j hj => ?_⟩ ⟨?_, ?_, ⟨z, hz, c63, ?_⟩, fun i hi => ?_⟩⟩
  · rw [k2 c (nbf c5), wsf_nc (nbf c4), wsf_nc (nbf c3), h1 c c1 c2]
  · rw [k2 62 rfl, wsf_nc rfl, wsf_ne hk, h1 62 (by omega) (by omega)]
  · rw [k2 63 rfl, wsf_ne hk, wsf_nc rfl, h1 63 (by omega) (by omega)]
  · rw [r3 j hj, wsf_nc rfl, wsf_nc rfl, h1 64 (by omega) (by omega)]
  · rw [c45, h2, c62]
  · rw [c62]; exact hx
  · rw [c45, h3]
  · rw [c46, h4 i hi, r2 i hi]
theorem B_sheet (a b c : Int32) : BOTH (F_Loc_sheet a b c) (F_Mod_sheet a b c) := fun w ⟨n, m, g, s, T, f, v, te, tc, hq⟩ => by
  have same : ∀ r, F_Loc_sheet a b c w = some (r, w) → F_Mod_sheet a b c w = some (r, w) → ∃ (r : Int32) (w1 w2 : am_W), F_Loc_sheet a b c w = some (r, w1) ∧ F_Mod_sheet a b c w1 = some (r, w2) ∧ RR w2 := fun r h1 h2 => ⟨r, w, w, h1, h2, n, m, g, s, T, f, v, te, tc, hq⟩
  cases ha : am_in a 4 with
  | false =>
    refine same (-nI 2) ?_ ?_
    · unfold F_Loc_sheet F_Loc_sheet_19
      rw [S_isSheet, ha]; rfl
    · unfold F_Mod_sheet F_Mod_sheet_29
      rw [D_in0 (k := 3) (by omega), ha]; rfl
  | true =>
    obtain ⟨p, hp, rfl⟩ := in_ex ha (by omega)
    by_cases hb1 : b = -nI 1
    · subst hb1
      obtain ⟨w1, e1, k1, r1, r2, r3⟩ := S_become p (-nI 1) (nI 0) w
      obtain ⟨w2, e2, hq2⟩ := sh_new hp hq (Or.inl rfl) (Nat.zero_le 40) k1 r1 r2 r3
      refine ⟨nI 1, w1, w2, ?_, ?_, n, m, g, s, T, f, v, te, tc, hq2⟩
      · unfold F_Loc_sheet F_Loc_sheet_22
        rw [S_isSheet, ha]
        simp (disch := omega) only [bn_V, am_ltV, am_ckV, cond_V1, cond_V0, bi_ite, ck_bi, ite_T, ite_F, nI_clamp, am_ckI, ile_t, ile_f, ilt_t, ilt_f, ieq_t, ieq_f, iz_t, iz_f, ilz_f, nI_add, e1]
      · unfold F_Mod_sheet F_Mod_sheet_32 F_Mod_sheet_44 F_Mod_sheet_66
        rw [D_in0 (k := 3) (by omega), ha, bn_s, bi_ite, cond_true, D_inG, decide_eq_true (by rw [m1_ti, nI_toInt (by omega)]; omega), bn_s, bi_ite, cond_true]
        simp (disch := omega) only [bn_V, am_ltV, am_ckV, cond_V1, cond_V0, bi_ite, ck_bi, ite_T, ite_F, nI_clamp, am_ckI, ile_t, ile_f, ilt_t, ilt_f, ieq_t, ieq_f, iz_t, iz_f, ilz_f, nI_add, wst_f]
        exact e2
    · cases hb : am_in b 3 with
      | false =>
        refine same (-nI 2) ?_ ?_
        · unfold F_Loc_sheet F_Loc_sheet_19
          rw [S_isSheet, ha, bn_s, bi_ite, cond_true, if_neg hb1, S_isSort, hb]; rfl
        · unfold F_Mod_sheet F_Mod_sheet_29
          rw [D_in0 (k := 3) (by omega), ha, bn_s, bi_ite, cond_true, D_inG, decide_eq_false (fun q => by
            rw [m1_ti, nI_toInt (by omega)] at q
            have h1 : ¬ b.toInt = -1 := fun e => hb1 (Int32.toInt_inj.mp (by rw [e, m1_ti]))
            have h2 : am_in b 3 = true := in_iff.mpr ⟨by omega, by omega⟩
            rw [hb] at h2; cases h2)]; rfl
      | true =>
        obtain ⟨so, hso, rfl⟩ := in_ex hb (by omega)
        have hM1 : ∀ w2, F_Mod_in (nI p) (nI 0) (nI 3) w2 = some (bi true, w2) := fun w2 => by rw [D_in0 (k := 3) (by omega), ha]
        have hM2 : ∀ w2, F_Mod_in (nI so) (-nI 1) (nI 2) w2 = some (bi true, w2) := fun w2 => by rw [D_inG, decide_eq_true (by rw [m1_ti, nI_toInt (by omega), nI_toInt (by omega)]; omega)]
        by_cases h40 : c ≤ nI 40
        · by_cases h0 : 0 ≤ c
          · obtain ⟨z, hz⟩ : ∃ z : Nat, c.toInt = (z : Int) := ⟨c.toInt.toNat, by rw [Int32.le_iff_toInt_le, ti_0] at h0; omega⟩
            rw [Int32.le_iff_toInt_le, nI_toInt (by omega)] at h40
            have hc := nI_ti hz (by omega)
            subst hc
            have hz40 : z ≤ 40 := by omega
            obtain ⟨w1, e1, k1, r1, r2, r3⟩ := S_become p (nI so) (nI z) w
            obtain ⟨w2, e2, hq2⟩ := sh_new hp hq (Or.inr ⟨so, hso, rfl⟩) hz40 k1 r1 r2 r3
            refine ⟨nI 1, w1, w2, ?_, ?_, n, m, g, s, T, f, v, te, tc, hq2⟩
            · unfold F_Loc_sheet F_Loc_sheet_22
              rw [S_isSheet, ha, bn_s, bi_ite, cond_true, if_neg hb1, S_isSort, hb, bn_s, bi_ite, cond_true, if_neg hb1]
              rw [if_pos (nI_le (by omega) (by omega)), if_pos h0, am_ckT, nI_clamp (by omega), e1]; rfl
            · unfold F_Mod_sheet F_Mod_sheet_32 F_Mod_sheet_44 F_Mod_sheet_66
              rw [hM1, bn_s, bi_ite, cond_true, hM2, bn_s, bi_ite, cond_true, if_neg hb1, if_pos (nI_le (by omega) (by omega)), if_neg hb1, if_pos h0]
              simp (disch := omega) only [bn_V, am_ltV, am_ckV, cond_V1, cond_V0, bi_ite, ck_bi, ite_T, ite_F, nI_clamp, am_ckI, ile_t, ile_f, ilt_t, ilt_f, ieq_t, ieq_f, iz_t, iz_f, ilz_f, nI_add, wst_f, if_neg hb1]
              exact e2
          · refine same (-nI 14) ?_ ?_
            · unfold F_Loc_sheet F_Loc_sheet_22
              rw [S_isSheet, ha, bn_s, bi_ite, cond_true, if_neg hb1, S_isSort, hb, bn_s, bi_ite, cond_true, if_neg hb1, if_pos h40, if_neg h0]
            · unfold F_Mod_sheet F_Mod_sheet_32
              rw [hM1, bn_s, bi_ite, cond_true, hM2, bn_s, bi_ite, cond_true, if_neg hb1, if_pos h40, if_neg hb1, if_neg h0]
        · refine same (-nI 2) ?_ ?_
          · unfold F_Loc_sheet F_Loc_sheet_22
            rw [S_isSheet, ha, bn_s, bi_ite, cond_true, if_neg hb1, S_isSort, hb, bn_s, bi_ite, cond_true, if_neg hb1, if_neg h40]
          · unfold F_Mod_sheet F_Mod_sheet_29
            rw [hM1, bn_s, bi_ite, cond_true, hM2, bn_s, bi_ite, cond_true, if_neg hb1, if_neg h40]
/-! cell -/
/-- a number as a sheet of a sort keeps it -/
def pv (so x : Int32) : Int32 := if so = 0 then x.toInt8.toInt32 else if so = nI 1 then x.toInt16.toInt32 else x
theorem S_put {w : am_W} {p i : Nat} {so x : Int32} (hi : i < 40) (h : w.1 (45 + 2 * p) 0 = so) : F_Sheet_put p (nI i) x w = some (wsf w (46 + 2 * p) i (pv so x)) := by
  unfold F_Sheet_put F_Sheet_put_31 pv
  simp (disch := omega) only [h, nI_clamp, am_ckI, ile_t, ile_f, ilt_t, ilt_f, ieq_t, ieq_f, iz_t, iz_f, ilz_f, nI_add, bn_V, am_ltV, am_ckV, cond_V1, cond_V0, bi_ite, ck_bi, ite_T, ite_F, wst_f]
  by_cases h1 : so = 0
  · rw [if_pos h1, if_pos h1]
  · rw [if_neg h1, if_neg h1]
    by_cases h2 : so = nI 1
    · rw [if_pos h2, if_pos h2]
    · rw [if_neg h2, if_neg h2]
theorem S_isPlace {w : am_W} {p z : Nat} {a : Int32} (hz : z ≤ 40) (h : w.1 (45 + 2 * p) 1 = nI z) : F_Sheet_isPlace p a w = some (bi (am_in a z), w) := by
  unfold F_Sheet_isPlace
  rw [h]
  exact S_lt (F := F_Sheet_isPlace_16) (G := F_Sheet_isPlace_17 (nI 1)) (by omega) rfl rfl
theorem B_cell (a b c : Int32) : BOTH (F_Loc_cell a b c) (F_Mod_cell a b c) := fun w ⟨n, m, g, s, T, f, v, te, tc, hq⟩ => by
  have same : ∀ r, F_Loc_cell a b c w = some (r, w) → F_Mod_cell a b c w = some (r, w) → ∃ (r : Int32) (w1 w2 : am_W), F_Loc_cell a b c w = some (r, w1) ∧ F_Mod_cell a b c w1 = some (r, w2) ∧ RR w2 := fun r h1 h2 => ⟨r, w, w, h1, h2, n, m, g, s, T, f, v, te, tc, hq⟩
  obtain ⟨hV, hg, hs, hC, hM, hT, hX, hS, hP, hI, hA⟩ := id hq
  cases ha : am_in a 4 with
  | false =>
    refine same (-nI 2) ?_ ?_
    · unfold F_Loc_cell
      rw [S_ref0 ha]; rfl
    · unfold F_Mod_cell
      rw [D_in0 (k := 3) (by omega), ha]; rfl
  | true =>
    obtain ⟨p, hp, rfl⟩ := in_ex ha (by omega)
    obtain ⟨s1, s2, ⟨z, hz, s3, s4⟩, s5⟩ := hS p hp
    rcases s2 with s2 | ⟨so, hso, s2⟩
    · refine same (-nI 11) ?_ ?_
      · unfold F_Loc_cell
        rw [S_ref1 hp (s1.trans s2)]; rfl
      · unfold F_Mod_cell
        rw [D_in0 (k := 3) (by omega), ha]
        simp (disch := omega) only [bn_V, am_ltV, am_ckV, cond_V1, cond_V0, bi_ite, ck_bi, ite_T, ite_F, nI_clamp, am_ckI, ile_t, ile_f, ilt_t, ilt_f, ieq_t, ieq_f, iz_t, iz_f, ilz_f, nI_add, s2]
    · have hS1 : F_Loc_refusalOf (nI p) w = some (nI 0, w) := by rw [S_ref1 hp (s1.trans s2), if_neg (m1_ne (by omega))]
      cases hb : am_in b z with
      | false =>
        refine same (-nI 12) ?_ ?_
        · unfold F_Loc_cell
          simp (disch := omega) only [hS1, bn_V, am_ltV, am_ckV, cond_V1, cond_V0, bi_ite, ck_bi, ite_T, ite_F, nI_clamp, am_ckI, ile_t, ile_f, ilt_t, ilt_f, ieq_t, ieq_f, iz_t, iz_f, ilz_f, nI_add, S_isPlace hz s4, hb]
        · unfold F_Mod_cell
          rw [D_in0 (k := 3) (by omega), ha]
          simp (disch := omega) only [bn_V, am_ltV, am_ckV, cond_V1, cond_V0, bi_ite, ck_bi, ite_T, ite_F, nI_clamp, am_ckI, ile_t, ile_f, ilt_t, ilt_f, ieq_t, ieq_f, iz_t, iz_f, ilz_f, nI_add, s2, s3, D_inm, hb]
          rw [if_neg (m1_ne (by omega))]
      | true =>
        obtain ⟨i, hi, rfl⟩ := in_ex hb (by omega)
        refine ⟨nI 1, wsf w (46 + 2 * p) i (pv (nI so) c), wsf (wsf w (46 + 2 * p) i (pv (nI so) c)) 64 (40 * p + i) (pv (nI so) c), ?_, ?_, n, m, g, s, T, f, v, te, tc, RQ_put hp hq ⟨fun c0 c1 c2 c3 c4 c5 j _ => ?_, fun k hk => ?_, fun k hk => ?_, fun j hj => ?_⟩ ⟨?_, ?_, ⟨z, hz, ?_, ?_⟩, fun k hk => ?_⟩⟩
        · unfold F_Loc_cell
          simp (disch := omega) only [hS1, bn_V, am_ltV, am_ckV, cond_V1, cond_V0, bi_ite, ck_bi, ite_T, ite_F, nI_clamp, am_ckI, ile_t, ile_f, ilt_t, ilt_f, ieq_t, ieq_f, iz_t, iz_f, ilz_f, nI_add, S_isPlace hz s4, hb, S_put (by omega : i < 40) (s1.trans s2)]
        · have t2 : (wsf w (46 + 2 * p) i (pv (nI so) c)).1 62 p = nI so := (wsf_nc (nbf (by omega))).trans s2
          have t3 : (wsf w (46 + 2 * p) i (pv (nI so) c)).1 63 p = nI z := (wsf_nc (nbf (by omega))).trans s3
          unfold F_Mod_cell F_Mod_cell_84
          rw [D_in0 (k := 3) (by omega), ha]
          simp (disch := omega) only [bn_V, am_ltV, am_ckV, cond_V1, cond_V0, bi_ite, ck_bi, ite_T, ite_F, nI_clamp, am_ckI, ile_t, ile_f, ilt_t, ilt_f, ieq_t, ieq_f, iz_t, iz_f, ilz_f, nI_add, t2, t3, D_inm, hb, pk_mul, wst_f]
          rw [if_neg (m1_ne (by omega))]
          unfold pv
          by_cases h1 : nI so = 0
          · rw [if_pos h1, if_pos h1]
          · rw [if_neg h1, if_neg h1]
            by_cases h2 : nI so = nI 1
            · rw [if_pos h2, if_pos h2]
            · rw [if_neg h2, if_neg h2]
        · rw [wsf_nc (nbf c5), wsf_nc (nbf c2)]
        · rw [wsf_nc rfl, wsf_nc (nbf (by omega))]
        · rw [wsf_nc rfl, wsf_nc (nbf (by omega))]
        · rw [wsf_ne (by omega), wsf_nc (nbf (by omega))]
        · rw [wsf_nc (nbf (by omega)), wsf_nc (nbf (by omega)), wsf_nc rfl, wsf_nc (nbf (by omega))]; exact s1
        · rw [wsf_nc rfl, wsf_nc (nbf (by omega))]; exact Or.inr ⟨so, hso, s2⟩
        · rw [wsf_nc rfl, wsf_nc (nbf (by omega))]; exact s3
        · rw [wsf_nc (nbf (by omega)), wsf_nc (nbf (by omega))]; exact s4
        · by_cases e : k = i
          · rw [e, wsf_nc (nbf (by omega)), wsf_at, wsf_at]
          · rw [wsf_nc (nbf (by omega)), wsf_ne e, wsf_ne (by omega), wsf_nc (nbf (by omega))]; exact s5 k hk
/-! film, seen -/
theorem B_film (a : Int32) : BOTH (F_Loc_film a) (F_Mod_film a) := fun w ⟨n, m, g, s, T, f, v, te, tc, hq⟩ => by
  obtain ⟨hV, hg, hs, hC, hM, hT, hX, hS, hP, hI, hA⟩ := id hq
  have hn := hV.1
  cases ha : am_in a 4 with
  | false =>
    refine ⟨-nI 2, w, w, ?_, ?_, n, m, g, s, T, f, v, te, tc, hq⟩
    · unfold F_Loc_film
      rw [S_isSheet, ha]; rfl
    · unfold F_Mod_film
      rw [D_in0 (k := 3) (by omega), ha]; rfl
  | true =>
    obtain ⟨p, hp, rfl⟩ := in_ex ha (by omega)
    obtain ⟨w1, e1, k1, r1⟩ := S_run4 hV hC hg
    have kp1 : KP w w1 := KP_b 41 (fun _ => rfl) k1
    have hq1 := RQ_kp kp1 hq
    have hC1 : CC n m g s v w1 := CC_fr rfl kp1 hC
    obtain ⟨w2, e2, k2, q1, q2, q3⟩ := S_become p (nI 2) (nI n) w1
    have key : ∀ (d i k : Nat) (w3 : am_W), i + d = n → d < k → (∀ c, ¬ c = 46 + 2 * p → w3.1 c = w2.1 c) → (∀ t, t < i → w3.1 (46 + 2 * p) t = hoA n m v s (v 3) g t) → (∀ t, i ≤ t → t < 40 → w3.1 (46 + 2 * p) t = nI 0) → ∃ w4, L_Loc_film_43 k (nI p) (nI i) w3 = some (nI n, w4) ∧ (∀ c, ¬ c = 46 + 2 * p → w4.1 c = w2.1 c) ∧ ∀ t, t < 40 → w4.1 (46 + 2 * p) t = bif decide (t < n) then hoA n m v s (v 3) g t else nI 0 := by
      intro d
      induction d with
      | zero =>
        intro i k w3 hi hk h1 h2 h3
        obtain ⟨k, rfl⟩ : ∃ j, k = j + 1 := ⟨k - 1, by omega⟩
        have hz : w3.1 1 0 = nI n := by rw [h1 1 (by omega), k2 1 (by omega) (by omega)]; exact hC1.1
        refine ⟨w3, ?_, h1, fun t ht => ?_⟩
        · show F_Loc_film_43 _ _ _ _ = _
          unfold F_Loc_film_43
          simp (disch := omega) only [hz, nI_clamp, am_ckI, ile_t, ile_f, ilt_t, ilt_f, ieq_t, ieq_f, iz_t, iz_f, ilz_f, nI_add]
        · by_cases e : t < n
          · rw [decide_eq_true e]; exact h2 t (by omega)
          · rw [decide_eq_false e]; exact h3 t (by omega) ht
      | succ d ih =>
        intro i k w3 hi hk h1 h2 h3
        obtain ⟨k, rfl⟩ : ∃ j, k = j + 1 := ⟨k - 1, by omega⟩
        have hz : w3.1 1 0 = nI n := by rw [h1 1 (by omega), k2 1 (by omega) (by omega)]; exact hC1.1
        have hr : w3.1 41 i = hoA n m v s (v 3) g i := by rw [h1 41 (by omega), k2 41 (by omega) (by omega)]; exact r1 i (by omega)
        have hso : w3.1 (45 + 2 * p) 0 = nI 2 := by rw [h1 _ (by omega)]; exact q1
        have e9 : ∀ x, pv (nI 2) x = x := fun x => by
          unfold pv
          rw [if_neg (by decide), if_neg (by decide)]
        show ∃ w4, F_Loc_film_43 _ _ _ _ = _ ∧ _
        unfold F_Loc_film_43
        simp (disch := omega) only [hz, nI_clamp, am_ckI, ile_t, ile_f, ilt_t, ilt_f, ieq_t, ieq_f, iz_t, iz_f, ilz_f, nI_add, bn_V, am_ltV, am_ckV, cond_V1, cond_V0, bi_ite, ck_bi, ite_T, ite_F, hr, S_put (by omega : i < 40) hso, e9]
        refine ih (i + 1) k _ (by omega) (by omega) (fun c hc => (wsf_fc hc).trans (h1 c hc)) (fun t ht => ?_) (fun t h4 h5 => ?_)
        · by_cases e : t = i
          · rw [e, wsf_at]
          · rw [wsf_ne e]; exact h2 t (by omega)
        · rw [wsf_ne (by omega)]; exact h3 t (by omega) h5
    obtain ⟨w4, e4, h1, h2⟩ := key n 0 am_NF w2 (by omega) (by show n < 4000; omega) (fun c _ => rfl) (fun t ht => by omega) (fun t _ ht => q3 t ht)
    have lowC : ∀ c, ¬ c = 45 + 2 * p → ¬ c = 46 + 2 * p → w4.1 c = w1.1 c := fun c c1 c2 => (h1 c c2).trans (k2 c c1 c2)
    have hM4 : MM n m g s v w4 := by
      have hM1 : MM n m g s v w1 := MM_fr rfl kp1 hM
      exact MM_hi (w := w1) (fun c hc => lowC c (by omega) (by omega)) hM1
    obtain ⟨w5, e5, k5, r5⟩ := D_livesX hV hM4
    have keyD : ∀ (d i k : Nat) (w6 : am_W), i + d = 40 → d < k → (∀ c, ¬ c = 62 → ¬ c = 63 → ¬ c = 64 → w6.1 c = w5.1 c) → (w6.1 62 = (wsf w5 62 p (nI 2)).1 62) → (w6.1 63 = (wsf w5 63 p (nI n)).1 63) → (∀ t, t < i → w6.1 64 (40 * p + t) = bif decide (t < n) then hoA n m v s (v 3) g t else nI 0) → (∀ j, (j < 40 * p ∨ 40 * p + 40 ≤ j) → w6.1 64 j = w5.1 64 j) → ∃ w7, L_Mod_film_35 k (nI p) (nI i) w6 = some (nI n, w7) ∧ (∀ c, ¬ c = 62 → ¬ c = 63 → ¬ c = 64 → w7.1 c = w5.1 c) ∧ (w7.1 62 = (wsf w5 62 p (nI 2)).1 62) ∧ (w7.1 63 = (wsf w5 63 p (nI n)).1 63) ∧ (∀ t, t < 40 → w7.1 64 (40 * p + t) = bif decide (t < n) then hoA n m v s (v 3) g t else nI 0) ∧ ∀ j, (j < 40 * p ∨ 40 * p + 40 ≤ j) → w7.1 64 j = w5.1 64 j := by
      intro d
      induction d with
      | zero =>
        intro i k w6 hi hk a1 a2 a3 a4 a5
        obtain ⟨k, rfl⟩ : ∃ j, k = j + 1 := ⟨k - 1, by omega⟩
        have hz : w6.1 53 0 = nI n := by rw [a1 53 (by omega) (by omega) (by omega), k5 53 rfl]; exact hM4.1
        refine ⟨w6, ?_, a1, a2, a3, fun t ht => a4 t (by omega), a5⟩
        show F_Mod_film_35 _ _ _ _ = _
        unfold F_Mod_film_35
        simp (disch := omega) only [hz, nI_clamp, am_ckI, ile_t, ile_f, ilt_t, ilt_f, ieq_t, ieq_f, iz_t, iz_f, ilz_f, nI_add]
      | succ d ih =>
        intro i k w6 hi hk a1 a2 a3 a4 a5
        obtain ⟨k, rfl⟩ : ∃ j, k = j + 1 := ⟨k - 1, by omega⟩
        have hz : w6.1 53 0 = nI n := by rw [a1 53 (by omega) (by omega) (by omega), k5 53 rfl]; exact hM4.1
        have step : ∀ x, x = (bif decide (i < n) then hoA n m v s (v 3) g i else nI 0) → ∃ w7, L_Mod_film_35 k (nI p) (nI (i + 1)) (wsf w6 64 (40 * p + i) x) = some (nI n, w7) ∧ (∀ c, ¬ c = 62 → ¬ c = 63 → ¬ c = 64 → w7.1 c = w5.1 c) ∧ (w7.1 62 = (wsf w5 62 p (nI 2)).1 62) ∧ (w7.1 63 = (wsf w5 63 p (nI n)).1 63) ∧ (∀ t, t < 40 → w7.1 64 (40 * p + t) = bif decide (t < n) then hoA n m v s (v 3) g t else nI 0) ∧ ∀ j, (j < 40 * p ∨ 40 * p + 40 ≤ j) → w7.1 64 j = w5.1 64 j := fun x hx => by
          refine ih (i + 1) k (wsf w6 64 (40 * p + i) x) (by omega) (by omega) (fun c c1 c2 c3 => (wsf_fc c3).trans (a1 c c1 c2 c3)) ((wsf_fc (by omega)).trans a2) ((wsf_fc (by omega)).trans a3) (fun t ht => ?_) (fun j hj => (wsf_ne (by omega)).trans (a5 j hj))
          by_cases e : t = i
          · rw [e, wsf_at, hx]
          · rw [wsf_ne (by omega)]; exact a4 t (by omega)
        show ∃ w7, F_Mod_film_35 _ _ _ _ = _ ∧ _
        unfold F_Mod_film_35 F_Mod_film_69
        by_cases hin : i < n
        · have hr : w6.1 72 i = hoA n m v s (v 3) g i := by rw [a1 72 (by omega) (by omega) (by omega)]; exact r5 i (by omega)
          simp (disch := omega) only [hz, nI_clamp, am_ckI, ile_t, ile_f, ilt_t, ilt_f, ieq_t, ieq_f, iz_t, iz_f, ilz_f, nI_add, bn_V, am_ltV, am_ckV, cond_V1, cond_V0, bi_ite, ck_bi, ite_T, ite_F, hr, pk_mul, wst_f]
          exact step _ (by rw [decide_eq_true hin]; rfl)
        · simp (disch := omega) only [hz, nI_clamp, am_ckI, ile_t, ile_f, ilt_t, ilt_f, ieq_t, ieq_f, iz_t, iz_f, ilz_f, nI_add, bn_V, am_ltV, am_ckV, cond_V1, cond_V0, bi_ite, ck_bi, ite_T, ite_F, pk_mul, wst_f]
          exact step _ (by rw [decide_eq_false hin]; rfl)
    obtain ⟨w7, e7, b1, b2, b3, b4, b5⟩ := keyD 40 0 am_NF (wsf (wsf w5 62 p (nI 2)) 63 p (nI n)) (by omega) (by show 40 < 4000; omega) (fun c c1 c2 c3 => (wsf_fc c2).trans (wsf_fc c1)) (wsf_fc (by omega)) (by
      unfold wsf
      dsimp only
      rw [mf_s, mf_s, mf_n rfl]) (fun t ht => by omega) (fun j hj => (wsf_nc rfl).trans (wsf_nc rfl))
    have hz5 : w5.1 53 0 = nI n := by rw [k5 53 rfl]; exact hM4.1
    have w75 : ∀ c, ¬ c = 62 → ¬ c = 63 → ¬ c = 64 → ¬ c = 72 → w7.1 c = w4.1 c := fun c c1 c2 c3 c4 => (b1 c c1 c2 c3).trans (k5 c (nbf c4))
    refine ⟨nI n, w4, w7, ?_, ?_, n, m, g, s, T, f, v, te, tc, RQ_put hp hq1 ⟨fun c c1 c2 c3 c4 c5 j hj => ?_, fun k hk => ?_, fun k hk => ?_, fun j hj => ?_⟩ ⟨?_, ?_, ⟨n, by omega, ?_, ?_⟩, fun i hi => ?_⟩⟩
    · unfold F_Loc_film
      rw [S_isSheet, ha]
      simp (disch := omega) only [bn_V, am_ltV, am_ckV, cond_V1, cond_V0, bi_ite, ck_bi, ite_T, ite_F, nI_clamp, am_ckI, ile_t, ile_f, ilt_t, ilt_f, ieq_t, ieq_f, iz_t, iz_f, ilz_f, nI_add, e1, hC1.1, e2]
      exact e4
    · have hz6 : (wsf w5 62 p (nI 2)).1 53 0 = nI n := (wsf_nc rfl).trans hz5
      unfold F_Mod_film
      rw [D_in0 (k := 3) (by omega), ha]
      simp (disch := omega) only [bn_V, am_ltV, am_ckV, cond_V1, cond_V0, bi_ite, ck_bi, ite_T, ite_F, nI_clamp, am_ckI, ile_t, ile_f, ilt_t, ilt_f, ieq_t, ieq_f, iz_t, iz_f, ilz_f, nI_add, e5, wst_f, hz6]
      exact e7
    · rw [w75 c c3 c4 c5 (fun e => by rw [e] at hj; exact hj rfl), lowC c c1 c2]
    · rw [b2, wsf_ne hk, k5 62 rfl, lowC 62 (by omega) (by omega)]
    · rw [b3, wsf_ne hk, k5 63 rfl, lowC 63 (by omega) (by omega)]
    · rw [b5 j hj, k5 64 rfl, lowC 64 (by omega) (by omega)]
    · rw [w75 _ (by omega) (by omega) (by omega) (by omega), h1 _ (by omega), q1, b2, wsf_at]
    · rw [b2, wsf_at]; exact Or.inr ⟨2, by omega, rfl⟩
    · rw [b3, wsf_at]
    · rw [w75 _ (by omega) (by omega) (by omega) (by omega), h1 _ (by omega), q2]
    · rw [w75 _ (by omega) (by omega) (by omega) (by omega), h2 i hi, b4 i hi]
/-- the first where two rows tell otherwise -/
def fdf (x y : Nat → Int32) : Nat → Nat → Int32
  | 0, _ => -nI 1
  | d + 1, i => if x i = y i then fdf x y d (i + 1) else nI i
theorem B_seen (a : Int32) : BOTH (F_Loc_seen a) (F_Mod_seen a) := BOTH_q (fun {n m g s T f v te tc w} hq => by
  obtain ⟨hV, hg, hs, hC, hM, hT, hX, hS, hP, hI, hA⟩ := id hq
  have hn := hV.1
  cases ha : am_in a 4 with
  | false =>
    refine ⟨-nI 2, w, w, ?_, ?_, KP_r w⟩
    · unfold F_Loc_seen
      rw [S_ref0 ha]; rfl
    · unfold F_Mod_seen
      rw [D_ref0 ha]; rfl
  | true =>
    obtain ⟨p, hp, rfl⟩ := in_ex ha (by omega)
    obtain ⟨s1, s2, ⟨z, hz, s3, s4⟩, s5⟩ := hS p hp
    rcases s2 with s2 | ⟨so, hso, s2⟩
    · refine ⟨-nI 11, w, w, ?_, ?_, KP_r w⟩
      · unfold F_Loc_seen
        rw [S_ref1 hp (s1.trans s2)]; rfl
      · unfold F_Mod_seen
        rw [D_ref1 hp s2]; rfl
    · have hS1 : F_Loc_refusalOf (nI p) w = some (nI 0, w) := by rw [S_ref1 hp (s1.trans s2), if_neg (m1_ne (by omega))]
      have hD1 : F_Mod_sheetWrong (nI p) w = some (nI 0, w) := by rw [D_ref1 hp s2, if_neg (m1_ne (by omega))]
      by_cases hzn : z = n
      · obtain ⟨w1, e1, k1, r1⟩ := S_run4 hV hC hg
        have kp1 : KP w w1 := KP_b 41 (fun _ => rfl) k1
        have hC1 : CC n m g s v w1 := CC_fr rfl kp1 hC
        have hM1 : MM n m g s v w1 := MM_fr rfl kp1 hM
        obtain ⟨w2, e2, k2, r2⟩ := D_livesX hV hM1
        have kp2 : KP w1 w2 := KP_b 72 (fun _ => rfl) k2
        have hM2 : MM n m g s v w2 := MM_fr rfl kp2 hM1
        refine ⟨fdf (fun i => w.1 64 (40 * p + i)) (fun i => hoA n m v s (v 3) g i) n 0, w1, w2, ?_, ?_, KP_t kp1 kp2⟩
        · unfold F_Loc_seen
          simp (disch := omega) only [hS1, bn_V, am_ltV, am_ckV, cond_V1, cond_V0, bi_ite, ck_bi, ite_T, ite_F, nI_clamp, am_ckI, ile_t, ile_f, ilt_t, ilt_f, ieq_t, ieq_f, iz_t, iz_f, ilz_f, nI_add, s4, hC.1, e1]
          have key : ∀ d i k, i + d = n → d < k → L_Loc_seen_50 k (nI p) (nI i) w1 = some (fdf (fun i => w.1 64 (40 * p + i)) (fun i => hoA n m v s (v 3) g i) d i, w1) := by
            intro d
            induction d with
            | zero =>
              intro i k hi hk
              obtain ⟨k, rfl⟩ : ∃ j, k = j + 1 := ⟨k - 1, by omega⟩
              show F_Loc_seen_50 _ _ _ _ = _
              unfold F_Loc_seen_50
              simp (disch := omega) only [hC1.1, nI_clamp, am_ckI, ile_t, ile_f, ilt_t, ilt_f, ieq_t, ieq_f, iz_t, iz_f, ilz_f, nI_add]
              rfl
            | succ d ih =>
              intro i k hi hk
              obtain ⟨k, rfl⟩ : ∃ j, k = j + 1 := ⟨k - 1, by omega⟩
              have hr : w1.1 (46 + 2 * p) i = w.1 64 (40 * p + i) := by rw [k1 _ (nbf (by omega))]; exact s5 i (by omega)
              show F_Loc_seen_50 _ _ _ _ = _
              unfold F_Loc_seen_50
              simp (disch := omega) only [hC1.1, nI_clamp, am_ckI, ile_t, ile_f, ilt_t, ilt_f, ieq_t, ieq_f, iz_t, iz_f, ilz_f, nI_add, bn_V, am_ltV, am_ckV, cond_V1, cond_V0, bi_ite, ck_bi, ite_T, ite_F, hr, r1, fdf]
              by_cases h : w.1 64 (40 * p + i) = hoA n m v s (v 3) g i
              · rw [if_pos h, if_pos h]; exact ih (i + 1) k (by omega) (by omega)
              · rw [if_neg h, if_neg h]
          exact key n 0 am_NF (by omega) (by show n < 4000; omega)
        · have hD2 : F_Mod_sheetWrong (nI p) w1 = some (nI 0, w1) := by rw [D_ref1 hp ((congrFun (k1 62 rfl) p).trans s2), if_neg (m1_ne (by omega))]
          have t3 : w1.1 63 p = nI z := (congrFun (k1 63 rfl) p).trans s3
          unfold F_Mod_seen
          simp (disch := omega) only [hD2, bn_V, am_ltV, am_ckV, cond_V1, cond_V0, bi_ite, ck_bi, ite_T, ite_F, nI_clamp, am_ckI, ile_t, ile_f, ilt_t, ilt_f, ieq_t, ieq_f, iz_t, iz_f, ilz_f, nI_add, t3, hM1.1, e2]
          have key : ∀ d i k, i + d = n → d < k → L_Mod_seen_34 k (nI p) (nI i) w2 = some (fdf (fun i => w.1 64 (40 * p + i)) (fun i => hoA n m v s (v 3) g i) d i, w2) := by
            intro d
            induction d with
            | zero =>
              intro i k hi hk
              obtain ⟨k, rfl⟩ : ∃ j, k = j + 1 := ⟨k - 1, by omega⟩
              show F_Mod_seen_34 _ _ _ _ = _
              unfold F_Mod_seen_34
              simp (disch := omega) only [hM2.1, nI_clamp, am_ckI, ile_t, ile_f, ilt_t, ilt_f, ieq_t, ieq_f, iz_t, iz_f, ilz_f, nI_add]
              rfl
            | succ d ih =>
              intro i k hi hk
              obtain ⟨k, rfl⟩ : ∃ j, k = j + 1 := ⟨k - 1, by omega⟩
              have hr : w2.1 64 (40 * p + i) = w.1 64 (40 * p + i) := by rw [k2 64 rfl, k1 64 rfl]
              show F_Mod_seen_34 _ _ _ _ = _
              unfold F_Mod_seen_34
              simp (disch := omega) only [hM2.1, nI_clamp, am_ckI, ile_t, ile_f, ilt_t, ilt_f, ieq_t, ieq_f, iz_t, iz_f, ilz_f, nI_add, bn_V, am_ltV, am_ckV, cond_V1, cond_V0, bi_ite, ck_bi, ite_T, ite_F, pk_mul, hr, r2, fdf]
              by_cases h : w.1 64 (40 * p + i) = hoA n m v s (v 3) g i
              · rw [if_pos h, if_pos h]; exact ih (i + 1) k (by omega) (by omega)
              · rw [if_neg h, if_neg h]
          exact key n 0 am_NF (by omega) (by show n < 4000; omega)
      · refine ⟨-nI 2, w, w, ?_, ?_, KP_r w⟩
        · unfold F_Loc_seen
          simp (disch := omega) only [hS1, bn_V, am_ltV, am_ckV, cond_V1, cond_V0, bi_ite, ck_bi, ite_T, ite_F, nI_clamp, am_ckI, ile_t, ile_f, ilt_t, ilt_f, ieq_t, ieq_f, iz_t, iz_f, ilz_f, nI_add, s4, hC.1]
        · unfold F_Mod_seen
          simp (disch := omega) only [hD1, bn_V, am_ltV, am_ckV, cond_V1, cond_V0, bi_ite, ck_bi, ite_T, ite_F, nI_clamp, am_ckI, ile_t, ile_f, ilt_t, ilt_f, ieq_t, ieq_f, iz_t, iz_f, ilz_f, nI_add, s3, hM.1])
