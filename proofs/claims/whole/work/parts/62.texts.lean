/-! ===== what a text says ===== -/
/-- a sign between two -/
def jn (x : Nat) (a b : Int32) : Int32 := match x with
  | 11 => bi (!(decide (a = 0)) || !(decide (b = 0)))
  | 12 => bi (!(decide (a = 0)) && !(decide (b = 0)))
  | 14 => bi (!(decide (b ≤ a)))
  | 15 => bi (decide (a = b))
  | 16 => a + b
  | 17 => a - b
  | _ => a * b
/-- codes from i on, over a stack of height d -/
def ev (c : Nat → Nat) (nm : Nat → Int32) : Nat → Nat → Nat → (Nat → Int32) → Int32
  | 0, _, _, st => st 0
  | k + 1, i, d, st => bif Nat.ble (c i) 5 then ev c nm k (i + 1) (d + 1) (upd st d (nm (c i))) else bif Nat.ble 100000 (c i) then ev c nm k (i + 1) (d + 1) (upd st d (nI (c i - 100000))) else bif Nat.beq (c i) 13 then ev c nm k (i + 1) d (upd st (d - 1) (bi (decide (st (d - 1) = 0)))) else bif Nat.beq (c i) 19 then ev c nm k (i + 1) d (upd st (d - 1) (-(st (d - 1)))) else ev c nm k (i + 1) (d - 1) (upd st (d - 2) (jn (c i) (st (d - 2)) (st (d - 1))))
/-- the sorts of codes that can stand over a height -/
theorem hgt_c {c d e : Nat} (h : hgt c d = some e) : (c ≤ 5 ∧ e = d + 1 ∧ d < 64) ∨ (100000 ≤ c ∧ c ≤ 109999 ∧ e = d + 1 ∧ d < 64) ∨ (c = 13 ∧ e = d ∧ 1 ≤ d) ∨ (c = 19 ∧ e = d ∧ 1 ≤ d) ∨ ((c = 11 ∨ c = 12 ∨ c = 14 ∨ c = 15 ∨ c = 16 ∨ c = 17 ∨ c = 18) ∧ e = d - 1 ∧ 2 ≤ d) := by
  unfold hgt at h
  cases h1 : Nat.ble 100000 c && Nat.ble c 109999 || Nat.ble c 5 with
  | true =>
    rw [h1, cond_true] at h
    cases h2 : Nat.ble (d + 1) 64 with
    | false => rw [h2] at h; cases h
    | true =>
      rw [h2] at h
      have h2 := Nat.le_of_ble_eq_true h2
      have he : d + 1 = e := Option.some.inj h
      rw [Bool.or_eq_true, Bool.and_eq_true] at h1
      rcases h1 with h1 | h1
      · exact Or.inr (Or.inl ⟨Nat.le_of_ble_eq_true h1.1, Nat.le_of_ble_eq_true h1.2, he.symm, h2⟩)
      · exact Or.inl ⟨Nat.le_of_ble_eq_true h1, he.symm, h2⟩
  | false =>
    rw [h1, cond_false] at h
    cases h3 : Nat.beq c 13 || Nat.beq c 19 with
    | true =>
      rw [h3, cond_true] at h
      cases h2 : Nat.ble 1 d with
      | false => rw [h2] at h; cases h
      | true =>
        rw [h2] at h
        have h2 := Nat.le_of_ble_eq_true h2
        have he : d = e := Option.some.inj h
        rw [Bool.or_eq_true] at h3
        rcases h3 with h3 | h3
        · exact Or.inr (Or.inr (Or.inl ⟨Nat.eq_of_beq_eq_true h3, he.symm, h2⟩))
        · exact Or.inr (Or.inr (Or.inr (Or.inl ⟨Nat.eq_of_beq_eq_true h3, he.symm, h2⟩)))
    | false =>
      rw [h3, cond_false] at h
      cases h4 : Nat.ble 11 c && Nat.ble c 18 with
      | false => rw [h4] at h; cases h
      | true =>
        rw [h4, cond_true] at h
        cases h2 : Nat.ble 2 d with
        | false => rw [h2] at h; cases h
        | true =>
          rw [h2] at h
          have h2 := Nat.le_of_ble_eq_true h2
          have he : d - 1 = e := Option.some.inj h
          rw [Bool.and_eq_true] at h4
          have q1 := Nat.le_of_ble_eq_true h4.1
          have q2 := Nat.le_of_ble_eq_true h4.2
          rw [Bool.or_eq_false_iff] at h3
          have q3 : ¬ c = 13 := Nat.ne_of_beq_eq_false h3.1
          exact Or.inr (Or.inr (Or.inr (Or.inr ⟨by omega, he.symm, h2⟩)))
theorem S_truth {x : Int32} {b : Bool} (h : x = bi b) {w : am_W} : F_Law_truth x w = some (bi b, w) := by
  subst h
  unfold F_Law_truth F_Law_truth_9
  rw [bi_ite]
  cases b <;> rfl
theorem S_joined {x : Nat} (hx : x = 11 ∨ x = 12 ∨ x = 14 ∨ x = 15 ∨ x = 16 ∨ x = 17 ∨ x = 18) (a b : Int32) (w : am_W) : F_Law_joined (stp x) a b w = some (jn x a b, w) := by
  have ti : ∀ n : Nat, n < 100 → (-nI n : Int32).toInt = -(n : Int) := by decide +kernel
  unfold F_Law_joined F_Law_joined_92 F_Law_joined_93 F_Law_joined_76 F_Law_joined_62 F_Law_joined_105 F_Law_joined_110
  rcases hx with rfl | rfl | rfl | rfl | rfl | rfl | rfl
  · rw [show stp 11 = -nI 15 from rfl, ti 15 (by omega)]
    simp only [reduceIte, Nat.reduceAdd, Int.reduceNeg, Int.reduceEq, Int.cast_ofNat_Int]
    unfold jn
    by_cases h1 : a = 0
    · by_cases h2 : b = 0
      · rw [if_pos h1, if_pos h2, decide_eq_true h1, decide_eq_true h2]; rfl
      · rw [if_pos h1, if_neg h2, decide_eq_true h1, decide_eq_false h2]; rfl
    · rw [if_neg h1, decide_eq_false h1]; rfl
  · rw [show stp 12 = -nI 14 from rfl, ti 14 (by omega)]
    simp only [reduceIte, Int.reduceNeg, Int.reduceEq, Int.cast_ofNat_Int]
    unfold jn
    by_cases h1 : a = 0
    · rw [if_pos h1, decide_eq_true h1]; rfl
    · by_cases h2 : b = 0
      · rw [if_neg h1, if_pos h2, decide_eq_false h1, decide_eq_true h2]; rfl
      · rw [if_neg h1, if_neg h2, decide_eq_false h1, decide_eq_false h2]; rfl
  · rw [show stp 14 = -nI 12 from rfl, ti 12 (by omega)]
    simp only [reduceIte, Int.reduceNeg, Int.reduceEq, Int.cast_ofNat_Int]
    unfold jn
    by_cases h1 : b ≤ a
    · rw [if_pos h1, decide_eq_true h1]; rfl
    · rw [if_neg h1, decide_eq_false h1]; rfl
  · rw [show stp 15 = -nI 13 from rfl, ti 13 (by omega)]
    simp only [reduceIte, Int.reduceNeg, Int.reduceEq, Int.cast_ofNat_Int]
    unfold jn
    by_cases h1 : a = b
    · rw [if_pos h1, decide_eq_true h1]; rfl
    · rw [if_neg h1, decide_eq_false h1]; rfl
  · rw [show stp 16 = -nI 10 from rfl, ti 10 (by omega)]
    simp only [reduceIte, Int.reduceNeg, Int.reduceEq, Int.cast_ofNat_Int]
    rfl
  · rw [show stp 17 = -nI 11 from rfl, ti 11 (by omega)]
    simp only [reduceIte, Int.reduceNeg, Int.reduceEq, Int.cast_ofNat_Int]
    rfl
  · rw [show stp 18 = -nI 9 from rfl, ti 9 (by omega)]
    simp only [reduceIte, Int.reduceNeg, Int.reduceEq, Int.cast_ofNat_Int]
    rfl
theorem D_two {x : Nat} (hx : x = 11 ∨ x = 12 ∨ x = 14 ∨ x = 15 ∨ x = 16 ∨ x = 17 ∨ x = 18) (a b : Int32) (w : am_W) : F_Mod_two (nI x) a b w = some (jn x a b, w) := by
  have ti : ∀ n : Nat, n < 100 → (nI n : Int32).toInt = (n : Int) := fun n hn => nI_toInt (by omega)
  unfold F_Mod_two F_Mod_two_57 F_Mod_two_52 F_Mod_two_57 F_Mod_two_71 F_Mod_two_70 F_Mod_two_71 F_Mod_two_102 F_Mod_two_82 F_Mod_two_93
  rcases hx with rfl | rfl | rfl | rfl | rfl | rfl | rfl
  · rw [ti 11 (by omega)]
    simp only [reduceIte, Int.reduceNeg, Int.reduceEq, Int.cast_ofNat_Int]
    unfold jn
    by_cases h1 : a = 0
    · by_cases h2 : b = 0
      · rw [if_pos h1, if_pos h2, decide_eq_true h1, decide_eq_true h2]; rfl
      · rw [if_pos h1, if_neg h2, decide_eq_true h1, decide_eq_false h2]; rfl
    · rw [if_neg h1, decide_eq_false h1]; rfl
  · rw [ti 12 (by omega)]
    simp only [reduceIte, Int.reduceNeg, Int.reduceEq, Int.cast_ofNat_Int]
    unfold jn
    by_cases h1 : a = 0
    · rw [if_pos h1, decide_eq_true h1]; rfl
    · by_cases h2 : b = 0
      · rw [if_neg h1, if_pos h2, decide_eq_false h1, decide_eq_true h2]; rfl
      · rw [if_neg h1, if_neg h2, decide_eq_false h1, decide_eq_false h2]; rfl
  · rw [ti 14 (by omega)]
    simp only [reduceIte, Int.reduceNeg, Int.reduceEq, Int.cast_ofNat_Int]
    unfold jn
    by_cases h1 : b ≤ a
    · rw [if_pos h1, decide_eq_true h1]; rfl
    · rw [if_neg h1, decide_eq_false h1]; rfl
  · rw [ti 15 (by omega)]
    simp only [reduceIte, Int.reduceNeg, Int.reduceEq, Int.cast_ofNat_Int]
    unfold jn
    by_cases h1 : a = b
    · rw [if_pos h1, decide_eq_true h1]; rfl
    · rw [if_neg h1, decide_eq_false h1]; rfl
  · rw [ti 16 (by omega)]
    simp only [reduceIte, Int.reduceNeg, Int.reduceEq, Int.cast_ofNat_Int]
    rfl
  · rw [ti 17 (by omega)]
    simp only [reduceIte, Int.reduceNeg, Int.reduceEq, Int.cast_ofNat_Int]
    rfl
  · rw [ti 18 (by omega)]
    simp only [reduceIte, Int.reduceNeg, Int.reduceEq, Int.cast_ofNat_Int]
    rfl
theorem nI_dec {d : Nat} (h : 1 ≤ d) : nI d + (-nI 1) = nI (d - 1) := by
  rw [← Int32.sub_eq_add_neg, pk_sub h]
theorem nI_ngt {d : Nat} (h : 1 ≤ d) (hd : d < 2 ^ 31) : ¬ nI d ≤ 0 := fun q => by
  rw [Int32.le_iff_toInt_le, nI_toInt hd, ti_0] at q
  omega
theorem upd_at {f : Nat → Int32} {j : Nat} {x : Int32} : upd f j x j = x := if_pos rfl
theorem upd_ne {f : Nat → Int32} {i j : Nat} {x : Int32} (h : ¬ i = j) : upd f j x i = f i := if_neg h
theorem st_up {w1 : am_W} {c d j : Nat} {x : Int32} {st : Nat → Int32} (h : ∀ i, i < d → w1.1 c i = st i) : ∀ i, i < d → (wsf w1 c j x).1 c i = upd st j x i := fun i hi => by
  by_cases e : i = j
  · rw [e, wsf_at, upd_at]
  · rw [wsf_ne e, upd_ne e, h i hi]
theorem st_pu {w1 : am_W} {c d : Nat} {x : Int32} {st : Nat → Int32} (h : ∀ i, i < d → w1.1 c i = st i) : ∀ i, i < d + 1 → (wsf w1 c d x).1 c i = upd st d x i := fun i hi => by
  by_cases e : i = d
  · rw [e, wsf_at, upd_at]
  · rw [wsf_ne e, upd_ne e, h i (by omega)]
/-- the text in force, to each -/
def TS (T f : Nat) (w : am_W) : Prop := T ≤ 6 ∧ f < T ∧ w.1 17 2 = nI f
def TD (T f : Nat) (w : am_W) : Prop := T ≤ 6 ∧ f < T ∧ w.1 53 13 = nI f
theorem TS_fr {T f : Nat} {w w2 : am_W} {A : Nat → Bool} (hA : A 7 = false) (k : FRA A w w2) (h : TS T f w) : TS T f w2 := ⟨h.1, h.2.1, (k 17 2 hA).trans h.2.2⟩
theorem TD_fr {T f : Nat} {w w2 : am_W} {A : Nat → Bool} (hA : A 7 = false) (k : FRA A w w2) (h : TD T f w) : TD T f w2 := ⟨h.1, h.2.1, (k 53 13 hA).trans h.2.2⟩
section
variable {T f : Nat} {te tc : Nat → Nat → Nat} {w : am_W}
theorem S_worthL {t p : Nat} (hX : TX T te tc w) (hT : T ≤ 6) (ht : t < T) (hp : p < 3) {nm : Nat → Int32} (hnm : ∀ j, j < 6 → w.1 34 j = nm j) : ∀ (k i d F : Nat) (st : Nat → Int32) (w1 : am_W), d ≤ 64 → hts (tc t) k i d → i + k = te t (p + 1) → k < F → EX (fun a => Nat.beq a 35) w w1 → (∀ j, j < d → w1.1 35 j = st j) → ∃ w2, L_Law_worth_22 F (nI t) (nI p) (nI d) (nI i) w1 = some (ev (tc t) nm k i d st, w2) ∧ EX (fun a => Nat.beq a 35) w w2 := by
  obtain ⟨x0, x1, x2, x3, x4, x5, x6, x7⟩ := hX t ht
  have hte : te t (p + 1) ≤ te t 3 := by
    match p, hp with
    | 0, _ => exact Nat.le_trans x2 x3
    | 1, _ => exact x3
    | 2, _ => exact Nat.le_refl _
  intro k
  induction k with
  | zero =>
    intro i d F st w1 hd64 hh hi hF hE hst
    obtain ⟨F, rfl⟩ : ∃ j, F = j + 1 := ⟨F - 1, by omega⟩
    have hd : d = 1 := hh
    have he : w1.1 (27 + 1 + t) p = nI (te t (p + 1)) := (congrFun (hE _ (nbf (by omega))) p).trans (x5 p hp).1
    refine ⟨w1, ?_, hE⟩
    show F_Law_worth_22 _ _ _ _ _ _ = _
    unfold F_Law_worth_22
    simp (disch := omega) only [nI_clamp, am_ckI, ile_t, ile_f, ilt_t, ilt_f, ieq_t, ieq_f, iz_t, iz_f, ilz_f, nI_add, he, bn_V, am_ltV, am_ckV, cond_V1, cond_V0, bi_ite, ck_bi, ite_T, ite_F, ev]
    rw [hst 0 (by omega)]
  | succ k ih =>
    intro i d F st w1 hd64 hh hi hF hE hst
    obtain ⟨F, rfl⟩ : ∃ j, F = j + 1 := ⟨F - 1, by omega⟩
    obtain ⟨e, h1, h2⟩ := hh
    have he : w1.1 (27 + 1 + t) p = nI (te t (p + 1)) := (congrFun (hE _ (nbf (by omega))) p).trans (x5 p hp).1
    have hs : w1.1 (20 + 1 + t) i = stp (tc t i) := (congrFun (hE _ (nbf (by omega))) i).trans (x7 i (by omega)).1
    have h34 : ∀ j, j < 6 → w1.1 34 j = nm j := fun j hj => (congrFun (hE 34 rfl) j).trans (hnm j hj)
    show ∃ w2, F_Law_worth_22 _ _ _ _ _ _ = _ ∧ _
    unfold F_Law_worth_22 F_Law_worth_83 F_Law_worth_131 F_Law_worth_146 F_Law_worth_185
    simp (disch := omega) only [nI_clamp, am_ckI, ile_t, ile_f, ilt_t, ilt_f, ieq_t, ieq_f, iz_t, iz_f, ilz_f, nI_add, he, hs, bn_V, am_ltV, am_ckV, cond_V1, cond_V0, bi_ite, ck_bi, ite_T, ite_F, ev]
    generalize hc : tc t i = c at h1 ⊢
    rcases hgt_c h1 with ⟨q1, q2, q3⟩ | ⟨q0, q1, q2, q3⟩ | ⟨q1, q2, q3⟩ | ⟨q1, q2, q3⟩ | ⟨q1, q2, q3⟩
    · subst q2
      have hstp : stp c = -nI 1 - nI c ∧ ¬ (-nI 1 - nI c ≤ -nI 7) ∧ -nI 1 - nI c < 0 ∧ -nI 1 - (-nI 1 - nI c) = nI c := by
        match c, q1 with
        | 0, _ => exact ⟨rfl, by decide, by decide, by decide⟩
        | 1, _ => exact ⟨rfl, by decide, by decide, by decide⟩
        | 2, _ => exact ⟨rfl, by decide, by decide, by decide⟩
        | 3, _ => exact ⟨rfl, by decide, by decide, by decide⟩
        | 4, _ => exact ⟨rfl, by decide, by decide, by decide⟩
        | 5, _ => exact ⟨rfl, by decide, by decide, by decide⟩
      rw [hstp.1, if_neg hstp.2.1, if_pos hstp.2.2.1, hstp.2.2.2, Nat.ble_eq_true_of_le q1, cond_true]
      simp (disch := omega) only [nI_clamp, am_ckI, ile_t, ile_f, ilt_t, ilt_f, ieq_t, ieq_f, iz_t, iz_f, ilz_f, nI_add, bn_V, am_ltV, am_ckV, cond_V1, cond_V0, bi_ite, ck_bi, ite_T, ite_F, h34, wst_f]
      exact ih (i + 1) (d + 1) F _ _ (by omega) h2 (by omega) (by omega) (EX_t hE (EX_sf rfl)) (st_pu hst)
    · subst q2
      have hstp : stp c = nI (c - 100000) := by
        unfold stp
        rw [Nat.ble_eq_true_of_le q0]; rfl
      have h7 : ¬ nI (c - 100000) ≤ -nI 7 := fun q => by
        rw [Int32.le_iff_toInt_le, nI_toInt (by omega), show (-nI 7 : Int32).toInt = -7 from by decide] at q
        omega
      rw [hstp, if_neg h7, if_neg (nI_pos (by omega)), show Nat.ble c 5 = false from Bool.eq_false_iff.mpr (fun q => by have := Nat.le_of_ble_eq_true q; omega), Nat.ble_eq_true_of_le q0, cond_false, cond_true]
      simp (disch := omega) only [nI_clamp, am_ckI, ile_t, ile_f, ilt_t, ilt_f, ieq_t, ieq_f, iz_t, iz_f, ilz_f, nI_add, bn_V, am_ltV, am_ckV, cond_V1, cond_V0, bi_ite, ck_bi, ite_T, ite_F, wst_f]
      exact ih (i + 1) (d + 1) F _ _ (by omega) h2 (by omega) (by omega) (EX_t hE (EX_sf rfl)) (st_pu hst)
    · subst q1
      subst q2
      rw [show stp 13 = -nI 8 from rfl, if_pos (by decide), if_neg (by decide), if_neg (nI_ngt q3 (by omega)), if_pos rfl, pk_sub q3]
      simp (disch := omega) only [nI_clamp, am_ckI, ile_t, ile_f, ilt_t, ilt_f, ieq_t, ieq_f, iz_t, iz_f, ilz_f, nI_add, bn_V, am_ltV, am_ckV, cond_V1, cond_V0, bi_ite, ck_bi, ite_T, ite_F, wst_f, hst]
      have t1 : ∀ b, ∃ w2, (F_Law_truth (bi b) w1).bind (fun q => am_lt (wsf q.2 35 (e - 1) q.1) fun w6 => L_Law_worth_22 F (nI t) (nI p) (nI e) (nI (i + 1)) w6) = some (ev (tc t) nm k (i + 1) e (upd st (e - 1) (bi b)), w2) ∧ EX (fun a => Nat.beq a 35) w w2 := fun b => by
        rw [S_truth rfl, bn_s, am_ltU]
        exact ih (i + 1) e F _ _ (by omega) h2 (by omega) (by omega) (EX_t hE (EX_sf rfl)) (st_up hst)
      by_cases hz : st (e - 1) = 0
      · rw [if_pos hz, decide_eq_true hz]
        exact t1 true
      · rw [if_neg hz, decide_eq_false hz]
        exact t1 false
    · subst q1
      subst q2
      rw [show stp 19 = -nI 7 from rfl, if_pos (by decide), if_neg (by decide), if_neg (nI_ngt q3 (by omega)), if_neg (by decide), pk_sub q3]
      simp (disch := omega) only [nI_clamp, am_ckI, ile_t, ile_f, ilt_t, ilt_f, ieq_t, ieq_f, iz_t, iz_f, ilz_f, nI_add, bn_V, am_ltV, am_ckV, cond_V1, cond_V0, bi_ite, ck_bi, ite_T, ite_F, wst_f, hst]
      exact ih (i + 1) e F _ _ (by omega) h2 (by omega) (by omega) (EX_t hE (EX_sf rfl)) (st_up hst)
    · subst q2
      have a1 : stp c ≤ -nI 7 ∧ stp c < -nI 8 := by
        rcases q1 with rfl | rfl | rfl | rfl | rfl | rfl | rfl <;> exact ⟨by decide, by decide⟩
      have a2 : Nat.ble c 5 = false ∧ Nat.ble 100000 c = false ∧ Nat.beq c 13 = false ∧ Nat.beq c 19 = false := by
        rcases q1 with rfl | rfl | rfl | rfl | rfl | rfl | rfl <;> exact ⟨rfl, rfl, rfl, rfl⟩
      rw [if_pos a1.1, if_pos a1.2, ile_f (by omega) (by omega), nI_dec (by omega), pk_sub (by omega), a2.1, a2.2.1, a2.2.2.1, a2.2.2.2]
      simp (disch := omega) only [nI_clamp, am_ckI, ile_t, ile_f, ilt_t, ilt_f, ieq_t, ieq_f, iz_t, iz_f, ilz_f, nI_add, bn_V, am_ltV, am_ckV, cond_V1, cond_V0, bi_ite, ck_bi, ite_T, ite_F, wst_f, hst, S_joined q1, show d - 1 - 1 = d - 2 from by omega]
      exact ih (i + 1) (d - 1) F _ _ (by omega) h2 (by omega) (by omega) (EX_t hE (EX_sf rfl)) (fun j hj => st_up hst j (by omega))
theorem D_saysL {p : Nat} (hX : TX T te tc w) (hT : TD T f w) (hp : p < 3) {nm : Nat → Int32} (hnm : ∀ j, j < 6 → w.1 69 j = nm j) : ∀ (k i d F : Nat) (st : Nat → Int32) (w1 : am_W), d ≤ 64 → hts (tc f) k i d → i + k = te f (p + 1) → k < F → EX (fun a => Nat.beq a 68) w w1 → (∀ j, j < d → w1.1 68 j = st j) → ∃ w2, L_Mod_says_16 F (nI p) (nI d) (nI i) w1 = some (ev (tc f) nm k i d st, w2) ∧ EX (fun a => Nat.beq a 68) w w2 := by
  have hT6 := hT.1
  have ht := hT.2.1
  obtain ⟨x0, x1, x2, x3, x4, x5, x6, x7⟩ := hX f ht
  have hte : te f (p + 1) ≤ te f 3 := by
    match p, hp with
    | 0, _ => exact Nat.le_trans x2 x3
    | 1, _ => exact x3
    | 2, _ => exact Nat.le_refl _
  intro k
  induction k with
  | zero =>
    intro i d F st w1 hd64 hh hi hF hE hst
    obtain ⟨F, rfl⟩ : ∃ j, F = j + 1 := ⟨F - 1, by omega⟩
    have hd : d = 1 := hh
    have hf : w1.1 53 13 = nI f := (congrFun (hE 53 rfl) 13).trans hT.2.2
    have he : w1.1 60 (4 * f + p + 1) = nI (te f (p + 1)) := (congrFun (hE 60 rfl) _).trans (x6 (p + 1) (by omega))
    refine ⟨w1, ?_, hE⟩
    show F_Mod_says_16 _ _ _ _ _ = _
    unfold F_Mod_says_16
    simp (disch := omega) only [nI_clamp, am_ckI, ile_t, ile_f, ilt_t, ilt_f, ieq_t, ieq_f, iz_t, iz_f, ilz_f, nI_add, hf, pk_mul, he, bn_V, am_ltV, am_ckV, cond_V1, cond_V0, bi_ite, ck_bi, ite_T, ite_F, ev]
    rw [hst 0 (by omega)]
  | succ k ih =>
    intro i d F st w1 hd64 hh hi hF hE hst
    obtain ⟨F, rfl⟩ : ∃ j, F = j + 1 := ⟨F - 1, by omega⟩
    obtain ⟨e, h1, h2⟩ := hh
    have hf : w1.1 53 13 = nI f := (congrFun (hE 53 rfl) 13).trans hT.2.2
    have he : w1.1 60 (4 * f + p + 1) = nI (te f (p + 1)) := (congrFun (hE 60 rfl) _).trans (x6 (p + 1) (by omega))
    have hs : w1.1 59 (200 * f + i) = nI (tc f i) := (congrFun (hE 59 rfl) _).trans (x7 i (by omega)).2
    have h69 : ∀ j, j < 6 → w1.1 69 j = nm j := fun j hj => (congrFun (hE 69 rfl) j).trans (hnm j hj)
    show ∃ w2, F_Mod_says_16 _ _ _ _ _ = _ ∧ _
    unfold F_Mod_says_16 F_Mod_says_66 F_Mod_says_93 F_Mod_says_130 F_Mod_says_191
    simp (disch := omega) only [nI_clamp, am_ckI, ile_t, ile_f, ilt_t, ilt_f, ieq_t, ieq_f, iz_t, iz_f, ilz_f, nI_add, hf, pk_mul, he, hs, bn_V, am_ltV, am_ckV, cond_V1, cond_V0, bi_ite, ck_bi, ite_T, ite_F, ev]
    generalize hc : tc f i = c at h1 ⊢
    rcases hgt_c h1 with ⟨q1, q2, q3⟩ | ⟨q0, q1, q2, q3⟩ | ⟨q1, q2, q3⟩ | ⟨q1, q2, q3⟩ | ⟨q1, q2, q3⟩
    · subst q2
      rw [Nat.ble_eq_true_of_le q1, cond_true]
      simp (disch := omega) only [nI_clamp, am_ckI, ile_t, ile_f, ilt_t, ilt_f, ieq_t, ieq_f, iz_t, iz_f, ilz_f, nI_add, bn_V, am_ltV, am_ckV, cond_V1, cond_V0, bi_ite, ck_bi, ite_T, ite_F, h69, wst_f]
      exact ih (i + 1) (d + 1) F _ _ (by omega) h2 (by omega) (by omega) (EX_t hE (EX_sf rfl)) (st_pu hst)
    · subst q2
      rw [show Nat.ble c 5 = false from Bool.eq_false_iff.mpr (fun q => by have := Nat.le_of_ble_eq_true q; omega), Nat.ble_eq_true_of_le q0, cond_false, cond_true]
      simp (disch := omega) only [nI_clamp, am_ckI, ile_t, ile_f, ilt_t, ilt_f, ieq_t, ieq_f, iz_t, iz_f, ilz_f, nI_add, bn_V, am_ltV, am_ckV, cond_V1, cond_V0, bi_ite, ck_bi, ite_T, ite_F, wst_f, pk_sub]
      exact ih (i + 1) (d + 1) F _ _ (by omega) h2 (by omega) (by omega) (EX_t hE (EX_sf rfl)) (st_pu hst)
    · subst q1
      subst q2
      rw [pk_sub q3, nI_dec q3, show Nat.ble 13 5 = false from rfl, show Nat.ble 100000 13 = false from rfl, show Nat.beq 13 13 = true from rfl]
      simp (disch := omega) only [nI_clamp, am_ckI, ile_t, ile_f, ilt_t, ilt_f, ieq_t, ieq_f, iz_t, iz_f, ilz_f, nI_add, bn_V, am_ltV, am_ckV, cond_V1, cond_V0, bi_ite, ck_bi, ite_T, ite_F, wst_f, hst]
      by_cases hz : st (e - 1) = 0
      · rw [if_pos hz, decide_eq_true hz]
        exact ih (i + 1) e F _ _ (by omega) h2 (by omega) (by omega) (EX_t hE (EX_sf rfl)) (st_up hst)
      · rw [if_neg hz, decide_eq_false hz]
        exact ih (i + 1) e F _ _ (by omega) h2 (by omega) (by omega) (EX_t hE (EX_sf rfl)) (st_up hst)
    · subst q1
      subst q2
      rw [pk_sub q3, nI_dec q3, show Nat.ble 19 5 = false from rfl, show Nat.ble 100000 19 = false from rfl, show Nat.beq 19 13 = false from rfl, show Nat.beq 19 19 = true from rfl]
      simp (disch := omega) only [nI_clamp, am_ckI, ile_t, ile_f, ilt_t, ilt_f, ieq_t, ieq_f, iz_t, iz_f, ilz_f, nI_add, bn_V, am_ltV, am_ckV, cond_V1, cond_V0, bi_ite, ck_bi, ite_T, ite_F, wst_f, hst]
      exact ih (i + 1) e F _ _ (by omega) h2 (by omega) (by omega) (EX_t hE (EX_sf rfl)) (st_up hst)
    · subst q2
      have a2 : Nat.ble c 5 = false ∧ Nat.ble 100000 c = false ∧ Nat.beq c 13 = false ∧ Nat.beq c 19 = false ∧ c < 100000 ∧ 11 ≤ c ∧ ¬ c = 13 ∧ ¬ c = 19 := by
        rcases q1 with rfl | rfl | rfl | rfl | rfl | rfl | rfl <;> exact ⟨rfl, rfl, rfl, rfl, by omega, by omega, by omega, by omega⟩
      obtain ⟨b1, b2, b3, b4, b5, b6, b7, b8⟩ := a2
      rw [ile_f b5 (by omega), ile_t b6 (by omega), ieq_f b7 (by omega) (by omega), ieq_f b8 (by omega) (by omega), nI_dec (by omega), pk_sub (by omega), b1, b2, b3, b4]
      simp (disch := omega) only [nI_clamp, am_ckI, ile_t, ile_f, ilt_t, ilt_f, ieq_t, ieq_f, iz_t, iz_f, ilz_f, nI_add, bn_V, am_ltV, am_ckV, cond_V1, cond_V0, bi_ite, ck_bi, ite_T, ite_F, wst_f, hst, D_two q1, show d - 1 - 1 = d - 2 from by omega]
      exact ih (i + 1) (d - 1) F _ _ (by omega) h2 (by omega) (by omega) (EX_t hE (EX_sf rfl)) (fun j hj => st_up hst j (by omega))
end
/-- a value, held within 0 and 99 -/
def cl (q : Int32) : Int32 := if nI 0 < (if q < nI 99 then q else nI 99) then (if q < nI 99 then q else nI 99) else nI 0
theorem cl_nI (q : Int32) : ∃ k, k ≤ 99 ∧ cl q = nI k ∧ cl q = if nI 0 ≤ q then (if q ≤ nI 99 then q else nI 99) else nI 0 := by
  by_cases h1 : q.toInt < 0
  · refine ⟨0, by omega, ?_, ?_⟩
    · unfold cl
      rw [if_pos (Int32.lt_iff_toInt_lt.mpr (by rw [nI_toInt (by omega)]; omega)), if_neg (fun h => by rw [Int32.lt_iff_toInt_lt, nI_toInt (by omega)] at h; omega)]
    · unfold cl
      rw [if_pos (Int32.lt_iff_toInt_lt.mpr (by rw [nI_toInt (by omega)]; omega)), if_neg (fun h => by rw [Int32.lt_iff_toInt_lt, nI_toInt (by omega)] at h; omega), if_neg (fun h => by rw [Int32.le_iff_toInt_le, nI_toInt (by omega)] at h; omega)]
  · by_cases h2 : q.toInt ≤ 99
    · obtain ⟨k, hk⟩ : ∃ k : Nat, q.toInt = (k : Int) := ⟨q.toInt.toNat, by omega⟩
      have hq := nI_ti hk (by omega)
      subst hq
      have hk99 : k ≤ 99 := by omega
      refine ⟨k, hk99, ?_, ?_⟩
      · unfold cl
        match k, hk99 with
        | 0, _ => rfl
        | k + 1, hk99 =>
          by_cases h3 : k + 1 < 99
          · rw [ilt_t h3 (by omega), ilt_t (by omega) (by omega)]
          · rw [ilt_f (by omega) (by omega), ilt_t (by omega) (by omega), show k + 1 = 99 from by omega]
      · unfold cl
        rw [ile_t (by omega) (by omega), ile_t hk99 (by omega)]
        match k, hk99 with
        | 0, _ => rfl
        | k + 1, hk99 =>
          by_cases h3 : k + 1 < 99
          · rw [ilt_t h3 (by omega), ilt_t (by omega) (by omega)]
          · rw [ilt_f (by omega) (by omega), ilt_t (by omega) (by omega), show k + 1 = 99 from by omega]
    · refine ⟨99, by omega, ?_, ?_⟩
      · unfold cl
        rw [if_neg (fun h => by rw [Int32.lt_iff_toInt_lt, nI_toInt (by omega)] at h; omega), ilt_t (by omega) (by omega)]
      · unfold cl
        rw [if_neg (fun h => by rw [Int32.lt_iff_toInt_lt, nI_toInt (by omega)] at h; omega), ilt_t (by omega) (by omega), if_pos (Int32.le_iff_toInt_le.mpr (by rw [nI_toInt (by omega)]; omega)), if_neg (fun h => by rw [Int32.le_iff_toInt_le, nI_toInt (by omega)] at h; omega)]
theorem D_within (q : Int32) (w : am_W) : F_Mod_within q (nI 0) (nI 99) w = some (cl q, w) := by
  obtain ⟨k, _, _, h⟩ := cl_nI q
  rw [h]
  unfold F_Mod_within F_Mod_within_19
  by_cases h1 : nI 0 ≤ q
  · rw [if_pos h1, if_pos h1]
    by_cases h2 : q ≤ nI 99
    · rw [if_pos h2, if_pos h2]
    · rw [if_neg h2, if_neg h2]
  · rw [if_neg h1, if_neg h1]
/-- a lock, or none -/
def lk : Option Nat → Int32
  | none => -nI 1
  | some l => nI l
/-- the names a text is asked with -/
def nmF (v : am_V) (t : Nat) (lo : Option Nat) (h : Nat) (j : Nat) : Int32 := match j with
  | 0 => nI (v 2 t)
  | 1 => (match lo with | none => nI 0 | some l => nI (v 5 l))
  | 2 => nI h
  | 3 => nI t
  | 4 => (match lo with | none => nI 0 | some l => nI (pc (v 6 l) 10))
  | _ => nI (v 1 t)
/-- what part p of text u says of a thing, a lock, an hour -/
def sy (v : am_V) (te tc : Nat → Nat → Nat) (u p t : Nat) (lo : Option Nat) (h : Nat) : Int32 := cl (ev (tc u) (nmF v t lo h) (te u (p + 1) - te u p) (te u p) 0 (fun _ => nI 0))
theorem sy_nI (v : am_V) (te tc : Nat → Nat → Nat) (u p t : Nat) (lo : Option Nat) (h : Nat) : ∃ k, k ≤ 99 ∧ sy v te tc u p t lo h = nI k := by
  obtain ⟨k, h1, h2, _⟩ := cl_nI (ev (tc u) (nmF v t lo h) (te u (p + 1) - te u p) (te u p) 0 (fun _ => nI 0))
  exact ⟨k, h1, h2⟩
section
variable {n m g s T f : Nat} {v : am_V} {te tc : Nat → Nat → Nat} {w : am_W}
theorem names6 {c : Nat} {a : Nat → Int32} : ∀ j, j < 6 → (wsf (wsf (wsf (wsf (wsf (wsf w c 0 (a 0)) c 1 (a 1)) c 2 (a 2)) c 3 (a 3)) c 4 (a 4)) c 5 (a 5)).1 c j = a j := fun j hj => by
  match j, hj with
  | 0, _ => rw [wsf_ne (by omega), wsf_ne (by omega), wsf_ne (by omega), wsf_ne (by omega), wsf_ne (by omega), wsf_at]
  | 1, _ => rw [wsf_ne (by omega), wsf_ne (by omega), wsf_ne (by omega), wsf_ne (by omega), wsf_at]
  | 2, _ => rw [wsf_ne (by omega), wsf_ne (by omega), wsf_ne (by omega), wsf_at]
  | 3, _ => rw [wsf_ne (by omega), wsf_ne (by omega), wsf_at]
  | 4, _ => rw [wsf_ne (by omega), wsf_at]
  | 5, _ => rw [wsf_at]
theorem names6_c {c d j : Nat} {a : Nat → Int32} (h : ¬ d = c) : (wsf (wsf (wsf (wsf (wsf (wsf w c 0 (a 0)) c 1 (a 1)) c 2 (a 2)) c 3 (a 3)) c 4 (a 4)) c 5 (a 5)).1 d j = w.1 d j := by
  rw [wsf_nc (nbf h), wsf_nc (nbf h), wsf_nc (nbf h), wsf_nc (nbf h), wsf_nc (nbf h), wsf_nc (nbf h)]
theorem S_worth {w1 : am_W} (hX : TX T te tc w1) (hT : T ≤ 6) {u p : Nat} (hu : u < T) (hp : p < 3) {nm : Nat → Int32} (hnm : ∀ j, j < 6 → w1.1 34 j = nm j) : ∃ w2, F_Law_worth (nI u) (nI p) w1 = some (ev (tc u) nm (te u (p + 1) - te u p) (te u p) 0 (fun _ => nI 0), w2) ∧ EX (fun a => Nat.beq a 35) w1 w2 := by
  obtain ⟨x0, x1, x2, x3, x4, x5, x6, x7⟩ := hX u hu
  have hle : te u p ≤ te u (p + 1) ∧ te u (p + 1) ≤ 160 := by
    match p, hp with
    | 0, _ => exact ⟨x1, by omega⟩
    | 1, _ => exact ⟨x2, by omega⟩
    | 2, _ => exact ⟨x3, by omega⟩
  obtain ⟨w2, e2, k2⟩ := S_worthL hX hT hu hp hnm (te u (p + 1) - te u p) (te u p) 0 am_NF (fun _ => nI 0) w1 (by omega) (x5 p hp).2 (by omega) (by show _ < 4000; omega) (EX_r _ _) (fun j hj => by omega)
  refine ⟨w2, ?_, k2⟩
  unfold F_Law_worth F_Law_worth_20
  match p, hp with
  | 0, _ =>
    rw [x0] at e2
    rw [iz_t rfl]
    rw [x0]
    exact e2
  | 1, _ =>
    have := (x5 0 (by omega)).1
    rw [iz_f (by omega) (by omega), pk_sub (by omega)]
    simp (disch := omega) only [nI_clamp, am_ckI, ile_t, ile_f, ilt_t, ilt_f, ieq_t, ieq_f, iz_t, iz_f, ilz_f, nI_add, bn_V, am_ltV, am_ckV, cond_V1, cond_V0, bi_ite, ck_bi, ite_T, ite_F, this]
    exact e2
  | 2, _ =>
    have := (x5 1 (by omega)).1
    rw [iz_f (by omega) (by omega), pk_sub (by omega)]
    simp (disch := omega) only [nI_clamp, am_ckI, ile_t, ile_f, ilt_t, ilt_f, ieq_t, ieq_f, iz_t, iz_f, ilz_f, nI_add, bn_V, am_ltV, am_ckV, cond_V1, cond_V0, bi_ite, ck_bi, ite_T, ite_F, this]
    exact e2
def ss34 (a : Nat) : Bool := Nat.beq a 34 || Nat.beq a 35
def ss68 (a : Nat) : Bool := Nat.beq a 68 || Nat.beq a 69
theorem KP_34 {a b : am_W} (h : EX ss34 a b) : KP a b := KP_ex (fun c hc j => by
  unfold ss34 at hc
  rw [Bool.or_eq_true] at hc
  rcases hc with hc | hc <;> rw [Nat.eq_of_beq_eq_true hc] <;> rfl) h
theorem KP_68 {a b : am_W} (h : EX ss68 a b) : KP a b := KP_ex (fun c hc j => by
  unfold ss68 at hc
  rw [Bool.or_eq_true] at hc
  rcases hc with hc | hc <;> rw [Nat.eq_of_beq_eq_true hc] <;> rfl) h
theorem EX_6 {S : Nat → Bool} {c : Nat} {a : Nat → Int32} (h : S c = true) : EX S w (wsf (wsf (wsf (wsf (wsf (wsf w c 0 (a 0)) c 1 (a 1)) c 2 (a 2)) c 3 (a 3)) c 4 (a 4)) c 5 (a 5)) := EX_t (EX_t (EX_t (EX_t (EX_t (EX_sf h) (EX_sf h)) (EX_sf h)) (EX_sf h)) (EX_sf h)) (EX_sf h)
theorem S_says (hV : VI n m v) (hC : CC n m g s v w) (hX : TX T te tc w) (hT : T ≤ 6) {u p t h : Nat} {lo : Option Nat} (hu : u < T) (hp : p < 3) (ht : t < n) (hl : ∀ l, lo = some l → l < m) : ∃ w2, F_Law_says (nI u) (nI p) (nI t) (lk lo) (nI h) w = some (sy v te tc u p t lo h, w2) ∧ EX ss34 w w2 := by
  have hn := hV.1
  have hm := hV.2.1
  have hX6 : TX T te tc (wsf (wsf (wsf (wsf (wsf (wsf w 34 0 (nmF v t lo h 0)) 34 1 (nmF v t lo h 1)) 34 2 (nmF v t lo h 2)) 34 3 (nmF v t lo h 3)) 34 4 (nmF v t lo h 4)) 34 5 (nmF v t lo h 5)) := TX_fr (A := fun a => Nat.beq a 0) rfl (KP_34 (EX_6 (a := nmF v t lo h) rfl)) hX hT
  obtain ⟨w2, e2, k2⟩ := S_worth hX6 hT hu hp (names6 (a := nmF v t lo h))
  refine ⟨w2, ?_, EX_t (EX_6 (a := nmF v t lo h) rfl) (EX_m (fun c hc => by
    unfold ss34 at hc
    rw [Bool.or_eq_false_iff] at hc
    exact hc.2) k2)⟩
  obtain ⟨t1, t2, t3⟩ := hC.2.2.2.2.2.1 t ht
  unfold F_Law_says F_Law_says_40 F_Law_says_84
  match lo, hl with
  | none, hl =>
    have q1 : ∀ x0 x1 x2 x3 x4, (wsf (wsf (wsf (wsf (wsf w 34 0 x0) 34 1 x1) 34 2 x2) 34 3 x3) 34 4 x4).1 2 t = nI (v 1 t) := fun x0 x1 x2 x3 x4 => by rw [wsf_nc rfl, wsf_nc rfl, wsf_nc rfl, wsf_nc rfl, wsf_nc rfl]; exact t1
    rw [show lk none = -nI 1 from rfl]
    simp (disch := omega) only [nI_clamp, am_ckI, ile_t, ile_f, ilt_t, ilt_f, ieq_t, ieq_f, iz_t, iz_f, ilz_f, nI_add, bn_V, am_ltV, am_ckV, cond_V1, cond_V0, bi_ite, ck_bi, ite_T, ite_F, t2, wst_f, q1, if_true]
    rw [show wsf (wsf (wsf (wsf (wsf (wsf w 34 0 (nI (v 2 t))) 34 1 (nI 0)) 34 2 (nI h)) 34 3 (nI t)) 34 4 (nI 0)) 34 5 (nI (v 1 t)) = wsf (wsf (wsf (wsf (wsf (wsf w 34 0 (nmF v t none h 0)) 34 1 (nmF v t none h 1)) 34 2 (nmF v t none h 2)) 34 3 (nmF v t none h 3)) 34 4 (nmF v t none h 4)) 34 5 (nmF v t none h 5) from rfl, e2, bn_s]
    rfl
  | some l, hl =>
    have hlm := hl l rfl
    obtain ⟨l1, l2, l3, l4⟩ := hC.2.2.2.2.2.2 l hlm
    obtain ⟨m1, m2, m3, m4⟩ := hV.2.2.2 l hlm
    have q1 : ∀ x0 x1 x2 x3 x4, (wsf (wsf (wsf (wsf (wsf w 34 0 x0) 34 1 x1) 34 2 x2) 34 3 x3) 34 4 x4).1 2 t = nI (v 1 t) := fun x0 x1 x2 x3 x4 => by rw [wsf_nc rfl, wsf_nc rfl, wsf_nc rfl, wsf_nc rfl, wsf_nc rfl]; exact t1
    have q2 : ∀ x0, (wsf w 34 0 x0).1 6 l = nI (v 5 l) := fun x0 => by rw [wsf_nc rfl]; exact l2
    have q3 : ∀ x0 x1 x2 x3, (wsf (wsf (wsf (wsf w 34 0 x0) 34 1 x1) 34 2 x2) 34 3 x3).1 7 l = nI (v 6 l) := fun x0 x1 x2 x3 => by rw [wsf_nc rfl, wsf_nc rfl, wsf_nc rfl, wsf_nc rfl]; exact l3
    rw [show lk (some l) = nI l from rfl, if_neg (m1_ne (by omega)), if_neg (m1_ne (by omega))]
    simp (disch := omega) only [nI_clamp, am_ckI, ile_t, ile_f, ilt_t, ilt_f, ieq_t, ieq_f, iz_t, iz_f, ilz_f, nI_add, bn_V, am_ltV, am_ckV, cond_V1, cond_V0, bi_ite, ck_bi, ite_T, ite_F, t2, wst_f, q2, q3, S_bits m3, q1]
    rw [show wsf (wsf (wsf (wsf (wsf (wsf w 34 0 (nI (v 2 t))) 34 1 (nI (v 5 l))) 34 2 (nI h)) 34 3 (nI t)) 34 4 (nI (pc (v 6 l) 10))) 34 5 (nI (v 1 t)) = wsf (wsf (wsf (wsf (wsf (wsf w 34 0 (nmF v t (some l) h 0)) 34 1 (nmF v t (some l) h 1)) 34 2 (nmF v t (some l) h 2)) 34 3 (nmF v t (some l) h 3)) 34 4 (nmF v t (some l) h 4)) 34 5 (nmF v t (some l) h 5) from rfl, e2, bn_s]
    rfl
theorem D_says {w1 : am_W} (hX : TX T te tc w1) (hT : TD T f w1) {p : Nat} (hp : p < 3) {nm : Nat → Int32} (hnm : ∀ j, j < 6 → w1.1 69 j = nm j) : ∃ w2, F_Mod_says (nI p) w1 = some (ev (tc f) nm (te f (p + 1) - te f p) (te f p) 0 (fun _ => nI 0), w2) ∧ EX (fun a => Nat.beq a 68) w1 w2 := by
  have hT6 := hT.1
  have hf := hT.2.1
  obtain ⟨x0, x1, x2, x3, x4, x5, x6, x7⟩ := hX f hf
  have hle : te f p ≤ te f (p + 1) ∧ te f (p + 1) ≤ 160 := by
    match p, hp with
    | 0, _ => exact ⟨x1, by omega⟩
    | 1, _ => exact ⟨x2, by omega⟩
    | 2, _ => exact ⟨x3, by omega⟩
  obtain ⟨w2, e2, k2⟩ := D_saysL hX hT hp hnm (te f (p + 1) - te f p) (te f p) 0 am_NF (fun _ => nI 0) w1 (by omega) (x5 p hp).2 (by omega) (by show _ < 4000; omega) (EX_r _ _) (fun j hj => by omega)
  refine ⟨w2, ?_, k2⟩
  have h60 := x6 p (by omega)
  unfold F_Mod_says
  simp (disch := omega) only [hT.2.2, pk_mul, nI_clamp, am_ckI, ile_t, ile_f, ilt_t, ilt_f, ieq_t, ieq_f, iz_t, iz_f, ilz_f, nI_add, bn_V, am_ltV, am_ckV, cond_V1, cond_V0, bi_ite, ck_bi, ite_T, ite_F, h60]
  exact e2
theorem D_asks (hV : VI n m v) (hM : MM n m g s v w) (hX : TX T te tc w) (hT : TD T f w) {p t h : Nat} {lo : Option Nat} (hp : p < 3) (ht : t < n) (hl : ∀ l, lo = some l → l < m) : ∃ w2, F_Mod_asksOf (nI p) (nI t) (lk lo) (nI h) w = some (sy v te tc f p t lo h, w2) ∧ EX ss68 w w2 := by
  have hn := hV.1
  have hm := hV.2.1
  have kp : KP w (wsf (wsf (wsf (wsf (wsf (wsf w 69 0 (nmF v t lo h 0)) 69 1 (nmF v t lo h 1)) 69 2 (nmF v t lo h 2)) 69 3 (nmF v t lo h 3)) 69 4 (nmF v t lo h 4)) 69 5 (nmF v t lo h 5)) := KP_68 (EX_6 (a := nmF v t lo h) rfl)
  obtain ⟨w2, e2, k2⟩ := D_says (TX_fr (A := fun a => Nat.beq a 0) rfl kp hX hT.1) (TD_fr (A := fun a => Nat.beq a 0) rfl kp hT) hp (names6 (a := nmF v t lo h))
  refine ⟨w2, ?_, EX_t (EX_6 (a := nmF v t lo h) rfl) (EX_m (fun c hc => by
    unfold ss68 at hc
    rw [Bool.or_eq_false_iff] at hc
    exact hc.1) k2)⟩
  obtain ⟨t1, t2, t3⟩ := hM.2.2.2.2.1 t ht
  unfold F_Mod_asksOf F_Mod_asksOf_31 F_Mod_asksOf_69
  match lo, hl with
  | none, hl =>
    have q1 : ∀ x0 x1 x2 x3 x4, (wsf (wsf (wsf (wsf (wsf w 69 0 x0) 69 1 x1) 69 2 x2) 69 3 x3) 69 4 x4).1 54 t = nI (v 1 t) := fun x0 x1 x2 x3 x4 => by rw [wsf_nc rfl, wsf_nc rfl, wsf_nc rfl, wsf_nc rfl, wsf_nc rfl]; exact t1
    rw [show lk none = -nI 1 from rfl]
    simp (disch := omega) only [nI_clamp, am_ckI, ile_t, ile_f, ilt_t, ilt_f, ieq_t, ieq_f, iz_t, iz_f, ilz_f, nI_add, bn_V, am_ltV, am_ckV, cond_V1, cond_V0, bi_ite, ck_bi, ite_T, ite_F, t2, wst_f, q1, if_true]
    rw [show wsf (wsf (wsf (wsf (wsf (wsf w 69 0 (nI (v 2 t))) 69 1 (nI 0)) 69 2 (nI h)) 69 3 (nI t)) 69 4 (nI 0)) 69 5 (nI (v 1 t)) = wsf (wsf (wsf (wsf (wsf (wsf w 69 0 (nmF v t none h 0)) 69 1 (nmF v t none h 1)) 69 2 (nmF v t none h 2)) 69 3 (nmF v t none h 3)) 69 4 (nmF v t none h 4)) 69 5 (nmF v t none h 5) from rfl, e2, bn_s]
    dsimp only
    rw [D_within]
    rfl
  | some l, hl =>
    have hlm := hl l rfl
    obtain ⟨m1, m2, m3, m4⟩ := hV.2.2.2 l hlm
    have q1 : ∀ x0 x1 x2 x3 x4, (wsf (wsf (wsf (wsf (wsf w 69 0 x0) 69 1 x1) 69 2 x2) 69 3 x3) 69 4 x4).1 54 t = nI (v 1 t) := fun x0 x1 x2 x3 x4 => by rw [wsf_nc rfl, wsf_nc rfl, wsf_nc rfl, wsf_nc rfl, wsf_nc rfl]; exact t1
    have q2 : ∀ x0, F_Mod_sortOf (nI l) (wsf w 69 0 x0) = some (nI (v 5 l), wsf w 69 0 x0) := fun x0 => D_sortOf hV (w := wsf w 69 0 x0) hM hlm
    have q3 : ∀ x0 x1 x2 x3, F_Mod_through (nI l) (wsf (wsf (wsf (wsf w 69 0 x0) 69 1 x1) 69 2 x2) 69 3 x3) = some (nI (v 6 l), wsf (wsf (wsf (wsf w 69 0 x0) 69 1 x1) 69 2 x2) 69 3 x3) := fun x0 x1 x2 x3 => D_through hV (w := wsf (wsf (wsf (wsf w 69 0 x0) 69 1 x1) 69 2 x2) 69 3 x3) hM hlm
    rw [show lk (some l) = nI l from rfl, if_neg (m1_ne (by omega)), if_neg (m1_ne (by omega))]
    simp (disch := omega) only [nI_clamp, am_ckI, ile_t, ile_f, ilt_t, ilt_f, ieq_t, ieq_f, iz_t, iz_f, ilz_f, nI_add, bn_V, am_ltV, am_ckV, cond_V1, cond_V0, bi_ite, ck_bi, ite_T, ite_F, t2, wst_f, q2, q3, D_ones, q1]
    rw [show wsf (wsf (wsf (wsf (wsf (wsf w 69 0 (nI (v 2 t))) 69 1 (nI (v 5 l))) 69 2 (nI h)) 69 3 (nI t)) 69 4 (nI (pc (v 6 l) 10))) 69 5 (nI (v 1 t)) = wsf (wsf (wsf (wsf (wsf (wsf w 69 0 (nmF v t (some l) h 0)) 69 1 (nmF v t (some l) h 1)) 69 2 (nmF v t (some l) h 2)) 69 3 (nmF v t (some l) h 3)) 69 4 (nmF v t (some l) h 4)) 69 5 (nmF v t (some l) h 5) from rfl, e2, bn_s]
    dsimp only
    rw [D_within]
    rfl
end
