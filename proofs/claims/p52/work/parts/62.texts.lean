/-! ===== what a text says ===== -/
/-- a sign between two -/
def jn (x : Nat) (a b : Int32) : Int32 := match x with
  | 11 => bi (!(decide (a = 0)) || !(decide (b = 0)))
  | 12 => bi (!(decide (a = 0)) && !(decide (b = 0)))
  | 14 => bi (!(decide (b ≤ a)))
  | 15 => bi (decide (a = b))
  | 16 => a + b
  | 17 => a - b
  | _ => a * b
/-- codes from i on, over a stack of height d -/
def ev (c : Nat → Nat) (nm : Nat → Int32) : Nat → Nat → Nat → (Nat → Int32) → Int32
  | 0, _, _, st => st 0
  | k + 1, i, d, st => bif Nat.ble (c i) 5 then ev c nm k (i + 1) (d + 1) (upd st d (nm (c i))) else bif Nat.ble 100000 (c i) then ev c nm k (i + 1) (d + 1) (upd st d (nI (c i - 100000))) else bif Nat.beq (c i) 13 then ev c nm k (i + 1) d (upd st (d - 1) (bi (decide (st (d - 1) = 0)))) else bif Nat.beq (c i) 19 then ev c nm k (i + 1) d (upd st (d - 1) (-(st (d - 1)))) else ev c nm k (i + 1) (d - 1) (upd st (d - 2) (jn (c i) (st (d - 2)) (st (d - 1))))
/-- the sorts of codes that can stand over a height -/
theorem hgt_c {c d e : Nat} (h : hgt c d = some e) : (c ≤ 5 ∧ e = d + 1 ∧ d < 64) ∨ (100000 ≤ c ∧ c ≤ 109999 ∧ e = d + 1 ∧ d < 64) ∨ (c = 13 ∧ e = d ∧ 1 ≤ d) ∨ (c = 19 ∧ e = d ∧ 1 ≤ d) ∨ ((c = 11 ∨ c = 12 ∨ c = 14 ∨ c = 15 ∨ c = 16 ∨ c = 17 ∨ c = 18) ∧ e = d - 1 ∧ 2 ≤ d) := by
  unfold hgt at h
  cases h1 : Nat.ble 100000 c && Nat.ble c 109999 || Nat.ble c 5 with
  | true =>
    rw [h1, cond_true] at h
    cases h2 : Nat.ble (d + 1) 64 with
    | false => rw [h2] at h; cases h
    | true =>
      rw [h2] at h
      have h2 := Nat.le_of_ble_eq_true h2
      have he : d + 1 = e := Option.some.inj h
      rw [Bool.or_eq_true, Bool.and_eq_true] at h1
      rcases h1 with h1 | h1
      · exact Or.inr (Or.inl ⟨Nat.le_of_ble_eq_true h1.1, Nat.le_of_ble_eq_true h1.2, he.symm, h2⟩)
      · exact Or.inl ⟨Nat.le_of_ble_eq_true h1, he.symm, h2⟩
  | false =>
    rw [h1, cond_false] at h
    cases h3 : Nat.beq c 13 || Nat.beq c 19 with
    | true =>
      rw [h3, cond_true] at h
      cases h2 : Nat.ble 1 d with
      | false => rw [h2] at h; cases h
      | true =>
        rw [h2] at h
        have h2 := Nat.le_of_ble_eq_true h2
        have he : d = e := Option.some.inj h
        rw [Bool.or_eq_true] at h3
        rcases h3 with h3 | h3
        · exact Or.inr (Or.inr (Or.inl ⟨Nat.eq_of_beq_eq_true h3, he.symm, h2⟩))
        · exact Or.inr (Or.inr (Or.inr (Or.inl ⟨Nat.eq_of_beq_eq_true h3, he.symm, h2⟩)))
    | false =>
      rw [h3, cond_false] at h
      cases h4 : Nat.ble 11 c && Nat.ble c 18 with
      | false => rw [h4] at h; cases h
      | true =>
        rw [h4, cond_true] at h
        cases h2 : Nat.ble 2 d with
        | false => rw [h2] at h; cases h
        | true =>
          rw [h2] at h
          have h2 := Nat.le_of_ble_eq_true h2
          have he : d - 1 = e := Option.some.inj h
          rw [Bool.and_eq_true] at h4
          have q1 := Nat.le_of_ble_eq_true h4.1
          have q2 := Nat.le_of_ble_eq_true h4.2
          rw [Bool.or_eq_false_iff] at h3
          have q3 : ¬ c = 13 := Nat.ne_of_beq_eq_false h3.1
          exact Or.inr (Or.inr (Or.inr (Or.inr ⟨by omega, he.symm, h2⟩)))
theorem S_truth {x : Int32} {b : Bool} (h : x = bi b) {w : am_W} : F_Law_truth x w = some (bi b, w) := by
  subst h
  unfold F_Law_truth F_Law_truth_9
  rw [bi_ite]
  cases b <;> rfl
theorem S_joined {x : Nat} (hx : x = 11 ∨ x = 12 ∨ x = 14 ∨ x = 15 ∨ x = 16 ∨ x = 17 ∨ x = 18) (a b : Int32) (w : am_W) : F_Law_joined (stp x) a b w = some (jn x a b, w) := by
  have ti : ∀ n : Nat, n < 100 → (-nI n : Int32).toInt = -(n : Int) := by decide +kernel
  unfold F_Law_joined F_Law_joined_92 F_Law_joined_93 F_Law_joined_76 F_Law_joined_62 F_Law_joined_105 F_Law_joined_110
  rcases hx with rfl | rfl | rfl | rfl | rfl | rfl | rfl
  · rw [show stp 11 = -nI 15 from rfl, ti 15 (by omega)]
    simp only [reduceIte, Nat.reduceAdd, Int.reduceNeg, Int.reduceEq, Int.cast_ofNat_Int]
    unfold jn
    by_cases h1 : a = 0
    · by_cases h2 : b = 0
      · rw [if_pos h1, if_pos h2, decide_eq_true h1, decide_eq_true h2]; rfl
      · rw [if_pos h1, if_neg h2, decide_eq_true h1, decide_eq_false h2]; rfl
    · rw [if_neg h1, decide_eq_false h1]; rfl
  · rw [show stp 12 = -nI 14 from rfl, ti 14 (by omega)]
    simp only [reduceIte, Int.reduceNeg, Int.reduceEq, Int.cast_ofNat_Int]
    unfold jn
    by_cases h1 : a = 0
    · rw [if_pos h1, decide_eq_true h1]; rfl
    · by_cases h2 : b = 0
      · rw [if_neg h1, if_pos h2, decide_eq_false h1, decide_eq_true h2]; rfl
      · rw [if_neg h1, if_neg h2, decide_eq_false h1, decide_eq_false h2]; rfl
  · rw [show stp 14 = -nI 12 from rfl, ti 12 (by omega)]
    simp only [reduceIte, Int.reduceNeg, Int.reduceEq, Int.cast_ofNat_Int]
    unfold jn
    by_cases h1 : b ≤ a
    · rw [if_pos h1, decide_eq_true h1]; rfl
    · rw [if_neg h1, decide_eq_false h1]; rfl
  · rw [show stp 15 = -nI 13 from rfl, ti 13 (by omega)]
    simp only [reduceIte, Int.reduceNeg, Int.reduceEq, Int.cast_ofNat_Int]
    unfold jn
    by_cases h1 : a = b
    · rw [if_pos h1, decide_eq_true h1]; rfl
    · rw [if_neg h1, decide_eq_false h1]; rfl
  · rw [show stp 16 = -nI 10 from rfl, ti 10 (by omega)]
    simp only [reduceIte, Int.reduceNeg, Int.reduceEq, Int.cast_ofNat_Int]
    rfl
  · rw [show stp 17 = -nI 11 from rfl, ti 11 (by omega)]
    simp only [reduceIte, Int.reduceNeg, Int.reduceEq, Int.cast_ofNat_Int]
    rfl
  · rw [show stp 18 = -nI 9 from rfl, ti 9 (by omega)]
    simp only [reduceIte, Int.reduceNeg, Int.reduceEq, Int.cast_ofNat_Int]
    rfl
theorem nI_dec {d : Nat} (h : 1 ≤ d) : nI d + (-nI 1) = nI (d - 1) := by
  rw [← Int32.sub_eq_add_neg, pk_sub h]
theorem nI_ngt {d : Nat} (h : 1 ≤ d) (hd : d < 2 ^ 31) : ¬ nI d ≤ 0 := fun q => by
  rw [Int32.le_iff_toInt_le, nI_toInt hd, ti_0] at q
  omega
theorem upd_at {f : Nat → Int32} {j : Nat} {x : Int32} : upd f j x j = x := if_pos rfl
theorem upd_ne {f : Nat → Int32} {i j : Nat} {x : Int32} (h : ¬ i = j) : upd f j x i = f i := if_neg h
theorem st_up {w1 : am_W} {c d j : Nat} {x : Int32} {st : Nat → Int32} (h : ∀ i, i < d → w1.1 c i = st i) : ∀ i, i < d → (wsf w1 c j x).1 c i = upd st j x i := fun i hi => by
  by_cases e : i = j
  · rw [e, wsf_at, upd_at]
  · rw [wsf_ne e, upd_ne e, h i hi]
theorem st_pu {w1 : am_W} {c d : Nat} {x : Int32} {st : Nat → Int32} (h : ∀ i, i < d → w1.1 c i = st i) : ∀ i, i < d + 1 → (wsf w1 c d x).1 c i = upd st d x i := fun i hi => by
  by_cases e : i = d
  · rw [e, wsf_at, upd_at]
  · rw [wsf_ne e, upd_ne e, h i (by omega)]
/-- the text in force, to each -/
def TS (T f : Nat) (w : am_W) : Prop := T ≤ 6 ∧ f < T ∧ w.1 17 2 = nI f
def TD (T f : Nat) (w : am_W) : Prop := T ≤ 6 ∧ f < T ∧ w.1 53 13 = nI f
theorem TS_fr {T f : Nat} {w w2 : am_W} {A : Nat → Bool} (hA : A 7 = false) (k : FRA A w w2) (h : TS T f w) : TS T f w2 := ⟨h.1, h.2.1, (k 17 2 hA).trans h.2.2⟩
theorem TD_fr {T f : Nat} {w w2 : am_W} {A : Nat → Bool} (hA : A 7 = false) (k : FRA A w w2) (h : TD T f w) : TD T f w2 := ⟨h.1, h.2.1, (k 53 13 hA).trans h.2.2⟩
section
variable {T f : Nat} {te tc : Nat → Nat → Nat} {w : am_W}
theorem S_worthL {t p : Nat} (hX : TX T te tc w) (hT : T ≤ 6) (ht : t < T) (hp : p < 3) {nm : Nat → Int32} (hnm : ∀ j, j < 6 → w.1 34 j = nm j) : ∀ (k i d F : Nat) (st : Nat → Int32) (w1 : am_W), d ≤ 64 → hts (tc t) k i d → i + k = te t (p + 1) → k < F → EX (fun a => Nat.beq a 35) w w1 → (∀ j, j < d → w1.1 35 j = st j) → ∃ w2, L_Law_worth_22 F (nI t) (nI p) (nI d) (nI i) w1 = some (ev (tc t) nm k i d st, w2) ∧ EX (fun a => Nat.beq a 35) w w2 := by
  obtain ⟨x0, x1, x2, x3, x4, x5, x6, x7⟩ := hX t ht
  have hte : te t (p + 1) ≤ te t 3 := by
    match p, hp with
    | 0, _ => exact Nat.le_trans x2 x3
    | 1, _ => exact x3
    | 2, _ => exact Nat.le_refl _
  intro k
  induction k with
  | zero =>
    intro i d F st w1 hd64 hh hi hF hE hst
    obtain ⟨F, rfl⟩ : ∃ j, F = j + 1 := ⟨F - 1, by omega⟩
    have hd : d = 1 := hh
    have he : w1.1 (27 + 1 + t) p = nI (te t (p + 1)) := (congrFun (hE _ (nbf (by omega))) p).trans (x5 p hp).1
    refine ⟨w1, ?_, hE⟩
    show F_Law_worth_22 _ _ _ _ _ _ = _
    unfold F_Law_worth_22
    simp (disch := omega) only [nI_clamp, am_ckI, ile_t, ile_f, ilt_t, ilt_f, ieq_t, ieq_f, iz_t, iz_f, ilz_f, nI_add, he, bn_V, am_ltV, am_ckV, cond_V1, cond_V0, bi_ite, ck_bi, ite_T, ite_F, ev]
    rw [hst 0 (by omega)]
  | succ k ih =>
    intro i d F st w1 hd64 hh hi hF hE hst
    obtain ⟨F, rfl⟩ : ∃ j, F = j + 1 := ⟨F - 1, by omega⟩
    obtain ⟨e, h1, h2⟩ := hh
    have he : w1.1 (27 + 1 + t) p = nI (te t (p + 1)) := (congrFun (hE _ (nbf (by omega))) p).trans (x5 p hp).1
    have hs : w1.1 (20 + 1 + t) i = stp (tc t i) := (congrFun (hE _ (nbf (by omega))) i).trans (x7 i (by omega)).1
    have h34 : ∀ j, j < 6 → w1.1 34 j = nm j := fun j hj => (congrFun (hE 34 rfl) j).trans (hnm j hj)
    show ∃ w2, F_Law_worth_22 _ _ _ _ _ _ = _ ∧ _
    unfold F_Law_worth_22 F_Law_worth_83 F_Law_worth_131 F_Law_worth_146 F_Law_worth_185
    simp (disch := omega) only [nI_clamp, am_ckI, ile_t, ile_f, ilt_t, ilt_f, ieq_t, ieq_f, iz_t, iz_f, ilz_f, nI_add, he, hs, bn_V, am_ltV, am_ckV, cond_V1, cond_V0, bi_ite, ck_bi, ite_T, ite_F, ev]
    generalize hc : tc t i = c at h1 ⊢
    rcases hgt_c h1 with ⟨q1, q2, q3⟩ | ⟨q0, q1, q2, q3⟩ | ⟨q1, q2, q3⟩ | ⟨q1, q2, q3⟩ | ⟨q1, q2, q3⟩
    · subst q2
      have hstp : stp c = -nI 1 - nI c ∧ ¬ (-nI 1 - nI c ≤ -nI 7) ∧ -nI 1 - nI c < 0 ∧ -nI 1 - (-nI 1 - nI c) = nI c := by
        match c, q1 with
        | 0, _ => exact ⟨rfl, by decide, by decide, by decide⟩
        | 1, _ => exact ⟨rfl, by decide, by decide, by decide⟩
        | 2, _ => exact ⟨rfl, by decide, by decide, by decide⟩
        | 3, _ => exact ⟨rfl, by decide, by decide, by decide⟩
        | 4, _ => exact ⟨rfl, by decide, by decide, by decide⟩
        | 5, _ => exact ⟨rfl, by decide, by decide, by decide⟩
      rw [hstp.1, if_neg hstp.2.1, if_pos hstp.2.2.1, hstp.2.2.2, Nat.ble_eq_true_of_le q1, cond_true]
      simp (disch := omega) only [nI_clamp, am_ckI, ile_t, ile_f, ilt_t, ilt_f, ieq_t, ieq_f, iz_t, iz_f, ilz_f, nI_add, bn_V, am_ltV, am_ckV, cond_V1, cond_V0, bi_ite, ck_bi, ite_T, ite_F, h34, wst_f]
      exact ih (i + 1) (d + 1) F _ _ (by omega) h2 (by omega) (by omega) (EX_t hE (EX_sf rfl)) (st_pu hst)
    · subst q2
      have hstp : stp c = nI (c - 100000) := by
        unfold stp
        rw [Nat.ble_eq_true_of_le q0]; rfl
      have h7 : ¬ nI (c - 100000) ≤ -nI 7 := fun q => by
        rw [Int32.le_iff_toInt_le, nI_toInt (by omega), show (-nI 7 : Int32).toInt = -7 from by decide] at q
        omega
      rw [hstp, if_neg h7, if_neg (nI_pos (by omega)), show Nat.ble c 5 = false from Bool.eq_false_iff.mpr (fun q => by have := Nat.le_of_ble_eq_true q; omega), Nat.ble_eq_true_of_le q0, cond_false, cond_true]
      simp (disch := omega) only [nI_clamp, am_ckI, ile_t, ile_f, ilt_t, ilt_f, ieq_t, ieq_f, iz_t, iz_f, ilz_f, nI_add, bn_V, am_ltV, am_ckV, cond_V1, cond_V0, bi_ite, ck_bi, ite_T, ite_F, wst_f]
      exact ih (i + 1) (d + 1) F _ _ (by omega) h2 (by omega) (by omega) (EX_t hE (EX_sf rfl)) (st_pu hst)
    · subst q1
      subst q2
      rw [show stp 13 = -nI 8 from rfl, if_pos (by decide), if_neg (by decide), if_neg (nI_ngt q3 (by omega)), if_pos rfl, pk_sub q3]
      simp (disch := omega) only [nI_clamp, am_ckI, ile_t, ile_f, ilt_t, ilt_f, ieq_t, ieq_f, iz_t, iz_f, ilz_f, nI_add, bn_V, am_ltV, am_ckV, cond_V1, cond_V0, bi_ite, ck_bi, ite_T, ite_F, wst_f, hst]
      have t1 : ∀ b, ∃ w2, (F_Law_truth (bi b) w1).bind (fun q => am_lt (wsf q.2 35 (e - 1) q.1) fun w6 => L_Law_worth_22 F (nI t) (nI p) (nI e) (nI (i + 1)) w6) = some (ev (tc t) nm k (i + 1) e (upd st (e - 1) (bi b)), w2) ∧ EX (fun a => Nat.beq a 35) w w2 := fun b => by
        rw [S_truth rfl, bn_s, am_ltU]
        exact ih (i + 1) e F _ _ (by omega) h2 (by omega) (by omega) (EX_t hE (EX_sf rfl)) (st_up hst)
      by_cases hz : st (e - 1) = 0
      · rw [if_pos hz, decide_eq_true hz]
        exact t1 true
      · rw [if_neg hz, decide_eq_false hz]
        exact t1 false
    · subst q1
      subst q2
      rw [show stp 19 = -nI 7 from rfl, if_pos (by decide), if_neg (by decide), if_neg (nI_ngt q3 (by omega)), if_neg (by decide), pk_sub q3]
      simp (disch := omega) only [nI_clamp, am_ckI, ile_t, ile_f, ilt_t, ilt_f, ieq_t, ieq_f, iz_t, iz_f, ilz_f, nI_add, bn_V, am_ltV, am_ckV, cond_V1, cond_V0, bi_ite, ck_bi, ite_T, ite_F, wst_f, hst]
      exact ih (i + 1) e F _ _ (by omega) h2 (by omega) (by omega) (EX_t hE (EX_sf rfl)) (st_up hst)
    · subst q2
      have a1 : stp c ≤ -nI 7 ∧ stp c < -nI 8 := by
        rcases q1 with rfl | rfl | rfl | rfl | rfl | rfl | rfl <;> exact ⟨by decide, by decide⟩
      have a2 : Nat.ble c 5 = false ∧ Nat.ble 100000 c = false ∧ Nat.beq c 13 = false ∧ Nat.beq c 19 = false := by
        rcases q1 with rfl | rfl | rfl | rfl | rfl | rfl | rfl <;> exact ⟨rfl, rfl, rfl, rfl⟩
      rw [if_pos a1.1, if_pos a1.2, ile_f (by omega) (by omega), nI_dec (by omega), pk_sub (by omega), a2.1, a2.2.1, a2.2.2.1, a2.2.2.2]
      simp (disch := omega) only [nI_clamp, am_ckI, ile_t, ile_f, ilt_t, ilt_f, ieq_t, ieq_f, iz_t, iz_f, ilz_f, nI_add, bn_V, am_ltV, am_ckV, cond_V1, cond_V0, bi_ite, ck_bi, ite_T, ite_F, wst_f, hst, S_joined q1, show d - 1 - 1 = d - 2 from by omega]
      exact ih (i + 1) (d - 1) F _ _ (by omega) h2 (by omega) (by omega) (EX_t hE (EX_sf rfl)) (fun j hj => st_up hst j (by omega))
end
