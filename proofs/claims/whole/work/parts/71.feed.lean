/-! ===== feed ===== -/
def bx (a b c d e : Int32) : Nat → Int32
  | 0 => a
  | 1 => b
  | 2 => c
  | 3 => d
  | _ => e
theorem bx_if {α : Type} {a b c d e : Int32} (X : Int32 → α) : ∀ i, i < 5 → (if nI i = 0 then X a else if nI i = nI 1 then X b else if nI i = nI 2 then X c else if nI i = nI 3 then X d else X e) = X (bx a b c d e i)
  | 0, _ => if_pos rfl
  | 1, _ => (if_neg (by decide)).trans (if_pos rfl)
  | 2, _ => (if_neg (by decide)).trans ((if_neg (by decide)).trans (if_pos rfl))
  | 3, _ => (if_neg (by decide)).trans ((if_neg (by decide)).trans ((if_neg (by decide)).trans (if_pos rfl)))
  | 4, _ => (if_neg (by decide)).trans ((if_neg (by decide)).trans ((if_neg (by decide)).trans (if_neg (by decide))))
theorem S_append {w : am_W} {z : Nat} {x : Int32} (hz : z < 160) (h : w.1 18 0 = nI z) : F_Read_append x w = some (wsf (wsf w 19 z x) 18 0 (nI (z + 1))) := by
  have h2 : (wsf w 19 z x).1 18 0 = nI z := (wsf_nc rfl).trans h
  unfold F_Read_append F_Read_append_30
  simp (disch := omega) only [h, nI_clamp, am_ckI, ile_t, ile_f, ilt_t, ilt_f, ieq_t, ieq_f, iz_t, iz_f, ilz_f, nI_add, bn_V, am_ltV, am_ckV, cond_V1, cond_V0, bi_ite, ck_bi, ite_T, ite_F, wst_f, h2]
theorem S_feedL {a b c d e : Int32} {w : am_W} {z N : Nat} (hN : N ≤ 5) (hz : z + N ≤ 160) (h18 : w.1 18 0 = nI z) : ∀ (k i F : Nat) (w1 : am_W), i + k = N → k < F → (∀ c, ¬ c = 18 → ¬ c = 19 → w1.1 c = w.1 c) → (∀ j, ¬ j = 0 → w1.1 18 j = w.1 18 j) → w1.1 18 0 = nI (z + i) → (∀ j, j < z → w1.1 19 j = w.1 19 j) → (∀ j, j < i → w1.1 19 (z + j) = bx a b c d e j) → ∃ w2, L_Loc_feed_75 F (nI N) a b c d e (nI i) w1 = some (nI (z + N), w2) ∧ (∀ c, ¬ c = 18 → ¬ c = 19 → w2.1 c = w.1 c) ∧ (∀ j, ¬ j = 0 → w2.1 18 j = w.1 18 j) ∧ w2.1 18 0 = nI (z + N) ∧ (∀ j, j < z → w2.1 19 j = w.1 19 j) ∧ ∀ j, j < N → w2.1 19 (z + j) = bx a b c d e j := by
  intro k
  induction k with
  | zero =>
    intro i F w1 hi hF q1 q2 q3 q4 q5
    obtain ⟨F, rfl⟩ : ∃ j, F = j + 1 := ⟨F - 1, by omega⟩
    have hiN : i = N := hi
    subst hiN
    refine ⟨w1, ?_, q1, q2, q3, q4, q5⟩
    show F_Loc_feed_75 _ _ _ _ _ _ _ _ _ = _
    unfold F_Loc_feed_75
    rw [ile_t (Nat.le_refl _) (by omega), q3]
  | succ k ih =>
    intro i F w1 hi hF q1 q2 q3 q4 q5
    obtain ⟨F, rfl⟩ : ∃ j, F = j + 1 := ⟨F - 1, by omega⟩
    show ∃ w2, F_Loc_feed_75 _ _ _ _ _ _ _ _ _ = _ ∧ _
    unfold F_Loc_feed_75
    rw [ile_f (by omega) (by omega), bx_if (fun x => F_Loc_feed_131 (L_Loc_feed_75 F) (nI N) a b c d e (nI i) x w1) i (by omega)]
    unfold F_Loc_feed_131
    rw [S_append (by omega) q3, bn_V, nI_add]
    refine ih (i + 1) F _ (by omega) (by omega) (fun c h1 h2 => ?_) (fun j hj => ?_) ?_ (fun j hj => ?_) (fun j hj => ?_)
    · rw [wsf_fc h1, wsf_fc h2, q1 c h1 h2]
    · rw [wsf_ne hj, wsf_nc rfl, q2 j hj]
    · rw [wsf_at, Nat.add_assoc]
    · rw [wsf_nc rfl, wsf_ne (by omega), q4 j hj]
    · rw [wsf_nc rfl]
      by_cases e : j = i
      · rw [e, wsf_at]
      · rw [wsf_ne (by omega), q5 j (by omega)]
theorem D_feedL {a b c d e : Int32} {w : am_W} {z N : Nat} (hN : N ≤ 5) (hz : z + N ≤ 160) : ∀ (k i F : Nat) (w1 : am_W), i + k = N → k < F → (∀ c, ¬ c = 53 → ¬ c = 58 → w1.1 c = w.1 c) → (∀ j, ¬ j = 9 → w1.1 53 j = w.1 53 j) → w1.1 53 9 = nI (z + i) → (∀ j, j < z → w1.1 58 j = w.1 58 j) → (∀ j, j < i → w1.1 58 (z + j) = bx a b c d e j) → ∃ w2, L_Mod_feed_68 F (nI N) a b c d e (nI i) w1 = some (nI (z + N), w2) ∧ (∀ c, ¬ c = 53 → ¬ c = 58 → w2.1 c = w.1 c) ∧ (∀ j, ¬ j = 9 → w2.1 53 j = w.1 53 j) ∧ w2.1 53 9 = nI (z + N) ∧ (∀ j, j < z → w2.1 58 j = w.1 58 j) ∧ ∀ j, j < N → w2.1 58 (z + j) = bx a b c d e j := by
  intro k
  induction k with
  | zero =>
    intro i F w1 hi hF q1 q2 q3 q4 q5
    obtain ⟨F, rfl⟩ : ∃ j, F = j + 1 := ⟨F - 1, by omega⟩
    have hiN : i = N := hi
    subst hiN
    refine ⟨w1, ?_, q1, q2, q3, q4, q5⟩
    show F_Mod_feed_68 _ _ _ _ _ _ _ _ _ = _
    unfold F_Mod_feed_68
    rw [ile_t (Nat.le_refl _) (by omega), q3]
  | succ k ih =>
    intro i F w1 hi hF q1 q2 q3 q4 q5
    obtain ⟨F, rfl⟩ : ∃ j, F = j + 1 := ⟨F - 1, by omega⟩
    show ∃ w2, F_Mod_feed_68 _ _ _ _ _ _ _ _ _ = _ ∧ _
    unfold F_Mod_feed_68
    rw [ile_f (by omega) (by omega), q3, bx_if (fun x => F_Mod_feed_125 (L_Mod_feed_68 F) (nI N) a b c d e (nI i) x (nI (z + i)) w1) i (by omega)]
    have h2 : ∀ x, (wsf w1 58 (z + i) x).1 53 9 = nI (z + i) := fun x => (wsf_nc rfl).trans q3
    unfold F_Mod_feed_125
    simp (disch := omega) only [nI_clamp, am_ckI, ile_t, ile_f, ilt_t, ilt_f, ieq_t, ieq_f, iz_t, iz_f, ilz_f, nI_add, bn_V, am_ltV, am_ckV, cond_V1, cond_V0, bi_ite, ck_bi, ite_T, ite_F, wst_f, h2]
    refine ih (i + 1) F _ (by omega) (by omega) (fun c h1 h2 => ?_) (fun j hj => ?_) ?_ (fun j hj => ?_) (fun j hj => ?_)
    · rw [wsf_fc h1, wsf_fc h2, q1 c h1 h2]
    · rw [wsf_ne hj, wsf_nc rfl, q2 j hj]
    · rw [wsf_at, Nat.add_assoc]
    · rw [wsf_nc rfl, wsf_ne (by omega), q4 j hj]
    · rw [wsf_nc rfl]
      by_cases e : j = i
      · rw [e, wsf_at]
      · rw [wsf_ne (by omega), q5 j (by omega)]
theorem bx_by {a b c d e : Int32} (ha : am_in a 256 = true) (hb : am_in b 256 = true) (hc : am_in c 256 = true) (hd : am_in d 256 = true) (he : am_in e 256 = true) : ∀ i, ∃ k, k < 256 ∧ bx a b c d e i = nI k
  | 0 => in_ex ha (by omega)
  | 1 => in_ex hb (by omega)
  | 2 => in_ex hc (by omega)
  | 3 => in_ex hd (by omega)
  | _ + 4 => in_ex he (by omega)
theorem B_feed (p a b c d e : Int32) : BOTH (F_Loc_feed p a b c d e) (F_Mod_feed p a b c d e) := fun w ⟨n, m, g, s, T, f, v, te, tc, hq⟩ => by
  have same : ∀ r, F_Loc_feed p a b c d e w = some (r, w) → F_Mod_feed p a b c d e w = some (r, w) → ∃ (r : Int32) (w1 w2 : am_W), F_Loc_feed p a b c d e w = some (r, w1) ∧ F_Mod_feed p a b c d e w1 = some (r, w2) ∧ RR w2 := fun r h1 h2 => ⟨r, w, w, h1, h2, n, m, g, s, T, f, v, te, tc, hq⟩
  obtain ⟨hV, hg, hs, hC, hM, hT, hX, hS, hP, hI, hA⟩ := id hq
  obtain ⟨z, hz, h18, h53, hz2⟩ := hP
  have hS' := hS
  by_cases hp : 1 ≤ p.toInt ∧ p.toInt ≤ 5
  · obtain ⟨N, hN⟩ : ∃ N : Nat, p.toInt = (N : Int) := ⟨p.toInt.toNat, by omega⟩
    have hpN := nI_ti hN (by omega)
    subst hpN
    have hN1 : 1 ≤ N := by omega
    have hN5 : N ≤ 5 := by omega
    have hS : F_Loc_feed (nI N) a b c d e w = bif am_in a 256 && (am_in b 256 && (am_in c 256 && (am_in d 256 && am_in e 256))) then (if nI (z + N) ≤ nI 160 then L_Loc_feed_75 am_NF (nI N) a b c d e (nI 0) w else some (-nI 4, w)) else some (-nI 2, w) := by
      unfold F_Loc_feed F_Loc_feed_48
      rw [ilt_f hN1 (by omega), ilt_f hN5 (by omega), S_isByte, bn_V, bi_ite]
      dsimp only
      cases am_in a 256 with
      | false => rfl
      | true =>
        rw [cond_V1, S_isByte, bn_V, bi_ite]
        dsimp only
        cases am_in b 256 with
        | false => rfl
        | true =>
          rw [cond_V1, S_isByte, bn_V, bi_ite]
          dsimp only
          cases am_in c 256 with
          | false => rfl
          | true =>
            rw [cond_V1, S_isByte, bn_V, bi_ite]
            dsimp only
            cases am_in d 256 with
            | false => rfl
            | true =>
              rw [cond_V1, S_isByte, bn_V, bi_ite]
              dsimp only
              rw [h18, nI_add]
              cases am_in e 256 <;> rfl
    have hD : ∀ w2, w2.1 53 9 = nI z → F_Mod_feed (nI N) a b c d e w2 = bif am_in a 256 && (am_in b 256 && (am_in c 256 && (am_in d 256 && am_in e 256))) then (if nI (z + N) ≤ nI 160 then L_Mod_feed_68 am_NF (nI N) a b c d e (nI 0) w2 else some (-nI 4, w2)) else some (-nI 2, w2) := fun w2 h9 => by
      unfold F_Mod_feed F_Mod_feed_47
      rw [D_inG, nI_toInt (by omega), nI_toInt (by omega), nI_toInt (by omega), decide_eq_true (by omega), bn_V, bi_ite, cond_V1, D_isByte, bn_V, bi_ite]
      dsimp only
      cases am_in a 256 with
      | false => rfl
      | true =>
        rw [cond_V1, D_isByte, bn_V, bi_ite]
        dsimp only
        cases am_in b 256 with
        | false => rfl
        | true =>
          rw [cond_V1, D_isByte, bn_V, bi_ite]
          dsimp only
          cases am_in c 256 with
          | false => rfl
          | true =>
            rw [cond_V1, D_isByte, bn_V, bi_ite]
            dsimp only
            cases am_in d 256 with
            | false => rfl
            | true =>
              rw [cond_V1, D_isByte, bn_V, bi_ite]
              dsimp only
              rw [h9, nI_add]
              cases am_in e 256 <;> rfl
    cases hb : am_in a 256 && (am_in b 256 && (am_in c 256 && (am_in d 256 && am_in e 256))) with
    | false => exact same (-nI 2) (by rw [hS, hb]; rfl) (by rw [hD w h53, hb]; rfl)
    | true =>
      by_cases h160 : z + N ≤ 160
      · rw [Bool.and_eq_true, Bool.and_eq_true, Bool.and_eq_true, Bool.and_eq_true] at hb
        have hbx := bx_by hb.1 hb.2.1 hb.2.2.1 hb.2.2.2.1 hb.2.2.2.2
        have hball : (am_in a 256 && (am_in b 256 && (am_in c 256 && (am_in d 256 && am_in e 256)))) = true := by rw [hb.1, hb.2.1, hb.2.2.1, hb.2.2.2.1, hb.2.2.2.2]; rfl
        obtain ⟨w1, e1, k1, k2, k3, k4, k5⟩ := S_feedL (a := a) (b := b) (c := c) (d := d) (e := e) hN5 h160 h18 N 0 am_NF w (by omega) (by show N < 4000; omega) (fun c _ _ => rfl) (fun j _ => rfl) h18 (fun j _ => rfl) (fun j hj => by omega)
        have h9 : w1.1 53 9 = nI z := (congrFun (k1 53 (by omega) (by omega)) 9).trans h53
        obtain ⟨w2, e2, m1, m2, m3, m4, m5⟩ := D_feedL (a := a) (b := b) (c := c) (d := d) (e := e) (w := w1) hN5 h160 N 0 am_NF w1 (by omega) (by show N < 4000; omega) (fun c _ _ => rfl) (fun j _ => rfl) h9 (fun j _ => rfl) (fun j hj => by omega)
        have k : FRA (fun a => Nat.beq a 5) w w2 := fun x j q => by
          by_cases x1 : x = 18
          · subst x1
            by_cases j0 : j = 0
            · rw [j0] at q; cases q
            · rw [m1 18 (by omega) (by omega), k2 j j0]
          · by_cases x2 : x = 19
            · subst x2; cases q
            · by_cases x3 : x = 53
              · subst x3
                by_cases j9 : j = 9
                · rw [j9] at q; cases q
                · rw [m2 j j9, k1 53 (by omega) (by omega)]
              · by_cases x4 : x = 58
                · subst x4; cases q
                · rw [m1 x x3 x4, k1 x x1 x2]
        refine ⟨nI (z + N), w1, w2, ?_, ?_, n, m, g, s, T, f, v, te, tc, hV, hg, hs, CC_fr rfl k hC, MM_fr rfl k hM, TT_fr rfl k hT, TX_fr rfl k hX hT.1, SS_fr rfl k hS', ⟨z + N, h160, ?_, m3, fun i hi => ?_⟩, IM_fr rfl k hI, ABC_fr rfl k hA⟩
        · rw [hS, hball, cond_V1, ile_t h160 (by omega)]
          exact e1
        · rw [hD w1 h9, hball, cond_V1, ile_t h160 (by omega)]
          exact e2
        · rw [m1 18 (by omega) (by omega)]; exact k3
        · rw [m1 19 (by omega) (by omega)]
          by_cases hiz : i < z
          · rw [k4 i hiz, m4 i hiz, k1 58 (by omega) (by omega)]
            exact hz2 i hiz
          · have e5 := k5 (i - z) (by omega)
            have e6 := m5 (i - z) (by omega)
            rw [show z + (i - z) = i from by omega] at e5 e6
            rw [e5, e6]
            exact ⟨rfl, hbx _⟩
      · refine same (-nI 4) ?_ ?_
        · rw [hS, hb, cond_V1, ile_f (by omega) (by omega)]
        · rw [hD w h53, hb, cond_V1, ile_f (by omega) (by omega)]
  · refine same (-nI 2) ?_ ?_
    · unfold F_Loc_feed F_Loc_feed_48
      by_cases h3 : p < nI 1
      · rw [if_pos h3]
      · rw [if_neg h3, if_pos]
        refine Classical.byContradiction fun h4 => hp ?_
        rw [Int32.lt_iff_toInt_lt, nI_toInt (by omega)] at h3 h4
        omega
    · unfold F_Mod_feed F_Mod_feed_47
      rw [D_inG, nI_toInt (by omega), nI_toInt (by omega), decide_eq_false (by omega), bn_V, bi_ite, cond_V0]
