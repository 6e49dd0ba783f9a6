/-! ===== feed ===== -/
def bx (a b c d e : Int32) : Nat → Int32
  | 0 => a
  | 1 => b
  | 2 => c
  | 3 => d
  | _ => e
theorem bx_if {α : Type} {a b c d e : Int32} (X : Int32 → α) : ∀ i, i < 5 → (if nI i = 0 then X a else if nI i = nI 1 then X b else if nI i = nI 2 then X c else if nI i = nI 3 then X d else X e) = X (bx a b c d e i)
  | 0, _ => if_pos rfl
  | 1, _ => (if_neg (by decide)).trans (if_pos rfl)
  | 2, _ => (if_neg (by decide)).trans ((if_neg (by decide)).trans (if_pos rfl))
  | 3, _ => (if_neg (by decide)).trans ((if_neg (by decide)).trans ((if_neg (by decide)).trans (if_pos rfl)))
  | 4, _ => (if_neg (by decide)).trans ((if_neg (by decide)).trans ((if_neg (by decide)).trans (if_neg (by decide))))
theorem S_append {w : am_W} {z : Nat} {x : Int32} (hz : z < 160) (h : w.1 18 0 = nI z) : F_Read_append x w = some (wsf (wsf w 19 z x) 18 0 (nI (z + 1))) := by
  have h2 : (wsf w 19 z x).1 18 0 = nI z := (wsf_nc rfl).trans h
  unfold F_Read_append F_Read_append_30
  simp (disch := omega) only [h, nI_clamp, am_ckI, ile_t, ile_f, ilt_t, ilt_f, ieq_t, ieq_f, iz_t, iz_f, ilz_f, nI_add, bn_V, am_ltV, am_ckV, cond_V1, cond_V0, bi_ite, ck_bi, ite_T, ite_F, wst_f, h2]
theorem S_feedL {a b c d e : Int32} {w : am_W} {z N : Nat} (hN : N ≤ 5) (hz : z + N ≤ 160) (h18 : w.1 18 0 = nI z) : ∀ (k i F : Nat) (w1 : am_W), i + k = N → k < F → (∀ c, ¬ c = 18 → ¬ c = 19 → w1.1 c = w.1 c) → (∀ j, ¬ j = 0 → w1.1 18 j = w.1 18 j) → w1.1 18 0 = nI (z + i) → (∀ j, j < z → w1.1 19 j = w.1 19 j) → (∀ j, j < i → w1.1 19 (z + j) = bx a b c d e j) → ∃ w2, L_Loc_feed_75 F (nI N) a b c d e (nI i) w1 = some (nI (z + N), w2) ∧ (∀ c, ¬ c = 18 → ¬ c = 19 → w2.1 c = w.1 c) ∧ (∀ j, ¬ j = 0 → w2.1 18 j = w.1 18 j) ∧ w2.1 18 0 = nI (z + N) ∧ (∀ j, j < z → w2.1 19 j = w.1 19 j) ∧ ∀ j, j < N → w2.1 19 (z + j) = bx a b c d e j := by
  intro k
  induction k with
  | zero =>
    intro i F w1 hi hF q1 q2 q3 q4 q5
    obtain ⟨F, rfl⟩ : ∃ j, F = j + 1 := ⟨F - 1, by omega⟩
    have hiN : i = N := hi
    subst hiN
    refine ⟨w1, ?_, q1, q2, q3, q4, q5⟩
    show F_Loc_feed_75 _ _ _ _ _ _ _ _ _ = _
    unfold F_Loc_feed_75
    rw [ile_t (Nat.le_refl _) (by omega), q3]
  | succ k ih =>
    intro i F w1 hi hF q1 q2 q3 q4 q5
    obtain ⟨F, rfl⟩ : ∃ j, F = j + 1 := ⟨F - 1, by omega⟩
    show ∃ w2, F_Loc_feed_75 _ _ _ _ _ _ _ _ _ = _ ∧ _
    unfold F_Loc_feed_75
    rw [ile_f (by omega) (by omega), bx_if (fun x => F_Loc_feed_131 (L_Loc_feed_75 F) (nI N) a b c d e (nI i) x w1) i (by omega)]
    unfold F_Loc_feed_131
    rw [S_append (by omega) q3, bn_V, nI_add]
    refine ih (i + 1) F _ (by omega) (by omega) (fun c h1 h2 => ?_) (fun j hj => ?_) ?_ (fun j hj => ?_) (fun j hj => ?_)
    · rw [wsf_fc h1, wsf_fc h2, q1 c h1 h2]
    · rw [wsf_ne hj, wsf_nc rfl, q2 j hj]
    · rw [wsf_at, Nat.add_assoc]
    · rw [wsf_nc rfl, wsf_ne (by omega), q4 j hj]
    · rw [wsf_nc rfl]
      by_cases e : j = i
      · rw [e, wsf_at]
      · rw [wsf_ne (by omega), q5 j (by omega)]
theorem bx_by {a b c d e : Int32} (ha : am_in a 256 = true) (hb : am_in b 256 = true) (hc : am_in c 256 = true) (hd : am_in d 256 = true) (he : am_in e 256 = true) : ∀ i, ∃ k, k < 256 ∧ bx a b c d e i = nI k
  | 0 => in_ex ha (by omega)
  | 1 => in_ex hb (by omega)
  | 2 => in_ex hc (by omega)
  | 3 => in_ex hd (by omega)
  | _ + 4 => in_ex he (by omega)