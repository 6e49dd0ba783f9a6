/-! ===== the class reads parts and chains ===== -/
theorem stp_0 {c : Nat} (h : 11 ≤ c) (h2 : c ≤ 18) : ¬ stp c = 0 := by
  have : c = 11 ∨ c = 12 ∨ c = 13 ∨ c = 14 ∨ c = 15 ∨ c = 16 ∨ c = 17 ∨ c = 18 := by omega
  rcases this with rfl | rfl | rfl | rfl | rfl | rfl | rfl | rfl <;> decide
/-- the loop behind a part -/
def LSr (n r o lim F i : Nat) (w : am_W) : Option am_W := (F_Read_joiner (nI r) w).bind fun q2 => L_Read_expression_85 (X_Read n).1 (X_Read n).2 F (nI r) (nI o) (nI lim) q2.1 (nI i) q2.2
theorem X_r1 (n : Nat) : (X_Read (n + 1)).1 = F_Read_expression (X_Read n).1 (X_Read n).2 := rfl
theorem X_r2 (n : Nat) : (X_Read (n + 1)).2 = F_Read_one (X_Read n).1 (X_Read n).2 := rfl
section
variable {x : Nat → Nat} {z T : Nat}
theorem SR_pre {q1 q2 : Nat} {w w1 w2 : am_W} {c1 : List Nat} {res : Nat ⊕ (Nat × List Nat)} (hq : q2 = q1 + c1.length) (hM : SM T q1 w w1) (hc : SQ stp c1 q1 (w1.1 (20 + 1 + T))) (h : SR x z T q2 w1 w2 res) : SR x z T q1 w w2 (rAp c1 res) := by
  subst hq
  cases res with
  | inl b => exact ⟨h.1, SM_t (SM_m (Nat.zero_le _) hM) h.2⟩
  | inr y =>
    obtain ⟨p2, su⟩ := y
    obtain ⟨h1, h2, h3⟩ := h
    refine ⟨?_, SQ_ap.mpr ⟨SQ_fr (fun i _ hi => h3.2.2.1 i hi) hc, h2⟩, SM_t hM (SM_m (by omega) h3)⟩
    rw [List.length_append, ← Nat.add_assoc]; exact h1
theorem SC_end {n r o lim F i p : Nat} (hp : p ≤ z) (hr : r ≤ 4) (hj : ¬ jl (lx x z p).2.2.1 = r) : SC x z T (LSr n r o lim (F + 1) i) p (.inr (p, [])) := fun q w hq h => by
  refine ⟨w, ?_, h, trivial, SM_r T q w⟩
  unfold LSr
  rw [S_joiner (lx_ok x hp).2.2.2.2 h.2.2.2.2.1 hr, if_neg hj, bn_s]
  show F_Read_expression_85 _ _ _ _ _ _ _ _ _ = _
  unfold F_Read_expression_85 F_Read_expression_127
  rw [iz_t rfl, ite_self]
theorem SC_end2 {n r o lim F i p : Nat} (hp : p ≤ z) (hr : r ≤ 4) (hi : lim ≤ i) (hi2 : i < 2 ^ 31) : SC x z T (LSr n r o lim (F + 1) i) p (.inr (p, [])) := fun q w hq h => by
  refine ⟨w, ?_, h, trivial, SM_r T q w⟩
  unfold LSr
  rw [S_joiner (lx_ok x hp).2.2.2.2 h.2.2.2.2.1 hr, bn_s]
  show F_Read_expression_85 _ _ _ _ _ _ _ _ _ = _
  unfold F_Read_expression_85 F_Read_expression_127
  rw [ile_t hi hi2]
theorem X_loop {n r o lim F i b : Nat} {w : am_W} (hr : r ≤ 4) (h : SX x z T b w) : LSr n r o lim (F + 1) i w = some w := by
  unfold LSr
  rw [X_joiner h hr, bn_s]
  show F_Read_expression_85 _ _ _ _ _ _ _ _ _ = _
  unfold F_Read_expression_85 F_Read_expression_127
  rw [iz_t rfl, ite_self]
theorem SC_step {n r o lim F i p : Nat} {res2 res3 : Nat ⊕ (Nat × List Nat)} (hT : T < 6) (hz : z ≤ 160) (hp : p ≤ z) (hr : r ≤ 4) (hj : jl (lx x z p).2.2.1 = r) (hi : i < lim) (hlim : lim ≤ 160) (hfa : FA z (r + 1) o (lx x z p).2.1 res2) (h2 : SC x z T ((X_Read n).1 (nI (r + 1)) (nI o)) (lx x z p).2.1 res2) (h3 : ∀ p2 cs2, res2 = .inr (p2, cs2) → SC x z T (LSr n r o lim (F + 1) (i + 1)) p2 res3) : SC x z T (LSr n r o lim (F + 2) i) p (rJo (sg (lx x z p).2.2.1) res2 res3) := fun q w hq h => by
  obtain ⟨l1, l2, l3, l4, l5⟩ := lx_ok x hp
  obtain ⟨s1, s2, s3, s4, s5, s6, s7⟩ := sg_r hj hr
  have l6 := l4 (by omega)
  obtain ⟨w3, e3, T3, M3⟩ := S_advance h hp
  obtain ⟨w4, e4, R4⟩ := h2 q w3 (by omega) T3
  have eL : ∀ w5, F_Read_write (stp (sg (lx x z p).2.2.1)) w4 = some w5 → LSr n r o lim (F + 2) i w = LSr n r o lim (F + 1) (i + 1) w5 := fun w5 e5 => by
    unfold LSr
    rw [S_joiner l5 h.2.2.2.2.1 hr, if_pos hj, bn_s]
    show F_Read_expression_85 _ _ _ _ _ _ _ _ _ = _
    unfold F_Read_expression_85
    dsimp only
    rw [ile_f hi (by omega), if_neg (stp_0 s3 s4), e3, bn_s, nI_add, e4, bn_s, e5, bn_s, nI_add]
  cases res2 with
  | inl b =>
    obtain ⟨X4, N4⟩ := R4
    obtain ⟨w5, e5, X5, N5⟩ := X_write (c := stp (sg (lx x z p).2.2.1)) hT X4
    rw [eL w5 e5, X_loop hr X5]
    exact ⟨w5, rfl, X5, SM_t (SM_m (Nat.zero_le _) M3) (SM_t N4 N5)⟩
  | inr y =>
    obtain ⟨p2, cs2⟩ := y
    obtain ⟨f1, f2, f3, f4⟩ := hfa
    obtain ⟨T4, c4, N4⟩ := R4
    obtain ⟨w5, e5, T5, N5, c5⟩ := S_writes (c := sg (lx x z p).2.2.1) hT T4 (by omega)
    obtain ⟨w6, e6, R6⟩ := h3 p2 cs2 rfl (q + cs2.length + 1) w5 (by omega) T5
    rw [eL w5 e5]
    refine ⟨w6, e6, ?_⟩
    have h9 := SR_pre (x := x) (z := z) (q1 := q) (c1 := cs2 ++ [sg (lx x z p).2.2.1]) (by rw [List.length_append]; rfl) (SM_t M3 (SM_t N4 (SM_m (by omega) N5))) (SQ_ap.mpr ⟨SQ_fr (fun i _ hi => N5.2.2.1 i hi) c4, c5, trivial⟩) R6
    cases res3 with
    | inl b => exact h9
    | inr y =>
      obtain ⟨p3, su⟩ := y
      have h9 : SR x z T q w w6 (.inr (p3, (cs2 ++ [sg (lx x z p).2.2.1]) ++ su)) := h9
      rw [show (cs2 ++ [sg (lx x z p).2.2.1]) ++ su = cs2 ++ sg (lx x z p).2.2.1 :: su from by rw [List.append_assoc]; rfl] at h9
      exact h9
theorem F54_e {n r o : Nat} (w : am_W) (hr : r ≤ 4) : F_Read_expression_54 (X_Read n).1 (X_Read n).2 (nI r) (nI o) w = ((X_Read n).1 (nI (r + 1)) (nI o) w).bind (LSr n r o (if r = 2 then 1 else 160) am_NF 0) := by
  unfold F_Read_expression_54 F_Read_expression_74
  rw [nI_add]
  refine congrArg _ (funext fun w1 => ?_)
  by_cases h : r = 2
  · rw [ieq_t h, if_pos h]; rfl
  · rw [ieq_f h (by omega) (by omega), if_neg h]; rfl
/-- a part, what joins behind it -/
theorem SC_chain {n r o p : Nat} {res1 res2 : Nat ⊕ (Nat × List Nat)} (hr : r ≤ 4) (ho : o ≤ 5) (hn : r = 2 → ¬ (lx x z p).2.2.1 = 6 ∨ 5 ≤ o) (hp : p ≤ z) (hfa : FA z (r + 1) o p res1) (h1 : SC x z T ((X_Read n).1 (nI (r + 1)) (nI o)) p res1) (h2 : ∀ p1 cs1, res1 = .inr (p1, cs1) → SC x z T (LSr n r o (if r = 2 then 1 else 160) am_NF 0) p1 res2) : SC x z T ((X_Read (n + 1)).1 (nI r) (nI o)) p (rCh res1 res2) := fun q w hq h => by
  have hcv := ctk_v (lx_ok x hp).2.2.2.2
  have eX : (X_Read (n + 1)).1 (nI r) (nI o) w = F_Read_expression_54 (X_Read n).1 (X_Read n).2 (nI r) (nI o) w := by
    rw [X_r1]
    unfold F_Read_expression
    rw [ilt_t (by omega) (by omega), h.2.2.2.2.1]
    by_cases h2 : r = 2
    · rw [ieq_t h2]
      rcases hn h2 with h3 | h3
      · rw [ieq_f (by omega) (by omega) (by omega)]
      · rw [ile_t h3 (by omega), ite_self]
    · rw [ieq_f h2 (by omega) (by omega)]
  obtain ⟨w1, e1, R1⟩ := h1 q w hq h
  rw [eX, F54_e w hr, e1, bn_s]
  cases res1 with
  | inl b =>
    exact ⟨w1, X_loop (F := 3999) hr R1.1, R1⟩
  | inr y =>
    obtain ⟨p1, cs1⟩ := y
    obtain ⟨T1, c1, N1⟩ := R1
    obtain ⟨f1, f2, f3, f4⟩ := hfa
    obtain ⟨w2, e2, R2⟩ := h2 p1 cs1 rfl (q + cs1.length) w1 (by omega) T1
    refine ⟨w2, e2, ?_⟩
    have h9 := SR_pre (x := x) (z := z) (q1 := q) rfl N1 c1 R2
    cases res2 with
    | inl b => exact h9
    | inr y =>
      obtain ⟨p2, su⟩ := y
      exact h9
/-- not before a NOT -/
theorem SC_not {n o p : Nat} {res : Nat ⊕ (Nat × List Nat)} (hT : T < 6) (hz : z ≤ 160) (hp : p ≤ z) (hk : (lx x z p).2.2.1 = 6) (ho : o < 5) (hfa : FA z 2 (o + 1) (lx x z p).2.1 res) (hr : SC x z T ((X_Read n).1 (nI 2) (nI (o + 1))) (lx x z p).2.1 res) : SC x z T ((X_Read (n + 1)).1 (nI 2) (nI o)) p (rUn 13 res) := fun q w hq h => by
  obtain ⟨l1, l2, l3, l4, l5⟩ := lx_ok x hp
  have hcv := ctk_v l5
  have l6 := l4 (by omega)
  obtain ⟨w3, e3, T3, M3⟩ := S_advance h hp
  obtain ⟨w4, e4, R4⟩ := hr q w3 (by omega) T3
  have eL : ∀ w5, F_Read_write (stp 13) w4 = some w5 → (X_Read (n + 1)).1 (nI 2) (nI o) w = some w5 := fun w5 e5 => by
    rw [X_r1]
    unfold F_Read_expression F_Read_expression_127
    have e5 : F_Read_write (-nI 8) w4 = some w5 := e5
    rw [ilt_t (by omega) (by omega), h.2.2.2.2.1, ieq_t rfl, ieq_t (by omega), ile_f ho (by omega), e3, bn_s, nI_add, e4, bn_s, e5, bn_s]
  cases res with
  | inl b =>
    obtain ⟨X4, N4⟩ := R4
    obtain ⟨w5, e5, X5, N5⟩ := X_write (c := stp 13) hT X4
    exact ⟨w5, eL w5 e5, X5, SM_t (SM_m (Nat.zero_le _) M3) (SM_t N4 N5)⟩
  | inr y =>
    obtain ⟨p2, cs⟩ := y
    obtain ⟨f1, f2, f3, f4⟩ := hfa
    obtain ⟨T4, c4, N4⟩ := R4
    obtain ⟨w5, e5, T5, N5, c5⟩ := S_writes (c := 13) hT T4 (by omega)
    refine ⟨w5, eL w5 e5, ?_, SQ_ap.mpr ⟨SQ_fr (fun i _ hi => N5.2.2.1 i hi) c4, c5, trivial⟩, SM_t M3 (SM_t N4 (SM_m (by omega) N5))⟩
    rw [List.length_append]; exact T5
/-- a number, a name -/
theorem SC_oper {n o p : Nat} (hT : T < 6) (hz : z ≤ 160) (hp : p ≤ z) (hk : (lx x z p).2.2.1 = 1 ∨ (lx x z p).2.2.1 = 2) : SC x z T ((X_Read (n + 1)).2 (nI o)) p (.inr ((lx x z p).2.1, [if (lx x z p).2.2.1 = 1 then 100000 + (lx x z p).2.2.2 else (lx x z p).2.2.2])) := fun q w hq h => by
  obtain ⟨l1, l2, l3, l4, l5⟩ := lx_ok x hp
  have hcv := ctk_v l5
  have l6 := l4 (by omega)
  obtain ⟨w4, e4, T4, N4, c4⟩ := S_writes (c := if (lx x z p).2.2.1 = 1 then 100000 + (lx x z p).2.2.2 else (lx x z p).2.2.2) hT h (by omega)
  obtain ⟨w5, e5, T5, N5⟩ := S_advance T4 hp
  refine ⟨w5, ?_, T5, ⟨?_, trivial⟩, SM_t N4 (SM_m (by omega) N5)⟩
  · show F_Read_one _ _ _ _ = _
    unfold F_Read_one F_Read_one_20 F_Read_one_44 F_Read_one_141
    rw [h.2.2.2.2.1, h.2.2.2.2.2.1 hk]
    rcases hk with hk | hk
    · rw [if_pos hk, show stp (100000 + (lx x z p).2.2.2) = nI (lx x z p).2.2.2 from by
        unfold stp
        rw [Nat.ble_eq_true_of_le (by omega), cond_true, show 100000 + (lx x z p).2.2.2 - 100000 = (lx x z p).2.2.2 from by omega]] at e4
      rw [ieq_t (by omega : ctk (lx x z p).2.2.1 (lx x z p).2.2.2 = 307), ieq_t (by omega : ctk (lx x z p).2.2.1 (lx x z p).2.2.2 = 307), e4, bn_s, e5, bn_s]
    · have hv := l5.2.2.1 hk
      rw [if_neg (by omega), show stp (lx x z p).2.2.2 = -nI 1 - nI (lx x z p).2.2.2 from by
        unfold stp
        rw [show Nat.ble 100000 (lx x z p).2.2.2 = false from Bool.eq_false_iff.mpr (fun q => by have := Nat.le_of_ble_eq_true q; omega), cond_false, Nat.ble_eq_true_of_le hv, cond_true]] at e4
      rw [ieq_f (by omega : ¬ ctk (lx x z p).2.2.1 (lx x z p).2.2.2 = 307) (by omega) (by omega), ieq_t (by omega : ctk (lx x z p).2.2.1 (lx x z p).2.2.2 = 306), ieq_f (by omega : ¬ ctk (lx x z p).2.2.1 (lx x z p).2.2.2 = 307) (by omega) (by omega), e4, bn_s, e5, bn_s]
  · rw [N5.2.2.1 _ (by omega)]; exact c4
/-- a sign - before a ONE -/
theorem SC_neg {n o p : Nat} {res : Nat ⊕ (Nat × List Nat)} (hT : T < 6) (hz : z ≤ 160) (hp : p ≤ z) (hk : (lx x z p).2.2.1 = 45) (ho : o < 5) (hfa : FA z 5 (o + 1) (lx x z p).2.1 res) (hr : SC x z T ((X_Read n).2 (nI (o + 1))) (lx x z p).2.1 res) : SC x z T ((X_Read (n + 1)).2 (nI o)) p (rUn 19 res) := fun q w hq h => by
  obtain ⟨l1, l2, l3, l4, l5⟩ := lx_ok x hp
  have hcv := ctk_v l5
  have l6 := l4 (by omega)
  obtain ⟨w3, e3, T3, M3⟩ := S_advance h hp
  obtain ⟨w4, e4, R4⟩ := hr q w3 (by omega) T3
  have eL : ∀ w5, F_Read_write (stp 19) w4 = some w5 → (X_Read (n + 1)).2 (nI o) w = some w5 := fun w5 e5 => by
    rw [X_r2]
    unfold F_Read_one F_Read_one_141
    have e5 : F_Read_write (-nI 7) w4 = some w5 := e5
    rw [h.2.2.2.2.1, ieq_f (by omega : ¬ ctk (lx x z p).2.2.1 (lx x z p).2.2.2 = 307) (by omega) (by omega), ieq_f (by omega : ¬ ctk (lx x z p).2.2.1 (lx x z p).2.2.2 = 306) (by omega) (by omega), ieq_t (by omega : ctk (lx x z p).2.2.1 (lx x z p).2.2.2 = 45), ile_f ho (by omega), e3, bn_s, nI_add, e4, bn_s, e5, bn_s]
  cases res with
  | inl b =>
    obtain ⟨X4, N4⟩ := R4
    obtain ⟨w5, e5, X5, N5⟩ := X_write (c := stp 19) hT X4
    exact ⟨w5, eL w5 e5, X5, SM_t (SM_m (Nat.zero_le _) M3) (SM_t N4 N5)⟩
  | inr y =>
    obtain ⟨p2, cs⟩ := y
    obtain ⟨f1, f2, f3, f4⟩ := hfa
    obtain ⟨T4, c4, N4⟩ := R4
    obtain ⟨w5, e5, T5, N5, c5⟩ := S_writes (c := 19) hT T4 (by omega)
    refine ⟨w5, eL w5 e5, ?_, SQ_ap.mpr ⟨SQ_fr (fun i _ hi => N5.2.2.1 i hi) c4, c5, trivial⟩, SM_t M3 (SM_t N4 (SM_m (by omega) N5))⟩
    rw [List.length_append]; exact T5
/-- what can't stand where a ONE is wanted -/
theorem SC_noone {n o p : Nat} (hp : p ≤ z) (hz : z ≤ 160) (ho : o ≤ 5) (h1 : ¬ (lx x z p).2.2.1 = 1) (h2 : ¬ (lx x z p).2.2.1 = 2) (h3 : (lx x z p).2.2.1 = 45 → o = 5) (h4 : (lx x z p).2.2.1 = 40 → o = 5) : SC x z T ((X_Read (n + 1)).2 (nI o)) p (.inl (lx x z p).1) := fun q w hq h => by
  obtain ⟨l1, l2, l3, l4, l5⟩ := lx_ok x hp
  have hcv := ctk_v l5
  obtain ⟨w3, e3, X3, M3⟩ := T_refuse h (by omega)
  refine ⟨w3, ?_, X3, M3⟩
  rw [X_r2]
  unfold F_Read_one F_Read_one_88 F_Read_one_137 F_Read_one_141
  rw [h.2.2.2.2.1, ieq_f (by omega : ¬ ctk (lx x z p).2.2.1 (lx x z p).2.2.2 = 307) (by omega) (by omega), ieq_f (by omega : ¬ ctk (lx x z p).2.2.1 (lx x z p).2.2.2 = 306) (by omega) (by omega), e3, bn_s]
  by_cases q40 : (lx x z p).2.2.1 = 40
  · have := h4 q40
    rw [ieq_f (by omega : ¬ ctk (lx x z p).2.2.1 (lx x z p).2.2.2 = 45) (by omega) (by omega), ieq_t (by omega : ctk (lx x z p).2.2.1 (lx x z p).2.2.2 = 40), ile_t (by omega : 5 ≤ o) (by omega)]
  · rw [ieq_f (by omega : ¬ ctk (lx x z p).2.2.1 (lx x z p).2.2.2 = 40) (by omega) (by omega)]
    by_cases q45 : (lx x z p).2.2.1 = 45
    · have := h3 q45
      rw [ieq_t (by omega : ctk (lx x z p).2.2.1 (lx x z p).2.2.2 = 45), ile_t (by omega : 5 ≤ o) (by omega)]
    · rw [ieq_f (by omega : ¬ ctk (lx x z p).2.2.1 (lx x z p).2.2.2 = 45) (by omega) (by omega)]
/-- ( E ) -/
theorem SC_paren {n o p : Nat} {res : Nat ⊕ (Nat × List Nat)} (hz : z ≤ 160) (hp : p ≤ z) (hk : (lx x z p).2.2.1 = 40) (ho : o < 5) (hfa : FA z 0 (o + 1) (lx x z p).2.1 res) (hr : SC x z T ((X_Read n).1 (nI 0) (nI (o + 1))) (lx x z p).2.1 res) : SC x z T ((X_Read (n + 1)).2 (nI o)) p (rPa x z res) := fun q w hq h => by
  obtain ⟨l1, l2, l3, l4, l5⟩ := lx_ok x hp
  have hcv := ctk_v l5
  have l6 := l4 (by omega)
  obtain ⟨w3, e3, T3, M3⟩ := S_advance h hp
  obtain ⟨w4, e4, R4⟩ := hr q w3 (by omega) T3
  have eL : (X_Read (n + 1)).2 (nI o) w = if w4.1 18 3 = nI 41 then (F_Read_advance w4).bind fun w7 => some w7 else (F_Read_refuse w4).bind fun w6 => some w6 := by
    rw [X_r2]
    unfold F_Read_one F_Read_one_88 F_Read_one_141
    rw [h.2.2.2.2.1, ieq_f (by omega : ¬ ctk (lx x z p).2.2.1 (lx x z p).2.2.2 = 307) (by omega) (by omega), ieq_f (by omega : ¬ ctk (lx x z p).2.2.1 (lx x z p).2.2.2 = 306) (by omega) (by omega), ieq_f (by omega : ¬ ctk (lx x z p).2.2.1 (lx x z p).2.2.2 = 45) (by omega) (by omega), ieq_t (by omega : ctk (lx x z p).2.2.1 (lx x z p).2.2.2 = 40), ile_f ho (by omega), e3, bn_s, nI_add, e4, bn_s]
  rw [eL]
  cases res with
  | inl b =>
    obtain ⟨X4, N4⟩ := R4
    obtain ⟨w5, e5, X5, N5⟩ := X_refuse X4
    rw [X4.2.2.2.1, ieq_f (by omega) (by omega) (by omega), e5]
    exact ⟨w5, rfl, X5, SM_t (SM_m (Nat.zero_le _) M3) (SM_t N4 N5)⟩
  | inr y =>
    obtain ⟨p2, cs⟩ := y
    obtain ⟨f1, f2, f3, f4⟩ := hfa
    obtain ⟨T4, c4, N4⟩ := R4
    obtain ⟨n1, n2, n3, n4, n5⟩ := lx_ok x f2
    have hcv2 := ctk_v n5
    show ∃ w2, _ ∧ SR x z T q w w2 (if (lx x z p2).2.2.1 = 41 then .inr ((lx x z p2).2.1, cs) else .inl (lx x z p2).1)
    rw [T4.2.2.2.2.1]
    by_cases q41 : (lx x z p2).2.2.1 = 41
    · obtain ⟨w5, e5, T5, N5⟩ := S_advance T4 f2
      rw [ieq_t (by omega), if_pos q41, e5]
      exact ⟨w5, rfl, T5, SQ_fr (fun i _ hi => N5.2.2.1 i hi) c4, SM_t M3 (SM_t N4 (SM_m (by omega) N5))⟩
    · obtain ⟨w5, e5, X5, N5⟩ := T_refuse T4 (by omega)
      rw [ieq_f (by omega) (by omega) (by omega), if_neg q41, e5]
      exact ⟨w5, rfl, X5, SM_t (SM_m (Nat.zero_le _) M3) (SM_t (SM_m (Nat.zero_le _) N4) N5)⟩
/-- a ONE as a part -/
theorem SC_one {n o p : Nat} {res : Nat ⊕ (Nat × List Nat)} (h : SC x z T ((X_Read n).2 (nI o)) p res) : SC x z T ((X_Read (n + 1)).1 (nI 5) (nI o)) p res := fun q w hq hS => by
  obtain ⟨w2, e2, R2⟩ := h q w hq hS
  refine ⟨w2, ?_, R2⟩
  rw [X_r1]
  unfold F_Read_expression F_Read_expression_127
  rw [ilt_f (by omega) (by omega), e2, bn_s]
end
