/-! ===== the model reads a ONE ===== -/
theorem cn_rep : ∀ k, cn19 (List.replicate k 19) = k
  | 0 => rfl
  | k + 1 => by
    show cn19 (List.replicate k 19) + 1 = k + 1
    rw [cn_rep k]
theorem RK_rep {k : Nat} : RK 7 (List.replicate k 19) := fun c hc => by
  rw [(List.mem_replicate.mp hc).2]; decide
theorem iz_s {α : Type} {n : Nat} {x y : α} (h : n + 1 < 2 ^ 31) : (if nI (n + 1) = 0 then x else y) = y := iz_f (by omega) h
theorem cnb : ∀ A : List Nat, cn19 A ≤ A.length
  | [] => Nat.le_refl _
  | c :: A => by
    have ih := cnb A
    show cn19 A + (if c = 13 then 1 else if c = 19 then 1 else 0) ≤ A.length + 1
    have : (if c = 13 then 1 else if c = 19 then 1 else 0) ≤ 1 := by
      repeat' split
      all_goals omega
    omega
section
variable {x : Nat → Nat} {z T : Nat}
/-- the token read first -/
theorem D_e14 {p o q F : Nat} {H : List Nat} {w : am_W} (h : DS x z T p o q H w) (hp : p ≤ z) (hF : z < F + p) (a1 a2 : Int32) : ∃ (G : Nat) (w3 : am_W), F = G + 1 ∧ (L_Mod_eRead_14 F a1 a2 w = (some w3).bind fun w3 => if a1 = 0 then (if (w3.1 53 27) = (nI 59) then ((F_Mod_unwinds (nI 1) w3).bind fun w10 => if (w10.1 53 31) = 0 then (F_Mod_eRead_176 (nI 1) w10) else (F_Mod_eRead_176 (nI 0) w10)) else (if (w3.1 53 27) = (nI 41) then ((F_Mod_unwinds (nI 1) w3).bind fun w6 => if (w6.1 53 31) = 0 then (some ((nI 0), w6)) else (am_lt (wsf w6 53 31 ((w6.1 53 31) - (nI 1))) fun w7 => am_lt (wsf w7 53 32 ((w7.1 53 32) - (nI 1))) fun w8 => (F_Mod_unwinds (nI 7) w8).bind fun w9 => L_Mod_eRead_14 G a1 a2 w9)) else ((F_Mod_signOf w3).bind fun q4 => if q4.1 = (-nI 1) then (F_Mod_eRead_247 q4.2) else ((F_Mod_between q4.1 q4.2).bind fun q5 => if q5.1 = 0 then (F_Mod_eRead_247 q5.2) else (if (nI 12) < q4.1 then (F_Mod_eRead_262 (L_Mod_eRead_14 G) (nI 1) (nI 0) q5.2) else (F_Mod_eRead_262 (L_Mod_eRead_14 G) (nI 1) (nI 1) q5.2)))))) else (if (w3.1 53 27) = (nI 1) then (F_Mod_eRead_38 (L_Mod_eRead_14 G) a2 w3) else (if (w3.1 53 27) = (nI 2) then (F_Mod_eRead_38 (L_Mod_eRead_14 G) a2 w3) else (if (w3.1 53 27) = (nI 6) then (if a2 = 0 then (F_Mod_eRead_99 (L_Mod_eRead_14 G) a1 w3) else ((F_Mod_opensOne (nI 13) w3).bind fun q15 => if q15.1 = 0 then (some ((nI 0), q15.2)) else (L_Mod_eRead_14 G a1 a2 q15.2))) else (F_Mod_eRead_99 (L_Mod_eRead_14 G) a1 w3))))) ∧ DS x z T (lx x z p).2.1 o q H w3 ∧ (∀ Q, DM T Q w w3) ∧ w3.1 53 26 = nI (lx x z p).1 ∧ w3.1 53 27 = dtk (lx x z p).2.2.1 ∧ ((lx x z p).2.2.1 = 1 ∨ (lx x z p).2.2.1 = 2 ∨ (lx x z p).2.2.1 = 3 → w3.1 53 28 = nI (lx x z p).2.2.2) := by
  obtain ⟨G, rfl⟩ : ∃ j, F = j + 1 := ⟨F - 1, by omega⟩
  obtain ⟨w3, e3, r3⟩ := D_token h hp
  refine ⟨G, w3, rfl, ?_, r3⟩
  show F_Mod_eRead_14 _ _ _ _ = _
  unfold F_Mod_eRead_14
  rw [e3]
theorem tk_lt {k v : Nat} (h : TV k v) : k < 100 := by
  have := ctk_v h
  omega
/-- a number, a name -/
theorem D_oper {a p : Nat} (hT : T < 6) (hz : z ≤ 160) (hp : p ≤ z) (ha : a ≤ 5) (hk : (lx x z p).2.2.1 = 1 ∨ (lx x z p).2.2.1 = 2) : DO x z T a p (.inr ((lx x z p).2.1, [if (lx x z p).2.2.1 = 1 then 100000 + (lx x z p).2.2.2 else (lx x z p).2.2.2])) := fun H k o q F m w ho h hH hb hF hm => by
  obtain ⟨l1, l2, l3, l4, l5⟩ := lx_ok x hp
  have hk100 := tk_lt l5
  obtain ⟨G, w3, rfl, e3, D3, M3, b3, t3, v3⟩ := D_e14 h hp hF (nI 1) (nI m)
  obtain ⟨w4, e4, D4, N4, c4⟩ := D_puts (c := if (lx x z p).2.2.1 = 1 then 100000 + (lx x z p).2.2.2 else (lx x z p).2.2.2) hT D3 (by omega)
  have hl : (List.replicate k 19 ++ H).length = k + H.length := by rw [List.length_append, List.length_replicate]
  rw [← ho, show o + k = o + cn19 (List.replicate k 19) from by rw [cn_rep]] at D4
  obtain ⟨w5, e5, D5, c5, N5⟩ := D_unwinds (ls := 7) hT (by omega) hH (List.replicate k 19) (q + 1) am_NF w4 D4 RK_rep (by omega) (by
    rw [cn_rep]
    omega) (by rw [List.length_replicate]; show k < 4000; omega)
  rw [List.length_replicate] at D5
  have e5 : F_Mod_unwinds (nI 7) w4 = some w5 := e5
  refine ⟨w5, G, m, ?_, by omega, D5, ⟨?_, ?_⟩, DM_t (M3 q) (DM_t (DN_d N4) (DM_m (by omega) (DN_d N5)))⟩
  · rw [e3, bn_s, iz_f (by omega) (by omega), t3]
    unfold F_Mod_eRead_38 F_Mod_eRead_61
    rw [t3]
    rcases hk with hk | hk
    · rw [if_pos hk] at e4
      rw [dti_t hk (by omega) (by omega), dti_t hk (by omega) (by omega), v3 (Or.inl hk), nI_add, e4, bn_s, e5, bn_s]
    · rw [if_neg (by omega)] at e4
      rw [dti_f (by omega : ¬ (lx x z p).2.2.1 = 1) (by omega) (by omega) (by omega), dti_t hk (by omega) (by omega), dti_f (by omega : ¬ (lx x z p).2.2.1 = 1) (by omega) (by omega) (by omega), v3 (Or.inr (Or.inl hk)), e4, bn_s, e5, bn_s]
  · rw [N5.2.2 _ (by omega)]; exact c4
  · rw [show 200 * T + q + 1 = 200 * T + (q + 1) from by omega]; exact c5
/-- a sign - before a ONE -/
theorem D_neg {a p : Nat} {res : Nat ⊕ (Nat × List Nat)} (hz : z ≤ 160) (hp : p ≤ z) (hk : (lx x z p).2.2.1 = 45) (ha : a < 5) (hr : DO x z T (a + 1) (lx x z p).2.1 res) : DO x z T a p (rUn 19 res) := fun H k o q F m w ho h hH hb hF hm => by
  obtain ⟨l1, l2, l3, l4, l5⟩ := lx_ok x hp
  have l6 := l4 (by omega)
  obtain ⟨G, w3, rfl, e3, D3, M3, b3, t3, v3⟩ := D_e14 h hp hF (nI 1) (nI m)
  have hl : (List.replicate k 19 ++ H).length = k + H.length := by rw [List.length_append, List.length_replicate]
  obtain ⟨w4, e4, D4, N4⟩ := D_opens (c := 19) D3 (by omega) ha
  have eG : L_Mod_eRead_14 (G + 1) (nI 1) (nI m) w = L_Mod_eRead_14 G (nI 1) (nI 0) w4 := by
    rw [e3, bn_s, iz_f (by omega) (by omega)]
    unfold F_Mod_eRead_99
    rw [t3, dti_f (by omega : ¬ (lx x z p).2.2.1 = 1) (by omega) (by omega) (by omega), dti_f (by omega : ¬ (lx x z p).2.2.1 = 2) (by omega) (by omega) (by omega), dti_f (by omega : ¬ (lx x z p).2.2.1 = 6) (by omega) (by omega) (by omega), dti_t hk (by omega) (by omega), e4, bn_s]
    dsimp only
    rw [iz_f (by omega) (by omega)]
  have h9 := hr H (k + 1) o q G 0 w4 (by omega) D4 hH (by omega) (by omega) ⟨Or.inl rfl, fun q => by omega, fun _ => Or.inl rfl⟩
  rw [eG]
  have hM := DM_t (M3 q) (DN_d N4)
  cases res with
  | inl b =>
    obtain ⟨w5, e5, e6, e7⟩ := h9
    exact ⟨w5, e5, e6, DM_t hM e7⟩
  | inr y =>
    obtain ⟨p2, cs⟩ := y
    obtain ⟨w5, F2, m2, e5, e6, e7, e8, e9⟩ := h9
    refine ⟨w5, F2, m2, e5, e6, ?_, ?_, DM_t hM e9⟩
    · rw [List.length_append, show q + (cs.length + [19].length) + k = q + cs.length + (k + 1) from by show q + (cs.length + 1) + k = _; omega]
      exact e7
    · rw [List.append_assoc]; exact e8
/-- what can't stand where a ONE is wanted -/
theorem D_noone {a p : Nat} (hp : p ≤ z) (ha : a ≤ 5) (h1 : ¬ (lx x z p).2.2.1 = 1) (h2 : ¬ (lx x z p).2.2.1 = 2) (h3 : (lx x z p).2.2.1 = 45 → a = 5) (h4 : (lx x z p).2.2.1 = 40 → a = 5) : DO x z T a p (.inl (lx x z p).1) := fun H k o q F m w ho h hH hb hF hm => by
  obtain ⟨l1, l2, l3, l4, l5⟩ := lx_ok x hp
  have hk100 := tk_lt l5
  obtain ⟨G, w3, rfl, e3, D3, M3, b3, t3, v3⟩ := D_e14 h hp hF (nI 1) (nI m)
  refine ⟨w3, ?_, b3, M3 q⟩
  rw [e3, bn_s, iz_f (by omega) (by omega), t3, dti_f h1 (by omega) (by omega) (by omega), dti_f h2 (by omega) (by omega) (by omega)]
  have e99 : F_Mod_eRead_99 (L_Mod_eRead_14 G) (nI 1) w3 = some (nI 0, w3) := by
    unfold F_Mod_eRead_99
    rw [t3]
    by_cases q5 : (lx x z p).2.2.1 = 45
    · have D3 := D3
      rw [h3 q5] at D3
      rw [dti_t q5 (by omega) (by omega), D_opens5 D3, bn_s]
      dsimp only
      rw [iz_t rfl]
    · rw [dti_f q5 (by omega) (by omega) (by omega)]
      by_cases q6 : (lx x z p).2.2.1 = 40
      · have D3 := D3
        rw [h4 q6] at D3
        rw [dti_t q6 (by omega) (by omega), D_opens5 D3, bn_s]
        dsimp only
        rw [iz_t rfl]
      · rw [dti_f q6 (by omega) (by omega) (by omega)]
  by_cases q6 : (lx x z p).2.2.1 = 6
  · rw [dti_t q6 (by omega) (by omega), e99]
    rcases hm.2.2 (by omega) with hm | hm | hm
    · rw [iz_t hm]
    · exact absurd q6 hm
    · have D3 := D3
      rw [show a = 5 from by omega] at D3
      rw [D_opens5 D3, bn_s]
      dsimp only
      rw [iz_t rfl, ite_self]
  · rw [dti_f q6 (by omega) (by omega) (by omega), e99]
/-- behind a piece: what neither joins nor ends it -/
theorem D_badk {o p q F m : Nat} {H A : List Nat} {w : am_W} (hT : T < 6) (hz : z ≤ 160) (hp : p ≤ z) (h : DS x z T p (o + cn19 A) q (A ++ H) w) (hb : q + (A ++ H).length < 200) (ho : o + cn19 A < 1000) (hF : z < F + p) (hN : NX 0 (lx x z p).2.2.1 A) (h1 : ¬ (lx x z p).2.2.1 = 59) (h2 : ¬ (lx x z p).2.2.1 = 41) : ∃ w2, L_Mod_eRead_14 F (nI 0) (nI m) w = some (nI 0, w2) ∧ w2.1 53 26 = nI (lx x z p).1 ∧ DM T q w w2 := by
  obtain ⟨l1, l2, l3, l4, l5⟩ := lx_ok x hp
  have hk100 := tk_lt l5
  obtain ⟨G, w3, rfl, e3, D3, M3, b3, t3, v3⟩ := D_e14 h hp hF (nI 0) (nI m)
  rw [e3, bn_s, iz_t rfl, t3, dti_f h1 (by omega) (by omega) (by omega), dti_f h2 (by omega) (by omega) (by omega), D_signOf (by omega) t3, bn_s]
  dsimp only
  unfold F_Mod_eRead_247
  by_cases hj : jl (lx x z p).2.2.1 ≤ 4
  · obtain ⟨-, hj2, C, c, D, rfl, hC, hc, hc4⟩ := hN (Nat.zero_le _) hj
    obtain ⟨s1, s2, s3, s4, s5, s6, s7⟩ := sg_r hj2 (by omega)
    rw [if_pos hj, if_neg (show ¬ nI (sg (lx x z p).2.2.1) = -nI 1 from fun q => absurd (show nI (sg (lx x z p).2.2.1) < 0 by rw [q]; decide) (nI_pos (by omega)))]
    have D3 : DS x z T (lx x z p).2.1 (o + cn19 (c :: D) + cn19 C) q (C ++ c :: (D ++ H)) w3 := by
      rw [cn_ap, List.append_assoc] at D3
      rw [show o + cn19 (c :: D) + cn19 C = o + (cn19 C + cn19 (c :: D)) from by omega]
      exact D3
    rw [cn_ap] at ho
    rw [List.append_assoc] at hb
    obtain ⟨w4, e4, N4⟩ := D_between2 (c := sg (lx x z p).2.2.1) hT s6 (by omega) D3 hC hc hc4 hb (by omega)
    rw [e4, bn_s]
    dsimp only
    rw [iz_t rfl]
    exact ⟨w4, rfl, (N4.2.1 26 (by omega)).trans b3, DM_t (M3 q) (DN_d N4)⟩
  · rw [if_neg hj, if_pos rfl]
    exact ⟨w3, rfl, b3, M3 q⟩
/-- a ; within ( -/
theorem D_semi {o p q F m a : Nat} {H A : List Nat} {w : am_W} (hT : T < 6) (hz : z ≤ 160) (hp : p ≤ z) (h : DS x z T p (o + cn19 A) q (A ++ a :: H) w) (hA : RK 1 A) (ha : TOP 1 (a :: H)) (hb : q + (A ++ a :: H).length < 200) (ho : o + cn19 A < 1000) (hF : z < F + p) (h1 : (lx x z p).2.2.1 = 59) : ∃ w2, L_Mod_eRead_14 F (nI 0) (nI m) w = some (nI 0, w2) ∧ w2.1 53 26 = nI (lx x z p).1 ∧ DM T q w w2 := by
  have hl : (A ++ a :: H).length = A.length + (H.length + 1) := List.length_append
  obtain ⟨G, w3, rfl, e3, D3, M3, b3, t3, v3⟩ := D_e14 h hp hF (nI 0) (nI m)
  obtain ⟨w4, e4, D4, c4, N4⟩ := D_unwinds (ls := 1) hT (by omega) ha A q am_NF w3 D3 hA (by omega) ho (by show _ < 4000; omega)
  have e4 : F_Mod_unwinds (nI 1) w3 = some w4 := e4
  have h5 : w4.1 53 31 = nI (H.length + 1) := D4.2.2.2.2.1
  rw [e3, bn_s, iz_t rfl, t3, dti_t h1 (by omega) (by omega), e4, bn_s, h5, iz_s (by omega)]
  exact ⟨w4, rfl, (N4.2.1 26 (by omega)).trans b3, DM_t (M3 q) (DN_d N4)⟩
/-- ( E ) -/
theorem D_paren {a p : Nat} {res : Nat ⊕ (Nat × List Nat)} (hT : T < 6) (hz : z ≤ 160) (hp : p ≤ z) (hk : (lx x z p).2.2.1 = 40) (ha : a < 5) (hfa : FA z 0 (a + 1) (lx x z p).2.1 res) (hr : DC x z T 0 (a + 1) (lx x z p).2.1 res) : DO x z T a p (rPa x z res) := fun H k o q F m w ho h hH hb hF hm => by
  obtain ⟨l1, l2, l3, l4, l5⟩ := lx_ok x hp
  have l6 := l4 (by omega)
  obtain ⟨G, w3, rfl, e3, D3, M3, b3, t3, v3⟩ := D_e14 h hp hF (nI 1) (nI m)
  have hl : (List.replicate k 19 ++ H).length = k + H.length := by rw [List.length_append, List.length_replicate]
  obtain ⟨w4, e4, D4, N4⟩ := D_opens (c := 0) D3 (by omega) ha
  have eG : L_Mod_eRead_14 (G + 1) (nI 1) (nI m) w = L_Mod_eRead_14 G (nI 1) (nI 1) w4 := by
    rw [e3, bn_s, iz_f (by omega) (by omega)]
    unfold F_Mod_eRead_99
    rw [t3, dti_f (by omega : ¬ (lx x z p).2.2.1 = 1) (by omega) (by omega) (by omega), dti_f (by omega : ¬ (lx x z p).2.2.1 = 2) (by omega) (by omega) (by omega), dti_f (by omega : ¬ (lx x z p).2.2.1 = 6) (by omega) (by omega) (by omega), dti_f (by omega : ¬ (lx x z p).2.2.1 = 45) (by omega) (by omega) (by omega), dti_t hk (by omega) (by omega), e4, bn_s]
    dsimp only
    rw [iz_f (by omega) (by omega)]
  have h9 := hr (0 :: (List.replicate k 19 ++ H)) q G 1 w4 D4 ⟨by omega, by decide⟩ (by show (List.replicate k 19 ++ H).length + 1 + q ≤ _; omega) (by omega) ⟨Or.inr rfl, fun _ => rfl, fun q => by omega⟩
  rw [eG]
  have hM := DM_t (M3 q) (DN_d N4)
  cases res with
  | inl b =>
    obtain ⟨w5, e5, e6, e7⟩ := h9
    exact ⟨w5, e5, e6, DM_t hM e7⟩
  | inr y =>
    obtain ⟨p2, cs⟩ := y
    obtain ⟨f1, f2, f3, -⟩ := hfa
    obtain ⟨w5, F2, m2, cn, pd, e5, e6, e7, e8, e9, e10, e11, e12⟩ := h9
    rw [List.nil_append] at e7
    have hcs : cs.length = cn.length + pd.length := by rw [e7, List.length_append]
    have hl2 : (pd ++ 0 :: (List.replicate k 19 ++ H)).length = pd.length + (k + H.length + 1) := by rw [List.length_append, List.length_cons, hl]
    obtain ⟨n1, n2, n3, n4, n5⟩ := lx_ok x f2
    have cpd := cnb pd
    have hM5 := DM_t hM e10
    show DQ x z T o k q H w _ (if (lx x z p2).2.2.1 = 41 then .inr ((lx x z p2).2.1, cs) else .inl (lx x z p2).1)
    rw [e5]
    by_cases q41 : (lx x z p2).2.2.1 = 41
    · rw [if_pos q41]
      have n6 := n4 (by omega)
      obtain ⟨G2, w6, rfl, g6, D6, M6, b6, t6, v6⟩ := D_e14 e8 f2 e6 (nI 0) (nI m2)
      obtain ⟨w7, g7, D7, c7, N7⟩ := D_unwinds (ls := 1) hT (by omega) (H := 0 :: (List.replicate k 19 ++ H)) ⟨by omega, by decide⟩ pd (q + cn.length) am_NF w6 D6 e11 (by omega) (by omega) (by show _ < 4000; omega)
      have g7 : F_Mod_unwinds (nI 1) w6 = some w7 := g7
      obtain ⟨d1, d2, d3, d4, d5, d6, d7, d8⟩ := D7
      have d5 : w7.1 53 31 = nI ((List.replicate k 19 ++ H).length + 1) := d5
      have d8 : w7.1 67 (List.replicate k 19 ++ H).length = nI 0 ∧ STK (List.replicate k 19 ++ H) (w7.1 67) := d8
      have N8 : DN T (q + cn.length + pd.length) w7 (wsf (wsf w7 53 31 (nI (List.replicate k 19 ++ H).length)) 53 32 (nI a)) := DN_t (DN_f (by omega)) (DN_f (by omega))
      have kk : ∀ j, ¬ j = 31 → ¬ j = 32 → (wsf (wsf w7 53 31 (nI (List.replicate k 19 ++ H).length)) 53 32 (nI a)).1 53 j = w7.1 53 j := fun j j1 j2 => by rw [wsf_ne j2, wsf_ne j1]
      have D8 : DS x z T (lx x z p2).2.1 (o + cn19 (List.replicate k 19)) (q + cn.length + pd.length) (List.replicate k 19 ++ H) (wsf (wsf w7 53 31 (nI (List.replicate k 19 ++ H).length)) 53 32 (nI a)) := ⟨DT_m (DN_d N8) d1, ABC_m (DN_d N8) d2, (kk 12 (by omega) (by omega)).trans d3, (kk 25 (by omega) (by omega)).trans d4, by rw [wsf_ne (by omega), wsf_at], by rw [wsf_at, cn_rep, ho], (kk 33 (by omega) (by omega)).trans d7, STK_fr (fun i _ => by rw [wsf_nc rfl, wsf_nc rfl]) d8.2⟩
      obtain ⟨w9, g9, D9, c9, N9⟩ := D_unwinds (ls := 7) hT (by omega) hH (List.replicate k 19) (q + cn.length + pd.length) am_NF _ D8 RK_rep (by omega) (by rw [cn_rep]; omega) (by rw [List.length_replicate]; show k < 4000; omega)
      have g9 : F_Mod_unwinds (nI 7) (wsf (wsf w7 53 31 (nI (List.replicate k 19 ++ H).length)) 53 32 (nI a)) = some w9 := g9
      rw [List.length_replicate] at D9
      refine ⟨w9, G2, m2, ?_, by omega, ?_, ?_, DM_t hM5 (DM_t (M6 q) (DM_t (DM_m (by omega) (DN_d N7)) (DM_t (DM_m (by omega) (DN_d N8)) (DM_m (by omega) (DN_d N9)))))⟩
      · rw [g6, bn_s, iz_t rfl, t6, dti_f (by omega : ¬ (lx x z p2).2.2.1 = 59) (by omega) (by omega) (by omega), dti_t q41 (by omega) (by omega), g7, bn_s, d5, iz_s (by omega), pk_sub (by omega), am_ltU, am_ltU, wsf_ne (by omega), d6, pk_sub (by omega), Nat.add_sub_cancel, Nat.add_sub_cancel, g9, bn_s]
      · rw [hcs, ← Nat.add_assoc]; exact D9
      · rw [e7]
        refine SQ_ap.mpr ⟨SQ_ap.mpr ⟨?_, ?_⟩, ?_⟩
        · exact SQ_fr (fun i _ hi => by rw [N9.2.2 i (by omega), N8.2.2 i (by omega), N7.2.2 i (by omega), (M6 (q + cn.length)).2.2 i (by omega)]) e9
        · rw [Nat.add_assoc]
          exact SQ_fr (fun i _ hi => by rw [N9.2.2 i (by omega), N8.2.2 i (by omega)]) c7
        · rw [List.length_append, show 200 * T + q + (cn.length + pd.length) = 200 * T + (q + cn.length + pd.length) from by omega]
          exact c9
    · rw [if_neg q41]
      by_cases q59 : (lx x z p2).2.2.1 = 59
      · obtain ⟨w6, g1, g2, g3⟩ := D_semi (m := m2) hT hz f2 e8 e11 ⟨by omega, by decide⟩ (by omega) (by omega) e6 q59
        exact ⟨w6, g1, g2, DM_t hM5 (DM_m (by omega) g3)⟩
      · obtain ⟨w6, g1, g2, g3⟩ := D_badk (m := m2) hT hz f2 e8 (by omega) (by omega) e6 e12 q59 q41
        exact ⟨w6, g1, g2, DM_t hM5 (DM_m (by omega) g3)⟩
end
