/-! ===== a text, from its first token to its last ===== -/
theorem dtz {α : Type} {k : Nat} {A B : α} (hk : k < 2 ^ 31) : (if dtk k = 0 then A else B) = if k = 0 then A else B := dti (c := 0) hk (by omega) (by omega)
section
variable {x : Nat → Nat} {z T : Nat}
def SWt (T q k : Nat) (w w2 : am_W) : Prop := SV T w w2 ∧ (∀ i, i < q → w2.1 (20 + 1 + T) i = w.1 (20 + 1 + T) i) ∧ ∀ j, j < k → w2.1 (27 + 1 + T) j = w.1 (27 + 1 + T) j
theorem SM_w {q k : Nat} {w w2 : am_W} (h : SM T q w w2) : SWt T q k w w2 := ⟨SV_M h, h.2.2.1, fun j _ => by
  rw [h.1 (27 + 1 + T) (by
    obtain ⟨n1, n2, n3, n4, n5⟩ := ne28 T
    show (Nat.beq (27 + 1 + T) 18 || Nat.beq (27 + 1 + T) (20 + 1 + T)) = false
    rw [n4, n5]; rfl)]⟩
theorem SWt_t {q k : Nat} {a b c : am_W} (h : SWt T q k a b) (g : SWt T q k b c) : SWt T q k a c := ⟨SV_t h.1 g.1, fun i hi => (g.2.1 i hi).trans (h.2.1 i hi), fun j hj => (g.2.2 j hj).trans (h.2.2 j hj)⟩
theorem SWt_m {q k q2 k2 : Nat} {a b : am_W} (h1 : q ≤ q2) (h2 : k ≤ k2) (h : SWt T q2 k2 a b) : SWt T q k a b := ⟨h.1, fun i hi => h.2.1 i (by omega), fun j hj => h.2.2 j (by omega)⟩
theorem SWt_e {q k j : Nat} {y : Int32} {w : am_W} (hj : k ≤ j) : SWt T q k w (wsf w (27 + 1 + T) j y) := ⟨SV_e, fun i _ => wsf_nc (ne28 T).2.2.1, fun i hi => wsf_ne (by omega)⟩
/-- the class begins a text -/
theorem S_start {w : am_W} (h : RB x z w) : ∃ w5, F_Read_read T T w = L_Read_read_26 am_NF T (nI 0) w5 ∧ ST x z T 0 0 w5 ∧ SV T w w5 := by
  have hR : RB x z (wsf (wsf (wsf (wz w T) 18 6 (nI 0)) 18 2 (nI 0)) 18 5 (nI 0)) := RB_f (RB_f (RB_f ⟨h.1, h.2.1, h.2.2⟩ (by omega)) (by omega)) (by omega)
  obtain ⟨w5, e5, q1, q2, q3, q4, q5, q6, q7⟩ := S_adv hR (wsf_at _ _ _ _) (by rw [wsf_ne (by omega), wsf_at]) (Nat.zero_le z)
  refine ⟨w5, ?_, ⟨⟨h.1, (q3 0 (by omega) (by omega) (by omega) (by omega)).trans hR.2.1, fun i hi => by rw [q2 19 rfl]; exact hR.2.2 i hi⟩, (q3 5 (by omega) (by omega) (by omega) (by omega)).trans (wsf_at _ _ _ _), q4, q5, q6, q7, ?_, by rw [q1]; rfl⟩, fun c hc => ?_⟩
  · unfold F_Read_read
    rw [am_ltU, am_ltU, am_ltU, am_ltU, e5, bn_s]
  · rw [q3 6 (by omega) (by omega) (by omega) (by omega), wsf_ne (by omega), wsf_ne (by omega), wsf_at]
  · rw [Bool.or_eq_false_iff] at hc
    exact (q2 c hc.1).trans ((mf_n hc.1).trans ((mf_n hc.1).trans (mf_n hc.1)))
theorem S_go {k p q p2 F : Nat} {cs : List Nat} {w : am_W} (hk : k < 3) (hq : q ≤ p) (hs : SPp x z T k p (.inr (p2, cs))) (h : ST x z T p q w) : ∃ w2, L_Read_read_26 (F + 1) T (nI k) w = L_Read_read_26 F T (nI (k + 1)) w2 ∧ ST x z T p2 (q + cs.length) w2 ∧ SQ stp cs q (w2.1 (20 + 1 + T)) ∧ w2.1 (27 + 1 + T) k = nI (q + cs.length) ∧ SWt T q k w w2 := by
  obtain ⟨w8, w9, w2, e8, e9, e2, T2, c2, M2⟩ := hs q w hq h
  refine ⟨_, S_stepT hk e8 e9 e2, ST_e T2, SQ_fr (fun i _ _ => wsf_nc (ne28 T).2.2.1) c2, ?_, SWt_t (SM_w M2) (SWt_e (Nat.le_refl k))⟩
  rw [wsf_at]; exact T2.2.2.2.2.2.2.1
theorem S_badT (hT : T < 6) {k p q b F : Nat} {w : am_W} (hk : k < 3) (hq : q ≤ p) (hF : 3 < F) (hs : SPp x z T k p (.inl b)) (h : ST x z T p q w) : ∃ w4, L_Read_read_26 (F + 1) T (nI k) w = some (nI 0, w4) ∧ w4.1 18 1 = nI b ∧ w4.1 18 0 = nI 0 ∧ SV T w w4 := by
  obtain ⟨w8, w9, w2, e8, e9, e2, X2, M2⟩ := hs q w hq h
  obtain ⟨w4, e4, b4, z4, V4⟩ := X_fin hT (2 - k) (k + 1) F _ (by omega) (by omega) (SX_e (j := k) (y := w2.1 18 6) X2)
  exact ⟨w4, (S_stepT hk e8 e9 e2).trans e4, b4, z4, SV_t (SV_M M2) (SV_t SV_e V4)⟩
theorem S_last {p q F : Nat} {w : am_W} (hp : p ≤ z) (hq : q ≤ 160) (h : ST x z T p q w) : ((lx x z p).2.2.1 = 0 → L_Read_read_26 (F + 1) T (nI 3) w = some (nI 1, wsf w 18 0 (nI 0))) ∧ (¬ (lx x z p).2.2.1 = 0 → ∃ w4, L_Read_read_26 (F + 1) T (nI 3) w = some (nI 0, w4) ∧ w4.1 18 1 = nI (lx x z p).1 ∧ w4.1 18 0 = nI 0 ∧ SV T w w4) := by
  have hcv := ctk_v (lx_ok x hp).2.2.2.2
  refine ⟨fun h0 => ?_, fun h0 => ?_⟩
  · show F_Read_read_26 _ _ _ _ = _
    unfold F_Read_read_26 F_Read_read_79 F_Read_read_96
    rw [ile_t (by omega) (by omega), h.2.2.2.2.1, ieq_t (by omega), am_ltU, wsf_ne (by omega), h.2.1, iz_t rfl]
    rfl
  · obtain ⟨w2, e2, X2, M2⟩ := T_refuse h hq
    refine ⟨wsf w2 18 0 (nI 0), ?_, (wsf_ne (by omega)).trans X2.2.2.1, wsf_at _ _ _ _, SV_t (SV_M M2) SV_f⟩
    show F_Read_read_26 _ _ _ _ = _
    unfold F_Read_read_26 F_Read_read_79 F_Read_read_96
    rw [ile_t (by omega) (by omega), h.2.2.2.2.1, ieq_f (by omega) (by omega) (by omega), e2, bn_s, am_ltU, wsf_ne (by omega), X2.2.1, iz_f (by omega) (by omega)]
    rfl
/-- the model begins a text -/
theorem D_start {w : am_W} (hT : T < 6) (h1 : DT x z w) (h2 : ABC w) (h3 : w.1 53 12 = nI T) : ∃ w2, F_Mod_text w = L_Mod_text_26 am_NF (nI 1) (nI 0) w2 ∧ DP x z T 0 0 w2 ∧ DV T 0 0 w w2 := by
  have V : DV T 0 0 w (wsf (wsf w 53 25 (nI 0)) 53 33 (nI 0)) := ⟨EX_t (EX_sf rfl) (EX_sf rfl), fun j hj => by rw [wsf_ne (by omega), wsf_ne (by omega)], fun i _ => by rw [wsf_nc rfl, wsf_nc rfl], fun i _ => by rw [wsf_nc rfl, wsf_nc rfl]⟩
  refine ⟨_, ?_, ⟨DT_v V h1, ABC_v V h2, (V.2.1 12 (by omega)).trans h3, by rw [wsf_ne (by omega), wsf_at], wsf_at _ _ _ _⟩, V⟩
  unfold F_Mod_text
  rw [h3, ieq_f (by omega) (by omega) (by omega), am_ltU, am_ltU]
theorem D_last {p q F : Nat} {w : am_W} (hT : T < 6) (hp : p ≤ z) (h : DP x z T p q w) : ∃ w2 w3, DV T q 4 w w2 ∧ L_Mod_text_26 (F + 1) (nI 1) (nI 3) w = some (if (lx x z p).2.2.1 = 0 then nI T else -nI 100 - nI (lx x z p).1, w3) ∧ w3.1 53 12 = nI (T + if (lx x z p).2.2.1 = 0 then 1 else 0) ∧ w3.1 60 (4 * T + 3) = nI q ∧ (∀ i, ¬ i = 4 * T + 3 → w3.1 60 i = w2.1 60 i) ∧ w3.1 53 9 = nI 0 ∧ (∀ j, ¬ j = 9 → ¬ j = 12 → w3.1 53 j = w2.1 53 j) ∧ ∀ c, ¬ c = 53 → ¬ c = 60 → w3.1 c = w2.1 c := by
  have hk100 := tk_lt (lx_ok x hp).2.2.2.2
  obtain ⟨w2, e2, ⟨d1, d2, d3, d4, d5⟩, V2, b2, t2, v2⟩ := D_tok2 h hp
  have e0 : L_Mod_text_26 (F + 1) (nI 1) (nI 3) w = if (lx x z p).2.2.1 = 0 then F_Mod_text_122 (nI 1) w2 else F_Mod_text_122 (nI 0) w2 := by
    show F_Mod_text_26 _ _ _ _ = _
    unfold F_Mod_text_26 F_Mod_text_101 F_Mod_text_121
    rw [ile_t (by omega) (by omega), iz_f (by omega) (by omega), e2, bn_s, t2, dtz (by omega)]
  by_cases h0 : (lx x z p).2.2.1 = 0
  · obtain ⟨w3, e3, g0, g1, g2, g3, g4, g5⟩ := D_122 (k := 1) (q := 0) hT (by omega) d3
    refine ⟨w2, w3, V2 q 4, ?_, ?_, g1.trans d5, g2, g3, g4, g5⟩
    · rw [e0, if_pos h0, if_pos h0, e3, if_neg (by omega)]
    · rw [g0, if_pos h0]
  · obtain ⟨w3, e3, g0, g1, g2, g3, g4, g5⟩ := D_122 (k := 0) (q := 0) hT (by omega) d3
    refine ⟨w2, w3, V2 q 4, ?_, ?_, g1.trans d5, g2, g3, g4, g5⟩
    · rw [e0, if_neg h0, if_neg h0, e3, if_pos rfl, b2]
    · rw [g0, if_neg h0]
theorem TEXT (x : Nat → Nat) {z T : Nat} (hT : T < 6) (hz : z ≤ 160) : ∃ out, FT out ∧ (∀ w, RB x z w → STx T w (F_Read_read T T w) out) ∧ ∀ w, DT x z w → ABC w → w.1 53 12 = nI T → DTx T w (F_Mod_text w) out := by
  obtain ⟨r0, f0, s0, d0⟩ := PART (x := x) hT hz (k := 0) (by omega) (Nat.zero_le z)
  cases r0 with
  | inl b =>
    refine ⟨.inl b, trivial, fun w h => ?_, fun w h1 h2 h3 => ?_⟩
    · obtain ⟨w5, e5, T5, V5⟩ := S_start (T := T) h
      obtain ⟨w4, e4, b4, z4, V4⟩ := S_badT (F := 3999) hT (by omega) (Nat.le_refl _) (by omega) s0 T5
      exact ⟨w4, e5.trans e4, b4, z4, SV_t V5 V4⟩
    · obtain ⟨w5, e5, D5, V5⟩ := D_start hT h1 h2 h3
      obtain ⟨w2, e2, b2, V2⟩ := d0 (L_Mod_text_26 3999) 0 w5 (Nat.le_refl _) D5
      have V := DV_t V5 V2
      obtain ⟨w3, e3, g3, W3⟩ := D_failT (q := 0) (F := 3998) hT (by omega : 0 + 1 ≤ 3) ((V.2.1 12 (by omega)).trans h3) b2 V
      exact ⟨w3, e5.trans (Eq.trans e2 e3), g3, W3⟩
  | inr y =>
    obtain ⟨p1, c0⟩ := y
    obtain ⟨a1, a2, a3, a4⟩ := f0
    obtain ⟨r1, f1, s1, d1⟩ := PART (x := x) hT hz (k := 1) (by omega) a2
    have S1 : ∀ w, RB x z w → ∃ w1, F_Read_read T T w = L_Read_read_26 3999 T (nI 1) w1 ∧ ST x z T p1 c0.length w1 ∧ SQ stp c0 0 (w1.1 (20 + 1 + T)) ∧ w1.1 (27 + 1 + T) 0 = nI c0.length ∧ SV T w w1 := fun w h => by
      obtain ⟨w5, e5, T5, V5⟩ := S_start (T := T) h
      obtain ⟨w1, e1, T1, q1, n1, W1⟩ := S_go (F := 3999) (by omega) (Nat.le_refl _) s0 T5
      rw [Nat.zero_add] at T1 n1
      exact ⟨w1, e5.trans e1, T1, q1, n1, SV_t V5 W1.1⟩
    have D1 : ∀ w, DT x z w → ABC w → w.1 53 12 = nI T → ∃ w1, F_Mod_text w = L_Mod_text_26 3999 (nI 1) (nI 1) w1 ∧ DP x z T p1 c0.length w1 ∧ SQ nI c0 (200 * T) (w1.1 59) ∧ w1.1 60 (4 * T) = nI 0 ∧ DV T 0 0 w w1 := fun w h1 h2 h3 => by
      obtain ⟨w5, e5, D5, V5⟩ := D_start hT h1 h2 h3
      obtain ⟨w2, e2, g2, q2, n2, V2⟩ := d0 (L_Mod_text_26 3999) 0 w5 (Nat.le_refl _) D5
      rw [Nat.zero_add] at g2
      exact ⟨w2, e5.trans e2, g2, q2, n2, DV_t V5 V2⟩
    cases r1 with
    | inl b =>
      refine ⟨.inl b, trivial, fun w h => ?_, fun w h1 h2 h3 => ?_⟩
      · obtain ⟨w5, e5, T5, -, -, V5⟩ := S1 w h
        obtain ⟨w4, e4, b4, z4, V4⟩ := S_badT (F := 3998) hT (by omega) (by omega) (by omega) s1 T5
        exact ⟨w4, e5.trans e4, b4, z4, SV_t V5 V4⟩
      · obtain ⟨w5, e5, D5, -, -, V5⟩ := D1 w h1 h2 h3
        obtain ⟨w2, e2, b2, V2⟩ := d1 (L_Mod_text_26 3998) _ w5 (by omega) D5
        have V := DV_t V5 (DV_m (Nat.zero_le _) (Nat.zero_le _) V2)
        obtain ⟨w3, e3, g3, W3⟩ := D_failT (q := 0) (F := 3997) hT (by omega : 1 + 1 ≤ 3) ((V.2.1 12 (by omega)).trans h3) b2 V
        exact ⟨w3, e5.trans (Eq.trans e2 e3), g3, W3⟩
    | inr y =>
      obtain ⟨p2, c1⟩ := y
      obtain ⟨b1, b2, b3, b4⟩ := f1
      obtain ⟨r2, f2, s2, d2⟩ := PART (x := x) hT hz (k := 2) (by omega) b2
      have S2 : ∀ w, RB x z w → ∃ w1, F_Read_read T T w = L_Read_read_26 3998 T (nI 2) w1 ∧ ST x z T p2 (c0.length + c1.length) w1 ∧ SQ stp (c0 ++ c1) 0 (w1.1 (20 + 1 + T)) ∧ w1.1 (27 + 1 + T) 0 = nI c0.length ∧ w1.1 (27 + 1 + T) 1 = nI (c0.length + c1.length) ∧ SV T w w1 := fun w h => by
        obtain ⟨w5, e5, T5, q5, n5, V5⟩ := S1 w h
        obtain ⟨w1, e1, T1, q1, n1, W1⟩ := S_go (F := 3998) (by omega) (by omega) s1 T5
        exact ⟨w1, e5.trans e1, T1, SQ_ap.mpr ⟨SQ_fr (fun i _ hi => W1.2.1 i (by omega)) q5, by rw [Nat.zero_add]; exact q1⟩, (W1.2.2 0 (by omega)).trans n5, n1, SV_t V5 W1.1⟩
      have D2 : ∀ w, DT x z w → ABC w → w.1 53 12 = nI T → ∃ w1, F_Mod_text w = L_Mod_text_26 3998 (nI 1) (nI 2) w1 ∧ DP x z T p2 (c0.length + c1.length) w1 ∧ SQ nI (c0 ++ c1) (200 * T) (w1.1 59) ∧ w1.1 60 (4 * T) = nI 0 ∧ w1.1 60 (4 * T + 1) = nI c0.length ∧ DV T 0 0 w w1 := fun w h1 h2 h3 => by
        obtain ⟨w5, e5, D5, q5, n5, V5⟩ := D1 w h1 h2 h3
        obtain ⟨w2, e2, g2, q2, n2, V2⟩ := d1 (L_Mod_text_26 3998) _ w5 (by omega) D5
        exact ⟨w2, e5.trans e2, g2, SQ_ap.mpr ⟨SQ_fr (fun i _ hi => V2.2.2.1 i (by omega)) q5, q2⟩, (V2.2.2.2 _ (by omega)).trans n5, n2, DV_t V5 (DV_m (Nat.zero_le _) (Nat.zero_le _) V2)⟩
      cases r2 with
      | inl b =>
        refine ⟨.inl b, trivial, fun w h => ?_, fun w h1 h2 h3 => ?_⟩
        · obtain ⟨w5, e5, T5, -, -, -, V5⟩ := S2 w h
          obtain ⟨w4, e4, b4, z4, V4⟩ := S_badT (F := 3997) hT (by omega) (by omega) (by omega) s2 T5
          exact ⟨w4, e5.trans e4, b4, z4, SV_t V5 V4⟩
        · obtain ⟨w5, e5, D5, -, -, -, V5⟩ := D2 w h1 h2 h3
          obtain ⟨w2, e2, b2, V2⟩ := d2 (L_Mod_text_26 3997) _ w5 (by omega) D5
          have V := DV_t V5 (DV_m (Nat.zero_le _) (Nat.zero_le _) V2)
          obtain ⟨w3, e3, g3, W3⟩ := D_failT (q := 0) (F := 3996) hT (by omega : 2 + 1 ≤ 3) ((V.2.1 12 (by omega)).trans h3) b2 V
          exact ⟨w3, e5.trans (Eq.trans e2 e3), g3, W3⟩
      | inr y =>
        obtain ⟨p3, c2⟩ := y
        obtain ⟨m1, m2, m3, m4⟩ := f2
        have S3 : ∀ w, RB x z w → ∃ w1, F_Read_read T T w = L_Read_read_26 3997 T (nI 3) w1 ∧ ST x z T p3 (c0.length + c1.length + c2.length) w1 ∧ SQ stp (c0 ++ (c1 ++ c2)) 0 (w1.1 (20 + 1 + T)) ∧ w1.1 (27 + 1 + T) 0 = nI c0.length ∧ w1.1 (27 + 1 + T) 1 = nI (c0.length + c1.length) ∧ w1.1 (27 + 1 + T) 2 = nI (c0.length + c1.length + c2.length) ∧ SV T w w1 := fun w h => by
          obtain ⟨w5, e5, T5, q5, n5, k5, V5⟩ := S2 w h
          obtain ⟨w1, e1, T1, q1, n1, W1⟩ := S_go (F := 3997) (by omega) (by omega) s2 T5
          refine ⟨w1, e5.trans e1, T1, ?_, (W1.2.2 0 (by omega)).trans n5, (W1.2.2 1 (by omega)).trans k5, n1, SV_t V5 W1.1⟩
          rw [← List.append_assoc]
          refine SQ_ap.mpr ⟨SQ_fr (fun i _ hi => W1.2.1 i (by rw [List.length_append] at hi; omega)) q5, ?_⟩
          rw [Nat.zero_add, List.length_append]; exact q1
        have D3 : ∀ w, DT x z w → ABC w → w.1 53 12 = nI T → ∃ w1, F_Mod_text w = L_Mod_text_26 3997 (nI 1) (nI 3) w1 ∧ DP x z T p3 (c0.length + c1.length + c2.length) w1 ∧ SQ nI (c0 ++ (c1 ++ c2)) (200 * T) (w1.1 59) ∧ w1.1 60 (4 * T) = nI 0 ∧ w1.1 60 (4 * T + 1) = nI c0.length ∧ w1.1 60 (4 * T + 2) = nI (c0.length + c1.length) ∧ DV T 0 0 w w1 := fun w h1 h2 h3 => by
          obtain ⟨w5, e5, D5, q5, n5, k5, V5⟩ := D2 w h1 h2 h3
          obtain ⟨w2, e2, g2, q2, n2, V2⟩ := d2 (L_Mod_text_26 3997) _ w5 (by omega) D5
          refine ⟨w2, e5.trans e2, g2, ?_, (V2.2.2.2 _ (by omega)).trans n5, (V2.2.2.2 _ (by omega)).trans k5, n2, DV_t V5 (DV_m (Nat.zero_le _) (Nat.zero_le _) V2)⟩
          rw [← List.append_assoc]
          refine SQ_ap.mpr ⟨SQ_fr (fun i _ hi => V2.2.2.1 i (by rw [List.length_append] at hi; omega)) q5, ?_⟩
          rw [List.length_append]; exact q2
        by_cases h0 : (lx x z p3).2.2.1 = 0
        · refine ⟨.inr (c0, c1, c2), ⟨by omega, a4, b4, m4⟩, fun w h => ?_, fun w h1 h2 h3 => ?_⟩
          · obtain ⟨w5, e5, T5, q5, n5, k5, j5, V5⟩ := S3 w h
            have e6 := (S_last (F := 3996) m2 (by omega) T5).1 h0
            obtain ⟨x1, x2, x3, x4, x5⟩ := ne28 T
            refine ⟨_, e5.trans e6, SQ_fr (fun i _ _ => wsf_nc (nbf (by omega))) q5, (wsf_nc x4).trans n5, (wsf_nc x4).trans k5, (wsf_nc x4).trans j5, wsf_at _ _ _ _, SV_t V5 SV_f, T5.2.2.2.2.2.2.2⟩
          · obtain ⟨w5, e5, D5, q5, n5, k5, j5, V5⟩ := D3 w h1 h2 h3
            obtain ⟨w2, w3, V2, e3, g0, g1, g2, g3, g4, g5⟩ := D_last (F := 3996) hT m2 D5
            rw [if_pos h0] at e3 g0
            refine ⟨w3, e5.trans e3, SQ_fr (fun i _ hi => ?_) q5, ?_, ?_, ?_, g1, g0, DW_of (q := 0) (k := 0) (DV_t V5 (DV_m (Nat.zero_le _) (Nat.zero_le _) V2)) g2 g3 g4 g5⟩
            · rw [g5 59 (by omega) (by omega)]
              refine V2.2.2.1 i ?_
              rw [List.length_append, List.length_append] at hi
              omega
            · rw [g2 _ (by omega), V2.2.2.2 _ (by omega)]; exact n5
            · rw [g2 _ (by omega), V2.2.2.2 _ (by omega)]; exact k5
            · rw [g2 _ (by omega), V2.2.2.2 _ (by omega)]; exact j5
        · refine ⟨.inl (lx x z p3).1, trivial, fun w h => ?_, fun w h1 h2 h3 => ?_⟩
          · obtain ⟨w5, e5, T5, -, -, -, -, V5⟩ := S3 w h
            obtain ⟨w4, e4, b4, z4, V4⟩ := (S_last (F := 3996) m2 (by omega) T5).2 h0
            exact ⟨w4, e5.trans e4, b4, z4, SV_t V5 V4⟩
          · obtain ⟨w5, e5, D5, -, -, -, -, V5⟩ := D3 w h1 h2 h3
            obtain ⟨w2, w3, V2, e3, g0, g1, g2, g3, g4, g5⟩ := D_last (F := 3996) hT m2 D5
            rw [if_neg h0] at e3 g0
            exact ⟨w3, e5.trans e3, g0, DW_of (q := 0) (k := 0) (DV_t V5 (DV_m (Nat.zero_le _) (Nat.zero_le _) V2)) g2 g3 g4 g5⟩
end
