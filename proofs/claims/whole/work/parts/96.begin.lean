/-! ===== the first law is a text; what holds before the first call ===== -/
section
variable {x : Nat → Nat} {z T : Nat}
/-- a key where one is wanted -/
theorem D_key {k p q : Nat} {w : am_W} (hT : T < 6) (hk : k < 3) (hp : p ≤ z) (hkey : (lx x z p).2.2.1 = 3 ∧ (lx x z p).2.2.2 = k) (r26 : Int32 → Int32 → am_W → Option (Int32 × am_W)) (h : DP x z T p q w) : ∃ w3, DP x z T (lx x z p).2.1 q w3 ∧ F_Mod_text_26 r26 (nI 1) (nI k) w = (F_Mod_eRead w3).bind fun q9 => if q9.1 = 0 then r26 (nI 0) (nI (k + 1)) q9.2 else r26 (nI 1) (nI (k + 1)) q9.2 := by
  obtain ⟨w2, e2, ⟨d1, d2, d3, d4, d5⟩, M2, b2, t2, v2⟩ := D_tok2 h hp
  have V3 : DV T q k w2 (wsf w2 60 (4 * T + k) (nI q)) := ⟨EX_sf rfl, fun j _ => wsf_nc rfl, fun i _ => wsf_nc rfl, fun i hi => wsf_ne (by omega)⟩
  refine ⟨wsf w2 60 (4 * T + k) (nI q), ⟨DT_v V3 d1, ABC_v V3 d2, (wsf_nc rfl).trans d3, (wsf_nc rfl).trans d4, (wsf_nc rfl).trans d5⟩, ?_⟩
  unfold F_Mod_text_26 F_Mod_text_59 F_Mod_text_60 F_Mod_text_93 F_Mod_text_94
  rw [ile_f hk (by omega), iz_f (by omega) (by omega), e2, bn_s, t2, d3, d5, pk_mul, nI_add, in_nI (by omega : 4 * T + k < 24) (by omega), am_ckT, am_ckT, am_ltU, am_ltU, wst_f (by omega), nI_add]
  rw [dti_t hkey.1 (by omega) (by omega), v2 (Or.inr (Or.inr hkey.1)), ieq_t hkey.2, iz_f (by omega) (by omega)]
/-- the ; behind an E -/
theorem D_semi0 {p q F m : Nat} {A : List Nat} {w : am_W} (hT : T < 6) (hp : p ≤ z) (h : DS x z T p (0 + cn19 A) q A w) (hA : RK 1 A) (hb : q + A.length ≤ 200) (ho : cn19 A < 1000) (hF : z < F + p) (h1 : (lx x z p).2.2.1 = 59) : ∃ w2, L_Mod_eRead_14 F (nI 0) (nI m) w = some (nI 1, w2) ∧ DP x z T (lx x z p).2.1 (q + A.length) w2 := by
  have h : DS x z T p (0 + cn19 A) q (A ++ []) w := by rw [List.append_nil]; exact h
  have hl : (A ++ ([] : List Nat)).length = A.length := by rw [List.append_nil]
  obtain ⟨G2, w6, rfl, g6, D6, M6, b6, t6, v6⟩ := D_e14 h hp hF (nI 0) (nI m)
  obtain ⟨w7, g7, D7, c7, N7⟩ := D_unwinds (ls := 1) hT (by omega) (H := []) trivial A q am_NF w6 D6 hA (by omega) (by omega) (by show _ < 4000; omega)
  have g7 : F_Mod_unwinds (nI 1) w6 = some w7 := g7
  obtain ⟨d1, d2, d3, d4, d5, d6, d7, d8⟩ := D7
  have d5 : w7.1 53 31 = nI 0 := d5
  refine ⟨w7, ?_, ⟨d1, d2, d3, d4, d7⟩⟩
  rw [g6, bn_s, iz_t rfl, t6, dti_t h1 (by omega) (by omega), g7, bn_s, d5, iz_t rfl]; rfl
theorem D_e0 {p q : Nat} {w : am_W} (h : DP x z T p q w) : ∃ w0, F_Mod_eRead w = L_Mod_eRead_14 am_NF (nI 1) (nI 1) w0 ∧ DS x z T p 0 q [] w0 := by
  obtain ⟨h1, h2, h3, h4, h7⟩ := h
  have N0 : DN T q w (wsf (wsf w 53 31 (nI 0)) 53 32 (nI 0)) := DN_t (DN_f (by omega)) (DN_f (by omega))
  have k : ∀ j, ¬ j = 31 → ¬ j = 32 → (wsf (wsf w 53 31 (nI 0)) 53 32 (nI 0)).1 53 j = w.1 53 j := fun j j1 j2 => by rw [wsf_ne j2, wsf_ne j1]
  exact ⟨_, rfl, ⟨DT_m (DN_d N0) h1, ABC_m (DN_d N0) h2, (k 12 (by omega) (by omega)).trans h3, (k 25 (by omega) (by omega)).trans h4, by rw [wsf_ne (by omega), wsf_at]; rfl, wsf_at _ _ _ _, (k 33 (by omega) (by omega)).trans h7, trivial⟩⟩
/-- an operand under the signs H -/
theorem D_op1 {p q F m : Nat} {H : List Nat} {w : am_W} (hT : T < 6) (hz : z ≤ 160) (hp : p ≤ z) (hk : (lx x z p).2.2.1 = 1 ∨ (lx x z p).2.2.1 = 2) (h : DS x z T p 0 q H w) (hH : TOP 7 H) (hb : H.length + q ≤ p) (hF : z < F + p) (hm : m = 0 ∨ m = 1) : ∃ w2 G m2, L_Mod_eRead_14 F (nI 1) (nI m) w = L_Mod_eRead_14 G (nI 0) (nI m2) w2 ∧ z < G + (lx x z p).2.1 ∧ DS x z T (lx x z p).2.1 0 (q + 1) H w2 := by
  obtain ⟨w2, G, m2, e1, e2, e3, -, -⟩ := D_oper hT hz hp (Nat.zero_le 5) hk H 0 0 q F m w rfl h hH (by omega) hF ⟨hm, fun q => absurd q (by omega), fun _ => Or.inr (Or.inl (by omega))⟩
  exact ⟨w2, G, m2, e1, e2, e3⟩
/-- one operand alone -/
theorem D_E1 {p q : Nat} {w : am_W} (hT : T < 6) (hz : z ≤ 160) (hp : p ≤ z) (hq : q ≤ p) (hk : (lx x z p).2.2.1 = 1 ∨ (lx x z p).2.2.1 = 2) (h59 : (lx x z (lx x z p).2.1).2.2.1 = 59) (h : DP x z T p q w) : ∃ w2, F_Mod_eRead w = some (nI 1, w2) ∧ DP x z T (lx x z (lx x z p).2.1).2.1 (q + 1) w2 := by
  obtain ⟨l1, l2, l3, l4, l5⟩ := lx_ok x hp
  obtain ⟨w0, e0, D0⟩ := D_e0 h
  obtain ⟨w1, G, m, e1, g1, D1⟩ := D_op1 (m := 1) hT hz hp hk D0 trivial (by show 0 + q ≤ p; omega) (by show z < 4000 + p; omega) (Or.inr rfl)
  obtain ⟨w2, e2, D2⟩ := D_semi0 (A := []) (m := m) hT l3 D1 RK_n (by show q + 1 + 0 ≤ 200; omega) (by show 0 < 1000; omega) g1 h59
  exact ⟨w2, e0.trans (e1.trans e2), D2⟩
end
def lawX (i : Nat) : Nat := lawB.getD i 0
theorem lx_law : lx lawX 40 0 = (0, 5, 3, 0) ∧ lx lawX 40 5 = (6, 7, 1, 0) ∧ lx lawX 40 7 = (8, 9, 59, 0) ∧ lx lawX 40 9 = (10, 14, 3, 1) ∧ lx lawX 40 14 = (15, 17, 1, 10) ∧ lx lawX 40 17 = (18, 19, 43, 0) ∧ lx lawX 40 19 = (20, 24, 2, 1) ∧ lx lawX 40 24 = (25, 26, 42, 0) ∧ lx lawX 40 26 = (27, 28, 1, 5) ∧ lx lawX 40 28 = (29, 30, 59, 0) ∧ lx lawX 40 30 = (31, 36, 3, 2) ∧ lx lawX 40 36 = (37, 38, 1, 1) ∧ lx lawX 40 38 = (39, 40, 59, 0) ∧ lx lawX 40 40 = (40, 40, 0, 0) := ⟨by decide +kernel, by decide +kernel, by decide +kernel, by decide +kernel, by decide +kernel, by decide +kernel, by decide +kernel, by decide +kernel, by decide +kernel, by decide +kernel, by decide +kernel, by decide +kernel, by decide +kernel, by decide +kernel⟩
theorem LAW_ok {w : am_W} (h1 : DT lawX 40 w) (h2 : ABC w) (h3 : w.1 53 12 = nI 0) : ∃ r w2, F_Mod_text w = some (r, w2) ∧ w2.1 53 12 = nI 1 := by
  obtain ⟨t0, t1, t2, t3, t4, t5, t6, t7, t8, t9, ta, tb, tc, td⟩ := lx_law
  obtain ⟨w1, e1, D1, -⟩ := D_start (T := 0) (by omega) h1 h2 h3
  -- takes 0 ;
  obtain ⟨w2, D2, e2⟩ := D_key (k := 0) (by omega) (by omega) (by omega) (by rw [t0]; exact ⟨rfl, rfl⟩) (L_Mod_text_26 3999) D1
  rw [t0] at D2
  obtain ⟨w3, e3, D3⟩ := D_E1 (p := 5) (by omega) (by omega) (by omega) (by omega) (by rw [t1]; exact Or.inl rfl) (by rw [t1]; show (lx lawX 40 7).2.2.1 = 59; rw [t2]) D2
  rw [t1] at D3
  have D3 : DP lawX 40 0 (lx lawX 40 7).2.1 1 w3 := D3
  rw [t2] at D3
  have s1 : F_Mod_text w = L_Mod_text_26 3999 (nI 1) (nI 1) w3 := by
    refine e1.trans (Eq.trans e2 ?_)
    rw [e3, bn_s]
    dsimp only
    rw [iz_f (by omega) (by omega)]
  -- saws 10 + sort * 5 ;
  obtain ⟨w4, D4, e4⟩ := D_key (k := 1) (p := 9) (by omega) (by omega) (by omega) (by rw [t3]; exact ⟨rfl, rfl⟩) (L_Mod_text_26 3998) D3
  rw [t3] at D4
  obtain ⟨v0, f0, E0⟩ := D_e0 D4
  obtain ⟨v1, G1, m1, f1, g1, E1⟩ := D_op1 (p := 14) (q := 1) (m := 1) (by omega) (by omega) (by omega) (by rw [t4]; exact Or.inl rfl) E0 trivial (by show 0 + 1 ≤ 14; omega) (by show 40 < 4000 + 14; omega) (Or.inr rfl)
  rw [t4] at g1 E1
  obtain ⟨v2, G2, f2, g2, E2, -, -⟩ := D_join (r := 3) (p := 17) (o := 0) (q := 2) (m := m1) (A := []) (H := []) (by omega) (by omega) (by omega) (by omega) E1 RK_n trivial (by show 2 + 0 < 200; omega) (by show 0 + 0 < 1000; omega) g1 (by rw [t5]; rfl)
  rw [t5] at g2 E2
  obtain ⟨v3, G3, m3, f3, g3, E3⟩ := D_op1 (p := 19) (q := 2) (H := [16]) (m := 0) (by omega) (by omega) (by omega) (by rw [t6]; exact Or.inr rfl) E2 ⟨by omega, by decide⟩ (by show 1 + 2 ≤ 19; omega) g2 (Or.inl rfl)
  rw [t6] at g3 E3
  obtain ⟨v4, G4, f4, g4, E4, -, -⟩ := D_join (r := 4) (p := 24) (o := 0) (q := 3) (m := m3) (A := []) (H := [16]) (by omega) (by omega) (by omega) (by omega) E3 RK_n ⟨by omega, by decide⟩ (by show 3 + 1 < 200; omega) (by show 0 + 0 < 1000; omega) g3 (by rw [t7]; rfl)
  rw [t7] at g4 E4
  obtain ⟨v5, G5, m5, f5, g5, E5⟩ := D_op1 (p := 26) (q := 3) (H := [18, 16]) (m := 0) (by omega) (by omega) (by omega) (by rw [t8]; exact Or.inl rfl) E4 ⟨by omega, by decide⟩ (by show 2 + 3 ≤ 26; omega) g4 (Or.inl rfl)
  rw [t8] at g5 E5
  obtain ⟨v6, f6, E6⟩ := D_semi0 (p := 28) (q := 4) (m := m5) (A := [18, 16]) (by omega) (by omega) E5 (RK_ap (A := [18]) (RK_1 (by omega) (by decide)) (RK_1 (by omega) (by decide))) (by show 4 + 2 ≤ 200; omega) (by decide) g5 (by rw [t9])
  rw [t9] at E6
  have f2 : L_Mod_eRead_14 G1 (nI 0) (nI m1) v1 = L_Mod_eRead_14 G2 (nI 1) (nI 0) v2 := f2
  have f4 : L_Mod_eRead_14 G3 (nI 0) (nI m3) v3 = L_Mod_eRead_14 G4 (nI 1) (nI 0) v4 := f4
  have e5 : F_Mod_eRead w4 = some (nI 1, v6) := f0.trans (f1.trans (f2.trans (f3.trans (f4.trans (f5.trans f6)))))
  have s2 : F_Mod_text w = L_Mod_text_26 3998 (nI 1) (nI 2) v6 := by
    refine s1.trans (Eq.trans e4 ?_)
    rw [e5, bn_s]
    dsimp only
    rw [iz_f (by omega) (by omega)]
  -- minds 1 ;
  obtain ⟨w6, D6, e6⟩ := D_key (k := 2) (p := 30) (q := 6) (by omega) (by omega) (by omega) (by rw [ta]; exact ⟨rfl, rfl⟩) (L_Mod_text_26 3997) E6
  rw [ta] at D6
  obtain ⟨w7, e7, D7⟩ := D_E1 (p := 36) (by omega) (by omega) (by omega) (by omega) (by rw [tb]; exact Or.inl rfl) (by rw [tb]; show (lx lawX 40 38).2.2.1 = 59; rw [tc]) D6
  rw [tb] at D7
  have D7 : DP lawX 40 0 (lx lawX 40 38).2.1 7 w7 := D7
  rw [tc] at D7
  have s3 : F_Mod_text w = L_Mod_text_26 3997 (nI 1) (nI 3) w7 := by
    refine s2.trans (Eq.trans e6 ?_)
    rw [e7, bn_s]
    dsimp only
    rw [iz_f (by omega) (by omega)]
  obtain ⟨w8, w9, -, e8, g8, -⟩ := D_last (p := 40) (F := 3996) (T := 0) (by omega) (by omega) D7
  rw [td] at g8
  exact ⟨_, w9, s3.trans e8, g8⟩
theorem bg_all : ((List.range 40).all fun i => decide (sg0 58 i = nI (lawX i)) && decide (lawX i < 256)) = true := by decide +kernel
theorem ab_all : ((List.range 96).all fun i => decide (sg0 66 i = ([116, 97, 107, 101, 115, 32, 32, 32, 115, 97, 119, 115, 32, 32, 32, 32, 109, 105, 110, 100, 115, 32, 32, 32, 109, 111, 114, 101, 32, 32, 32, 32, 115, 111, 114, 116, 32, 32, 32, 32, 104, 111, 117, 114, 32, 32, 32, 32, 116, 104, 105, 110, 103, 32, 32, 32, 109, 97, 110, 121, 32, 32, 32, 32, 107, 105, 110, 100, 32, 32, 32, 32, 111, 114, 32, 32, 32, 32, 32, 32, 97, 110, 100, 32, 32, 32, 32, 32, 110, 111, 116, 32, 32, 32, 32, 32] : List Int32).getD i 0)) = true := by decide +kernel
theorem st_all : ((List.range 4).all fun k => decide (sg0 62 k = -nI 1)) = true := by decide +kernel
/-- both constructors, their texts read; what holds then -/
theorem BEGIN : ∃ (w1 w4 : am_W) (r : Int32), F_Read_read 0 0 (wL 40) = some (nI 1, w1) ∧ w1.2.2 = some 0 ∧ F_Mod_text (wB (wsf w1 17 1 (nI 1))) = some (r, w4) ∧ RR w4 := by
  obtain ⟨a1, a2, a3, a4⟩ := wL_s 40 (Nat.le_refl _)
  have hx : ∀ i, i < 40 → sg0 58 i = nI (lawX i) ∧ lawX i < 256 := fun i hi => by
    have h := List.all_eq_true.mp bg_all i (List.mem_range.mpr hi)
    rw [Bool.and_eq_true, decide_eq_true_eq, decide_eq_true_eq] at h
    exact h
  have hR : RB lawX 40 (wL 40) := ⟨by omega, a1, fun i hi => ⟨a4 i hi, (hx i hi).2⟩⟩
  have hD : ∀ w : am_W, DT lawX 40 (wB w) := fun w => ⟨by omega, rfl, fun i hi => hx i hi⟩
  have hA : ∀ w : am_W, ABC (wB w) := fun w i hi => of_decide_eq_true (List.all_eq_true.mp ab_all i (List.mem_range.mpr hi))
  obtain ⟨out, hF, hSr, hDr⟩ := TEXT lawX (z := 40) (T := 0) (by omega) (by omega)
  have hs9 := hSr (wL 40) hR
  cases out with
  | inl b =>
    exfalso
    obtain ⟨w2, e2, g2, -⟩ := hDr (wB (wL 40)) (hD _) (hA _) rfl
    obtain ⟨r, w3, e3, g3⟩ := LAW_ok (hD (wL 40)) (hA _) rfl
    have e4 := (Prod.mk.inj (Option.some.inj (e2.symm.trans e3))).2
    rw [← e4, g2] at g3
    exact absurd g3 (by decide)
  | inr y =>
    obtain ⟨c0, c1, c2⟩ := y
    obtain ⟨w1, e1, q1, n0, n1, n2, z1, V1, u1⟩ := hs9
    obtain ⟨w3, e3, q3, i0, i1, i2, i3, g3, W3⟩ := hDr (wB (wsf w1 17 1 (nI 1))) (hD _) (hA _) rfl
    refine ⟨w1, w3, _, e1, u1, e3, ?_⟩
    -- the class's cells
    have r1 : ∀ c, 0 < c → c ≤ 35 → w3.1 c = (wsf w1 17 1 (nI 1)).1 c := fun c h1 h2 => (W3.1 c (by
      show (Nat.beq c 53 || (Nat.beq c 59 || (Nat.beq c 60 || Nat.beq c 67))) = false
      rw [nbf (by omega), nbf (by omega), nbf (by omega), nbf (by omega)]; rfl)).trans (by
      show (bif Nat.ble c 35 && !(Nat.beq c 0) then _ else _) = _
      rw [Nat.ble_eq_true_of_le h2, nbf (by omega)]; rfl)
    have r2 : ∀ c, 0 < c → c ≤ 35 → ¬ c = 17 → ¬ c = 18 → ¬ c = 19 → ¬ c = 21 → ¬ c = 28 → w3.1 c = sg0 c := fun c h1 h2 h3 h4 h5 h6 h7 => (r1 c h1 h2).trans ((wsf_fc h3).trans ((V1 c (by
      show (Nat.beq c 18 || (Nat.beq c (20 + 1 + 0) || Nat.beq c (27 + 1 + 0))) = false
      rw [nbf h4, nbf (by omega), nbf (by omega)]; rfl)).trans (a3 c h4 h5)))
    have r3 : ∀ c, 35 < c → ¬ c = 53 → ¬ c = 59 → ¬ c = 60 → ¬ c = 67 → w3.1 c = sg0 c := fun c h1 h2 h3 h4 h5 => (W3.1 c (by
      show (Nat.beq c 53 || (Nat.beq c 59 || (Nat.beq c 60 || Nat.beq c 67))) = false
      rw [nbf h2, nbf h3, nbf h4, nbf h5]; rfl)).trans (by
      show (bif Nat.ble c 35 && !(Nat.beq c 0) then _ else _) = _
      rw [show Nat.ble c 35 = false from Bool.eq_false_iff.mpr (fun q => by have := Nat.le_of_ble_eq_true q; omega)]; rfl)
    have r4 : ∀ j, j < 25 → ¬ j = 9 → ¬ j = 12 → w3.1 53 j = nI 0 := fun j h1 h2 h3 => (W3.2.1 j h1 h2 h3).trans (by
      show (bif Nat.beq j 9 then nI 40 else 0) = nI 0
      rw [nbf h2]; rfl)
    have r17 : w3.1 17 = (wsf w1 17 1 (nI 1)).1 17 := r1 17 (by omega) (by omega)
    have c17 : w1.1 17 = sg0 17 := (V1 17 rfl).trans (a3 17 (by omega) (by omega))
    refine ⟨0, 0, 0, 0, 1, 0, fun _ _ => 0, _, _, ⟨by omega, by omega, fun t ht => absurd ht (Nat.not_lt_zero _), fun l hl => absurd hl (Nat.not_lt_zero _)⟩, by decide, by decide, ⟨?_, ?_, ?_, ?_, ?_, fun t ht => absurd ht (Nat.not_lt_zero _), fun l hl => absurd hl (Nat.not_lt_zero _)⟩, ⟨r4 0 (by omega) (by omega) (by omega), r4 4 (by omega) (by omega) (by omega), r4 5 (by omega) (by omega) (by omega), r4 7 (by omega) (by omega) (by omega), fun t ht => absurd ht (Nat.not_lt_zero _), fun l hl => absurd hl (Nat.not_lt_zero _)⟩, ⟨by omega, by omega, ?_, ?_, g3, r4 13 (by omega) (by omega) (by omega)⟩, TX_new (T := 0) (te := fun _ _ => 0) (tc := fun _ _ => 0) hF ?_ ?_ q3 ⟨i0, i1, i2, i3⟩ (fun t ht => absurd ht (Nat.not_lt_zero _)), fun k hk => ?_, ⟨0, by omega, ?_, W3.2.2.2.2, fun i hi => absurd hi (Nat.not_lt_zero _)⟩, Or.inl ⟨?_, r4 14 (by omega) (by omega) (by omega)⟩, fun i hi => ?_⟩
    · rw [r2 1 (by omega) (by omega) (by omega) (by omega) (by omega) (by omega) (by omega)]; rfl
    · rw [r2 1 (by omega) (by omega) (by omega) (by omega) (by omega) (by omega) (by omega)]; rfl
    · rw [r2 1 (by omega) (by omega) (by omega) (by omega) (by omega) (by omega) (by omega)]; rfl
    · rw [r2 1 (by omega) (by omega) (by omega) (by omega) (by omega) (by omega) (by omega)]; rfl
    · rw [r2 1 (by omega) (by omega) (by omega) (by omega) (by omega) (by omega) (by omega)]; rfl
    · rw [r17, wsf_at]
    · rw [r17, wsf_ne (by omega), c17]; rfl
    · rw [r1 _ (by omega) (by omega), wsf_fc (by omega)]; exact q1
    · rw [r1 _ (by omega) (by omega), wsf_fc (by omega)]; exact ⟨n0, n1, n2⟩
    · have hs := of_decide_eq_true (List.all_eq_true.mp st_all k (List.mem_range.mpr hk))
      rw [r3 62 (by omega) (by omega) (by omega) (by omega) (by omega), r3 63 (by omega) (by omega) (by omega) (by omega) (by omega), r3 64 (by omega) (by omega) (by omega) (by omega) (by omega), r3 (45 + 2 * k) (by omega) (by omega) (by omega) (by omega) (by omega), r3 (46 + 2 * k) (by omega) (by omega) (by omega) (by omega) (by omega), hs]
      match k, hk with
      | 0, _ => exact ⟨rfl, Or.inl rfl, ⟨0, by omega, rfl, rfl⟩, fun i _ => rfl⟩
      | 1, _ => exact ⟨rfl, Or.inl rfl, ⟨0, by omega, rfl, rfl⟩, fun i _ => rfl⟩
      | 2, _ => exact ⟨rfl, Or.inl rfl, ⟨0, by omega, rfl, rfl⟩, fun i _ => rfl⟩
      | 3, _ => exact ⟨rfl, Or.inl rfl, ⟨0, by omega, rfl, rfl⟩, fun i _ => rfl⟩
    · rw [r1 18 (by omega) (by omega), wsf_fc (by omega)]; exact z1
    · rw [W3.1 0 rfl]; rfl
    · rw [r3 66 (by omega) (by omega) (by omega) (by omega) (by omega)]
      exact of_decide_eq_true (List.all_eq_true.mp ab_all i (List.mem_range.mpr hi))
