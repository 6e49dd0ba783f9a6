/-! ===== calls on days: hour, day (1, 2), pass ===== -/
/-- in which hour each goes -/
def hoA (n m : Nat) (v : am_V) (s : Nat) (cm : Nat → Nat) (g : Nat) (t : Nat) : Int32 := gA n m v s cm g 24 t
/-- an hour, or none -/
def hh (x : Int32) : Prop := x = -nI 1 ∨ ∃ h, h < 24 ∧ x = nI h
theorem m1_ti : (-nI 1 : Int32).toInt = -1 := by decide
theorem hh_lt {α : Type} {x : Int32} (h : hh x) {a b : α} : (if x < 0 then a else b) = (if x = -nI 1 then a else b) := by
  rcases h with h | ⟨k, hk, h⟩
  · rw [h, if_pos rfl, if_pos (by decide)]
  · rw [h, if_neg (nI_pos (by omega)), if_neg (fun q => by
      have := congrArg Int32.toInt q
      rw [nI_toInt (by omega), m1_ti] at this
      omega)]
theorem hh_le {α : Type} {x : Int32} (h : hh x) {a b : α} : (if 0 ≤ x then a else b) = (if x = -nI 1 then b else a) := by
  rcases h with h | ⟨k, hk, h⟩
  · rw [h, if_pos rfl, if_neg (by decide)]
  · rw [h, if_pos (show (0 : Int32) ≤ nI k from nI_le (a := 0) (Nat.zero_le k) (by omega)), if_neg (fun q => by
      have := congrArg Int32.toInt q
      rw [nI_toInt (by omega), m1_ti] at this
      omega)]
section
variable {n m g s : Nat} {v : am_V} {cm : Nat → Nat}
theorem gA_v : ∀ h t, gA n m v s cm g h t = -nI 1 ∨ ∃ k, k < h ∧ gA n m v s cm g h t = nI k
  | 0, _ => Or.inl rfl
  | h + 1, t => by
    rw [gA]
    cases (gN n m v s cm g (h + 1)).testBit t && !(gN n m v s cm g h).testBit t
    · rcases gA_v h t with q | ⟨k, hk, q⟩
      · exact Or.inl q
      · exact Or.inr ⟨k, by omega, q⟩
    · exact Or.inr ⟨h, by omega, rfl⟩
theorem hoA_h (t : Nat) : hh (hoA n m v s cm g t) := gA_v 24 t
theorem aF_8 {f : Nat → Int32} {t : Nat} (ht : t < 8) : aF n m v s cm g f 24 (gN n m v s cm g 24) t = hoA n m v s cm g t := by
  unfold aF hoA
  rw [show Nat.ble 8 t = false from Bool.eq_false_iff.mpr (fun q => by have := Nat.le_of_ble_eq_true q; omega)]
  cases (gN n m v s cm g 24).testBit t <;> rfl
theorem EX_set {w : am_W} {c : Nat} {f : Nat → Int32} : EX (fun a => Nat.beq a c) w (wset w c f) := fun a ha => mf_n ha
theorem wset_at {w : am_W} {c t : Nat} {f : Nat → Int32} : (wset w c f).1 c t = f t := by
  show mf w.1 c f c t = _
  rw [mf_s]
theorem KP_b {a b : am_W} (c : Nat) (hc : ∀ j, area c j = 0) (h : EX (fun a => Nat.beq a c) a b) : KP a b := KP_ex (fun a ha j => by rw [Nat.eq_of_beq_eq_true ha]; exact hc j) h
variable {w : am_W}
theorem S_runX (hV : VI n m v) (hC : CC n m g s v w) (hg : g < 2 ^ n) {p : Nat} (hp : ¬ p = 41) (hcm : ∀ t, t < n → w.1 p t = nI (cm t) ∧ cm t < 24) : ∃ w1, F_Day_run p w = some w1 ∧ EX (fun a => Nat.beq a 41) w w1 ∧ ∀ t, t < 8 → w1.1 41 t = hoA n m v s cm g t := ⟨_, S_run hV hC hg hp hcm, EX_set, fun t ht => by rw [wset_at, aF_8 ht]⟩
theorem S_run4 (hV : VI n m v) (hC : CC n m g s v w) (hg : g < 2 ^ n) : ∃ w1, F_Day_run 4 w = some w1 ∧ EX (fun a => Nat.beq a 41) w w1 ∧ ∀ t, t < 8 → w1.1 41 t = hoA n m v s (v 3) g t := S_runX hV hC hg (by omega) (fun t ht => ⟨(hC.2.2.2.2.2.1 t ht).2.2, (hV.2.2.1 t ht).2.2⟩)
theorem D_livesX (hV : VI n m v) (hM : MM n m g s v w) : ∃ w1, F_Mod_lives w = some w1 ∧ EX (fun a => Nat.beq a 72) w w1 ∧ ∀ t, t < 8 → w1.1 72 t = hoA n m v s (v 3) g t := ⟨_, D_lives hV hM, EX_set, fun t ht => by rw [wset_at, aF_8 ht]⟩
end
theorem B_hour (a : Int32) : BOTH (F_Loc_hour a) (F_Mod_hour a) := BOTH_q (fun {n m g s T f v te tc w} hq => by
  obtain ⟨hV, hg, hs, hC, hM, hT, hX, hS, hP, hI, hA⟩ := id hq
  have hn := hV.1
  unfold F_Loc_hour
  simp only [S_isThing hV hC, Option.bind_some, am_ltU, am_ckT, cond_true, cond_false, bi_ite, ck_bi, ite_T, ite_F]
  cases h : am_in a n with
  | false =>
    refine ⟨_, _, w, rfl, ?_, KP_r w⟩
    unfold F_Mod_hour
    simp only [D_isThing hV hM, h, Option.bind_some, am_ltU, am_ckT, cond_true, cond_false, bi_ite, ck_bi, ite_T, ite_F]
  | true =>
    obtain ⟨t, ht, rfl⟩ := in_ex h (by omega)
    simp (disch := omega) only [S_isGone hC, Option.bind_some, am_ltU, am_ckT, cond_true, cond_false, bi_ite, ck_bi, ite_T, ite_F]
    cases hgt : g.testBit t with
    | true =>
      refine ⟨_, _, w, rfl, ?_, KP_r w⟩
      unfold F_Mod_hour
      simp (disch := omega) only [D_isThing hV hM, D_isGone hM, h, hgt, Option.bind_some, am_ltU, am_ckT, cond_true, cond_false, bi_ite, ck_bi, ite_T, ite_F]
    | false =>
      obtain ⟨w1, e1, k1, r1⟩ := S_run4 hV hC hg
      have kp1 : KP w w1 := KP_b 41 (fun _ => rfl) k1
      have hM1 : MM n m g s v w1 := MM_fr rfl kp1 hM
      obtain ⟨w2, e2, k2, r2⟩ := D_livesX hV hM1
      have kp2 : KP w1 w2 := KP_b 72 (fun _ => rfl) k2
      refine ⟨hoA n m v s (v 3) g t, w1, w2, ?_, ?_, KP_t kp1 kp2⟩
      · simp (disch := omega) only [e1, Option.bind_some, am_ltU, am_ckT, cond_true, cond_false, bi_ite, ck_bi, ite_T, ite_F, nI_clamp, am_ckI, ile_t, ile_f, ilt_t, ilt_f, ieq_t, ieq_f, iz_t, iz_f, ilz_f, nI_add, r1]
      · unfold F_Mod_hour
        simp (disch := omega) only [D_isThing hV hM1, D_isGone hM1, h, hgt, e2, Option.bind_some, am_ltU, am_ckT, cond_true, cond_false, bi_ite, ck_bi, ite_T, ite_F, nI_clamp, am_ckI, ile_t, ile_f, ilt_t, ilt_f, ieq_t, ieq_f, iz_t, iz_f, ilz_f, nI_add, r2])
/-- who is late: comes otherwise than in that hour; never goes -/
def lt1 (n m : Nat) (v : am_V) (s g t : Nat) : Bool := !(g.testBit t) && !(decide (hoA n m v s (v 3) g t = nI (v 3 t)))
def lt2 (n m : Nat) (v : am_V) (s g t : Nat) : Bool := !(g.testBit t) && decide (hoA n m v s (v 3) g t = -nI 1)
theorem B_day12 {n m g s T f : Nat} {v : am_V} {te tc : Nat → Nat → Nat} {w : am_W} (hq : RQ n m g s T f v te tc w) {a : Nat} (ha : a = 1 ∨ a = 2) : ∃ (r : Int32) (w1 w2 : am_W), F_Loc_day (nI a) w = some (r, w1) ∧ F_Mod_day (nI a) w1 = some (r, w2) ∧ KP w w2 := by
  obtain ⟨hV, hg, hs, hC, hM, hT, hX, hS, hP, hI, hA⟩ := id hq
  have hn := hV.1
  obtain ⟨w1, e1, k1, r1⟩ := S_run4 hV hC hg
  have kp1 : KP w w1 := KP_b 41 (fun _ => rfl) k1
  have hC1 : CC n m g s v w1 := CC_fr rfl kp1 hC
  have hM1 : MM n m g s v w1 := MM_fr rfl kp1 hM
  obtain ⟨w2, e2, k2, r2⟩ := D_livesX hV hM1
  have kp2 : KP w1 w2 := KP_b 72 (fun _ => rfl) k2
  have hM2 : MM n m g s v w2 := MM_fr rfl kp2 hM1
  have h1 : F_Loc_day (nI a) w = L_Loc_day_39 am_NF (nI a) (nI 0) (nI 0) w1 := by
    unfold F_Loc_day
    simp (disch := omega) only [nI_clamp, am_ckI, ile_t, ile_f, ilt_t, ilt_f, ieq_t, ieq_f, iz_t, iz_f, ilz_f, nI_add, e1, Option.bind_some, am_ltU, am_ckT, cond_true, cond_false, bi_ite, ck_bi, ite_T, ite_F]
  have h2 : F_Mod_day (nI a) w1 = L_Mod_day_29 am_NF (nI a) (nI 0) (nI 0) w2 := by
    unfold F_Mod_day
    rw [D_in0 (k := 2) (by omega), in_nI (by omega) (by omega)]
    simp (disch := omega) only [nI_clamp, am_ckI, ile_t, ile_f, ilt_t, ilt_f, ieq_t, ieq_f, iz_t, iz_f, ilz_f, nI_add, e2, Option.bind_some, am_ltU, am_ckT, cond_true, cond_false, bi_ite, ck_bi, ite_T, ite_F]
  rw [h1]
  rcases ha with rfl | rfl
  · refine ⟨mk (lt1 n m v s g) n, w1, w2, ?_, ?_, KP_t kp1 kp2⟩
    · refine lp_0 (G := fun k i => L_Loc_day_39 k (nI 1) (mk (lt1 n m v s g) i) (nI i) w1) (m := n) ?_ ?_ (by show n < 4000; omega)
      · intro k i hi
        show F_Loc_day_39 _ _ _ _ _ = _
        unfold F_Loc_day_39 F_Loc_day_99 F_Loc_day_105
        simp (disch := omega) only [hC1.1, nI_clamp, am_ckI, ile_t, ile_f, ilt_t, ilt_f, ieq_t, ieq_f, iz_t, iz_f, ilz_f, nI_add, S_isGone hC1, Option.bind_some, am_ltU, am_ckT, cond_true, cond_false, bi_ite, ck_bi, ite_T, ite_F, r1, (hC1.2.2.2.2.2.1 i hi).2.2]
        cases h3 : g.testBit i with
        | true => rw [mk_n (by unfold lt1; rw [h3]; rfl)]; rfl
        | false =>
          by_cases h4 : hoA n m v s (v 3) g i = nI (v 3 i)
          · rw [if_pos h4, mk_n (by unfold lt1; rw [h3, decide_eq_true h4]; rfl)]; rfl
          · rw [if_neg h4, mk_s (by unfold lt1; rw [h3, decide_eq_false h4]; rfl) (by omega)]; rfl
      · intro k
        show F_Loc_day_39 _ _ _ _ _ = _
        unfold F_Loc_day_39
        simp (disch := omega) only [hC1.1, nI_clamp, am_ckI, ile_t, ile_f, ilt_t, ilt_f, ieq_t, ieq_f, iz_t, iz_f, ilz_f, nI_add]
    · rw [h2]
      refine lp_0 (G := fun k i => L_Mod_day_29 k (nI 1) (mk (lt1 n m v s g) i) (nI i) w2) (m := n) ?_ ?_ (by show n < 4000; omega)
      · intro k i hi
        show F_Mod_day_29 _ _ _ _ _ = _
        unfold F_Mod_day_29 F_Mod_day_80 F_Mod_day_102 F_Mod_day_103
        simp (disch := omega) only [hM2.1, nI_clamp, am_ckI, ile_t, ile_f, ilt_t, ilt_f, ieq_t, ieq_f, iz_t, iz_f, ilz_f, nI_add, D_isGone hM2, Option.bind_some, am_ltU, am_ckT, cond_true, cond_false, bi_ite, ck_bi, ite_T, ite_F, r2, (hM2.2.2.2.2.1 i hi).2.2]
        cases h3 : g.testBit i with
        | true =>
          rw [mk_n0 (by unfold lt1; rw [h3]; rfl)]
          by_cases h4 : hoA n m v s (v 3) g i = nI (v 3 i)
          · rw [if_pos h4]
          · rw [if_neg h4]; rfl
        | false =>
          by_cases h4 : hoA n m v s (v 3) g i = nI (v 3 i)
          · rw [if_pos h4, mk_n0 (by unfold lt1; rw [h3, decide_eq_true h4]; rfl)]
          · rw [if_neg h4, mk_s (by unfold lt1; rw [h3, decide_eq_false h4]; rfl) (by omega)]; rfl
      · intro k
        show F_Mod_day_29 _ _ _ _ _ = _
        unfold F_Mod_day_29
        simp (disch := omega) only [hM2.1, nI_clamp, am_ckI, ile_t, ile_f, ilt_t, ilt_f, ieq_t, ieq_f, iz_t, iz_f, ilz_f, nI_add]
  · refine ⟨mk (lt2 n m v s g) n, w1, w2, ?_, ?_, KP_t kp1 kp2⟩
    · refine lp_0 (G := fun k i => L_Loc_day_39 k (nI 2) (mk (lt2 n m v s g) i) (nI i) w1) (m := n) ?_ ?_ (by show n < 4000; omega)
      · intro k i hi
        show F_Loc_day_39 _ _ _ _ _ = _
        unfold F_Loc_day_39 F_Loc_day_99 F_Loc_day_105
        simp (disch := omega) only [hC1.1, nI_clamp, am_ckI, ile_t, ile_f, ilt_t, ilt_f, ieq_t, ieq_f, iz_t, iz_f, ilz_f, nI_add, S_isGone hC1, Option.bind_some, am_ltU, am_ckT, cond_true, cond_false, bi_ite, ck_bi, ite_T, ite_F, r1, hh_le (hoA_h i)]
        cases h3 : g.testBit i with
        | true => rw [mk_n (by unfold lt2; rw [h3]; rfl)]; rfl
        | false =>
          by_cases h4 : hoA n m v s (v 3) g i = -nI 1
          · rw [if_pos h4, mk_s (by unfold lt2; rw [h3, decide_eq_true h4]; rfl) (by omega)]; rfl
          · rw [if_neg h4, mk_n (by unfold lt2; rw [h3, decide_eq_false h4]; rfl)]; rfl
      · intro k
        show F_Loc_day_39 _ _ _ _ _ = _
        unfold F_Loc_day_39
        simp (disch := omega) only [hC1.1, nI_clamp, am_ckI, ile_t, ile_f, ilt_t, ilt_f, ieq_t, ieq_f, iz_t, iz_f, ilz_f, nI_add]
    · rw [h2]
      refine lp_0 (G := fun k i => L_Mod_day_29 k (nI 2) (mk (lt2 n m v s g) i) (nI i) w2) (m := n) ?_ ?_ (by show n < 4000; omega)
      · intro k i hi
        show F_Mod_day_29 _ _ _ _ _ = _
        unfold F_Mod_day_29 F_Mod_day_80 F_Mod_day_102 F_Mod_day_103
        simp (disch := omega) only [hM2.1, nI_clamp, am_ckI, ile_t, ile_f, ilt_t, ilt_f, ieq_t, ieq_f, iz_t, iz_f, ilz_f, nI_add, D_isGone hM2, Option.bind_some, am_ltU, am_ckT, cond_true, cond_false, bi_ite, ck_bi, ite_T, ite_F, r2]
        cases h3 : g.testBit i with
        | true =>
          rw [mk_n0 (by unfold lt2; rw [h3]; rfl)]
          by_cases h4 : hoA n m v s (v 3) g i = -nI 1
          · rw [if_pos h4]; rfl
          · rw [if_neg h4]
        | false =>
          by_cases h4 : hoA n m v s (v 3) g i = -nI 1
          · rw [if_pos h4, mk_s (by unfold lt2; rw [h3, decide_eq_true h4]; rfl) (by omega)]; rfl
          · rw [if_neg h4, mk_n0 (by unfold lt2; rw [h3, decide_eq_false h4]; rfl)]
      · intro k
        show F_Mod_day_29 _ _ _ _ _ = _
        unfold F_Mod_day_29
        simp (disch := omega) only [hM2.1, nI_clamp, am_ckI, ile_t, ile_f, ilt_t, ilt_f, ieq_t, ieq_f, iz_t, iz_f, ilz_f, nI_add]
/-! pass -/
def cnt (p : Nat → Bool) : Nat → Nat
  | 0 => 0
  | n + 1 => cnt p n + bif p n then 1 else 0
theorem mkN_s {p : Nat → Bool} {n : Nat} (h : p n = true) : mkN p (n + 1) = mkN p n ||| 2 ^ n := by rw [mkN, h]; rfl
theorem mkN_n {p : Nat → Bool} {n : Nat} (h : p n = false) : mkN p (n + 1) = mkN p n := by rw [mkN, h]; exact Nat.or_zero _
theorem cnt_s {p : Nat → Bool} {n : Nat} (h : p n = true) : cnt p (n + 1) = cnt p n + 1 := by rw [cnt, h]; rfl
theorem cnt_n {p : Nat → Bool} {n : Nat} (h : p n = false) : cnt p (n + 1) = cnt p n := by rw [cnt, h]; rfl
/-- goes before an hour -/
def pas (n m : Nat) (v : am_V) (s g h t : Nat) : Bool := am_in (hoA n m v s (v 3) g t) h
theorem CC_g {n m g s : Nat} {v : am_V} {w : am_W} (hC : CC n m g s v w) (h : Nat) : CC n m h s v (wsf w 1 1 (nI h)) := ⟨hC.1, rfl, hC.2.2.1, hC.2.2.2.1, hC.2.2.2.2.1, hC.2.2.2.2.2.1, hC.2.2.2.2.2.2⟩
theorem B_pass (a : Int32) : BOTH (F_Loc_pass a) (F_Mod_pass a) := fun w ⟨n, m, g, s, T, f, v, te, tc, hq⟩ => by
  obtain ⟨hV, hg, hs, hC, hM, hT, hX, hS, hP, hI, hA⟩ := id hq
  have hn := hV.1
  cases h : am_in a 25 with
  | false =>
    refine ⟨-nI 2, w, w, ?_, ?_, n, m, g, s, T, f, v, te, tc, hq⟩
    · unfold F_Loc_pass F_Loc_pass_10
      by_cases h1 : a < 0
      · rw [if_pos h1]
      · rw [if_neg h1, if_neg]
        intro h2
        have h3 : am_in a 25 = true := in_iff.mpr ⟨by rw [Int32.lt_iff_toInt_lt, ti_0] at h1; omega, by rw [Int32.le_iff_toInt_le, nI_toInt (by omega)] at h2; omega⟩
        rw [h] at h3; cases h3
    · unfold F_Mod_pass
      rw [D_in0 (k := 24) (by omega), h]
      rfl
  | true =>
    obtain ⟨x, hx, rfl⟩ := in_ex h (by omega)
    obtain ⟨w1, e1, k1, r1⟩ := S_run4 hV hC hg
    have kp1 : KP w w1 := KP_b 41 (fun _ => rfl) k1
    have hq1 := RQ_kp kp1 hq
    have hC1 : CC n m g s v w1 := CC_fr rfl kp1 hC
    have h1 : F_Loc_pass (nI x) w = some (nI (cnt (pas n m v s g x) n), wsf w1 1 1 (nI (g ||| mkN (pas n m v s g x) n))) := by
      unfold F_Loc_pass
      simp (disch := omega) only [nI_clamp, am_ckI, ile_t, ile_f, ilt_t, ilt_f, ieq_t, ieq_f, iz_t, iz_f, ilz_f, nI_add, e1, Option.bind_some, am_ltU, am_ckT, cond_true, cond_false, bi_ite, ck_bi, ite_T, ite_F]
      refine Eq.trans ?_ (lp_0 (n := am_NF) (G := fun k i => L_Loc_pass_31 k (nI x) (nI (cnt (pas n m v s g x) i)) (nI i) (wsf w1 1 1 (nI (g ||| mkN (pas n m v s g x) i)))) (m := n) ?_ ?_ (by show n < 4000; omega))
      · show L_Loc_pass_31 _ _ _ _ _ = L_Loc_pass_31 _ _ _ _ (wsf w1 1 1 (nI (g ||| 0)))
        rw [Nat.or_zero, wsf_e hC1.2.1]; rfl
      · intro k i hi
        show F_Loc_pass_31 _ _ _ _ _ = _
        have hC2 := CC_g hC1 (g ||| mkN (pas n m v s g x) i)
        have r2 : (wsf w1 1 1 (nI (g ||| mkN (pas n m v s g x) i))).1 41 i = hoA n m v s (v 3) g i := (wsf_nc rfl).trans (r1 i (by omega))
        unfold F_Loc_pass_31 F_Loc_pass_85
        simp (disch := omega) only [hC2.1, nI_clamp, am_ckI, ile_t, ile_f, ilt_t, ilt_f, ieq_t, ieq_f, iz_t, iz_f, ilz_f, nI_add, r2, Option.bind_some, am_ltU, am_ckT, cond_true, cond_false, bi_ite, ck_bi, ite_T, ite_F, hh_lt (hoA_h i), hC2.2.1, s_one, nx_or, wsf_wsf]
        rcases hoA_h (n := n) (m := m) (v := v) (s := s) (cm := v 3) (g := g) i with h2 | ⟨y, hy, h2⟩
        · have h3 : pas n m v s g x i = false := by
            unfold pas
            rw [h2]
            exact Bool.eq_false_iff.mpr (fun q => by have := (in_iff.mp q).1; rw [m1_ti] at this; omega)
          rw [if_pos h2, mkN_n h3, cnt_n h3]
        · rw [if_neg (fun q => by
            have := congrArg Int32.toInt (h2.symm.trans q)
            rw [nI_toInt (by omega), m1_ti] at this; omega), h2]
          by_cases h4 : y < x
          · have h3 : pas n m v s g x i = true := by unfold pas; rw [h2, in_nI h4 (by omega)]
            rw [ile_f h4 (by omega), mkN_s h3, cnt_s h3, Nat.or_assoc]
          · have h3 : pas n m v s g x i = false := by
              unfold pas
              rw [h2]
              exact Bool.eq_false_iff.mpr (fun q => by have := (in_iff.mp q).2; rw [nI_toInt (by omega)] at this; omega)
            rw [ile_t (by omega) (by omega), mkN_n h3, cnt_n h3]
      · intro k
        show F_Loc_pass_31 _ _ _ _ _ = _
        have hC2 := CC_g hC1 (g ||| mkN (pas n m v s g x) n)
        unfold F_Loc_pass_31
        simp (disch := omega) only [hC2.1, nI_clamp, am_ckI, ile_t, ile_f, ilt_t, ilt_f, ieq_t, ieq_f, iz_t, iz_f, ilz_f, nI_add]
    have hM3 : MM n m g s v (wsf w1 1 1 (nI (g ||| mkN (pas n m v s g x) n))) := (show MM n m g s v w1 from MM_fr rfl kp1 hM)
    obtain ⟨w2, e2, k2, r2⟩ := D_livesX hV hM3
    have kp2 : KP _ w2 := KP_b 72 (fun _ => rfl) k2
    have hM4 : MM n m g s v w2 := MM_fr rfl kp2 hM3
    refine ⟨_, _, wsf w2 53 4 (nI (g ||| mkN (pas n m v s g x) n)), h1, ?_, n, m, g ||| mkN (pas n m v s g x) n, s, T, f, v, te, tc, ?_⟩
    · unfold F_Mod_pass
      rw [D_in0 (k := 24) (by omega), h]
      simp (disch := omega) only [Option.bind_some, am_ltU, am_ckT, cond_true, cond_false, bi_ite, ck_bi, ite_T, ite_F, e2]
      refine Eq.trans ?_ (lp_0 (n := am_NF) (G := fun k i => L_Mod_pass_21 k (nI x) (nI (cnt (pas n m v s g x) i)) (nI i) (wsf w2 53 4 (nI (g ||| mkN (pas n m v s g x) i)))) (m := n) ?_ ?_ (by show n < 4000; omega))
      · show L_Mod_pass_21 _ _ _ _ _ = L_Mod_pass_21 _ _ _ _ (wsf w2 53 4 (nI (g ||| 0)))
        rw [Nat.or_zero, wsf_e hM4.2.1]; rfl
      · intro k i hi
        show F_Mod_pass_21 _ _ _ _ _ = _
        have hM5 := MM_g hM4 (g ||| mkN (pas n m v s g x) i)
        have r3 : (wsf w2 53 4 (nI (g ||| mkN (pas n m v s g x) i))).1 72 i = hoA n m v s (v 3) g i := (wsf_nc rfl).trans (r2 i (by omega))
        unfold F_Mod_pass_21 F_Mod_pass_60
        simp (disch := omega) only [hM5.1, nI_clamp, am_ckI, ile_t, ile_f, ilt_t, ilt_f, ieq_t, ieq_f, iz_t, iz_f, ilz_f, nI_add, r3, Option.bind_some, am_ltU, am_ckT, cond_true, cond_false, bi_ite, ck_bi, ite_T, ite_F, hM5.2.1, s_one, nx_or, wsf_wsf, D_inm]
        cases h3 : pas n m v s g x i with
        | true =>
          unfold pas at h3
          rw [h3, mkN_s (show pas n m v s g x i = true from h3), cnt_s (show pas n m v s g x i = true from h3), Nat.or_assoc]; rfl
        | false =>
          unfold pas at h3
          rw [h3, mkN_n (show pas n m v s g x i = false from h3), cnt_n (show pas n m v s g x i = false from h3)]; rfl
      · intro k
        show F_Mod_pass_21 _ _ _ _ _ = _
        have hM5 := MM_g hM4 (g ||| mkN (pas n m v s g x) n)
        unfold F_Mod_pass_21
        simp (disch := omega) only [hM5.1, nI_clamp, am_ckI, ile_t, ile_f, ilt_t, ilt_f, ieq_t, ieq_f, iz_t, iz_f, ilz_f, nI_add]
    · have hg2 : g ||| mkN (pas n m v s g x) n < 2 ^ n := or_lt hg (mkN_lt _ n)
      have kA : FRA (fun a => Nat.ble a 1) w (wsf w2 53 4 (nI (g ||| mkN (pas n m v s g x) n))) := FRA_t (FRA_m (fun i h => by cases i with | zero => cases h | succ i => rfl) kp1) (FRA_t (FRA_sf rfl) (FRA_t (FRA_m (fun i h => by cases i with | zero => cases h | succ i => rfl) kp2) (FRA_sf rfl)))
      exact RQ_rl kA hq hV hg2 hs (show CC n m (g ||| mkN (pas n m v s g x) n) s v w2 from CC_fr rfl kp2 (CC_g hC1 _)) (MM_g hM4 _) hI
