/-! ===== note; days by lot: drawn, odds ===== -/
/-- other hours -/
def v3 (v : am_V) (f : Nat → Nat) : am_V := fun b j => bif Nat.beq b 3 then f j else v b j
section
variable {n m g s u x : Nat} {v : am_V} {p q : Nat → Bool} {f : Nat → Nat} {cm cn : Nat → Nat}
theorem cp_v3 {t : Nat} : cp n m (v3 v f) p s g t = cp n m v p s g t := rfl
theorem gitp_v3 : ∀ k h, gitp n m (v3 v f) p s k h = gitp n m v p s k h
  | 0, _ => rfl
  | k + 1, h => by rw [gitp, gitp, show cp n m (v3 v f) p s h = cp n m v p s h from rfl, gitp_v3 k]
theorem gN_v3 : ∀ h, gN n m (v3 v f) s cm g h = gN n m v s cm g h
  | 0 => rfl
  | h + 1 => by
    rw [gN, gN, gN_v3 h]
    exact gitp_v3 8 _
theorem gA_v3 : ∀ h t, gA n m (v3 v f) s cm g h t = gA n m v s cm g h t
  | 0, _ => rfl
  | h + 1, t => by rw [gA, gA, gN_v3, gN_v3, gA_v3 h]
theorem hoA_v3 {t : Nat} : hoA n m (v3 v f) s cm g t = hoA n m v s cm g t := gA_v3 24 t
theorem cp_c (h : ∀ t, t < n → p t = q t) (g : Nat) : cp n m v p s g = cp n m v q s g := funext fun t => by
  unfold cp
  by_cases ht : t < n
  · rw [h t ht]
  · rw [decide_eq_false ht]; rfl
theorem gitp_c (h : ∀ t, t < n → p t = q t) : ∀ k g, gitp n m v p s k g = gitp n m v q s k g
  | 0, _ => rfl
  | k + 1, g => by rw [gitp, gitp, cp_c h, gitp_c h k]
theorem gN_c (h : ∀ t, t < n → cm t = cn t) : ∀ k, gN n m v s cm g k = gN n m v s cn g k
  | 0 => rfl
  | k + 1 => by
    rw [gN, gN, gN_c h k]
    exact gitp_c (fun t ht => by unfold wl; rw [h t ht]) 8 _
theorem gA_c (h : ∀ t, t < n → cm t = cn t) : ∀ k t, gA n m v s cm g k t = gA n m v s cn g k t
  | 0, _ => rfl
  | k + 1, t => by rw [gA, gA, gN_c h, gN_c h, gA_c h k]
theorem VI_v3 (hV : VI n m v) (hf : ∀ t, t < n → f t < 24) : VI n m (v3 v f) := ⟨hV.1, hV.2.1, fun t ht => ⟨(hV.2.2.1 t ht).1, (hV.2.2.1 t ht).2.1, hf t ht⟩, hV.2.2.2⟩
end
theorem cpk_T {n l1 l2 : Nat} (h1 : n ≤ l1) (h2 : n ≤ l2) (hb : n < 2 ^ 31) : am_cpk (nI 0) (nI 0) (nI n) l1 l2 = true := by
  unfold am_cpk
  rw [nI_clamp hb, decide_eq_false (nI_pos hb)]
  show (Nat.ble (0 + n) l1 && Nat.ble (0 + n) l2) = true
  rw [Nat.zero_add, Nat.ble_eq_true_of_le h1, Nat.ble_eq_true_of_le h2]; rfl
theorem wcp_at {w : am_W} {c d k t : Nat} (ht : t < k) (hk : k < 2 ^ 31) : (wcp w c d (nI 0) (nI 0) (nI k)).1 d t = w.1 c t := by
  unfold wcp
  dsimp only
  rw [mf_s, cp_at ht hk]
/-- whose earlier coming lets one go earliest -/
def ntf (x : Nat → Int32) : Nat → Nat → Int32 → Int32 → Int32 × Int32
  | 0, _, e, b => (e, b)
  | d + 1, i, e, b => if x i = -nI 1 then ntf x d (i + 1) e b else if e = -nI 1 then ntf x d (i + 1) (x i) (nI i) else if e ≤ x i then ntf x d (i + 1) e b else ntf x d (i + 1) (x i) (nI i)
/-- one comes at once -/
def at0 (v : am_V) (i t : Nat) : Nat := bif Nat.beq t i then 0 else v 3 t
theorem KP_u {w wa w6 : am_W} {i : Nat} {x : Int32} (k : EX (fun a => Nat.beq a 72) (wsf w 56 i x) w6) : KP w (wsf w6 56 i (w.1 56 i)) := fun a j q => by
  cases h72 : Nat.beq a 72 with
  | true => rw [Nat.eq_of_beq_eq_true h72] at q; cases q
  | false =>
    by_cases hc : a = 56
    · subst hc
      by_cases hj : j = i
      · rw [hj, wsf_at]
      · rw [wsf_ne hj, k 56 rfl, wsf_ne hj]
    · rw [wsf_nc (nbf hc), k a h72, wsf_nc (nbf hc)]
section
variable {n m g s : Nat} {v : am_V} {w : am_W}
theorem MM_v3 (hM : MM n m g s v w) {w1 : am_W} {f : Nat → Nat} (h : ∀ c, ¬ c = 56 → (∀ j, area c j ≠ 0 → w1.1 c j = w.1 c j)) (hf : ∀ t, t < n → w1.1 56 t = nI (f t)) : MM n m g s (v3 v f) w1 := ⟨(h 53 (by omega) 0 (by decide)).trans hM.1, (h 53 (by omega) 4 (by decide)).trans hM.2.1, (h 53 (by omega) 5 (by decide)).trans hM.2.2.1, (h 53 (by omega) 7 (by decide)).trans hM.2.2.2.1, fun t ht => ⟨(h 54 (by omega) t (by show ¬ 1 = 0; omega)).trans (hM.2.2.2.2.1 t ht).1, (h 55 (by omega) t (by show ¬ 1 = 0; omega)).trans (hM.2.2.2.2.1 t ht).2.1, hf t ht⟩, fun l hl => ⟨(h 57 (by omega) _ (by show ¬ 1 = 0; omega)).trans (hM.2.2.2.2.2 l hl).1, (h 57 (by omega) _ (by show ¬ 1 = 0; omega)).trans (hM.2.2.2.2.2 l hl).2.1, (h 57 (by omega) _ (by show ¬ 1 = 0; omega)).trans (hM.2.2.2.2.2 l hl).2.2⟩⟩
theorem S_note (hV : VI n m v) (hC : CC n m g s v w) (hg : g < 2 ^ n) {t y : Nat} (ht : t < n) (hy : y < 2) : ∀ (d i k : Nat) (e b : Int32) (w1 : am_W), i + d = n → d < k → hh e → KP w w1 → ∃ w2, L_Loc_note_68 k (nI t) (nI y) e b (nI i) w1 = some (bif Nat.beq y 0 then (ntf (fun u => hoA n m v s (at0 v u) g t) d i e b).2 else (ntf (fun u => hoA n m v s (at0 v u) g t) d i e b).1, w2) ∧ KP w w2 := by
  have hn := hV.1
  intro d
  induction d with
  | zero =>
    intro i k e b w1 hi hk he kp
    obtain ⟨k, rfl⟩ : ∃ j, k = j + 1 := ⟨k - 1, by omega⟩
    have hC1 : CC n m g s v w1 := CC_fr rfl kp hC
    refine ⟨w1, ?_, kp⟩
    show F_Loc_note_68 _ _ _ _ _ _ _ = _
    unfold F_Loc_note_68 F_Loc_note_171
    simp (disch := omega) only [hC1.1, nI_clamp, am_ckI, ile_t, ile_f, ilt_t, ilt_f, ieq_t, ieq_f, iz_t, iz_f, ilz_f, nI_add, iz_b, ntf]
    cases Nat.beq y 0 <;> rfl
  | succ d ih =>
    intro i k e b w1 hi hk he kp
    obtain ⟨k, rfl⟩ : ∃ j, k = j + 1 := ⟨k - 1, by omega⟩
    have hC1 : CC n m g s v w1 := CC_fr rfl kp hC
    have hin : i < n := by omega
    have hC6 : CC n m g s v (wsf (wcp w1 4 43 (nI 0) (nI 0) (nI n)) 43 i (nI 0)) := hC1
    have hcm : ∀ u, u < n → (wsf (wcp w1 4 43 (nI 0) (nI 0) (nI n)) 43 i (nI 0)).1 43 u = nI (at0 v i u) ∧ at0 v i u < 24 := fun u hu => by
      unfold at0
      by_cases e : u = i
      · rw [e, wsf_at, Nat.beq_refl]; exact ⟨rfl, by show 0 < 24; omega⟩
      · rw [wsf_ne e, nbf e]
        refine ⟨?_, (hV.2.2.1 u hu).2.2⟩
        rw [wcp_at hu (by omega)]
        exact (hC1.2.2.2.2.2.1 u hu).2.2
    obtain ⟨w7, e7, k7, r7⟩ := S_runX hV hC6 hg (p := 43) (by omega) hcm
    have kp7 : KP w w7 := KP_t kp (KP_t (KP_t (KP_b 43 (fun _ => rfl) (fun a ha => mf_n ha)) (FRA_sf rfl)) (KP_b 41 (fun _ => rfl) k7))
    show ∃ w2, F_Loc_note_68 _ _ _ _ _ _ _ = _ ∧ _
    unfold F_Loc_note_68 F_Loc_note_148 F_Loc_note_155
    simp (disch := omega) only [hC1.1, nI_clamp, am_ckI, ile_t, ile_f, ilt_t, ilt_f, ieq_t, ieq_f, iz_t, iz_f, ilz_f, nI_add, cpk_T, Option.bind_some, am_ltU, am_ckT, cond_true, cond_false, bi_ite, ck_bi, ite_T, ite_F, wst_f, e7, r7, hh_lt (hoA_h t), hh_lt he, ntf]
    by_cases h1 : hoA n m v s (at0 v i) g t = -nI 1
    · rw [if_pos h1, if_pos h1]
      exact ih (i + 1) k e b w7 (by omega) (by omega) he kp7
    · rw [if_neg h1, if_neg h1]
      by_cases h2 : e = -nI 1
      · rw [if_pos h2, if_pos h2]
        exact ih (i + 1) k _ _ w7 (by omega) (by omega) (hoA_h t) kp7
      · rw [if_neg h2, if_neg h2]
        by_cases h3 : e ≤ hoA n m v s (at0 v i) g t
        · rw [if_pos h3, if_pos h3]
          exact ih (i + 1) k e b w7 (by omega) (by omega) he kp7
        · rw [if_neg h3, if_neg h3]
          exact ih (i + 1) k _ _ w7 (by omega) (by omega) (hoA_h t) kp7
theorem D_note (hV : VI n m v) (hM : MM n m g s v w) {t y : Nat} (ht : t < n) (hy : y < 2) : ∀ (d i k : Nat) (e b : Int32) (w1 : am_W), i + d = n → d < k → hh e → KP w w1 → ∃ w2, L_Mod_note_51 k (nI t) (nI y) b e (nI i) w1 = some (bif Nat.beq y 0 then (ntf (fun u => hoA n m v s (at0 v u) g t) d i e b).2 else (ntf (fun u => hoA n m v s (at0 v u) g t) d i e b).1, w2) ∧ KP w w2 := by
  have hn := hV.1
  intro d
  induction d with
  | zero =>
    intro i k e b w1 hi hk he kp
    obtain ⟨k, rfl⟩ : ∃ j, k = j + 1 := ⟨k - 1, by omega⟩
    have hM1 : MM n m g s v w1 := MM_fr rfl kp hM
    refine ⟨w1, ?_, kp⟩
    show F_Mod_note_51 _ _ _ _ _ _ _ = _
    unfold F_Mod_note_51 F_Mod_note_166
    simp (disch := omega) only [hM1.1, nI_clamp, am_ckI, ile_t, ile_f, ilt_t, ilt_f, ieq_t, ieq_f, iz_t, iz_f, ilz_f, nI_add, iz_b, ntf]
    cases Nat.beq y 0 <;> rfl
  | succ d ih =>
    intro i k e b w1 hi hk he kp
    obtain ⟨k, rfl⟩ : ∃ j, k = j + 1 := ⟨k - 1, by omega⟩
    have hM1 : MM n m g s v w1 := MM_fr rfl kp hM
    have hin : i < n := by omega
    have hM5 : MM n m g s (v3 v (at0 v i)) (wsf w1 56 i (nI 0)) := MM_v3 hM1 (fun c hc j _ => wsf_nc (nbf hc)) (fun u hu => by
      unfold at0
      by_cases e : u = i
      · rw [e, wsf_at, Nat.beq_refl]; rfl
      · rw [wsf_ne e, nbf e]; exact (hM1.2.2.2.2.1 u hu).2.2)
    have hV5 : VI n m (v3 v (at0 v i)) := VI_v3 hV (fun u hu => by
      unfold at0
      cases Nat.beq u i
      · exact (hV.2.2.1 u hu).2.2
      · show 0 < 24; omega)
    obtain ⟨w6, e6, k6, r6⟩ := D_livesX hV5 hM5
    have r6 : ∀ u, u < 8 → w6.1 72 u = hoA n m v s (at0 v i) g u := fun u hu => (r6 u hu).trans hoA_v3
    have kp7 : KP w (wsf w6 56 i (w1.1 56 i)) := KP_t kp (KP_u (wa := w) k6)
    have r7 : (wsf w6 56 i (w1.1 56 i)).1 72 t = hoA n m v s (at0 v i) g t := (wsf_nc rfl).trans (r6 t (by omega))
    show ∃ w2, F_Mod_note_51 _ _ _ _ _ _ _ = _ ∧ _
    unfold F_Mod_note_51 F_Mod_note_121 F_Mod_note_117 F_Mod_note_122 F_Mod_note_135 F_Mod_note_148
    simp (disch := omega) only [hM1.1, nI_clamp, am_ckI, ile_t, ile_f, ilt_t, ilt_f, ieq_t, ieq_f, iz_t, iz_f, ilz_f, nI_add, Option.bind_some, am_ltU, am_ckT, cond_true, cond_false, bi_ite, ck_bi, ite_T, ite_F, wst_f, e6, r7, ntf]
    by_cases h1 : hoA n m v s (at0 v i) g t = -nI 1
    · rw [if_pos h1, if_pos h1]
      exact ih (i + 1) k e b _ (by omega) (by omega) he kp7
    · rw [if_neg h1, if_neg h1]
      by_cases h2 : e = -nI 1
      · rw [if_pos h2, if_pos h2]
        exact ih (i + 1) k _ _ _ (by omega) (by omega) (hoA_h t) kp7
      · rw [if_neg h2, if_neg h2]
        by_cases h3 : e ≤ hoA n m v s (at0 v i) g t
        · rw [if_pos h3, if_pos h3]
          exact ih (i + 1) k e b _ (by omega) (by omega) he kp7
        · rw [if_neg h3, if_neg h3]
          exact ih (i + 1) k _ _ _ (by omega) (by omega) (hoA_h t) kp7
end
theorem B_note (a b : Int32) : BOTH (F_Loc_note a b) (F_Mod_note a b) := BOTH_q (fun {n m g s T f v te tc w} hq => by
  obtain ⟨hV, hg, hs, hC, hM, hT, hX, hS, hP, hI, hA⟩ := id hq
  have hn := hV.1
  unfold F_Loc_note
  simp only [S_isThing hV hC, S_isEither, Option.bind_some, am_ltU, am_ckT, cond_true, cond_false, bi_ite, ck_bi, ite_T, ite_F]
  cases h : am_in a n with
  | false =>
    refine ⟨_, _, w, rfl, ?_, KP_r w⟩
    unfold F_Mod_note
    simp only [D_isThing hV hM, h, Option.bind_some, am_ltU, am_ckT, cond_true, cond_false, bi_ite, ck_bi, ite_T, ite_F]
  | true =>
    obtain ⟨t, ht, rfl⟩ := in_ex h (by omega)
    cases h2 : am_in b 2 with
    | false =>
      refine ⟨_, _, w, rfl, ?_, KP_r w⟩
      unfold F_Mod_note
      rw [D_isThing hV hM, h, bn_s, D_in0 (k := 1) (by omega), h2]
      rfl
    | true =>
      obtain ⟨y, hy, rfl⟩ := in_ex h2 (by omega)
      simp (disch := omega) only [S_isGone hC, Option.bind_some, am_ltU, am_ckT, cond_true, cond_false, bi_ite, ck_bi, ite_T, ite_F]
      cases hgt : g.testBit t with
      | true =>
        refine ⟨_, _, w, rfl, ?_, KP_r w⟩
        unfold F_Mod_note
        rw [D_isThing hV hM, h, bn_s, D_in0 (k := 1) (by omega), h2]
        simp (disch := omega) only [Option.bind_some, am_ltU, am_ckT, cond_true, cond_false, bi_ite, ck_bi, ite_T, ite_F, D_isGone hM, hgt]
      | false =>
        obtain ⟨w1, e1, k1, r1⟩ := S_run4 hV hC hg
        have kp1 : KP w w1 := KP_b 41 (fun _ => rfl) k1
        obtain ⟨w2, e2, kp2⟩ := S_note hV hC hg ht hy n 0 am_NF (hoA n m v s (v 3) g t) (-nI 1) w1 (by omega) (by show n < 4000; omega) (hoA_h t) kp1
        have hM2 : MM n m g s v w2 := MM_fr rfl kp2 hM
        obtain ⟨w3, e3, k3, r3⟩ := D_livesX hV hM2
        have kp3 : KP w2 w3 := KP_b 72 (fun _ => rfl) k3
        obtain ⟨w4, e4, kp4⟩ := D_note hV hM2 ht hy n 0 am_NF (hoA n m v s (v 3) g t) (-nI 1) w3 (by omega) (by show n < 4000; omega) (hoA_h t) kp3
        refine ⟨bif Nat.beq y 0 then (ntf (fun u => hoA n m v s (at0 v u) g t) n 0 (hoA n m v s (v 3) g t) (-nI 1)).2 else (ntf (fun u => hoA n m v s (at0 v u) g t) n 0 (hoA n m v s (v 3) g t) (-nI 1)).1, w2, w4, ?_, ?_, KP_t kp2 kp4⟩
        · simp (disch := omega) only [e1, Option.bind_some, am_ltU, am_ckT, cond_true, cond_false, bi_ite, ck_bi, ite_T, ite_F, nI_clamp, am_ckI, ile_t, ile_f, ilt_t, ilt_f, ieq_t, ieq_f, iz_t, iz_f, ilz_f, nI_add, r1]
          exact e2
        · unfold F_Mod_note
          rw [D_isThing hV hM2, h, bn_s, D_in0 (k := 1) (by omega), h2]
          simp (disch := omega) only [Option.bind_some, am_ltU, am_ckT, cond_true, cond_false, bi_ite, ck_bi, ite_T, ite_F, D_isGone hM2, hgt, e3, nI_clamp, am_ckI, ile_t, ile_f, ilt_t, ilt_f, ieq_t, ieq_f, iz_t, iz_f, ilz_f, nI_add, r3]
          exact e4)
/-! the lot -/
def lot (x : Nat) : Nat → Nat
  | 0 => x + 1
  | t + 1 => lot x t * 48271 % 2147483647
def dr (x t : Nat) : Nat := lot x (t + 1) % 24
theorem lot_lt {x : Nat} (hx : x < 200000) : ∀ t, lot x t < 2147483648
  | 0 => by rw [lot]; omega
  | t + 1 => by rw [lot]; omega
theorem dr_lt (x t : Nat) : dr x t < 24 := by unfold dr; omega
theorem lot_s {x : Nat} (hx : x < 200000) (t : Nat) : (lN (lot x t) * lN 48271) - (lN (lot x t) * lN 48271) / lN 2147483647 * lN 2147483647 = lN (lot x (t + 1)) := by
  have := lot_lt hx t
  rw [lN_mul, pk_lRem (by omega) (by omega) (by omega), lot]
theorem lot_h {x : Nat} (hx : x < 200000) (t : Nat) : (lN (lot x (t + 1)) - lN (lot x (t + 1)) / lN 24 * lN 24).toInt32 = nI (dr x t) := by
  have := lot_lt hx (t + 1)
  rw [pk_lRem (by omega) (by omega) (by omega), lN_i]; rfl
section
variable {n m g s : Nat} {v : am_V} {w : am_W}
theorem S_draw (hV : VI n m v) (hC : CC n m g s v w) {x : Nat} (hx : x < 200000) : ∃ w2, F_Day_draw (nI x) 43 w = some w2 ∧ EX (fun a => Nat.beq a 43) w w2 ∧ ∀ t, t < n → w2.1 43 t = nI (dr x t) := by
  have hn := hV.1
  unfold F_Day_draw
  rw [nI_l (by omega), lN_add]
  have key : ∀ (d i k : Nat) (w1 : am_W), i + d = n → d < k → EX (fun a => Nat.beq a 43) w w1 → (∀ t, t < i → w1.1 43 t = nI (dr x t)) → ∃ w2, L_Day_draw_8 k 43 (lN (lot x i)) (nI i) w1 = some w2 ∧ EX (fun a => Nat.beq a 43) w w2 ∧ ∀ t, t < n → w2.1 43 t = nI (dr x t) := by
    intro d
    induction d with
    | zero =>
      intro i k w1 hi hk hE hd
      obtain ⟨k, rfl⟩ : ∃ j, k = j + 1 := ⟨k - 1, by omega⟩
      have h1 : w1.1 1 0 = nI n := (congrFun (hE 1 rfl) 0).trans hC.1
      refine ⟨w1, ?_, hE, fun t ht => hd t (by omega)⟩
      show F_Day_draw_8 _ _ _ _ _ = _
      unfold F_Day_draw_8
      simp (disch := omega) only [h1, nI_clamp, am_ckI, ile_t, ile_f, ilt_t, ilt_f, ieq_t, ieq_f, iz_t, iz_f, ilz_f, nI_add]
    | succ d ih =>
      intro i k w1 hi hk hE hd
      obtain ⟨k, rfl⟩ : ∃ j, k = j + 1 := ⟨k - 1, by omega⟩
      have h1 : w1.1 1 0 = nI n := (congrFun (hE 1 rfl) 0).trans hC.1
      show ∃ w2, F_Day_draw_8 _ _ _ _ _ = _ ∧ _
      unfold F_Day_draw_8
      simp (disch := omega) only [h1, nI_clamp, am_ckI, ile_t, ile_f, ilt_t, ilt_f, ieq_t, ieq_f, iz_t, iz_f, ilz_f, nI_add, Option.bind_some, am_ltU, am_ckT, cond_true, cond_false, bi_ite, ck_bi, ite_T, ite_F, lot_s hx, lot_h hx, wst_f]
      refine ih (i + 1) k _ (by omega) (by omega) (EX_t hE (EX_sf rfl)) (fun t ht => ?_)
      by_cases e : t = i
      · rw [e, wsf_at]
      · rw [wsf_ne e]; exact hd t (by omega)
  exact key n 0 am_NF w (by omega) (by show n < 4000; omega) (EX_r _ w) (fun t ht => by omega)
theorem S_lot (hV : VI n m v) (hC : CC n m g s v w) (hg : g < 2 ^ n) {x : Nat} (hx : x < 200000) : ∃ w1 w2, F_Day_draw (nI x) 43 w = some w1 ∧ F_Day_run 43 w1 = some w2 ∧ KP w w2 ∧ ∀ t, t < 8 → w2.1 41 t = hoA n m v s (dr x) g t := by
  obtain ⟨w1, e1, k1, r1⟩ := S_draw hV hC hx
  have kp1 : KP w w1 := KP_b 43 (fun _ => rfl) k1
  obtain ⟨w2, e2, k2, r2⟩ := S_runX hV (CC_fr rfl kp1 hC) hg (p := 43) (cm := dr x) (by omega) (fun t ht => ⟨r1 t ht, dr_lt x t⟩)
  exact ⟨w1, w2, e1, e2, KP_t kp1 (KP_b 41 (fun _ => rfl) k2), r2⟩
theorem D_lot (hV : VI n m v) (hM : MM n m g s v w) {x : Nat} (hx : x < 200000) : ∃ w2, F_Mod_livesBy (nI x) w = some w2 ∧ KP w w2 ∧ ∀ t, t < 8 → w2.1 72 t = hoA n m v s (dr x) g t := by
  have hn := hV.1
  unfold F_Mod_livesBy
  rw [nI_l (by omega), lN_add]
  have last : ∀ (d i k : Nat) (w1 : am_W), i + d = n → d < k → (∀ c, ¬ c = 56 → ¬ c = 72 → ¬ c = 74 → w1.1 c = w.1 c) → (∀ t, t < i → w1.1 56 t = w.1 56 t) → (∀ t, n ≤ t → w1.1 56 t = w.1 56 t) → (∀ t, t < n → w1.1 74 t = w.1 56 t) → (∀ t, t < 8 → w1.1 72 t = hoA n m v s (dr x) g t) → ∃ w2, L_Mod_livesBy_67 k (nI i) w1 = some w2 ∧ KP w w2 ∧ ∀ t, t < 8 → w2.1 72 t = hoA n m v s (dr x) g t := by
    intro d
    induction d with
    | zero =>
      intro i k w1 hi hk h1 h2 h3 h4 h5
      obtain ⟨k, rfl⟩ : ∃ j, k = j + 1 := ⟨k - 1, by omega⟩
      have hz : w1.1 53 0 = nI n := (congrFun (h1 53 (by omega) (by omega) (by omega)) 0).trans hM.1
      refine ⟨w1, ?_, fun c j q => ?_, h5⟩
      · show F_Mod_livesBy_67 _ _ _ = _
        unfold F_Mod_livesBy_67
        simp (disch := omega) only [hz, nI_clamp, am_ckI, ile_t, ile_f, ilt_t, ilt_f, ieq_t, ieq_f, iz_t, iz_f, ilz_f, nI_add]
      · by_cases c1 : c = 56
        · rw [c1]
          by_cases hj : j < n
          · exact h2 j (by omega)
          · exact h3 j (by omega)
        · by_cases c2 : c = 72
          · rw [c2] at q; cases q
          · by_cases c3 : c = 74
            · rw [c3] at q; cases q
            · rw [h1 c c1 c2 c3]
    | succ d ih =>
      intro i k w1 hi hk h1 h2 h3 h4 h5
      obtain ⟨k, rfl⟩ : ∃ j, k = j + 1 := ⟨k - 1, by omega⟩
      have hz : w1.1 53 0 = nI n := (congrFun (h1 53 (by omega) (by omega) (by omega)) 0).trans hM.1
      show ∃ w2, F_Mod_livesBy_67 _ _ _ = _ ∧ _
      unfold F_Mod_livesBy_67
      simp (disch := omega) only [hz, nI_clamp, am_ckI, ile_t, ile_f, ilt_t, ilt_f, ieq_t, ieq_f, iz_t, iz_f, ilz_f, nI_add, Option.bind_some, am_ltU, am_ckT, cond_true, cond_false, bi_ite, ck_bi, ite_T, ite_F, wst_f]
      refine ih (i + 1) k _ (by omega) (by omega) (fun c c1 c2 c3 => ?_) (fun t ht => ?_) (fun t ht => ?_) (fun t ht => ?_) (fun t ht => ?_)
      · exact (mf_n (nbf c1)).trans (h1 c c1 c2 c3)
      · by_cases e : t = i
        · rw [e, wsf_at]; exact h4 i (by omega)
        · rw [wsf_ne e]; exact h2 t (by omega)
      · rw [wsf_ne (by omega)]; exact h3 t ht
      · rw [wsf_nc rfl]; exact h4 t ht
      · rw [wsf_nc rfl]; exact h5 t ht
  have key : ∀ (d i k : Nat) (w1 : am_W), i + d = n → d < k → (∀ c, ¬ c = 56 → ¬ c = 74 → w1.1 c = w.1 c) → (∀ t, t < i → w1.1 74 t = w.1 56 t ∧ w1.1 56 t = nI (dr x t)) → (∀ t, i ≤ t → w1.1 56 t = w.1 56 t) → ∃ w2, L_Mod_livesBy_8 k (lN (lot x i)) (nI i) w1 = some w2 ∧ KP w w2 ∧ ∀ t, t < 8 → w2.1 72 t = hoA n m v s (dr x) g t := by
    intro d
    induction d with
    | zero =>
      intro i k w1 hi hk h1 h2 h3
      obtain ⟨k, rfl⟩ : ∃ j, k = j + 1 := ⟨k - 1, by omega⟩
      have hz : w1.1 53 0 = nI n := (congrFun (h1 53 (by omega) (by omega)) 0).trans hM.1
      have hM1 : MM n m g s (v3 v (dr x)) w1 := MM_v3 hM (fun c hc j hj => congrFun (h1 c hc (fun e => by rw [e] at hj; exact hj rfl)) j) (fun t ht => (h2 t (by omega)).2)
      have hV1 : VI n m (v3 v (dr x)) := VI_v3 hV (fun t _ => dr_lt x t)
      obtain ⟨w2, e2, k2, r2⟩ := D_livesX hV1 hM1
      show ∃ w2, F_Mod_livesBy_8 _ _ _ _ = _ ∧ _
      unfold F_Mod_livesBy_8
      simp (disch := omega) only [hz, nI_clamp, am_ckI, ile_t, ile_f, ilt_t, ilt_f, ieq_t, ieq_f, iz_t, iz_f, ilz_f, nI_add, e2, Option.bind_some, am_ltU, am_ckT, cond_true, cond_false, bi_ite, ck_bi, ite_T, ite_F]
      exact last n 0 am_NF w2 (by omega) (by show n < 4000; omega) (fun c c1 c2 c3 => (k2 c (nbf c2)).trans (h1 c c1 c3)) (fun t ht => by omega) (fun t ht => (congrFun (k2 56 rfl) t).trans (h3 t (by omega))) (fun t ht => (congrFun (k2 74 rfl) t).trans (h2 t (by omega)).1) (fun t ht => (r2 t ht).trans hoA_v3)
    | succ d ih =>
      intro i k w1 hi hk h1 h2 h3
      obtain ⟨k, rfl⟩ : ∃ j, k = j + 1 := ⟨k - 1, by omega⟩
      have hz : w1.1 53 0 = nI n := (congrFun (h1 53 (by omega) (by omega)) 0).trans hM.1
      show ∃ w2, F_Mod_livesBy_8 _ _ _ _ = _ ∧ _
      unfold F_Mod_livesBy_8
      simp (disch := omega) only [hz, nI_clamp, am_ckI, ile_t, ile_f, ilt_t, ilt_f, ieq_t, ieq_f, iz_t, iz_f, ilz_f, nI_add, Option.bind_some, am_ltU, am_ckT, cond_true, cond_false, bi_ite, ck_bi, ite_T, ite_F, lot_s hx, lot_h hx, wst_f]
      refine ih (i + 1) k _ (by omega) (by omega) (fun c c1 c2 => ?_) (fun t ht => ?_) (fun t ht => ?_)
      · exact (mf_n (nbf c1)).trans ((mf_n (nbf c2)).trans (h1 c c1 c2))
      · by_cases e : t = i
        · rw [e, wsf_at, wsf_nc rfl, wsf_at]
          exact ⟨h3 i (Nat.le_refl i), rfl⟩
        · rw [wsf_nc rfl, wsf_ne e, wsf_ne e, wsf_nc rfl]; exact h2 t (by omega)
      · rw [wsf_ne (by omega), wsf_nc rfl]; exact h3 t (by omega)
  exact key n 0 am_NF w (by omega) (by show n < 4000; omega) (fun c _ _ => rfl) (fun t ht => by omega) (fun t _ => rfl)
end
theorem B_drawn (a b : Int32) : BOTH (F_Loc_drawn a b) (F_Mod_drawn a b) := BOTH_q (fun {n m g s T f v te tc w} hq => by
  obtain ⟨hV, hg, hs, hC, hM, hT, hX, hS, hP, hI, hA⟩ := id hq
  have hn := hV.1
  unfold F_Loc_drawn F_Loc_drawn_25
  simp only [S_isThing hV hC, Option.bind_some, am_ltU, am_ckT, cond_true, cond_false, bi_ite, ck_bi, ite_T, ite_F]
  cases h : am_in b n with
  | false =>
    refine ⟨_, _, w, rfl, ?_, KP_r w⟩
    unfold F_Mod_drawn
    simp only [D_isThing hV hM, h, Option.bind_some, am_ltU, am_ckT, cond_true, cond_false, bi_ite, ck_bi, ite_T, ite_F]
  | true =>
    obtain ⟨t, ht, rfl⟩ := in_ex h (by omega)
    cases h2 : am_in a 100000 with
    | false =>
      refine ⟨-nI 7, w, w, ?_, ?_, KP_r w⟩
      · rw [cond_true]
        by_cases h3 : a < 0
        · rw [if_pos h3]
        · rw [if_neg h3, if_neg]
          intro h4
          have h5 : am_in a 100000 = true := in_iff.mpr ⟨by rw [Int32.lt_iff_toInt_lt, ti_0] at h3; omega, by rw [Int32.le_iff_toInt_le, nI_toInt (by omega)] at h4; omega⟩
          rw [h2] at h5; cases h5
      · unfold F_Mod_drawn
        rw [D_isThing hV hM, h, bn_s, D_in0 (k := 99999) (by omega), h2]
        rfl
    | true =>
      obtain ⟨x, hx, rfl⟩ := in_ex h2 (by omega)
      simp (disch := omega) only [S_isGone hC, Option.bind_some, am_ltU, am_ckT, cond_true, cond_false, bi_ite, ck_bi, ite_T, ite_F, nI_clamp, am_ckI, ile_t, ile_f, ilt_t, ilt_f, ieq_t, ieq_f, iz_t, iz_f, ilz_f, nI_add]
      cases hgt : g.testBit t with
      | true =>
        refine ⟨_, _, w, rfl, ?_, KP_r w⟩
        unfold F_Mod_drawn
        rw [D_isThing hV hM, h, bn_s, D_in0 (k := 99999) (by omega), h2]
        simp (disch := omega) only [Option.bind_some, am_ltU, am_ckT, cond_true, cond_false, bi_ite, ck_bi, ite_T, ite_F, D_isGone hM, hgt]
      | false =>
        obtain ⟨w1, w2, e1, e2, kp2, r2⟩ := S_lot hV hC hg (x := x) (by omega)
        have hM2 : MM n m g s v w2 := MM_fr rfl kp2 hM
        obtain ⟨w3, e3, kp3, r3⟩ := D_lot hV hM2 (x := x) (by omega)
        refine ⟨hoA n m v s (dr x) g t, w2, w3, ?_, ?_, KP_t kp2 kp3⟩
        · simp (disch := omega) only [e1, e2, Option.bind_some, am_ltU, am_ckT, cond_true, cond_false, bi_ite, ck_bi, ite_T, ite_F, nI_clamp, am_ckI, ile_t, ile_f, ilt_t, ilt_f, ieq_t, ieq_f, iz_t, iz_f, ilz_f, nI_add, r2]
        · unfold F_Mod_drawn
          rw [D_isThing hV hM2, h, bn_s, D_in0 (k := 99999) (by omega), h2]
          simp (disch := omega) only [Option.bind_some, am_ltU, am_ckT, cond_true, cond_false, bi_ite, ck_bi, ite_T, ite_F, D_isGone hM2, hgt, e3, nI_clamp, am_ckI, ile_t, ile_f, ilt_t, ilt_f, ieq_t, ieq_f, iz_t, iz_f, ilz_f, nI_add, r3])
