/-! ===== calls that write the rails: come, go, thing, lock, relock; force; row, taken ===== -/
theorem wst_f {w : am_W} {c i : Nat} {x : Int32} (h : i < 2 ^ 31) : wst w c (nI i) x = wsf w c i x := by
  unfold wst wsf
  rw [nI_clamp h]
theorem wsf_at (w : am_W) (c j : Nat) (x : Int32) : (wsf w c j x).1 c j = x := by
  show mf w.1 c (upd (w.1 c) j x) c j = x
  rw [mf_s]
  exact if_pos rfl
theorem wsf_ne {w : am_W} {c j i : Nat} {x : Int32} (h : ¬ i = j) : (wsf w c j x).1 c i = w.1 c i := by
  show mf w.1 c (upd (w.1 c) j x) c i = _
  rw [mf_s]
  exact if_neg h
theorem wsf_nc {w : am_W} {c j a i : Nat} {x : Int32} (h : Nat.beq a c = false) : (wsf w c j x).1 a i = w.1 a i := congrFun (mf_n h) i
def vset (v : am_V) (a i x : Nat) : am_V := fun b j => bif Nat.beq b a && Nat.beq j i then x else v b j
theorem vset_at (v : am_V) (a i x : Nat) : vset v a i x a i = x := by unfold vset; rw [Nat.beq_refl, Nat.beq_refl]; rfl
theorem vset_ne {v : am_V} {a i x j : Nat} (h : ¬ j = i) : vset v a i x a j = v a j := by unfold vset; rw [nbf h, Bool.and_false]; rfl
theorem vset_nc {v : am_V} {a i x b j : Nat} (h : Nat.beq b a = false) : vset v a i x b j = v b j := by unfold vset; rw [h]; rfl
/-! counting bits -/
def pc (k : Nat) : Nat → Nat
  | 0 => 0
  | n + 1 => pc k n + bif k.testBit n then 1 else 0
def w00 : am_W := (fun _ _ => 0, fun _ => 0, none)
theorem bc_all : ((List.range 512).all fun k => decide ((F_Jint_bitCount_0f7a4 (nI k) w00).map (fun q => q.1) = some (nI (pc k 10)))) = true := by decide +kernel
theorem S_bits {k : Nat} {w : am_W} (hk : k < 512) : F_Jint_bitCount_0f7a4 (nI k) w = some (nI (pc k 10), w) := by
  have h := of_decide_eq_true (List.all_eq_true.mp bc_all k (List.mem_range.mpr hk))
  have e : F_Jint_bitCount_0f7a4 (nI k) w = ((F_Jint_bitCount_0f7a4 (nI k) w00).map (fun q => q.1)).map (fun x => (x, w)) := rfl
  rw [e, h]
  rfl
theorem D_ones {k : Nat} {w : am_W} : F_Mod_ones (nI k) w = some (nI (pc k 10), w) := by
  unfold F_Mod_ones
  refine lp_0 (G := fun q i => L_Mod_ones_4 q (nI k) (nI (pc k i)) (nI i) w) (m := 10) ?_ ?_ (by show 10 < 4000; omega)
  · intro q i hi
    show F_Mod_ones_4 _ _ _ _ _ = _
    unfold F_Mod_ones_4
    simp (disch := omega) only [nI_clamp, am_ckI, ile_t, ile_f, ilt_t, ilt_f, ieq_t, ieq_f, iz_t, iz_f, ilz_f, nI_add, b_has, b_nI]
    rw [show nI (pc k (i + 1)) = nI (pc k i) + bi (k.testBit i) from by
      rw [pc]
      cases k.testBit i
      · exact (nI_add _ _).symm
      · exact (nI_add _ _).symm]
  · intro q
    show F_Mod_ones_4 _ _ _ _ _ = _
    unfold F_Mod_ones_4
    simp (disch := omega) only [nI_clamp, am_ckI, ile_t, ile_f, ilt_t, ilt_f, ieq_t, ieq_f, iz_t, iz_f, ilz_f, nI_add]
section
variable {n m g s T : Nat} {v : am_V} {w : am_W}
theorem IM_v {n2 : Nat} {v2 : am_V} (h : IM n T v w) (hn : n ≤ n2) (he : ∀ t, t < n → v2 1 t = v 1 t ∧ v2 2 t = v 2 t) : IM n2 T v2 w := by
  rcases h with h | ⟨h1, h2, n0, m0, g0, s0, f0, v0, h3, h4, h5, h6, h7, h8, h9⟩
  · exact Or.inl h
  · exact Or.inr ⟨h1, h2, n0, m0, g0, s0, f0, v0, by omega, h4, h5, h6, h7, fun t ht => ⟨(h8 t ht).1.trans (he t (by omega)).1.symm, (h8 t ht).2.trans (he t (by omega)).2.symm⟩, h9⟩
theorem VI_hour (hV : VI n m v) {t x : Nat} (hx : x < 24) : VI n m (vset v 3 t x) := ⟨hV.1, hV.2.1, fun u hu => ⟨(hV.2.2.1 u hu).1, (hV.2.2.1 u hu).2.1, by
  by_cases h : u = t
  · rw [h, vset_at]; exact hx
  · rw [vset_ne h]; exact (hV.2.2.1 u hu).2.2⟩, hV.2.2.2⟩
end
theorem B_come (a b : Int32) : BOTH (F_Loc_come a b) (F_Mod_come a b) := fun w ⟨n, m, g, s, T, f, v, te, tc, hq⟩ => by
  obtain ⟨hV, hg, hs, hC, hM, hT, hX, hS, hP, hI, hA⟩ := id hq
  have hn := hV.1
  unfold F_Loc_come
  simp only [S_isThing hV hC, S_isHour, Option.bind_some, am_ltU, am_ckT, cond_true, cond_false, bi_ite, ck_bi, ite_T, ite_F]
  cases h : am_in a n with
  | false =>
    refine ⟨_, _, _, rfl, ?_, n, m, g, s, T, f, v, te, tc, hq⟩
    unfold F_Mod_come
    simp only [D_isThing hV hM, h, Option.bind_some, am_ltU, am_ckT, cond_true, cond_false, bi_ite, ck_bi, ite_T, ite_F]
  | true =>
    obtain ⟨t, ht, rfl⟩ := in_ex h (by omega)
    cases h2 : am_in b 24 with
    | false =>
      refine ⟨_, _, _, rfl, ?_, n, m, g, s, T, f, v, te, tc, hq⟩
      unfold F_Mod_come
      simp only [D_isThing hV hM, D_isHour, h, h2, Option.bind_some, am_ltU, am_ckT, cond_true, cond_false, bi_ite, ck_bi, ite_T, ite_F]
    | true =>
      obtain ⟨x, hx, rfl⟩ := in_ex h2 (by omega)
      simp (disch := omega) only [cond_true, nI_clamp, am_ckI, ile_t, ile_f, ilt_t, ilt_f, ieq_t, ieq_f, iz_t, iz_f, ilz_f, nI_add, Option.bind_some, am_ltU, am_ckT, cond_true, cond_false, bi_ite, ck_bi, ite_T, ite_F, (hC.2.2.2.2.2.1 t ht).2.2, wst_f]
      have hM1 : MM n m g s v (wsf w 4 t (nI x)) := hM
      refine ⟨nI (v 3 t), wsf w 4 t (nI x), wsf (wsf w 4 t (nI x)) 56 t (nI x), rfl, ?_, n, m, g, s, T, f, vset v 3 t x, te, tc, ?_⟩
      · unfold F_Mod_come
        simp (disch := omega) only [D_isThing hV hM1, D_isHour, h, h2, Option.bind_some, am_ltU, am_ckT, cond_true, cond_false, bi_ite, ck_bi, ite_T, ite_F, nI_clamp, am_ckI, ile_t, ile_f, ilt_t, ilt_f, ieq_t, ieq_f, iz_t, iz_f, ilz_f, nI_add, (hM1.2.2.2.2.1 t ht).2.2, wst_f]
      · refine RQ_rl (FRA_t (FRA_sf rfl) (FRA_sf rfl)) hq (VI_hour hV hx) hg hs ?_ ?_ (IM_v hI (Nat.le_refl _) (fun u hu => ⟨rfl, rfl⟩))
        · refine ⟨hC.1, hC.2.1, hC.2.2.1, hC.2.2.2.1, hC.2.2.2.2.1, fun u hu => ⟨(hC.2.2.2.2.2.1 u hu).1, (hC.2.2.2.2.2.1 u hu).2.1, ?_⟩, hC.2.2.2.2.2.2⟩
          show (wsf w 4 t (nI x)).1 4 u = _
          by_cases e : u = t
          · rw [e, vset_at, wsf_at]
          · rw [vset_ne e, wsf_ne e]; exact (hC.2.2.2.2.2.1 u hu).2.2
        · refine ⟨hM.1, hM.2.1, hM.2.2.1, hM.2.2.2.1, fun u hu => ⟨(hM.2.2.2.2.1 u hu).1, (hM.2.2.2.2.1 u hu).2.1, ?_⟩, hM.2.2.2.2.2⟩
          by_cases e : u = t
          · rw [e, vset_at, wsf_at]
          · rw [vset_ne e, wsf_ne e]; exact (hM.2.2.2.2.1 u hu).2.2
theorem B_go (a : Int32) : BOTH (F_Loc_go a) (F_Mod_go a) := fun w ⟨n, m, g, s, T, f, v, te, tc, hq⟩ => by
  obtain ⟨hV, hg, hs, hC, hM, hT, hX, hS, hP, hI, hA⟩ := id hq
  have hn := hV.1
  have hp : 2 ^ n ≤ 2 ^ 8 := Nat.pow_le_pow_right (by omega) hn
  unfold F_Loc_go
  simp only [S_isThing hV hC, Option.bind_some, am_ltU, am_ckT, cond_true, cond_false, bi_ite, ck_bi, ite_T, ite_F]
  cases h : am_in a n with
  | false =>
    refine ⟨_, _, _, rfl, ?_, n, m, g, s, T, f, v, te, tc, hq⟩
    unfold F_Mod_go
    simp only [D_isThing hV hM, h, Option.bind_some, am_ltU, am_ckT, cond_true, cond_false, bi_ite, ck_bi, ite_T, ite_F]
  | true =>
    obtain ⟨t, ht, rfl⟩ := in_ex h (by omega)
    simp (disch := omega) only [hC.2.1, hC.2.2.2.1, S_canGo hV hC, S_has, mk_b, decide_eq_true ht, Bool.true_and, s_one, nx_or, Option.bind_some, am_ltU, am_ckT, cond_true, cond_false, bi_ite, ck_bi, ite_T, ite_F]
    cases h2 : cg m v g s t with
    | false =>
      refine ⟨_, _, _, rfl, ?_, n, m, g, s, T, f, v, te, tc, hq⟩
      unfold F_Mod_go
      simp only [D_isThing hV hM, D_canGo hV hM ht, h, h2, Option.bind_some, am_ltU, am_ckT, cond_true, cond_false, bi_ite, ck_bi, ite_T, ite_F]
    | true =>
      have hg2 : g ||| 2 ^ t < 2 ^ n := or_lt hg (Nat.pow_lt_pow_right (by omega) ht)
      have hM1 : MM n m g s v (wsf w 1 1 (nI (g ||| 2 ^ t))) := hM
      have hM2 : MM n m (g ||| 2 ^ t) s v (wsf (wsf w 1 1 (nI (g ||| 2 ^ t))) 53 4 (nI (g ||| 2 ^ t))) := MM_g hM1 _
      refine ⟨nI n - nI (pc (g ||| 2 ^ t) 10), wsf w 1 1 (nI (g ||| 2 ^ t)), wsf (wsf w 1 1 (nI (g ||| 2 ^ t))) 53 4 (nI (g ||| 2 ^ t)), ?_, ?_, n, m, g ||| 2 ^ t, s, T, f, v, te, tc, ?_⟩
      · rw [cond_true, wsf_at, S_bits (by omega), bn_s]
        show some ((wsf w 1 1 (nI (g ||| 2 ^ t))).1 1 0 - _, _) = _
        rw [wsf_ne (by omega), hC.1]
      · unfold F_Mod_go
        simp (disch := omega) only [D_isThing hV hM1, D_canGo hV hM1 ht, h, h2, Option.bind_some, am_ltU, am_ckT, cond_true, cond_false, bi_ite, ck_bi, ite_T, ite_F, hM1.2.1, s_one, nx_or, hM2.2.1, D_ones, hM2.1]
      · exact RQ_rl (FRA_t (FRA_sf rfl) (FRA_sf rfl)) hq hV hg2 hs ⟨hC.1, rfl, hC.2.2.1, hC.2.2.2.1, hC.2.2.2.2.1, hC.2.2.2.2.2.1, hC.2.2.2.2.2.2⟩ hM2 hI
/-! force -/
theorem B_force (a : Int32) : BOTH (F_Loc_force a) (F_Mod_force a) := fun w ⟨n, m, g, s, T, f, v, te, tc, hq⟩ => by
  obtain ⟨hV, hg, hs, hC, hM, hT, hX, hS, hP, hI, hA⟩ := id hq
  have hT6 := hT.1
  have hF : F_Loc_force a w = bif am_in a T then some (nI f, wsf w 17 2 a) else some (-nI 2, w) := by
    unfold F_Loc_force
    rw [hT.2.2.1, in_dec]
    by_cases h1 : a < 0
    · rw [if_pos h1, decide_eq_false (fun q => by rw [Int32.lt_iff_toInt_lt, ti_0] at h1; omega)]; rfl
    · rw [if_neg h1]
      by_cases h2 : a < nI T
      · rw [if_pos h2, decide_eq_true (by rw [Int32.lt_iff_toInt_lt, ti_0] at h1; rw [Int32.lt_iff_toInt_lt, nI_toInt (by omega)] at h2; omega), hT.2.2.2.1]; rfl
      · rw [if_neg h2, decide_eq_false (fun q => by rw [Int32.lt_iff_toInt_lt, nI_toInt (by omega)] at h2; omega)]; rfl
  rw [hF]
  cases h : am_in a T with
  | false =>
    refine ⟨_, _, _, rfl, ?_, n, m, g, s, T, f, v, te, tc, hq⟩
    unfold F_Mod_force
    rw [hT.2.2.2.2.1, D_inm (by omega), h]
    rfl
  | true =>
    obtain ⟨x, hx, rfl⟩ := in_ex h (by omega)
    refine ⟨nI f, wsf w 17 2 (nI x), wsf (wsf w 17 2 (nI x)) 53 13 (nI x), rfl, ?_, n, m, g, s, T, x, v, te, tc, ?_⟩
    · unfold F_Mod_force
      have e1 : (wsf w 17 2 (nI x)).1 53 12 = nI T := hT.2.2.2.2.1
      have e2 : (wsf w 17 2 (nI x)).1 53 13 = nI f := hT.2.2.2.2.2
      rw [e1, D_inm (by omega), h, bn_s]
      show (if bi true = 0 then _ else _) = _
      rw [if_neg (by decide), e2]
      rfl
    · have k : FRA (fun a => Nat.beq a 7) w (wsf (wsf w 17 2 (nI x)) 53 13 (nI x)) := FRA_t (FRA_sf rfl) (FRA_sf rfl)
      refine ⟨hV, hg, hs, CC_fr rfl k hC, MM_fr rfl k hM, ⟨hT.1, hx, hT.2.2.1, rfl, hT.2.2.2.2.1, rfl⟩, ?_, SS_fr rfl k hS, TP_fr rfl k hP, IM_fr rfl k hI, ABC_fr rfl k hA⟩
      intro t ht
      have e1 : ∀ j, (wsf (wsf w 17 2 (nI x)) 53 13 (nI x)).1 (27 + 1 + t) j = w.1 (27 + 1 + t) j := fun j => by
        match t, Nat.lt_of_lt_of_le ht hT6 with
        | 0, _ => rfl
        | 1, _ => rfl
        | 2, _ => rfl
        | 3, _ => rfl
        | 4, _ => rfl
        | 5, _ => rfl
      have e2 : ∀ j, (wsf (wsf w 17 2 (nI x)) 53 13 (nI x)).1 (20 + 1 + t) j = w.1 (20 + 1 + t) j := fun j => by
        match t, Nat.lt_of_lt_of_le ht hT6 with
        | 0, _ => rfl
        | 1, _ => rfl
        | 2, _ => rfl
        | 3, _ => rfl
        | 4, _ => rfl
        | 5, _ => rfl
      obtain ⟨h0, h1, h2, h3, h4, h5, h6, h7⟩ := hX t ht
      exact ⟨h0, h1, h2, h3, h4, fun p hp => ⟨(e1 p).trans (h5 p hp).1, (h5 p hp).2⟩, h6, fun i hi => ⟨(e2 i).trans (h7 i hi).1, (h7 i hi).2⟩⟩
/-! row -/
def fst (p : Nat → Bool) : Nat → Nat → Nat
  | 0, i => i
  | k + 1, i => bif p i then i else fst p k (i + 1)
theorem fst_c {p q : Nat → Bool} : ∀ k i, (∀ j, i ≤ j → j < i + k → p j = q j) → fst p k i = fst q k i
  | 0, _, _ => rfl
  | k + 1, i, h => by rw [fst, fst, h i (Nat.le_refl _) (by omega), fst_c k (i + 1) (fun j h1 h2 => h j (by omega) (by omega))]
theorem fst_le (p : Nat → Bool) : ∀ k i, fst p k i ≤ i + k
  | 0, i => Nat.le_refl _
  | k + 1, i => by
    rw [fst]
    cases p i
    · have := fst_le p k (i + 1); show fst p k (i + 1) ≤ _; omega
    · show i ≤ _; omega
theorem fst_p {p : Nat → Bool} : ∀ k i, fst p k i < i + k → p (fst p k i) = true
  | 0, i, h => by rw [fst] at h; omega
  | k + 1, i, h => by
    rw [fst] at h ⊢
    cases hp : p i
    · rw [hp] at h; exact fst_p k (i + 1) (by show fst p k (i + 1) < _; have : fst p k (i + 1) < i + (k + 1) := h; omega)
    · exact hp
theorem fst_n {p : Nat → Bool} : ∀ k i, fst p k i = i + k → ∀ j, i ≤ j → j < i + k → p j = false
  | 0, i, _, j, h1, h2 => by omega
  | k + 1, i, h, j, h1, h2 => by
    rw [fst] at h
    cases hp : p i
    · rw [hp] at h
      have h : fst p k (i + 1) = i + (k + 1) := h
      by_cases e : j = i
      · rw [e]; exact hp
      · exact fst_n k (i + 1) (by omega) j (by omega) (by omega)
    · rw [hp] at h
      have h : i = i + (k + 1) := h
      omega
theorem fst_k {p : Nat → Bool} {n : Nat} (h : ∀ j, n ≤ j → p j = false) : ∀ k i, i + k = n → ∀ d, fst p k i < n → fst p (k + d) i = fst p k i
  | 0, i, hi, d, hl => by rw [fst] at hl; omega
  | k + 1, i, hi, d, hl => by
    rw [show k + 1 + d = (k + d) + 1 from by omega, fst, fst] at *
    cases hp : p i
    · rw [hp] at hl
      exact fst_k h k (i + 1) (by omega) d hl
    · rfl
/-- digits from h on -/
def rwN (n m : Nat) (v : am_V) (s : Nat) : Nat → Nat → Nat → Nat
  | 0, _, x => x
  | d + 1, h, x => bif Nat.ble n (fst (cd n m v 0 s h) n 0) then x else rwN n m v s d (h ||| 2 ^ fst (cd n m v 0 s h) n 0) (10 * x + fst (cd n m v 0 s h) n 0 + 1)
section
variable {n m g s : Nat} {v : am_V} {w : am_W}
theorem S_leastOf {x : Int32} {w : am_W} (hx : fst (bt x) 8 0 < 8) : F_Loc_leastOf x w = some (nI (fst (bt x) 8 0), w) := by
  unfold F_Loc_leastOf
  have key : ∀ d i k, i + d = 8 → d < k → fst (bt x) d i < 8 → L_Loc_leastOf_2 k x (nI i) w = some (nI (fst (bt x) d i), w) := by
    intro d
    induction d with
    | zero => intro i k h1 h2 h3; rw [fst] at h3; omega
    | succ d ih =>
      intro i k h1 h2 h3
      obtain ⟨k, rfl⟩ : ∃ j, k = j + 1 := ⟨k - 1, by omega⟩
      show F_Loc_leastOf_2 _ _ _ _ = _
      unfold F_Loc_leastOf_2
      simp (disch := omega) only [nI_clamp, am_ckI, ile_t, ile_f, ilt_t, ilt_f, ieq_t, ieq_f, iz_t, iz_f, ilz_f, nI_add, S_has, Option.bind_some, am_ltU, am_ckT, cond_true, cond_false, bi_ite, ck_bi, ite_T, ite_F]
      rw [fst] at h3 ⊢
      cases hb : bt x i
      · rw [hb] at h3
        exact ih (i + 1) k (by omega) (by omega) h3
      · rfl
  exact key 8 0 am_NF rfl (by show 8 < 4000; omega) hx
theorem D_leastFree (hV : VI n m v) (hM : MM n m g s v w) : F_Mod_leastFree w = some (bif Nat.ble n (fst (cd n m v 0 s g) n 0) then -nI 1 else nI (fst (cd n m v 0 s g) n 0), w) := by
  have hn := hV.1
  unfold F_Mod_leastFree
  have key : ∀ d i k, i + d = n → d < k → L_Mod_leastFree_2 k (nI i) w = some (bif Nat.ble n (fst (cd n m v 0 s g) d i) then -nI 1 else nI (fst (cd n m v 0 s g) d i), w) := by
    intro d
    induction d with
    | zero =>
      intro i k h1 h2
      obtain ⟨k, rfl⟩ : ∃ j, k = j + 1 := ⟨k - 1, by omega⟩
      show F_Mod_leastFree_2 _ _ _ = _
      unfold F_Mod_leastFree_2
      simp (disch := omega) only [nI_clamp, am_ckI, ile_t, ile_f, ilt_t, ilt_f, ieq_t, ieq_f, iz_t, iz_f, ilz_f, nI_add, hM.1]
      rw [fst, Nat.ble_eq_true_of_le (by omega)]; rfl
    | succ d ih =>
      intro i k h1 h2
      obtain ⟨k, rfl⟩ : ∃ j, k = j + 1 := ⟨k - 1, by omega⟩
      have hin : i < n := by omega
      have hk6 := (hV.2.2.1 i hin).1
      show F_Mod_leastFree_2 _ _ _ = _
      unfold F_Mod_leastFree_2
      simp (disch := omega) only [nI_clamp, am_ckI, ile_t, ile_f, ilt_t, ilt_f, ieq_t, ieq_f, iz_t, iz_f, ilz_f, nI_add, hM.1, (hM.2.2.2.2.1 i hin).1, ieq_b, D_canGo hV hM hin, Option.bind_some, am_ltU, am_ckT, cond_true, cond_false, bi_ite, ck_bi, ite_T, ite_F]
      rw [fst]
      have t1 : F_Mod_leastFree_30 (L_Mod_leastFree_2 k) (nI i) w = _ := (congrArg (fun q => L_Mod_leastFree_2 k q w) (nI_add i 1)).trans (ih (i + 1) k (by omega) (by omega))
      have hc : cd n m v 0 s g i = (!(Nat.beq (v 1 i) 5) && cg m v g s i) := by
        unfold cd evr
        rw [decide_eq_true hin, Nat.zero_testBit]; rfl
      rw [hc]
      cases Nat.beq (v 1 i) 5 with
      | true => exact t1
      | false =>
        cases cg m v g s i with
        | false => exact t1
        | true =>
          show some (nI i, w) = some (bif Nat.ble n i then _ else nI i, w)
          rw [show Nat.ble n i = false from Bool.eq_false_iff.mpr (fun q => by have := Nat.le_of_ble_eq_true q; omega)]; rfl
  exact key n 0 am_NF (by omega) (by show n < 4000; omega)
end
theorem B_row : BOTH F_Loc_row F_Mod_row := BOTH_0 (fun {n m g s T f v te tc w} hq => by
  obtain ⟨hV, hg, hs, hC, hM, hT, hX, hS, hP, hI, hA⟩ := hq
  have hn := hV.1
  have hp : 2 ^ n ≤ 2 ^ 8 := Nat.pow_le_pow_right (by omega) hn
  have cdn : ∀ h j, n ≤ j → cd n m v 0 s h j = false := fun h j hj => by unfold cd; rw [decide_eq_false (by omega)]; rfl
  refine ⟨nI (rwN n m v s n g 0), ?_, ?_⟩
  · unfold F_Loc_row
    rw [hC.2.1]
    have key : ∀ d i k h x, i + d = n → d < k → L_Loc_row_12 k (nI x) (nI h) (nI i) w = some (nI (rwN n m v s d h x), w) := by
      intro d
      induction d with
      | zero =>
        intro i k h x h1 h2
        obtain ⟨k, rfl⟩ : ∃ j, k = j + 1 := ⟨k - 1, by omega⟩
        show F_Loc_row_12 _ _ _ _ _ = _
        unfold F_Loc_row_12
        simp (disch := omega) only [hC.1, nI_clamp, am_ckI, ile_t, ile_f, ilt_t, ilt_f, ieq_t, ieq_f, iz_t, iz_f, ilz_f, nI_add]
        rfl
      | succ d ih =>
        intro i k h x h1 h2
        obtain ⟨k, rfl⟩ : ∃ j, k = j + 1 := ⟨k - 1, by omega⟩
        show F_Loc_row_12 _ _ _ _ _ = _
        unfold F_Loc_row_12
        simp (disch := omega) only [hC.1, hC.2.2.2.1, hC.2.2.2.2.1, nI_clamp, am_ckI, ile_t, ile_f, ilt_t, ilt_f, ieq_t, ieq_f, iz_t, iz_f, ilz_f, nI_add, S_canGoN hV hC, Option.bind_some, am_ltU, am_ckT, cond_true, cond_false, bi_ite, ck_bi, ite_T, ite_F]
        rw [mk_N, nx_and, cd_mask]
        have hlt := mkN_lt (cd n m v 0 s h) n
        have e8 : fst (bt (nI (mkN (cd n m v 0 s h) n))) 8 0 = fst (cd n m v 0 s h) 8 0 := fst_c 8 0 (fun j _ hj => by
          rw [b_nI (by omega), mkN_t]
          by_cases hjn : j < n
          · rw [decide_eq_true hjn]; rfl
          · rw [decide_eq_false hjn, cdn h j (by omega)]; rfl)
        rw [iz_b (by omega), rwN]
        cases hz : Nat.beq (mkN (cd n m v 0 s h) n) 0
        · have hl : fst (cd n m v 0 s h) n 0 < n := by
            refine Classical.byContradiction fun q => ?_
            have hle := fst_le (cd n m v 0 s h) n 0
            have h5 := fst_n n 0 (show fst (cd n m v 0 s h) n 0 = 0 + n by omega)
            rw [mkN_z.mpr (fun j hj => h5 j (by omega) (by omega))] at hz
            cases hz
          have e9 : fst (cd n m v 0 s h) 8 0 = fst (cd n m v 0 s h) n 0 := by
            have := fst_k (p := cd n m v 0 s h) (n := n) (cdn h) n 0 (by omega) (8 - n) hl
            rw [← this, show n + (8 - n) = 8 from by omega]
          rw [cond_false, S_leastOf (by rw [e8, e9]; omega), e8, e9, bn_s, show Nat.ble n (fst (cd n m v 0 s h) n 0) = false from Bool.eq_false_iff.mpr (fun q => by have := Nat.le_of_ble_eq_true q; omega), cond_false]
          dsimp only
          simp (disch := omega) only [pk_mul, nI_add, s_one, nx_or]
          rw [Nat.mul_comm x 10]
          exact ih (i + 1) k _ _ (by omega) (by omega)
        · have h5 := mkN_z.mp (Nat.eq_of_beq_eq_true hz)
          have h6 : n ≤ fst (cd n m v 0 s h) n 0 := by
            refine Nat.le_of_not_lt fun q => ?_
            have h7 := fst_p n 0 (show fst (cd n m v 0 s h) n 0 < 0 + n by omega)
            rw [h5 _ q] at h7
            cases h7
          rw [Nat.ble_eq_true_of_le h6]; rfl
    exact key n 0 am_NF g 0 (by omega) (by show n < 4000; omega)
  · have key : ∀ d k h x, left h n ≤ d → d < k → L_Mod_row_12 k (nI g) (nI x) (bif Nat.ble n (fst (cd n m v 0 s h) n 0) then -nI 1 else nI (fst (cd n m v 0 s h) n 0)) (wsf w 53 4 (nI h)) = some (nI (rwN n m v s d h x), w) := by
      intro d
      induction d with
      | zero =>
        intro k h x h1 h2
        obtain ⟨k, rfl⟩ : ∃ j, k = j + 1 := ⟨k - 1, by omega⟩
        have h3 := left_z (g := h) n (by omega)
        have h6 : n ≤ fst (cd n m v 0 s h) n 0 := by
          refine Nat.le_of_not_lt fun q => ?_
          have h7 := cd_not (fst_p n 0 (show fst (cd n m v 0 s h) n 0 < 0 + n by omega))
          rw [h3 _ q] at h7
          cases h7.2
        rw [Nat.ble_eq_true_of_le h6]
        show F_Mod_row_12 _ _ _ _ _ = _
        unfold F_Mod_row_12
        rw [cond_true, if_pos rfl, am_ltU, wsf_wsf, wsf_e hM.2.1]
        rfl
      | succ d ih =>
        intro k h x h1 h2
        obtain ⟨k, rfl⟩ : ∃ j, k = j + 1 := ⟨k - 1, by omega⟩
        rw [rwN]
        show F_Mod_row_12 _ _ _ _ _ = _
        unfold F_Mod_row_12
        cases hb : Nat.ble n (fst (cd n m v 0 s h) n 0)
        · have hl : fst (cd n m v 0 s h) n 0 < n := Nat.lt_of_not_le (fun q => by rw [Nat.ble_eq_true_of_le q] at hb; cases hb)
          have h7 := cd_not (fst_p n 0 (show fst (cd n m v 0 s h) n 0 < 0 + n by omega))
          rw [cond_false, cond_false, if_neg (fun q => by
            have := congrArg Int32.toInt q
            rw [nI_toInt (by omega)] at this
            have e1 : (-nI 1 : Int32).toInt = -1 := by decide
            omega)]
          simp (disch := omega) only [Option.bind_some, am_ltU, am_ckT, cond_true, cond_false, bi_ite, ck_bi, ite_T, ite_F, (MM_g hM h).2.1, s_one, nx_or, wsf_wsf, D_leastFree hV (MM_g hM _), pk_mul, nI_add]
          refine ih k _ _ ?_ (by omega)
          have h8 := left_lt (h := h ||| 2 ^ fst (cd n m v 0 s h) n 0) sub_or h7.2 (by rw [Nat.testBit_or, Nat.testBit_two_pow, decide_eq_true rfl, Bool.or_true]) n hl
          omega
        · rw [cond_true, cond_true, if_pos rfl, am_ltU, wsf_wsf, wsf_e hM.2.1]
    unfold F_Mod_row
    rw [D_leastFree hV hM, bn_s, hM.2.1]
    have h9 := key n am_NF g 0 (left_le8 g n) (by show n < 4000; omega)
    rw [wsf_e hM.2.1] at h9
    exact h9)
