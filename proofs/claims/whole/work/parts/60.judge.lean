/-! ===== told goings: judge, whose, kinds ===== -/
/-- the first place from i on that tells nobody who could go then, h being gone by then -/
def jd (n m : Nat) (v : am_V) (s : Nat) (x : Nat → Int32) : Nat → Nat → Nat → Int32
  | 0, _, _ => -nI 1
  | d + 1, i, h => bif am_in (x i) n && cg m v h s (x i).toNatClampNeg then jd n m v s x d (i + 1) (h ||| 2 ^ (x i).toNatClampNeg) else nI i
/-- a number, or none -/
def hj (x : Int32) : Prop := x = -nI 1 ∨ ∃ h, h < 2 ^ 31 ∧ x = nI h
theorem hj_le {α : Type} {x : Int32} (h : hj x) {a b : α} : (if 0 ≤ x then a else b) = (if x = -nI 1 then b else a) := by
  rcases h with h | ⟨k, hk, h⟩
  · rw [h, if_pos rfl, if_neg (by decide)]
  · rw [h, if_pos (show (0 : Int32) ≤ nI k from nI_le (a := 0) (Nat.zero_le k) hk), if_neg (m1_ne hk)]
theorem hj_lt {α : Type} {x : Int32} (h : hj x) {a b : α} : (if x < 0 then a else b) = (if x = -nI 1 then a else b) := by
  rcases h with h | ⟨k, hk, h⟩
  · rw [h, if_pos rfl, if_pos (by decide)]
  · rw [h, if_neg (nI_pos hk), if_neg (m1_ne hk)]
section
variable {n m g s : Nat} {v : am_V} {w : am_W} {x : Nat → Int32}
theorem jd_j : ∀ d i h, i + d < 2 ^ 31 → hj (jd n m v s x d i h)
  | 0, _, _, _ => Or.inl rfl
  | d + 1, i, h, hi => by
    rw [jd]
    cases am_in (x i) n && cg m v h s (x i).toNatClampNeg
    · exact Or.inr ⟨i, by omega, rfl⟩
    · exact jd_j d (i + 1) _ (by omega)
theorem S_first (hV : VI n m v) (hC : CC n m g s v w) {p z : Nat} (hz : z ≤ 40) (hs : w.1 (45 + 2 * p) 1 = nI z) (hx : ∀ i, i < z → w.1 (46 + 2 * p) i = x i) : F_Loc_firstWrong p w = some (jd n m v s x z 0 g, w) := by
  have hn := hV.1
  unfold F_Loc_firstWrong
  rw [hC.2.1]
  have key : ∀ d i k h, i + d = z → d < k → L_Loc_firstWrong_10 k p (nI h) (nI i) w = some (jd n m v s x d i h, w) := by
    intro d
    induction d with
    | zero =>
      intro i k h hi hk
      obtain ⟨k, rfl⟩ : ∃ j, k = j + 1 := ⟨k - 1, by omega⟩
      show F_Loc_firstWrong_10 _ _ _ _ _ = _
      unfold F_Loc_firstWrong_10
      simp (disch := omega) only [hs, nI_clamp, am_ckI, ile_t, ile_f, ilt_t, ilt_f, ieq_t, ieq_f, iz_t, iz_f, ilz_f, nI_add]
      rfl
    | succ d ih =>
      intro i k h hi hk
      obtain ⟨k, rfl⟩ : ∃ j, k = j + 1 := ⟨k - 1, by omega⟩
      show F_Loc_firstWrong_10 _ _ _ _ _ = _
      unfold F_Loc_firstWrong_10 F_Loc_firstWrong_61
      simp (disch := omega) only [hs, nI_clamp, am_ckI, ile_t, ile_f, ilt_t, ilt_f, ieq_t, ieq_f, iz_t, iz_f, ilz_f, nI_add, bn_V, am_ltV, am_ckV, cond_V1, cond_V0, bi_ite, ck_bi, ite_T, ite_F, hx i (by omega), S_isThing hV hC, jd]
      cases h1 : am_in (x i) n with
      | false => rfl
      | true =>
        obtain ⟨t, ht, e⟩ := in_ex h1 (by omega)
        rw [e]
        simp (disch := omega) only [cond_true, hC.2.2.2.1, S_canGo hV hC, S_has, mk_b, decide_eq_true ht, Bool.true_and, s_one, nx_or, bn_V, am_ltV, am_ckV, cond_V1, cond_V0, bi_ite, ck_bi, ite_T, ite_F, nI_clamp]
        cases cg m v h s t with
        | false => rfl
        | true => exact ih (i + 1) k _ (by omega) (by omega)
  exact key z 0 am_NF g (by omega) (by show z < 4000; omega)
theorem D_judged (hV : VI n m v) (hM : MM n m g s v w) {p z : Nat} (hp : p < 4) (hz : z ≤ 40) (hs : w.1 63 p = nI z) (hx : ∀ i, i < z → w.1 64 (40 * p + i) = x i) : F_Mod_judged (nI p) w = some (jd n m v s x z 0 g, w) := by
  have hn := hV.1
  unfold F_Mod_judged
  rw [hM.2.1]
  have key : ∀ d i k h, i + d = z → d + 1 < k → L_Mod_judged_10 k (nI p) (nI g) (-nI 1) (nI i) (wsf w 53 4 (nI h)) = some (jd n m v s x d i h, w) := by
    intro d
    induction d with
    | zero =>
      intro i k h hi hk
      obtain ⟨k, rfl⟩ : ∃ j, k = j + 1 := ⟨k - 1, by omega⟩
      have hs1 : (wsf w 53 4 (nI h)).1 63 p = nI z := (wsf_nc rfl).trans hs
      show F_Mod_judged_10 _ _ _ _ _ _ = _
      unfold F_Mod_judged_10 F_Mod_judged_83
      simp (disch := omega) only [hs1, nI_clamp, am_ckI, ile_t, ile_f, ilt_t, ilt_f, ieq_t, ieq_f, iz_t, iz_f, ilz_f, nI_add, bn_V, am_ltV, am_ckV, cond_V1, cond_V0, bi_ite, ck_bi, ite_T, ite_F, wsf_wsf, wsf_e hM.2.1]
      rfl
    | succ d ih =>
      intro i k h hi hk
      obtain ⟨k, rfl⟩ : ∃ j, k = j + 1 := ⟨k - 1, by omega⟩
      have hs1 : (wsf w 53 4 (nI h)).1 63 p = nI z := (wsf_nc rfl).trans hs
      have hx1 : (wsf w 53 4 (nI h)).1 64 (40 * p + i) = x i := (wsf_nc rfl).trans (hx i (by omega))
      have hM1 := MM_g hM h
      have bad : L_Mod_judged_10 k (nI p) (nI g) (nI i) (nI (i + 1)) (wsf w 53 4 (nI h)) = some (nI i, w) := by
        obtain ⟨k, rfl⟩ : ∃ j, k = j + 1 := ⟨k - 1, by omega⟩
        show F_Mod_judged_10 _ _ _ _ _ _ = _
        unfold F_Mod_judged_10 F_Mod_judged_83
        simp (disch := omega) only [hs1, nI_clamp, am_ckI, ile_t, ile_f, ilt_t, ilt_f, ieq_t, ieq_f, iz_t, iz_f, ilz_f, nI_add, bn_V, am_ltV, am_ckV, cond_V1, cond_V0, bi_ite, ck_bi, ite_T, ite_F, wsf_wsf, wsf_e hM.2.1]
        rw [if_neg (m1_ne (by omega)), ite_self]
      show F_Mod_judged_10 _ _ _ _ _ _ = _
      unfold F_Mod_judged_10 F_Mod_judged_74 F_Mod_judged_77
      simp (disch := omega) only [hs1, nI_clamp, am_ckI, ile_t, ile_f, ilt_t, ilt_f, ieq_t, ieq_f, iz_t, iz_f, ilz_f, nI_add, bn_V, am_ltV, am_ckV, cond_V1, cond_V0, bi_ite, ck_bi, ite_T, ite_F, pk_mul, hx1, D_isThing hV hM1, jd]
      cases h1 : am_in (x i) n with
      | false => exact bad
      | true =>
        obtain ⟨t, ht, e⟩ := in_ex h1 (by omega)
        rw [e]
        simp (disch := omega) only [cond_true, D_canGo hV hM1 ht, hM1.2.1, Bool.true_and, s_one, nx_or, bn_V, am_ltV, am_ckV, cond_V1, cond_V0, bi_ite, ck_bi, ite_T, ite_F, nI_clamp, wsf_wsf]
        cases cg m v h s t with
        | false => exact bad
        | true => exact ih (i + 1) k _ (by omega) (by omega)
  have h9 := key z 0 am_NF g (by omega) (by show z + 1 < 4000; omega)
  rw [wsf_e hM.2.1] at h9
  exact h9
end
/-- a sheet that is there, and how both see it -/
theorem sh_there {w : am_W} {p : Nat} (hp : p < 4) (hS : SS w) : (w.1 (45 + 2 * p) 0 = -nI 1 ∧ w.1 62 p = -nI 1) ∨ ∃ so z, so < 3 ∧ z ≤ 40 ∧ w.1 (45 + 2 * p) 0 = nI so ∧ w.1 62 p = nI so ∧ w.1 63 p = nI z ∧ w.1 (45 + 2 * p) 1 = nI z ∧ ∀ i, i < 40 → w.1 (46 + 2 * p) i = w.1 64 (40 * p + i) := by
  obtain ⟨s1, s2, ⟨z, hz, s3, s4⟩, s5⟩ := hS p hp
  rcases s2 with s2 | ⟨so, hso, s2⟩
  · exact Or.inl ⟨s1.trans s2, s2⟩
  · exact Or.inr ⟨so, z, hso, hz, s1.trans s2, s2, s3, s4, s5⟩
theorem B_judge (a : Int32) : BOTH (F_Loc_judge a) (F_Mod_judge a) := BOTH_0 (fun {n m g s T f v te tc w} hq => by
  obtain ⟨hV, hg, hs, hC, hM, hT, hX, hS, hP, hI, hA⟩ := id hq
  cases ha : am_in a 4 with
  | false =>
    refine ⟨-nI 2, ?_, ?_⟩
    · unfold F_Loc_judge F_Loc_judge_24
      rw [S_ref0 ha]; rfl
    · unfold F_Mod_judge F_Mod_judge_19
      rw [D_ref0 ha]; rfl
  | true =>
    obtain ⟨p, hp, rfl⟩ := in_ex ha (by omega)
    rcases sh_there hp hS with ⟨s1, s2⟩ | ⟨so, z, hso, hz, s1, s2, s3, s4, s5⟩
    · refine ⟨-nI 11, ?_, ?_⟩
      · unfold F_Loc_judge F_Loc_judge_24
        rw [S_ref1 hp s1]; rfl
      · unfold F_Mod_judge F_Mod_judge_19
        rw [D_ref1 hp s2]; rfl
    · refine ⟨jd n m v s (fun i => w.1 64 (40 * p + i)) z 0 g, ?_, ?_⟩
      · unfold F_Loc_judge F_Loc_judge_24
        rw [S_ref1 hp s1, if_neg (m1_ne (by omega))]
        simp (disch := omega) only [nI_clamp, am_ckI, ile_t, ile_f, ilt_t, ilt_f, ieq_t, ieq_f, iz_t, iz_f, ilz_f, nI_add, bn_V, am_ltV, am_ckV, cond_V1, cond_V0, bi_ite, ck_bi, ite_T, ite_F, S_first hV hC hz s4 (x := fun i => w.1 64 (40 * p + i)) (fun i hi => s5 i (by omega))]
      · unfold F_Mod_judge F_Mod_judge_19
        rw [D_ref1 hp s2, if_neg (m1_ne (by omega))]
        simp (disch := omega) only [nI_clamp, am_ckI, ile_t, ile_f, ilt_t, ilt_f, ieq_t, ieq_f, iz_t, iz_f, ilz_f, nI_add, bn_V, am_ltV, am_ckV, cond_V1, cond_V0, bi_ite, ck_bi, ite_T, ite_F, D_judged hV hM hp hz s3 (x := fun i => w.1 64 (40 * p + i)) (fun i _ => rfl)])
theorem wsf_cm {w : am_W} {c d i j : Nat} {x y : Int32} (h : ¬ c = d) : wsf (wsf w c i x) d j y = wsf (wsf w d j y) c i x := by
  unfold wsf
  dsimp only
  rw [mf_n (nbf (fun q => h q.symm)), mf_n (nbf h), mf_comm h]
theorem vset_e {v : am_V} {a i x : Nat} (h : v a i = x) : vset v a i x = v := funext fun b => funext fun j => by
  unfold vset
  cases h1 : Nat.beq b a && Nat.beq j i with
  | false => rfl
  | true =>
    rw [Bool.and_eq_true] at h1
    rw [Nat.eq_of_beq_eq_true h1.1, Nat.eq_of_beq_eq_true h1.2, h]; rfl
theorem vset_vset {v : am_V} {a i x y : Nat} : vset (vset v a i x) a i y = vset v a i y := funext fun b => funext fun j => by
  unfold vset
  cases Nat.beq b a && Nat.beq j i <;> rfl
section
variable {n m g s : Nat} {v : am_V} {w : am_W} {x : Nat → Int32}
/-- whose a lock could be (a 4), of which sort it could be (a 5), which kind a thing could have (a 1), by what is told -/
def wh (n m : Nat) (v : am_V) (s g z : Nat) (x : Nat → Int32) (a l y : Nat) : Bool := decide (jd n m (vset v a l y) s x z 0 g = -nI 1)
theorem S_owners (hV : VI n m v) (hC : CC n m g s v w) {p z l : Nat} (hp : p < 4) (hl : l < m) (hz : z ≤ 40) (hs : w.1 (45 + 2 * p) 1 = nI z) (hx : ∀ i, i < z → w.1 (46 + 2 * p) i = x i) : F_Loc_ownersBy p (nI l) w = some (mk (wh n m v s g z x 4 l) n, w) := by
  have hn := hV.1
  have hm := hV.2.1
  unfold F_Loc_ownersBy
  simp (disch := omega) only [nI_clamp, am_ckI, ile_t, ile_f, ilt_t, ilt_f, ieq_t, ieq_f, iz_t, iz_f, ilz_f, nI_add, bn_V, am_ltV, am_ckV, cond_V1, cond_V0, bi_ite, ck_bi, ite_T, ite_F]
  have key : ∀ (d i k : Nat) (y : Int32), i + d = n → d < k → L_Loc_ownersBy_16 k p (nI l) (w.1 5 l) (mk (wh n m v s g z x 4 l) i) (nI i) (wsf w 5 l y) = some (mk (wh n m v s g z x 4 l) n, w) := by
    intro d
    induction d with
    | zero =>
      intro i k y hi hk
      obtain ⟨k, rfl⟩ : ∃ j, k = j + 1 := ⟨k - 1, by omega⟩
      have h1 : (wsf w 5 l y).1 1 0 = nI n := hC.1
      show F_Loc_ownersBy_16 _ _ _ _ _ _ _ = _
      unfold F_Loc_ownersBy_16
      simp (disch := omega) only [h1, nI_clamp, am_ckI, ile_t, ile_f, ilt_t, ilt_f, ieq_t, ieq_f, iz_t, iz_f, ilz_f, nI_add, bn_V, am_ltV, am_ckV, cond_V1, cond_V0, bi_ite, ck_bi, ite_T, ite_F, wst_f, wsf_wsf]
      rw [show i = n from hi, wsf_e rfl]
    | succ d ih =>
      intro i k y hi hk
      obtain ⟨k, rfl⟩ : ∃ j, k = j + 1 := ⟨k - 1, by omega⟩
      have h1 : (wsf w 5 l y).1 1 0 = nI n := hC.1
      have hC2 : CC n m g s (vset v 4 l i) (wsf w 5 l (nI i)) := CC_own hC
      have hV2 : VI n m (vset v 4 l i) := VI_re hV (Or.inl ⟨rfl, by omega⟩)
      have hs2 : (wsf w 5 l (nI i)).1 (45 + 2 * p) 1 = nI z := (wsf_nc (nbf (by omega))).trans hs
      have hx2 : ∀ u, u < z → (wsf w 5 l (nI i)).1 (46 + 2 * p) u = x u := fun u hu => (wsf_nc (nbf (by omega))).trans (hx u hu)
      show F_Loc_ownersBy_16 _ _ _ _ _ _ _ = _
      unfold F_Loc_ownersBy_16 F_Loc_ownersBy_56
      simp (disch := omega) only [h1, nI_clamp, am_ckI, ile_t, ile_f, ilt_t, ilt_f, ieq_t, ieq_f, iz_t, iz_f, ilz_f, nI_add, bn_V, am_ltV, am_ckV, cond_V1, cond_V0, bi_ite, ck_bi, ite_T, ite_F, wst_f, wsf_wsf, S_first hV2 hC2 hz hs2 hx2, hj_le (jd_j z 0 g (by omega))]
      by_cases h2 : jd n m (vset v 4 l i) s x z 0 g = -nI 1
      · rw [if_pos h2, ← mk_s (p := wh n m v s g z x 4 l) (by unfold wh; rw [decide_eq_true h2]) (by omega)]
        exact ih (i + 1) k _ (by omega) (by omega)
      · rw [if_neg h2, ← mk_n (p := wh n m v s g z x 4 l) (by unfold wh; rw [decide_eq_false h2])]
        exact ih (i + 1) k _ (by omega) (by omega)
  have h9 := key n 0 am_NF (w.1 5 l) (by omega) (by show n < 4000; omega)
  rw [wsf_e rfl] at h9
  exact h9
theorem S_sorts (hV : VI n m v) (hC : CC n m g s v w) {p z l : Nat} (hp : p < 4) (hl : l < m) (hz : z ≤ 40) (hs : w.1 (45 + 2 * p) 1 = nI z) (hx : ∀ i, i < z → w.1 (46 + 2 * p) i = x i) : F_Loc_sortsBy p (nI l) w = some (mk (wh n m v s g z x 5 l) 3, w) := by
  have hn := hV.1
  have hm := hV.2.1
  have h6 := (hC.2.2.2.2.2.2 l hl).2.1
  have h8 := (hC.2.2.2.2.2.2 l hl).2.2.2
  unfold F_Loc_sortsBy
  simp (disch := omega) only [nI_clamp, am_ckI, ile_t, ile_f, ilt_t, ilt_f, ieq_t, ieq_f, iz_t, iz_f, ilz_f, nI_add, bn_V, am_ltV, am_ckV, cond_V1, cond_V0, bi_ite, ck_bi, ite_T, ite_F, h6]
  have key : ∀ (d i k y : Nat) (q : Int32), i + d = 3 → d < k → y < 3 → CC n m g s (vset v 5 l y) (wsf (wsf w 6 l (nI y)) 8 l q) → L_Loc_sortsBy_16 k p (nI l) (nI (v 5 l)) (mk (wh n m v s g z x 5 l) i) (nI i) (wsf (wsf w 6 l (nI y)) 8 l q) = some (mk (wh n m v s g z x 5 l) 3, w) := by
    intro d
    induction d with
    | zero =>
      intro i k y q hi hk hy hCy
      obtain ⟨k, rfl⟩ : ∃ j, k = j + 1 := ⟨k - 1, by omega⟩
      have hVy : VI n m (vset v 5 l y) := VI_re hV (Or.inr (Or.inl ⟨rfl, hy⟩))
      obtain ⟨e1, _⟩ := S_putSort hVy hCy hl (hV.2.2.2 l hl).2.1
      show F_Loc_sortsBy_16 _ _ _ _ _ _ _ = _
      unfold F_Loc_sortsBy_16
      simp (disch := omega) only [nI_clamp, am_ckI, ile_t, ile_f, ilt_t, ilt_f, ieq_t, ieq_f, iz_t, iz_f, ilz_f, nI_add, bn_V, am_ltV, am_ckV, cond_V1, cond_V0, bi_ite, ck_bi, ite_T, ite_F, e1]
      rw [show i = 3 from hi, vset_vset, vset_e rfl, wsf_cm (c := 8) (d := 6) (by omega), wsf_wsf, wsf_wsf, wsf_e h6, wsf_e h8]
    | succ d ih =>
      intro i k y q hi hk hy hCy
      obtain ⟨k, rfl⟩ : ∃ j, k = j + 1 := ⟨k - 1, by omega⟩
      have hVy : VI n m (vset v 5 l y) := VI_re hV (Or.inr (Or.inl ⟨rfl, hy⟩))
      have hi3 : i < 3 := by omega
      obtain ⟨e1, hC1⟩ := S_putSort hVy hCy hl hi3
      rw [vset_vset, wsf_cm (c := 8) (d := 6) (by omega), wsf_wsf, wsf_wsf] at e1 hC1
      have hV2 : VI n m (vset v 5 l i) := VI_re hV (Or.inr (Or.inl ⟨rfl, hi3⟩))
      have hs2 : (wsf (wsf w 6 l (nI i)) 8 l (mk (gr (vset v 5 l i) l) n)).1 (45 + 2 * p) 1 = nI z := (wsf_nc (nbf (by omega))).trans ((wsf_nc (nbf (by omega))).trans hs)
      have hx2 : ∀ u, u < z → (wsf (wsf w 6 l (nI i)) 8 l (mk (gr (vset v 5 l i) l) n)).1 (46 + 2 * p) u = x u := fun u hu => (wsf_nc (nbf (by omega))).trans ((wsf_nc (nbf (by omega))).trans (hx u hu))
      show F_Loc_sortsBy_16 _ _ _ _ _ _ _ = _
      unfold F_Loc_sortsBy_16 F_Loc_sortsBy_49
      simp (disch := omega) only [nI_clamp, am_ckI, ile_t, ile_f, ilt_t, ilt_f, ieq_t, ieq_f, iz_t, iz_f, ilz_f, nI_add, bn_V, am_ltV, am_ckV, cond_V1, cond_V0, bi_ite, ck_bi, ite_T, ite_F, e1, S_first hV2 hC1 hz hs2 hx2, hj_le (jd_j z 0 g (by omega))]
      by_cases h2 : jd n m (vset v 5 l i) s x z 0 g = -nI 1
      · rw [if_pos h2, ← mk_s (p := wh n m v s g z x 5 l) (by unfold wh; rw [decide_eq_true h2]) (by omega)]
        exact ih (i + 1) k _ _ (by omega) (by omega) hi3 hC1
      · rw [if_neg h2, ← mk_n (p := wh n m v s g z x 5 l) (by unfold wh; rw [decide_eq_false h2])]
        exact ih (i + 1) k _ _ (by omega) (by omega) hi3 hC1
  have hE : wsf (wsf w 6 l (nI (v 5 l))) 8 l (mk (gr v l) n) = w := by rw [wsf_e h6, wsf_e h8]
  have h9 := key 3 0 am_NF (v 5 l) (mk (gr v l) n) (by omega) (by show 3 < 4000; omega) (hV.2.2.2 l hl).2.1 (by rw [vset_e rfl, hE]; exact hC)
  rw [hE] at h9
  exact h9
theorem D_whose (hV : VI n m v) (hM : MM n m g s v w) {p z l b N : Nat} (hp : p < 4) (hl : l < m) (hb : b < 2) (hN : (b = 0 ∧ N = n) ∨ (b = 1 ∧ N = 3)) (hz : z ≤ 40) (hs : w.1 63 p = nI z) (hx : ∀ i, i < z → w.1 64 (40 * p + i) = x i) : L_Mod_whose_56 am_NF (nI p) (nI l) (nI b) (w.1 57 (3 * l + b)) (nI 0) (nI 0) w = some (mk (wh n m v s g z x (4 + b) l) N, w) := by
  have hn := hV.1
  have hm := hV.2.1
  have key : ∀ (d i k : Nat) (y : Int32), i + d = N → d < k → L_Mod_whose_56 k (nI p) (nI l) (nI b) (w.1 57 (3 * l + b)) (mk (wh n m v s g z x (4 + b) l) i) (nI i) (wsf w 57 (3 * l + b) y) = some (mk (wh n m v s g z x (4 + b) l) N, w) := by
    intro d
    induction d with
    | zero =>
      intro i k y hi hk
      obtain ⟨k, rfl⟩ : ∃ j, k = j + 1 := ⟨k - 1, by omega⟩
      have h1 : (wsf w 57 (3 * l + b) y).1 53 0 = nI n := (wsf_nc rfl).trans hM.1
      have t : F_Mod_whose_70 (L_Mod_whose_56 k) (nI p) (nI l) (nI b) (w.1 57 (3 * l + b)) (mk (wh n m v s g z x (4 + b) l) i) (nI i) (nI N) (nI i) (wsf w 57 (3 * l + b) y) = some (mk (wh n m v s g z x (4 + b) l) N, w) := by
        unfold F_Mod_whose_70
        simp (disch := omega) only [nI_clamp, am_ckI, ile_t, ile_f, ilt_t, ilt_f, ieq_t, ieq_f, iz_t, iz_f, ilz_f, nI_add, bn_V, am_ltV, am_ckV, cond_V1, cond_V0, bi_ite, ck_bi, ite_T, ite_F, pk_mul, wst_f, wsf_wsf]
        rw [show i = N from hi, wsf_e rfl]
      show F_Mod_whose_56 _ _ _ _ _ _ _ _ = _
      unfold F_Mod_whose_56
      rcases hN with ⟨rfl, rfl⟩ | ⟨rfl, rfl⟩
      · rw [iz_t rfl, h1]; exact t
      · rw [iz_f (by omega) (by omega)]; exact t
    | succ d ih =>
      intro i k y hi hk
      obtain ⟨k, rfl⟩ : ∃ j, k = j + 1 := ⟨k - 1, by omega⟩
      have h1 : (wsf w 57 (3 * l + b) y).1 53 0 = nI n := (wsf_nc rfl).trans hM.1
      have hM2 : MM n m g s (vset v (4 + b) l i) (wsf w 57 (3 * l + b) (nI i)) := by
        have := MM_re hM (a := 4 + b) (l := l) (x := i) (by omega)
        rwa [show 4 + b - 4 = b from by omega] at this
      have hV2 : VI n m (vset v (4 + b) l i) := VI_re hV (by
        rcases hN with ⟨rfl, rfl⟩ | ⟨rfl, rfl⟩
        · exact Or.inl ⟨rfl, by omega⟩
        · exact Or.inr (Or.inl ⟨rfl, by omega⟩))
      have hs2 : (wsf w 57 (3 * l + b) (nI i)).1 63 p = nI z := (wsf_nc rfl).trans hs
      have hx2 : ∀ u, u < z → (wsf w 57 (3 * l + b) (nI i)).1 64 (40 * p + u) = x u := fun u hu => (wsf_nc rfl).trans (hx u hu)
      have t : F_Mod_whose_70 (L_Mod_whose_56 k) (nI p) (nI l) (nI b) (w.1 57 (3 * l + b)) (mk (wh n m v s g z x (4 + b) l) i) (nI i) (nI N) (nI i) (wsf w 57 (3 * l + b) y) = some (mk (wh n m v s g z x (4 + b) l) N, w) := by
        have hN8 : N ≤ 8 := by omega
        unfold F_Mod_whose_70 F_Mod_whose_104
        simp (disch := omega) only [nI_clamp, am_ckI, ile_t, ile_f, ilt_t, ilt_f, ieq_t, ieq_f, iz_t, iz_f, ilz_f, nI_add, bn_V, am_ltV, am_ckV, cond_V1, cond_V0, bi_ite, ck_bi, ite_T, ite_F, pk_mul, wst_f, wsf_wsf, D_judged hV2 hM2 hp hz hs2 hx2]
        by_cases h2 : jd n m (vset v (4 + b) l i) s x z 0 g = -nI 1
        · rw [if_pos h2, ← mk_s (p := wh n m v s g z x (4 + b) l) (by unfold wh; rw [decide_eq_true h2]) (by omega)]
          exact ih (i + 1) k _ (by omega) (by omega)
        · rw [if_neg h2, ← mk_n0 (p := wh n m v s g z x (4 + b) l) (by unfold wh; rw [decide_eq_false h2])]
          exact ih (i + 1) k _ (by omega) (by omega)
      show F_Mod_whose_56 _ _ _ _ _ _ _ _ = _
      unfold F_Mod_whose_56
      rcases hN with ⟨rfl, rfl⟩ | ⟨rfl, rfl⟩
      · rw [iz_t rfl, h1]; exact t
      · rw [iz_f (by omega) (by omega)]; exact t
  have h9 := key N 0 am_NF (w.1 57 (3 * l + b)) (by omega) (by show N < 4000; omega)
  rw [wsf_e rfl] at h9
  exact h9
end
theorem B_whose (a b c : Int32) : BOTH (F_Loc_whose a b c) (F_Mod_whose a b c) := BOTH_0 (fun {n m g s T f v te tc w} hq => by
  obtain ⟨hV, hg, hs, hC, hM, hT, hX, hS, hP, hI, hA⟩ := id hq
  have hn := hV.1
  have hm := hV.2.1
  cases ha : am_in a 4 with
  | false =>
    refine ⟨-nI 2, ?_, ?_⟩
    · unfold F_Loc_whose
      rw [S_ref0 ha]; rfl
    · unfold F_Mod_whose
      rw [D_ref0 ha]; rfl
  | true =>
    obtain ⟨p, hp, rfl⟩ := in_ex ha (by omega)
    rcases sh_there hp hS with ⟨s1, s2⟩ | ⟨so, z, hso, hz, s1, s2, s3, s4, s5⟩
    · refine ⟨-nI 11, ?_, ?_⟩
      · unfold F_Loc_whose
        rw [S_ref1 hp s1]; rfl
      · unfold F_Mod_whose
        rw [D_ref1 hp s2]; rfl
    · unfold F_Loc_whose F_Mod_whose
      rw [S_ref1 hp s1, D_ref1 hp s2, if_neg (m1_ne (by omega))]
      simp (disch := omega) only [bn_V, am_ltV, am_ckV, cond_V1, cond_V0, bi_ite, ck_bi, ite_T, ite_F, nI_clamp, am_ckI, ile_t, ile_f, ilt_t, ilt_f, ieq_t, ieq_f, iz_t, iz_f, ilz_f, nI_add, S_isLock hV hC, D_isLock hV hM, S_isEither]
      cases hb : am_in b m with
      | false => exact ⟨_, rfl, rfl⟩
      | true =>
        obtain ⟨l, hl, rfl⟩ := in_ex hb (by omega)
        rw [D_in0 (k := 1) (by omega), bn_s, bi_ite]
        cases hc : am_in c 2 with
        | false => exact ⟨_, rfl, rfl⟩
        | true =>
          obtain ⟨y, hy, rfl⟩ := in_ex hc (by omega)
          have hx1 : ∀ i, i < z → w.1 (46 + 2 * p) i = (fun i => w.1 64 (40 * p + i)) i := fun i hi => s5 i (by omega)
          match y, hy with
          | 0, _ =>
            refine ⟨mk (wh n m v s g z (fun i => w.1 64 (40 * p + i)) 4 l) n, ?_, ?_⟩
            · simp (disch := omega) only [bn_V, am_ltV, am_ckV, cond_V1, cond_V0, bi_ite, ck_bi, ite_T, ite_F, nI_clamp, am_ckI, ile_t, ile_f, ilt_t, ilt_f, ieq_t, ieq_f, iz_t, iz_f, ilz_f, nI_add, S_owners hV hC hp hl hz s4 hx1, F_Loc_whose_68]
            · simp (disch := omega) only [bn_V, am_ltV, am_ckV, cond_V1, cond_V0, bi_ite, ck_bi, ite_T, ite_F, nI_clamp, am_ckI, ile_t, ile_f, ilt_t, ilt_f, ieq_t, ieq_f, iz_t, iz_f, ilz_f, nI_add, pk_mul]
              exact D_whose hV hM hp hl (by omega) (Or.inl ⟨rfl, rfl⟩) hz s3 (fun i _ => rfl)
          | 1, _ =>
            refine ⟨mk (wh n m v s g z (fun i => w.1 64 (40 * p + i)) 5 l) 3, ?_, ?_⟩
            · simp (disch := omega) only [bn_V, am_ltV, am_ckV, cond_V1, cond_V0, bi_ite, ck_bi, ite_T, ite_F, nI_clamp, am_ckI, ile_t, ile_f, ilt_t, ilt_f, ieq_t, ieq_f, iz_t, iz_f, ilz_f, nI_add, S_sorts hV hC hp hl hz s4 hx1, F_Loc_whose_68]
            · simp (disch := omega) only [bn_V, am_ltV, am_ckV, cond_V1, cond_V0, bi_ite, ck_bi, ite_T, ite_F, nI_clamp, am_ckI, ile_t, ile_f, ilt_t, ilt_f, ieq_t, ieq_f, iz_t, iz_f, ilz_f, nI_add, pk_mul]
              exact D_whose hV hM hp hl (by omega) (Or.inr ⟨rfl, rfl⟩) hz s3 (fun i _ => rfl))
/-! kinds -/
section
variable {n m g s : Nat} {v : am_V} {w : am_W} {x : Nat → Int32}
theorem VI_kind (hV : VI n m v) {t y : Nat} (hy : y < 6) : VI n m (vset v 1 t y) := ⟨hV.1, hV.2.1, fun u hu => ⟨by
  by_cases h : u = t
  · rw [h, vset_at]; exact hy
  · rw [vset_ne h]; exact (hV.2.2.1 u hu).1, (hV.2.2.1 u hu).2.1, (hV.2.2.1 u hu).2.2⟩, hV.2.2.2⟩
theorem MM_kind (hM : MM n m g s v w) {t y : Nat} : MM n m g s (vset v 1 t y) (wsf w 54 t (nI y)) := ⟨hM.1, hM.2.1, hM.2.2.1, hM.2.2.2.1, fun u hu => ⟨by
  by_cases h : u = t
  · rw [h, vset_at, wsf_at]
  · rw [vset_ne h, wsf_ne h]; exact (hM.2.2.2.2.1 u hu).1, (hM.2.2.2.2.1 u hu).2.1, (hM.2.2.2.2.1 u hu).2.2⟩, hM.2.2.2.2.2⟩
theorem S_putK (hV : VI n m v) {t y q : Nat} {w1 : am_W} (ht : t < n) (hq : q < 6) (hC : CC n m g s (vset v 1 t y) w1) : ∃ w2, F_Rail_putKind (nI t) (nI q) w1 = some w2 ∧ (∀ c, ¬ c = 1 → ¬ c = 2 → ¬ c = 8 → w2.1 c = w1.1 c) ∧ CC n m g s (vset v 1 t q) w2 := by
  have hn := hV.1
  have hm := hV.2.1
  have hVq := VI_kind hV (t := t) hq
  obtain ⟨w2, e, h1, h2, h3, h4, h5⟩ := S_putKind (v := vset v 1 t q) (w := w1) hn hm ht hq (vset_at _ _ _ _) hC.1 hC.2.2.1 (fun u hu => ⟨fun hne => by
    rw [vset_ne hne]
    have := (hC.2.2.2.2.2.1 u hu).1
    rwa [vset_ne hne] at this, (hC.2.2.2.2.2.1 u hu).2.1, (hVq.2.2.1 u hu).1, (hVq.2.2.1 u hu).2.1⟩) (fun l hl => ⟨(hC.2.2.2.2.2.2 l hl).2.2.1, (hC.2.2.2.2.2.2 l hl).2.1, (hV.2.2.2 l hl).2.1⟩) (fun i hi hne => by
    rw [hC.2.2.2.2.1, mk_b _ _ (by omega) hi]
    unfold evr
    rw [vset_ne hne, vset_ne hne])
  refine ⟨w2, e, h1, (h2 0 (by omega)).trans hC.1, (h2 1 (by omega)).trans hC.2.1, (h2 2 (by omega)).trans hC.2.2.1, (h2 3 (by omega)).trans hC.2.2.2.1, h3, fun u hu => ⟨h4 u hu, ?_, ?_⟩, fun l hl => ⟨?_, ?_, ?_, h5 l hl⟩⟩
  · rw [h1 3 (by omega) (by omega) (by omega)]; exact (hC.2.2.2.2.2.1 u hu).2.1
  · rw [h1 4 (by omega) (by omega) (by omega)]; exact (hC.2.2.2.2.2.1 u hu).2.2
  · rw [h1 5 (by omega) (by omega) (by omega)]; exact (hC.2.2.2.2.2.2 l hl).1
  · rw [h1 6 (by omega) (by omega) (by omega)]; exact (hC.2.2.2.2.2.2 l hl).2.1
  · rw [h1 7 (by omega) (by omega) (by omega)]; exact (hC.2.2.2.2.2.2 l hl).2.2.1
theorem S_kinds (hV : VI n m v) (hC : CC n m g s v w) {p z t : Nat} (hp : p < 4) (ht : t < n) (hz : z ≤ 40) (hs : w.1 (45 + 2 * p) 1 = nI z) (hx : ∀ i, i < z → w.1 (46 + 2 * p) i = x i) : ∃ w2, L_Loc_kinds_43 am_NF (nI p) (nI t) (nI (v 1 t)) (nI 0) (nI 0) w = some (mk (wh n m v s g z x 1 t) 6, w2) ∧ (∀ c, ¬ c = 1 → ¬ c = 2 → ¬ c = 8 → w2.1 c = w.1 c) ∧ CC n m g s v w2 := by
  have hn := hV.1
  have key : ∀ (d i k y : Nat) (w1 : am_W), i + d = 6 → d < k → (∀ c, ¬ c = 1 → ¬ c = 2 → ¬ c = 8 → w1.1 c = w.1 c) → CC n m g s (vset v 1 t y) w1 → ∃ w2, L_Loc_kinds_43 k (nI p) (nI t) (nI (v 1 t)) (mk (wh n m v s g z x 1 t) i) (nI i) w1 = some (mk (wh n m v s g z x 1 t) 6, w2) ∧ (∀ c, ¬ c = 1 → ¬ c = 2 → ¬ c = 8 → w2.1 c = w.1 c) ∧ CC n m g s v w2 := by
    intro d
    induction d with
    | zero =>
      intro i k y w1 hi hk h1 hC1
      obtain ⟨k, rfl⟩ : ∃ j, k = j + 1 := ⟨k - 1, by omega⟩
      obtain ⟨w2, e2, k2, hC2⟩ := S_putK hV ht (hV.2.2.1 t ht).1 hC1
      refine ⟨w2, ?_, fun c c1 c2 c3 => (k2 c c1 c2 c3).trans (h1 c c1 c2 c3), by rwa [vset_e rfl] at hC2⟩
      show F_Loc_kinds_43 _ _ _ _ _ _ _ = _
      unfold F_Loc_kinds_43
      simp (disch := omega) only [nI_clamp, am_ckI, ile_t, ile_f, ilt_t, ilt_f, ieq_t, ieq_f, iz_t, iz_f, ilz_f, nI_add, bn_V, am_ltV, am_ckV, cond_V1, cond_V0, bi_ite, ck_bi, ite_T, ite_F, e2]
      rw [show i = 6 from hi]
    | succ d ih =>
      intro i k y w1 hi hk h1 hC1
      obtain ⟨k, rfl⟩ : ∃ j, k = j + 1 := ⟨k - 1, by omega⟩
      have hi6 : i < 6 := by omega
      obtain ⟨w2, e2, k2, hC2⟩ := S_putK hV ht hi6 hC1
      have k3 : ∀ c, ¬ c = 1 → ¬ c = 2 → ¬ c = 8 → w2.1 c = w.1 c := fun c c1 c2 c3 => (k2 c c1 c2 c3).trans (h1 c c1 c2 c3)
      have hs2 : w2.1 (45 + 2 * p) 1 = nI z := by rw [k3 _ (by omega) (by omega) (by omega)]; exact hs
      have hx2 : ∀ u, u < z → w2.1 (46 + 2 * p) u = x u := fun u hu => by rw [k3 _ (by omega) (by omega) (by omega)]; exact hx u hu
      show ∃ w2, F_Loc_kinds_43 _ _ _ _ _ _ _ = _ ∧ _
      unfold F_Loc_kinds_43 F_Loc_kinds_82
      simp (disch := omega) only [nI_clamp, am_ckI, ile_t, ile_f, ilt_t, ilt_f, ieq_t, ieq_f, iz_t, iz_f, ilz_f, nI_add, bn_V, am_ltV, am_ckV, cond_V1, cond_V0, bi_ite, ck_bi, ite_T, ite_F, e2, S_first (VI_kind hV hi6) hC2 hz hs2 hx2, hj_le (jd_j z 0 g (by omega))]
      by_cases h2 : jd n m (vset v 1 t i) s x z 0 g = -nI 1
      · rw [if_pos h2, ← mk_s (p := wh n m v s g z x 1 t) (by unfold wh; rw [decide_eq_true h2]) (by omega)]
        exact ih (i + 1) k _ w2 (by omega) (by omega) k3 hC2
      · rw [if_neg h2, ← mk_n (p := wh n m v s g z x 1 t) (by unfold wh; rw [decide_eq_false h2])]
        exact ih (i + 1) k _ w2 (by omega) (by omega) k3 hC2
  exact key 6 0 am_NF (v 1 t) w (by omega) (by show 6 < 4000; omega) (fun c _ _ _ => rfl) (by rw [vset_e rfl]; exact hC)
theorem D_kinds (hV : VI n m v) (hM : MM n m g s v w) {p z t : Nat} (hp : p < 4) (ht : t < n) (hz : z ≤ 40) (hs : w.1 63 p = nI z) (hx : ∀ i, i < z → w.1 64 (40 * p + i) = x i) : L_Mod_kinds_37 am_NF (nI p) (nI t) (w.1 54 t) (nI 0) (nI 0) w = some (mk (wh n m v s g z x 1 t) 6, w) := by
  have hn := hV.1
  have key : ∀ (d i k : Nat) (y : Int32), i + d = 6 → d < k → L_Mod_kinds_37 k (nI p) (nI t) (w.1 54 t) (mk (wh n m v s g z x 1 t) i) (nI i) (wsf w 54 t y) = some (mk (wh n m v s g z x 1 t) 6, w) := by
    intro d
    induction d with
    | zero =>
      intro i k y hi hk
      obtain ⟨k, rfl⟩ : ∃ j, k = j + 1 := ⟨k - 1, by omega⟩
      show F_Mod_kinds_37 _ _ _ _ _ _ _ = _
      unfold F_Mod_kinds_37
      simp (disch := omega) only [nI_clamp, am_ckI, ile_t, ile_f, ilt_t, ilt_f, ieq_t, ieq_f, iz_t, iz_f, ilz_f, nI_add, bn_V, am_ltV, am_ckV, cond_V1, cond_V0, bi_ite, ck_bi, ite_T, ite_F, wst_f, wsf_wsf]
      rw [show i = 6 from hi, wsf_e rfl]
    | succ d ih =>
      intro i k y hi hk
      obtain ⟨k, rfl⟩ : ∃ j, k = j + 1 := ⟨k - 1, by omega⟩
      have hi6 : i < 6 := by omega
      have hs2 : (wsf w 54 t (nI i)).1 63 p = nI z := (wsf_nc rfl).trans hs
      have hx2 : ∀ u, u < z → (wsf w 54 t (nI i)).1 64 (40 * p + u) = x u := fun u hu => (wsf_nc rfl).trans (hx u hu)
      show F_Mod_kinds_37 _ _ _ _ _ _ _ = _
      unfold F_Mod_kinds_37 F_Mod_kinds_71
      simp (disch := omega) only [nI_clamp, am_ckI, ile_t, ile_f, ilt_t, ilt_f, ieq_t, ieq_f, iz_t, iz_f, ilz_f, nI_add, bn_V, am_ltV, am_ckV, cond_V1, cond_V0, bi_ite, ck_bi, ite_T, ite_F, wst_f, wsf_wsf, D_judged (VI_kind hV hi6) (MM_kind hM) hp hz hs2 hx2]
      by_cases h2 : jd n m (vset v 1 t i) s x z 0 g = -nI 1
      · rw [if_pos h2, ← mk_s (p := wh n m v s g z x 1 t) (by unfold wh; rw [decide_eq_true h2]) (by omega)]
        exact ih (i + 1) k _ (by omega) (by omega)
      · rw [if_neg h2, ← mk_n0 (p := wh n m v s g z x 1 t) (by unfold wh; rw [decide_eq_false h2])]
        exact ih (i + 1) k _ (by omega) (by omega)
  have h9 := key 6 0 am_NF (w.1 54 t) (by omega) (by show 6 < 4000; omega)
  rw [wsf_e rfl] at h9
  exact h9
end
theorem B_kinds (a b : Int32) : BOTH (F_Loc_kinds a b) (F_Mod_kinds a b) := fun w ⟨n, m, g, s, T, f, v, te, tc, hq⟩ => by
  have same : ∀ r, F_Loc_kinds a b w = some (r, w) → F_Mod_kinds a b w = some (r, w) → ∃ (r : Int32) (w1 w2 : am_W), F_Loc_kinds a b w = some (r, w1) ∧ F_Mod_kinds a b w1 = some (r, w2) ∧ RR w2 := fun r h1 h2 => ⟨r, w, w, h1, h2, n, m, g, s, T, f, v, te, tc, hq⟩
  obtain ⟨hV, hg, hs, hC, hM, hT, hX, hS, hP, hI, hA⟩ := id hq
  have hn := hV.1
  cases ha : am_in a 4 with
  | false =>
    refine same (-nI 2) ?_ ?_
    · unfold F_Loc_kinds
      rw [S_ref0 ha]; rfl
    · unfold F_Mod_kinds
      rw [D_ref0 ha]; rfl
  | true =>
    obtain ⟨p, hp, rfl⟩ := in_ex ha (by omega)
    rcases sh_there hp hS with ⟨s1, s2⟩ | ⟨so, z, hso, hz, s1, s2, s3, s4, s5⟩
    · refine same (-nI 11) ?_ ?_
      · unfold F_Loc_kinds
        rw [S_ref1 hp s1]; rfl
      · unfold F_Mod_kinds
        rw [D_ref1 hp s2]; rfl
    · have hS1 : F_Loc_refusalOf (nI p) w = some (nI 0, w) := by rw [S_ref1 hp s1, if_neg (m1_ne (by omega))]
      cases hb : am_in b n with
      | false =>
        refine same (-nI 5) ?_ ?_
        · unfold F_Loc_kinds
          simp (disch := omega) only [hS1, bn_V, am_ltV, am_ckV, cond_V1, cond_V0, bi_ite, ck_bi, ite_T, ite_F, nI_clamp, am_ckI, ile_t, ile_f, ilt_t, ilt_f, ieq_t, ieq_f, iz_t, iz_f, ilz_f, nI_add, S_isThing hV hC, hb]
        · unfold F_Mod_kinds
          rw [D_ref1 hp s2, if_neg (m1_ne (by omega))]
          simp (disch := omega) only [bn_V, am_ltV, am_ckV, cond_V1, cond_V0, bi_ite, ck_bi, ite_T, ite_F, nI_clamp, am_ckI, ile_t, ile_f, ilt_t, ilt_f, ieq_t, ieq_f, iz_t, iz_f, ilz_f, nI_add, D_isThing hV hM, hb]
      | true =>
        obtain ⟨t, ht, rfl⟩ := in_ex hb (by omega)
        obtain ⟨w2, e2, k2, hC2⟩ := S_kinds hV hC hp ht hz s4 (x := fun i => w.1 64 (40 * p + i)) (fun i hi => s5 i (by omega))
        have hi2 : ∀ c, 9 ≤ c → w2.1 c = w.1 c := fun c hc => k2 c (by omega) (by omega) (by omega)
        have hM2 : MM n m g s v w2 := MM_hi (fun c hc => hi2 c (by omega)) hM
        have t2 : w2.1 62 p = nI so := (congrFun (hi2 62 (by omega)) p).trans s2
        have t3 : w2.1 63 p = nI z := (congrFun (hi2 63 (by omega)) p).trans s3
        have kA : FRA (fun a => Nat.ble a 1) w w2 := fun c j hc => by
          by_cases c1 : c = 1
          · rw [c1] at hc; cases hc
          · by_cases c2 : c = 2
            · rw [c2] at hc; cases hc
            · by_cases c3 : c = 8
              · rw [c3] at hc; cases hc
              · rw [k2 c c1 c2 c3]
        refine ⟨mk (wh n m v s g z (fun i => w.1 64 (40 * p + i)) 1 t) 6, w2, w2, ?_, ?_, n, m, g, s, T, f, v, te, tc, RQ_rl kA hq hV hg hs hC2 hM2 hI⟩
        · unfold F_Loc_kinds
          simp (disch := omega) only [hS1, bn_V, am_ltV, am_ckV, cond_V1, cond_V0, bi_ite, ck_bi, ite_T, ite_F, nI_clamp, am_ckI, ile_t, ile_f, ilt_t, ilt_f, ieq_t, ieq_f, iz_t, iz_f, ilz_f, nI_add, S_isThing hV hC, hb, (hC.2.2.2.2.2.1 t ht).1]
          exact e2
        · unfold F_Mod_kinds
          rw [D_ref1 hp t2, if_neg (m1_ne (by omega))]
          simp (disch := omega) only [bn_V, am_ltV, am_ckV, cond_V1, cond_V0, bi_ite, ck_bi, ite_T, ite_F, nI_clamp, am_ckI, ile_t, ile_f, ilt_t, ilt_f, ieq_t, ieq_f, iz_t, iz_f, ilz_f, nI_add, D_isThing hV hM2, hb]
          exact D_kinds hV hM2 hp ht hz t3 (fun i _ => congrFun (hi2 64 (by omega)) _)
