/-! ===== locksBy ===== -/
/-- what lock does: its answer, the locks then -/
def lkP (n m g : Nat) (v : am_V) (a b c : Int32) : Int32 × Nat × am_V := bif am_in a n && (am_in b 3 && thr n c) then (lkN m g a.toNatClampNeg c.toNatClampNeg, bif lkOK n m g a.toNatClampNeg c.toNatClampNeg then (m + 1, vL v m a.toNatClampNeg b.toNatClampNeg c.toNatClampNeg) else (m, v)) else (-nI 2, m, v)
/-- the locks after a call are some that a rail can have, of things that are as they were -/
def lkQ (n m m2 : Nat) (v v2 : am_V) : Prop := VI n m2 v2 ∧ m ≤ m2 ∧ ∀ t, v2 1 t = v 1 t ∧ v2 2 t = v 2 t
section
variable {n m g s : Nat} {v : am_V} {w : am_W}
theorem lk9 {o so se : Nat} {x : Int32} : ∀ c, (c = 0 ∨ 9 ≤ c) → (addL w m o so se x).1 c = w.1 c := fun c hc => (mf_n (nbf (by omega))).trans ((mf_n (nbf (by omega))).trans ((mf_n (nbf (by omega))).trans ((mf_n (nbf (by omega))).trans (mf_n (nbf (by omega))))))
theorem lk57 {o so se : Nat} : ∀ c, ¬ c = 53 → ¬ c = 57 → (adML w m o so se s).1 c = w.1 c := fun c h1 h2 => (mf_n (nbf h1)).trans ((mf_n (nbf h1)).trans ((mf_n (nbf h2)).trans ((mf_n (nbf h2)).trans (mf_n (nbf h2)))))
theorem S_lockP (hV : VI n m v) (hC : CC n m g s v w) (hg : g < 2 ^ n) (a b c : Int32) : lkQ n m (lkP n m g v a b c).2.1 v (lkP n m g v a b c).2.2 ∧ ∃ w2, F_Loc_lock a b c w = some ((lkP n m g v a b c).1, w2) ∧ CC n (lkP n m g v a b c).2.1 g s (lkP n m g v a b c).2.2 w2 ∧ ∀ c, (c = 0 ∨ 9 ≤ c) → w2.1 c = w.1 c := by
  have hn := hV.1
  have hm := hV.2.1
  have no : F_Loc_lock a b c w = some (-nI 2, w) → lkP n m g v a b c = (-nI 2, m, v) → lkQ n m (lkP n m g v a b c).2.1 v (lkP n m g v a b c).2.2 ∧ ∃ w2, F_Loc_lock a b c w = some ((lkP n m g v a b c).1, w2) ∧ CC n (lkP n m g v a b c).2.1 g s (lkP n m g v a b c).2.2 w2 ∧ ∀ c, (c = 0 ∨ 9 ≤ c) → w2.1 c = w.1 c := fun h1 h2 => by
    rw [h2]
    exact ⟨⟨hV, Nat.le_refl _, fun t => ⟨rfl, rfl⟩⟩, w, h1, hC, fun c _ => rfl⟩
  cases h1 : am_in a n with
  | false =>
    refine no ?_ (by unfold lkP; rw [h1]; rfl)
    unfold F_Loc_lock
    simp only [S_isThing hV hC, h1, bn_V, am_ltV, am_ckV, cond_V1, cond_V0, bi_ite, ck_bi, ite_T, ite_F]
    rfl
  | true =>
    cases h2 : am_in b 3 with
    | false =>
      refine no ?_ (by unfold lkP; rw [h2, Bool.false_and, Bool.and_false]; rfl)
      unfold F_Loc_lock
      simp only [S_isThing hV hC, h1, S_isSort, h2, bn_V, am_ltV, am_ckV, cond_V1, cond_V0, bi_ite, ck_bi, ite_T, ite_F]
      rfl
    | true =>
      cases h3 : thr n c with
      | false =>
        refine no ?_ (by unfold lkP; rw [h3, Bool.and_false, Bool.and_false]; rfl)
        unfold F_Loc_lock
        simp only [S_isThing hV hC, h1, S_isSort, h2, S_isThrough hV hC, h3, bn_V, am_ltV, am_ckV, cond_V1, cond_V0, bi_ite, ck_bi, ite_T, ite_F]
        rfl
      | true =>
        obtain ⟨o, ho, rfl⟩ := in_ex h1 (by omega)
        obtain ⟨so, hso, rfl⟩ := in_ex h2 (by omega)
        obtain ⟨se, hse, rfl, _, hb⟩ := thr_ex hn h3
        have e1 := S_lock hV hC hg ho hso hse h3
        have eP : lkP n m g v (nI o) (nI so) (nI se) = (lkN m g o se, bif lkOK n m g o se then (m + 1, vL v m o so se) else (m, v)) := by
          unfold lkP
          rw [h1, h2, h3, nI_clamp (by omega), nI_clamp (by omega), nI_clamp (by omega)]; rfl
        rw [eP]
        cases hk : lkOK n m g o se with
        | false =>
          rw [hk] at e1
          exact ⟨⟨hV, Nat.le_refl _, fun t => ⟨rfl, rfl⟩⟩, w, e1, hC, fun c _ => rfl⟩
        | true =>
          rw [hk] at e1
          have h10 : ¬ m = 10 := fun q => by
            unfold lkOK at hk
            rw [q, Bool.and_eq_true] at hk
            exact absurd hk.2 (by decide)
          have vi : VI n (m + 1) (vL v m o so se) := VI_L hV (by omega) (fun l hl e => by omega) ho hso hse hb
          exact ⟨⟨vi, Nat.le_succ m, fun t => ⟨rfl, rfl⟩⟩, _, e1, (S_addLock hV hC (by omega) hso).2, lk9⟩
theorem D_lockP (hV : VI n m v) (hM : MM n m g s v w) (hg : g < 2 ^ n) (hs : s < 2 ^ m) (a b c : Int32) : ∃ w2, F_Mod_lock a b c w = some ((lkP n m g v a b c).1, w2) ∧ MM n (lkP n m g v a b c).2.1 g s (lkP n m g v a b c).2.2 w2 ∧ FRA (fun a => Nat.ble a 1) w w2 ∧ ∀ c, ¬ c = 53 → ¬ c = 57 → w2.1 c = w.1 c := by
  have hn := hV.1
  have hm := hV.2.1
  have no : F_Mod_lock a b c w = some (-nI 2, w) → lkP n m g v a b c = (-nI 2, m, v) → ∃ w2, F_Mod_lock a b c w = some ((lkP n m g v a b c).1, w2) ∧ MM n (lkP n m g v a b c).2.1 g s (lkP n m g v a b c).2.2 w2 ∧ FRA (fun a => Nat.ble a 1) w w2 ∧ ∀ c, ¬ c = 53 → ¬ c = 57 → w2.1 c = w.1 c := fun h1 h2 => by
    rw [h2]
    exact ⟨w, h1, hM, FRA_r _ _, fun c _ _ => rfl⟩
  cases h1 : am_in a n with
  | false =>
    refine no ?_ (by unfold lkP; rw [h1]; rfl)
    unfold F_Mod_lock
    simp only [D_isThing hV hM, h1, bn_V, am_ltV, am_ckV, cond_V1, cond_V0, bi_ite, ck_bi, ite_T, ite_F]
    rfl
  | true =>
    cases h2 : am_in b 3 with
    | false =>
      refine no ?_ (by unfold lkP; rw [h2, Bool.false_and, Bool.and_false]; rfl)
      unfold F_Mod_lock
      simp (disch := omega) only [D_isThing hV hM, h1, D_in0 (k := 2), h2, bn_V, am_ltV, am_ckV, cond_V1, cond_V0, bi_ite, ck_bi, ite_T, ite_F]
      rfl
    | true =>
      cases h3 : thr n c with
      | false =>
        refine no ?_ (by unfold lkP; rw [h3, Bool.and_false, Bool.and_false]; rfl)
        unfold F_Mod_lock
        simp (disch := omega) only [D_isThing hV hM, h1, D_in0 (k := 2), h2, D_areSome hV hM, h3, bn_V, am_ltV, am_ckV, cond_V1, cond_V0, bi_ite, ck_bi, ite_T, ite_F]
        rfl
      | true =>
        obtain ⟨o, ho, rfl⟩ := in_ex h1 (by omega)
        obtain ⟨so, hso, rfl⟩ := in_ex h2 (by omega)
        obtain ⟨se, hse, rfl, _, hb⟩ := thr_ex hn h3
        have e1 := D_lock hV hM hg hs ho hso hse h3
        have eP : lkP n m g v (nI o) (nI so) (nI se) = (lkN m g o se, bif lkOK n m g o se then (m + 1, vL v m o so se) else (m, v)) := by
          unfold lkP
          rw [h1, h2, h3, nI_clamp (by omega), nI_clamp (by omega), nI_clamp (by omega)]; rfl
        rw [eP]
        cases hk : lkOK n m g o se with
        | false =>
          rw [hk] at e1
          exact ⟨w, e1, hM, FRA_r _ _, fun c _ _ => rfl⟩
        | true =>
          rw [hk] at e1
          exact ⟨_, e1, MM_L hM, fr_ML, lk57⟩
end
/-- the calls of lock that a sheet tells: the answer, the locks then -/
def lbF (n g z a : Nat) (x : Nat → Int32) : Nat → Nat → Nat → am_V → Nat → Int32 × Nat × am_V
  | 0, _, m, v, k => (nI k, m, v)
  | d + 1, i, m, v, k => bif Nat.ble (a + 3 * i + 3) z then lbF n g z a x d (i + 1) (lkP n m g v (x (a + 3 * i)) (x (a + 3 * i + 1)) (x (a + 3 * i + 2))).2.1 (lkP n m g v (x (a + 3 * i)) (x (a + 3 * i + 1)) (x (a + 3 * i + 2))).2.2 (k + bif decide ((lkP n m g v (x (a + 3 * i)) (x (a + 3 * i + 1)) (x (a + 3 * i + 2))).1 < 0) then 0 else 1) else (-nI 12, m, v)
section
variable {n g s : Nat}
theorem lkQ_t {m m1 m2 : Nat} {v v1 v2 : am_V} (h : lkQ n m m1 v v1) (k : lkQ n m1 m2 v1 v2) : lkQ n m m2 v v2 := ⟨k.1, Nat.le_trans h.2.1 k.2.1, fun t => ⟨(k.2.2 t).1.trans (h.2.2 t).1, (k.2.2 t).2.trans (h.2.2 t).2⟩⟩
theorem S_by (hg : g < 2 ^ n) {p z a K : Nat} {x : Nat → Int32} (hz : z ≤ 40) (ha : a ≤ 40) (hK : K ≤ 10) : ∀ (d i k c m : Nat) (v : am_V) (w : am_W), i + d = K → d < k → VI n m v → CC n m g s v w → w.1 (45 + 2 * p) 1 = nI z → (∀ i, i < 40 → w.1 (46 + 2 * p) i = x i) → lkQ n m (lbF n g z a x d i m v c).2.1 v (lbF n g z a x d i m v c).2.2 ∧ ∃ w2, L_Loc_locksBy_66 k (nI a) (nI K) p (nI c) (nI i) w = some ((lbF n g z a x d i m v c).1, w2) ∧ CC n (lbF n g z a x d i m v c).2.1 g s (lbF n g z a x d i m v c).2.2 w2 ∧ ∀ c, (c = 0 ∨ 9 ≤ c) → w2.1 c = w.1 c := by
  intro d
  induction d with
  | zero =>
    intro i k c m v w hi hk hV hC hs hx
    obtain ⟨k, rfl⟩ : ∃ j, k = j + 1 := ⟨k - 1, by omega⟩
    refine ⟨⟨hV, Nat.le_refl _, fun t => ⟨rfl, rfl⟩⟩, w, ?_, hC, fun c _ => rfl⟩
    show F_Loc_locksBy_66 _ _ _ _ _ _ _ = _
    unfold F_Loc_locksBy_66
    simp (disch := omega) only [nI_clamp, am_ckI, ile_t, ile_f, ilt_t, ilt_f, ieq_t, ieq_f, iz_t, iz_f, ilz_f, nI_add]
    rfl
  | succ d ih =>
    intro i k c m v w hi hk hV hC hs hx
    obtain ⟨k, rfl⟩ : ∃ j, k = j + 1 := ⟨k - 1, by omega⟩
    have hstr : str z (nI (a + 3 * i)) (nI 3) = Nat.ble (a + 3 * i + 3) z := by
      unfold str
      rw [nI_toInt (by omega), nI_toInt (by omega)]
      rw [Bool.eq_iff_iff, decide_eq_true_eq]
      exact ⟨fun q => Nat.ble_eq_true_of_le (by omega), fun q => by have := Nat.le_of_ble_eq_true q; omega⟩
    show _ ∧ ∃ w2, F_Loc_locksBy_66 _ _ _ _ _ _ _ = _ ∧ _
    unfold F_Loc_locksBy_66 F_Loc_locksBy_133
    simp (disch := omega) only [nI_clamp, am_ckI, ile_t, ile_f, ilt_t, ilt_f, ieq_t, ieq_f, iz_t, iz_f, ilz_f, nI_add, pk_mul, S_isStretch hz hs, hstr, bn_V, am_ltV, am_ckV, cond_V1, cond_V0, bi_ite, ck_bi, ite_T, ite_F, lbF]
    cases hb : Nat.ble (a + 3 * i + 3) z with
    | false => exact ⟨⟨hV, Nat.le_refl _, fun t => ⟨rfl, rfl⟩⟩, w, rfl, hC, fun c _ => rfl⟩
    | true =>
      have hb := Nat.le_of_ble_eq_true hb
      simp (disch := omega) only [cond_true, nI_clamp, am_ckI, ile_t, ile_f, ilt_t, ilt_f, ieq_t, ieq_f, iz_t, iz_f, ilz_f, nI_add, bn_V, am_ltV, am_ckV, cond_V1, cond_V0, bi_ite, ck_bi, ite_T, ite_F, hx]
      obtain ⟨q1, w2, e2, hC2, k2⟩ := S_lockP hV hC hg (x (a + 3 * i)) (x (a + 3 * i + 1)) (x (a + 3 * i + 2))
      rw [e2, bn_s]
      dsimp only
      have hs2 : w2.1 (45 + 2 * p) 1 = nI z := by rw [k2 _ (by omega)]; exact hs
      have hx2 : ∀ i, i < 40 → w2.1 (46 + 2 * p) i = x i := fun i hi => by rw [k2 _ (by omega)]; exact hx i hi
      by_cases h3 : (lkP n m g v (x (a + 3 * i)) (x (a + 3 * i + 1)) (x (a + 3 * i + 2))).1 < 0
      · rw [if_pos h3, decide_eq_true h3]
        obtain ⟨q2, w3, e3, hC3, k3⟩ := ih (i + 1) k (c + 0) _ _ w2 (by omega) (by omega) q1.1 hC2 hs2 hx2
        exact ⟨lkQ_t q1 q2, w3, e3, hC3, fun c hc => (k3 c hc).trans (k2 c hc)⟩
      · rw [if_neg h3, decide_eq_false h3]
        obtain ⟨q2, w3, e3, hC3, k3⟩ := ih (i + 1) k (c + 1) _ _ w2 (by omega) (by omega) q1.1 hC2 hs2 hx2
        exact ⟨lkQ_t q1 q2, w3, e3, hC3, fun c hc => (k3 c hc).trans (k2 c hc)⟩
theorem D_by (hg : g < 2 ^ n) {p z a K : Nat} {x : Nat → Int32} (hp : p < 4) (hz : z ≤ 40) (ha : a ≤ 40) (hK : K ≤ 10) : ∀ (d i k c m : Nat) (v : am_V) (w : am_W), i + d = K → d < k → VI n m v → (∀ (m2 : Nat) (v2 : am_V), lkQ n m m2 v v2 → s < 2 ^ m2) → MM n m g s v w → (∃ w0, CC n m g s v w0) → w.1 63 p = nI z → (∀ i, i < 40 → w.1 64 (40 * p + i) = x i) → ∃ w2, L_Mod_locksBy_64 k (nI p) (nI a) (nI K) (nI c) (nI i) w = some ((lbF n g z a x d i m v c).1, w2) ∧ MM n (lbF n g z a x d i m v c).2.1 g s (lbF n g z a x d i m v c).2.2 w2 ∧ FRA (fun a => Nat.ble a 1) w w2 ∧ ∀ c, c < 53 → w2.1 c = w.1 c := by
  intro d
  induction d with
  | zero =>
    intro i k c m v w hi hk hV hs hM hC0 hz2 hx
    obtain ⟨k, rfl⟩ : ∃ j, k = j + 1 := ⟨k - 1, by omega⟩
    refine ⟨w, ?_, hM, FRA_r _ _, fun c _ => rfl⟩
    show F_Mod_locksBy_64 _ _ _ _ _ _ _ = _
    unfold F_Mod_locksBy_64
    simp (disch := omega) only [nI_clamp, am_ckI, ile_t, ile_f, ilt_t, ilt_f, ieq_t, ieq_f, iz_t, iz_f, ilz_f, nI_add]
    rfl
  | succ d ih =>
    intro i k c m v w hi hk hV hs hM hC0 hz2 hx
    obtain ⟨k, rfl⟩ : ∃ j, k = j + 1 := ⟨k - 1, by omega⟩
    show ∃ w2, F_Mod_locksBy_64 _ _ _ _ _ _ _ = _ ∧ _
    unfold F_Mod_locksBy_64 F_Mod_locksBy_102 F_Mod_locksBy_153
    simp (disch := omega) only [nI_clamp, am_ckI, ile_t, ile_f, ilt_t, ilt_f, ieq_t, ieq_f, iz_t, iz_f, ilz_f, nI_add, pk_mul, hz2, bn_V, am_ltV, am_ckV, cond_V1, cond_V0, bi_ite, ck_bi, ite_T, ite_F, lbF]
    by_cases hb : a + 3 * i + 3 ≤ z
    · rw [Nat.ble_eq_true_of_le hb, if_pos (Int32.le_iff_toInt_le.mpr (by rw [nI_toInt (by omega), pk_sub_toInt (by omega) (by omega)]; omega))]
      simp (disch := omega) only [cond_true, nI_clamp, am_ckI, ile_t, ile_f, ilt_t, ilt_f, ieq_t, ieq_f, iz_t, iz_f, ilz_f, nI_add, bn_V, am_ltV, am_ckV, cond_V1, cond_V0, bi_ite, ck_bi, ite_T, ite_F, show 40 * p + (a + 3 * i) + 1 = 40 * p + (a + 3 * i + 1) from by omega, show 40 * p + (a + 3 * i) + 2 = 40 * p + (a + 3 * i + 2) from by omega, hx]
      obtain ⟨w0, hC⟩ := hC0
      obtain ⟨q1, w1, _, hC1, _⟩ := S_lockP hV hC hg (x (a + 3 * i)) (x (a + 3 * i + 1)) (x (a + 3 * i + 2))
      obtain ⟨w2, e2, hM2, k2, k3⟩ := D_lockP hV hM hg (hs _ _ ⟨hV, Nat.le_refl _, fun t => ⟨rfl, rfl⟩⟩) (x (a + 3 * i)) (x (a + 3 * i + 1)) (x (a + 3 * i + 2))
      rw [e2, bn_s]
      dsimp only
      have hs2 : w2.1 63 p = nI z := by rw [k3 63 (by omega) (by omega)]; exact hz2
      have hx2 : ∀ i, i < 40 → w2.1 64 (40 * p + i) = x i := fun i hi => by rw [k3 64 (by omega) (by omega)]; exact hx i hi
      by_cases h3 : (lkP n m g v (x (a + 3 * i)) (x (a + 3 * i + 1)) (x (a + 3 * i + 2))).1 < 0
      · rw [if_pos h3, decide_eq_true h3]
        obtain ⟨w3, e3, hM3, k4, k5⟩ := ih (i + 1) k (c + 0) _ _ w2 (by omega) (by omega) q1.1 (fun m2 v2 h => hs m2 v2 (lkQ_t q1 h)) hM2 ⟨w1, hC1⟩ hs2 hx2
        refine ⟨w3, ?_, hM3, FRA_t k2 k4, fun c hc => (k5 c hc).trans (k3 c (by omega) (by omega))⟩
        exact e3
      · rw [if_neg h3, decide_eq_false h3]
        obtain ⟨w3, e3, hM3, k4, k5⟩ := ih (i + 1) k (c + 1) _ _ w2 (by omega) (by omega) q1.1 (fun m2 v2 h => hs m2 v2 (lkQ_t q1 h)) hM2 ⟨w1, hC1⟩ hs2 hx2
        refine ⟨w3, ?_, hM3, FRA_t k2 k4, fun c hc => (k5 c hc).trans (k3 c (by omega) (by omega))⟩
        exact e3
    · rw [show Nat.ble (a + 3 * i + 3) z = false from Bool.eq_false_iff.mpr (fun q => hb (Nat.le_of_ble_eq_true q)), if_neg (fun q => by
        rw [Int32.le_iff_toInt_le, nI_toInt (by omega), pk_sub_toInt (by omega) (by omega)] at q
        omega)]
      exact ⟨w, rfl, hM, FRA_r _ _, fun c _ => rfl⟩
end
theorem B_locksBy (a b c d : Int32) : BOTH (F_Loc_locksBy a b c d) (F_Mod_locksBy a b c d) := fun w ⟨n, m, g, s, T, f, v, te, tc, hq⟩ => by
  have same : ∀ r, F_Loc_locksBy a b c d w = some (r, w) → F_Mod_locksBy a b c d w = some (r, w) → ∃ (r : Int32) (w1 w2 : am_W), F_Loc_locksBy a b c d w = some (r, w1) ∧ F_Mod_locksBy a b c d w1 = some (r, w2) ∧ RR w2 := fun r h1 h2 => ⟨r, w, w, h1, h2, n, m, g, s, T, f, v, te, tc, hq⟩
  obtain ⟨hV, hg, hs, hC, hM, hT, hX, hS, hP, hI, hA⟩ := id hq
  have hn := hV.1
  cases ha : am_in a 4 with
  | false =>
    refine same (-nI 2) ?_ ?_
    · unfold F_Loc_locksBy F_Loc_locksBy_26
      rw [S_isSheet, ha]; rfl
    · unfold F_Mod_locksBy F_Mod_locksBy_29
      rw [D_in0 (k := 3) (by omega), ha]; rfl
  | true =>
    have hS0 : ∀ w2, F_Loc_isSheet a w2 = some (bi true, w2) := fun w2 => by rw [S_isSheet, ha]
    have hD0 : ∀ w2, F_Mod_in a (nI 0) (nI 3) w2 = some (bi true, w2) := fun w2 => by rw [D_in0 (k := 3) (by omega), ha]
    cases hb : am_in b 3 with
    | false =>
      refine same (-nI 2) ?_ ?_
      · unfold F_Loc_locksBy F_Loc_locksBy_26
        rw [hS0, bn_s, bi_ite, cond_true, S_isSort, hb]; rfl
      · unfold F_Mod_locksBy F_Mod_locksBy_29
        rw [hD0, bn_s, bi_ite, cond_true, D_in0 (k := 2) (by omega), hb]; rfl
    | true =>
      have hS1 : ∀ w2, F_Loc_isSort b w2 = some (bi true, w2) := fun w2 => by rw [S_isSort, hb]
      have hD1 : ∀ w2, F_Mod_in b (nI 0) (nI 2) w2 = some (bi true, w2) := fun w2 => by rw [D_in0 (k := 2) (by omega), hb]
      cases hd : am_in d 11 with
      | false =>
        refine same (-nI 2) ?_ ?_
        · unfold F_Loc_locksBy F_Loc_locksBy_26
          rw [hS0, bn_s, bi_ite, cond_true, hS1, bn_s, bi_ite, cond_true]
          by_cases h3 : d < 0
          · rw [if_pos h3]
          · rw [if_neg h3, if_neg]
            intro h4
            have h5 : am_in d 11 = true := in_iff.mpr ⟨by rw [Int32.lt_iff_toInt_lt, ti_0] at h3; omega, by rw [Int32.le_iff_toInt_le, nI_toInt (by omega)] at h4; omega⟩
            rw [hd] at h5; cases h5
        · unfold F_Mod_locksBy F_Mod_locksBy_29
          rw [hD0, bn_s, bi_ite, cond_true, hD1, bn_s, bi_ite, cond_true, D_in0 (k := 10) (by omega), hd]; rfl
      | true =>
        obtain ⟨p, hp, rfl⟩ := in_ex ha (by omega)
        obtain ⟨so, hso, rfl⟩ := in_ex hb (by omega)
        obtain ⟨K, hK, rfl⟩ := in_ex hd (by omega)
        have hD2 : ∀ w2, F_Mod_in (nI K) (nI 0) (nI 10) w2 = some (bi true, w2) := fun w2 => by rw [D_in0 (k := 10) (by omega), hd]
        rcases sh_there hp hS with ⟨s1, s2⟩ | ⟨st, z, hst, hz, s1, s2, s3, s4, s5⟩
        · refine same (-nI 11) ?_ ?_
          · unfold F_Loc_locksBy
            rw [hS0, bn_s, bi_ite, cond_true, hS1, bn_s, bi_ite, cond_true]
            simp (disch := omega) only [nI_clamp, am_ckI, ile_t, ile_f, ilt_t, ilt_f, ieq_t, ieq_f, iz_t, iz_f, ilz_f, nI_add, bn_V, am_ltV, am_ckV, cond_V1, cond_V0, bi_ite, ck_bi, ite_T, ite_F, S_miss s1]
            try rfl
          · unfold F_Mod_locksBy
            rw [hD0, bn_s, bi_ite, cond_true, hD1, bn_s, bi_ite, cond_true, hD2, bn_s, bi_ite, cond_true]
            simp (disch := omega) only [nI_clamp, am_ckI, ile_t, ile_f, ilt_t, ilt_f, ieq_t, ieq_f, iz_t, iz_f, ilz_f, nI_add, bn_V, am_ltV, am_ckV, cond_V1, cond_V0, bi_ite, ck_bi, ite_T, ite_F, s2]
            try rfl
        · by_cases hss : st = so
          · subst hss
            have hS3 : F_Loc_locksBy (nI p) (nI st) c (nI K) w = L_Loc_locksBy_66 am_NF c (nI K) p (nI 0) (nI 0) w := by
              unfold F_Loc_locksBy
              rw [hS0, bn_s, bi_ite, cond_true, hS1, bn_s, bi_ite, cond_true]
              simp (disch := omega) only [nI_clamp, am_ckI, ile_t, ile_f, ilt_t, ilt_f, ieq_t, ieq_f, iz_t, iz_f, ilz_f, nI_add, bn_V, am_ltV, am_ckV, cond_V1, cond_V0, bi_ite, ck_bi, ite_T, ite_F, S_miss s1, decide_eq_false (m1_ne (by omega : st < 2 ^ 31)), s1]
            have hD3 : ∀ w2, w2.1 62 p = nI st → F_Mod_locksBy (nI p) (nI st) c (nI K) w2 = L_Mod_locksBy_64 am_NF (nI p) c (nI K) (nI 0) (nI 0) w2 := fun w2 t2 => by
              unfold F_Mod_locksBy
              rw [hD0, bn_s, bi_ite, cond_true, hD1, bn_s, bi_ite, cond_true, hD2, bn_s, bi_ite, cond_true]
              simp (disch := omega) only [nI_clamp, am_ckI, ile_t, ile_f, ilt_t, ilt_f, ieq_t, ieq_f, iz_t, iz_f, ilz_f, nI_add, bn_V, am_ltV, am_ckV, cond_V1, cond_V0, bi_ite, ck_bi, ite_T, ite_F, t2]
              rw [if_neg (m1_ne (by omega))]
            by_cases hc : 0 ≤ c.toInt ∧ c.toInt ≤ 40
            · obtain ⟨q, hq2⟩ : ∃ q : Nat, c.toInt = (q : Int) := ⟨c.toInt.toNat, by omega⟩
              have hc2 := nI_ti hq2 (by omega)
              subst hc2
              obtain ⟨q1, w2, e2, hC2, k2⟩ := S_by hg (p := p) (z := z) (a := q) (K := K) (x := fun i => w.1 64 (40 * p + i)) hz (by omega) (by omega) K 0 am_NF 0 m v w (by omega) (by show K < 4000; omega) hV hC s4 s5
              have hM2 : MM n m g s v w2 := MM_hi (fun c hc => k2 c (by omega)) hM
              obtain ⟨w3, e3, hM3, k3, k4⟩ := D_by hg (p := p) (z := z) (a := q) (K := K) (x := fun i => w.1 64 (40 * p + i)) hp hz (by omega) (by omega) K 0 am_NF 0 m v w2 (by omega) (by show K < 4000; omega) hV (fun m2 v2 h => Nat.lt_of_lt_of_le hs (Nat.pow_le_pow_right (by omega) h.2.1)) hM2 ⟨w, hC⟩ ((congrFun (k2 63 (by omega)) p).trans s3) (fun i hi => congrFun (k2 64 (by omega)) _)
              have kA : FRA (fun a => Nat.ble a 1) w w2 := fun c j h => by
                by_cases h9 : c = 0 ∨ 9 ≤ c
                · rw [k2 c h9]
                · match c, h9 with
                  | 0, h9 => exact absurd (Or.inl rfl) h9
                  | 1, _ => cases h
                  | 2, _ => cases h
                  | 3, _ => cases h
                  | 4, _ => cases h
                  | 5, _ => cases h
                  | 6, _ => cases h
                  | 7, _ => cases h
                  | 8, _ => cases h
                  | c + 9, h9 => exact absurd (Or.inr (by omega)) h9
              refine ⟨_, w2, w3, hS3.trans e2, (hD3 w2 ((congrFun (k2 62 (by omega)) p).trans s2)).trans e3, n, _, g, s, T, f, _, te, tc, RQ_rl (FRA_t kA k3) hq q1.1 hg (Nat.lt_of_lt_of_le hs (Nat.pow_le_pow_right (by omega) q1.2.1)) (CC_lo k4 hC2) hM3 (IM_v hI (Nat.le_refl _) (fun t _ => q1.2.2 t))⟩
            · by_cases hK0 : K = 0
              · subst hK0
                exact same (nI 0) (hS3.trans rfl) ((hD3 w s2).trans rfl)
              · have e0 : c + nI 3 * nI 0 = c := by
                  rw [pk_mul]
                  exact Int32.add_zero c
                have hstr : str z c (nI 3) = false := by
                  unfold str
                  rw [nI_toInt (by omega)]
                  exact decide_eq_false (by omega)
                refine same (-nI 12) (hS3.trans ?_) ((hD3 w s2).trans ?_)
                · show F_Loc_locksBy_66 _ _ _ _ _ _ _ = _
                  unfold F_Loc_locksBy_66
                  rw [ile_f (by omega) (by omega), e0, S_isStretch hz s4, hstr]; rfl
                · show F_Mod_locksBy_64 _ _ _ _ _ _ _ = _
                  unfold F_Mod_locksBy_64 F_Mod_locksBy_102
                  rw [ile_f (by omega) (by omega), e0]
                  by_cases h3 : c < 0
                  · rw [if_pos h3]
                  · rw [if_neg h3, if_neg Int32.lt_irrefl, in_nI hp (by omega), am_ckT, nI_clamp (by omega), s3, if_neg (fun h => by
                      rw [Int32.le_iff_toInt_le, pk_sub_toInt (by omega) (by omega)] at h
                      rw [lz_iff] at h3
                      omega)]
          · have hne : ¬ nI st = nI so := fun q => hss ((nI_eq (by omega) (by omega)).mp q)
            refine same (-nI 13) ?_ ?_
            · unfold F_Loc_locksBy
              rw [hS0, bn_s, bi_ite, cond_true, hS1, bn_s, bi_ite, cond_true]
              simp (disch := omega) only [nI_clamp, am_ckI, ile_t, ile_f, ilt_t, ilt_f, ieq_t, ieq_f, iz_t, iz_f, ilz_f, nI_add, bn_V, am_ltV, am_ckV, cond_V1, cond_V0, bi_ite, ck_bi, ite_T, ite_F, S_miss s1, decide_eq_false (m1_ne (by omega : st < 2 ^ 31)), s1]
            · unfold F_Mod_locksBy
              rw [hD0, bn_s, bi_ite, cond_true, hD1, bn_s, bi_ite, cond_true, hD2, bn_s, bi_ite, cond_true]
              simp (disch := omega) only [nI_clamp, am_ckI, ile_t, ile_f, ilt_t, ilt_f, ieq_t, ieq_f, iz_t, iz_f, ilz_f, nI_add, bn_V, am_ltV, am_ckV, cond_V1, cond_V0, bi_ite, ck_bi, ite_T, ite_F, s2]
              rw [if_neg (m1_ne (by omega))]
