/-! ===== the law's own row of longs: it tells a rail, and its own methods answer as the rail by numbers does ===== -/
def WR (L : Nat) (xs : Nat → Int32) (g s : Nat) (r : Nat → Int64) : Prop := r 0 = lN g ∧ r 1 = lN s ∧ r 10 = lN (wM L xs) ∧ ∀ l, l < wM L xs → r (20 + 10 * l) = lN (wO L xs l) ∧ r (21 + 10 * l) = lN (wS L xs l) ∧ r (22 + 10 * l) = lN (wT L xs l)
theorem hst_n {u : am_U} {j : Nat} {x : Int64} (hj : j < 2 ^ 31) : hst u (nI j) x = (u.1, vp_updL u.2 j x) := by
  unfold hst
  rw [nI_clamp hj]
theorem upL_upL (f : Nat → Int64) (j : Nat) (x y : Int64) : vp_updL (vp_updL f j x) j y = vp_updL f j y := funext fun i => by
  unfold vp_updL
  by_cases h : i = j
  · rw [if_pos h, if_pos h]
  · rw [if_neg h, if_neg h, if_neg h]
theorem upL_e {f : Nat → Int64} {j : Nat} {x : Int64} (h : f j = x) : vp_updL f j x = f := funext fun i => by
  unfold vp_updL
  by_cases hi : i = j
  · rw [if_pos hi, hi, h]
  · rw [if_neg hi]
section
variable {L : Nat} {xs : Nat → Int32} {g s : Nat}
theorem W_st2 (hL : L ≤ 260) : ∀ (d i k : Nat) (u : am_U), i + d = wM L xs → d < k → (u.2 0 = lN 0 ∧ u.2 1 = lN (mkN (wSw L xs) i) ∧ ∀ l, l < i → u.2 (20 + 10 * l) = lN (wO L xs l) ∧ u.2 (21 + 10 * l) = lN (wS L xs l) ∧ u.2 (22 + 10 * l) = lN (wT L xs l)) → ∃ r, L_W_start_37 L xs k (nI i) u = some (u.1, r) ∧ WR L xs 0 (mkN (wSw L xs) (wM L xs)) r := by
  have hm := wM_lt (L := L) (xs := xs)
  intro d
  induction d with
  | zero =>
    intro i k u hi hk hu
    obtain ⟨k, rfl⟩ : ∃ j, k = j + 1 := ⟨k - 1, by omega⟩
    have hi : i = wM L xs := hi
    refine ⟨vp_updL u.2 10 (lN (wM L xs)), ?_, ?_⟩
    · show F_W_start_37 _ _ _ _ _ = _
      unfold F_W_start_37
      rw [W_locks hL, bn_V, hi, ile_t (by omega) (by omega), bn_V, am_ckI (by omega) (by omega), am_ltV, hst_n (by omega), nI_l (by omega)]
    · subst hi
      refine ⟨?_, ?_, pk_uLs, fun l hl => ?_⟩
      · rw [pk_uLn (by omega)]; exact hu.1
      · rw [pk_uLn (by omega)]; exact hu.2.1
      · rw [pk_uLn (by omega), pk_uLn (by omega), pk_uLn (by omega)]; exact hu.2.2 l hl
  | succ d ih =>
    intro i k u hi hk hu
    obtain ⟨k, rfl⟩ : ∃ j, k = j + 1 := ⟨k - 1, by omega⟩
    have h4 : wO L xs i < 2 ^ 31 := by
      have : wO L xs i < wN L xs := Nat.mod_lt _ (by have := wN_lt (L := L) (xs := xs); omega)
      have := wN_lt (L := L) (xs := xs)
      omega
    have h5 : wS L xs i < 2 ^ 31 := by unfold wS; omega
    have h6 := wT_lt (L := L) (xs := xs) (l := i)
    have key : ∀ x : Nat, x = (bif wSw L xs i then 2 ^ i else 0) → ∃ r, F_W_start_64 L xs (L_W_start_37 L xs k) (nI i) (lN x) (u.2 1) (nI 1) u = some (u.1, r) ∧ WR L xs 0 (mkN (wSw L xs) (wM L xs)) r := by
      intro x hx
      obtain ⟨r, e, hr⟩ := ih (i + 1) k (u.1, vp_updL (vp_updL (vp_updL (vp_updL u.2 1 (lN (mkN (wSw L xs) i) ||| lN x)) (20 + 10 * i) (lN (wO L xs i))) (21 + 10 * i) (lN (wS L xs i))) (22 + 10 * i) (lN (wT L xs i))) (by omega) (by omega) (by
        refine ⟨?_, ?_, fun l hl => ?_⟩
        · show vp_updL _ _ _ 0 = _
          rw [pk_uLn (by omega), pk_uLn (by omega), pk_uLn (by omega), pk_uLn (by omega)]; exact hu.1
        · show vp_updL _ _ _ 1 = _
          rw [pk_uLn (by omega), pk_uLn (by omega), pk_uLn (by omega), pk_uLs, lN_or, hx]; rfl
        · show vp_updL _ _ _ (20 + 10 * l) = _ ∧ vp_updL _ _ _ (21 + 10 * l) = _ ∧ vp_updL _ _ _ (22 + 10 * l) = _
          by_cases e : l = i
          · subst e
            refine ⟨?_, ?_, pk_uLs⟩
            · rw [pk_uLn (by omega), pk_uLn (by omega), pk_uLs]
            · rw [pk_uLn (by omega), pk_uLs]
          · rw [pk_uLn (by omega), pk_uLn (by omega), pk_uLn (by omega), pk_uLn (by omega), pk_uLn (by omega), pk_uLn (by omega), pk_uLn (by omega), pk_uLn (by omega), pk_uLn (by omega), pk_uLn (by omega), pk_uLn (by omega), pk_uLn (by omega)]
            exact hu.2.2 l (by omega))
      refine ⟨r, ?_, hr⟩
      rw [← e]
      unfold F_W_start_64
      simp (disch := omega) only [am_ckI, hst_n, am_ltV, W_owner hL, W_sort hL, W_through hL, bn_V, pk_mul, nI_add, nI_l, hu.2.1]
    show ∃ r, F_W_start_37 _ _ _ _ _ = _ ∧ _
    unfold F_W_start_37
    simp (disch := omega) only [W_locks hL, bn_V, ile_f, am_ckI, W_sawn hL, bi_ite, nI_clamp, l_one]
    cases hw : wSw L xs i with
    | false => exact key 0 (by rw [hw]; rfl)
    | true => exact key (2 ^ i) (by rw [hw]; rfl)
theorem W_st1 (hL : L ≤ 260) : ∀ (d i k : Nat) (u : am_U), i + d = wN L xs → d < k → (u.2 0 = lN 0 ∧ u.2 1 = lN 0) → ∃ r, L_W_start_10 L xs k (nI i) u = some (u.1, r) ∧ WR L xs 0 (mkN (wSw L xs) (wM L xs)) r := by
  have hm := wM_lt (L := L) (xs := xs)
  have hn := wN_lt (L := L) (xs := xs)
  intro d
  induction d with
  | zero =>
    intro i k u hi hk hu
    obtain ⟨k, rfl⟩ : ∃ j, k = j + 1 := ⟨k - 1, by omega⟩
    have hi : i = wN L xs := hi
    show ∃ r, F_W_start_10 _ _ _ _ _ = _ ∧ _
    unfold F_W_start_10
    rw [W_things hL, bn_V, hi, ile_t (by omega) (by omega)]
    exact W_st2 hL (wM L xs) 0 am_NF u (by omega) (by show _ < 4000; omega) ⟨hu.1, hu.2, fun l hl => by omega⟩
  | succ d ih =>
    intro i k u hi hk hu
    obtain ⟨k, rfl⟩ : ∃ j, k = j + 1 := ⟨k - 1, by omega⟩
    have hc : wC L xs i < 2 ^ 31 := by unfold wC; omega
    show ∃ r, F_W_start_10 _ _ _ _ _ = _ ∧ _
    unfold F_W_start_10
    simp (disch := omega) only [W_things hL, bn_V, ile_f, W_come hL, am_ckI, nI_add, hst_n, am_ltV]
    exact ih (i + 1) k (u.1, vp_updL u.2 (2 + i) (nI (wC L xs i)).toInt64) (by omega) (by omega) ⟨(pk_uLn (by omega)).trans hu.1, (pk_uLn (by omega)).trans hu.2⟩
theorem W_start (hL : L ≤ 260) (u : am_U) : ∃ r, F_W_start L xs u = some (u.1, r) ∧ WR L xs 0 (mkN (wSw L xs) (wM L xs)) r := by
  have hn := wN_lt (L := L) (xs := xs)
  unfold F_W_start
  simp (disch := omega) only [am_ckI, hst_n, am_ltV]
  have h0 : vp_updL (vp_updL u.2 0 (lN 0)) 1 (lN 0) 0 = lN 0 := by rw [pk_uLn (by omega), pk_uLs]
  have h1 : vp_updL (vp_updL u.2 0 (lN 0)) 1 (lN 0) 1 = lN 0 := pk_uLs
  exact W_st1 hL (wN L xs) 0 am_NF (u.1, vp_updL (vp_updL u.2 0 (lN 0)) 1 (lN 0)) (Nat.zero_add _) (by show _ < 4000; omega) ⟨h0, h1⟩
variable {u : am_U}
theorem W_fix (hL : L ≤ 260) (h : WR L xs g s u.2) (hg : g < 2 ^ 8) (hs : s < 2 ^ 10) {l t : Nat} (hl : l < wM L xs) (ht : t < wN L xs) : F_W_fix L xs (nI l) (nI t) (nI (wK L xs t)) u = some (bi (fx (wV L xs) g s t l), u) := by
  have hm := wM_lt (L := L) (xs := xs)
  have hn := wN_lt (L := L) (xs := xs)
  obtain ⟨r0, r1, r2, r3⟩ := h
  obtain ⟨q4, q5, q6⟩ := r3 l hl
  have h4 : wO L xs l < wN L xs := Nat.mod_lt _ (by omega)
  have h5 : wS L xs l < 3 := by unfold wS; omega
  have h6 := wT_lt (L := L) (xs := xs) (l := l)
  have hk1 : wK L xs t < 6 := by unfold wK; omega
  have ho : wO2 L xs t < 10 := by unfold wO2; omega
  have e110 : F_W_fix_110 L xs (nI l) (nI t) u = some (bi (oth (wV L xs) g l t), u) := by
    unfold F_W_fix_110 F_W_fix_145
    simp (disch := omega) only [am_ckI, nI_clamp, pk_mul, nI_add, q6, r0]
    have := oth_L (v := wV L xs) (g := g) (l := l) (t := t) h6 (by omega) (x := am_ck (am_bo (nI 0)) (some (nI 0, u))) (y := am_ck (am_bo (nI 1)) (some (nI 1, u)))
    refine this.trans ?_
    cases oth (wV L xs) g l t <;> rfl
  have e79 : F_W_fix_79 L xs (nI l) (nI t) (nI (wK L xs t)) u = some (bi ((bif Nat.beq (wK L xs t) 4 then Nat.ble (wO2 L xs t + 1) (3 * wS L xs l) else true) && oth (wV L xs) g l t), u) := by
    unfold F_W_fix_79 F_W_fix_108
    simp (disch := omega) only [am_ckI, nI_clamp, pk_mul, nI_add, q5, W_more hL, bn_V, ieq_b, lN_mul, nI_l, lc_lt, e110]
    cases Nat.beq (wK L xs t) 4 <;> cases Nat.ble (wO2 L xs t + 1) (3 * wS L xs l) <;> rfl
  have e65 : F_W_fix_65 L xs (nI l) (nI t) (nI (wK L xs t)) u = some (bi (!(Nat.beq (wS L xs l) 0) && ((bif Nat.beq (wK L xs t) 4 then Nat.ble (wO2 L xs t + 1) (3 * wS L xs l) else true) && oth (wV L xs) g l t)), u) := by
    unfold F_W_fix_65 F_W_fix_108
    simp (disch := omega) only [am_ckI, nI_clamp, pk_mul, nI_add, q5, lc_b, e79]
    cases Nat.beq (wS L xs l) 0 <;> rfl
  unfold F_W_fix F_W_fix_51
  simp (disch := omega) only [am_ckI, nI_clamp, pk_mul, nI_add, r0, r1, q4, q6, lN_i, l_bit, lc_0, lc_1, ieq_b, e65, e79]
  show _ = some (bi ((!s.testBit l && !g.testBit (wO L xs l)) && (((wT L xs l).testBit t && hk (wK L xs t) (wO2 L xs t) (wS L xs l)) && oth (wV L xs) g l t)), u)
  unfold hk
  have hkk : Nat.beq (wK L xs t) 2 = true → Nat.beq (wK L xs t) 4 = false := fun q => by rw [Nat.eq_of_beq_eq_true q]; rfl
  generalize oth (wV L xs) g l t = b1
  generalize Nat.ble (wO2 L xs t + 1) (3 * wS L xs l) = b2
  generalize Nat.beq (wS L xs l) 0 = b3
  generalize Nat.beq (wK L xs t) 2 = b4 at hkk ⊢
  generalize Nat.beq (wK L xs t) 4 = b5 at hkk ⊢
  cases s.testBit l
  · cases g.testBit (wO L xs l)
    · cases (wT L xs l).testBit t
      · rfl
      · cases b4
        · cases b5 <;> cases b1 <;> cases b2 <;> cases b3 <;> rfl
        · have hkk := hkk rfl
          subst hkk
          cases b1 <;> cases b2 <;> cases b3 <;> rfl
    · rfl
  · rfl
theorem W_holds (hL : L ≤ 260) (h : WR L xs g s u.2) (hg : g < 2 ^ 8) (hs : s < 2 ^ 10) {t : Nat} (ht : t < wN L xs) : F_W_holds L xs (nI t) u = some (mk (ho (wV L xs) g s t) (wM L xs), u) := by
  have hm := wM_lt (L := L) (xs := xs)
  have hn := wN_lt (L := L) (xs := xs)
  unfold F_W_holds
  refine lp_0 (G := fun k i => L_W_holds_5 L xs k (nI t) (mk (ho (wV L xs) g s t) i) (nI i) u) (m := wM L xs) ?_ ?_ (by show _ < 4000; omega)
  · intro k i hi
    show F_W_holds_5 _ _ _ _ _ _ _ = _
    obtain ⟨q4, q5, q6⟩ := h.2.2.2 i hi
    have h4 : wO L xs i < wN L xs := Nat.mod_lt _ (by omega)
    unfold F_W_holds_5 F_W_holds_56 F_W_holds_57
    simp (disch := omega) only [am_ckI, nI_clamp, pk_mul, nI_add, h.2.2.1, q4, nI_l, lc_le, lc_b, W_kind hL, bn_V, W_fix hL h hg hs hi ht, bi_ite]
    have hb : Nat.ble (wM L xs) i = false := Bool.eq_false_iff.mpr (fun q => by have := Nat.le_of_ble_eq_true q; omega)
    rw [hb, cond_V0]
    have e : ho (wV L xs) g s t i = (!(Nat.beq (wO L xs i) t) && fx (wV L xs) g s t i) := rfl
    cases h1 : Nat.beq (wO L xs i) t
    · cases h2 : fx (wV L xs) g s t i
      · rw [mk_n0 (by rw [e, h1, h2]; rfl)]; rfl
      · rw [mk_s (by rw [e, h1, h2]; rfl) (by omega)]; rfl
    · rw [mk_n0 (by rw [e, h1]; rfl)]; rfl
  · intro k
    show F_W_holds_5 _ _ _ _ _ _ _ = _
    unfold F_W_holds_5
    simp (disch := omega) only [am_ckI, nI_clamp, h.2.2.1, nI_l, lc_le]
    rw [Nat.ble_eq_true_of_le (Nat.le_refl _)]
    rfl
theorem W_can (hL : L ≤ 260) (h : WR L xs g s u.2) (hg : g < 2 ^ 8) (hs : s < 2 ^ 10) {t : Nat} (ht : t < wN L xs) : F_W_can L xs (nI t) u = some (bi (cg (wM L xs) (wV L xs) g s t), u) := by
  have hm := wM_lt (L := L) (xs := xs)
  have hn := wN_lt (L := L) (xs := xs)
  have hlt := mkN_lt (ho (wV L xs) g s t) (wM L xs)
  have h2 : 2 ^ wM L xs ≤ 2 ^ 5 := Nat.pow_le_pow_right (by omega) hm
  unfold F_W_can F_W_can_25 F_W_can_26
  simp (disch := omega) only [am_ckI, nI_clamp, h.1, l_bit, lc_0, W_holds hL h hg hs ht, bn_V, mk_N, iz_b]
  unfold cg
  have e : Nat.beq (mkN (ho (wV L xs) g s t) (wM L xs)) 0 = (List.range (wM L xs)).all fun l => !ho (wV L xs) g s t l := by
    rw [Bool.eq_iff_iff, nbt, mkN_z, List.all_eq_true]
    exact ⟨fun h l hl => by rw [h l (List.mem_range.mp hl)]; rfl, fun h l hl => by have := h l (List.mem_range.mpr hl); rwa [Bool.not_eq_true'] at this⟩
  rw [e]
  cases g.testBit t
  · cases (List.range (wM L xs)).all fun l => !ho (wV L xs) g s t l <;> rfl
  · rfl
end
