/-! ===== the law's loops, from the last to the first ===== -/
theorem i00 {α : Type} {x y : α} : (if nI 0 = (0 : Int32) then x else y) = x := if_pos rfl
theorem i10 {α : Type} {x y : α} : (if nI 1 = (0 : Int32) then x else y) = y := if_neg (by decide)
theorem bi_it1 {α : Type} (b : Bool) {x y : α} : (if bi b = nI 1 then x else y) = bif b then x else y := by
  cases b with
  | true => exact if_pos rfl
  | false => exact if_neg (by decide)
theorem l_one2 {k : Nat} (hk : k < 64) : lN 1 <<< (lN k &&& 63) = lN (2 ^ k) := by
  have h := l_one hk
  rw [nI_l (by omega)] at h
  exact h
/-- both memories tell the same rail -/
def WQ (L : Nat) (xs : Nat → Int32) (g s T f : Nat) (te tc : Nat → Nat → Nat) (u : am_U) : Prop := PQ (wN L xs) (wM L xs) g s T f (wV L xs) te tc u.1 ∧ WR L xs g s u.2
section
variable {L : Nat} {xs : Nat → Int32} {g s T f : Nat} {te tc : Nat → Nat → Nat} {u : am_U}
theorem WQ_b (h : WQ L xs g s T f te tc u) : g < 2 ^ wN L xs ∧ g < 16 ∧ s < 2 ^ 5 := by
  have hm := wM_lt (L := L) (xs := xs)
  have hn := wN_lt (L := L) (xs := xs)
  have h1 : 2 ^ wN L xs ≤ 2 ^ 4 := Nat.pow_le_pow_right (by omega) hn.2
  have h2 : 2 ^ wM L xs ≤ 2 ^ 5 := Nat.pow_le_pow_right (by omega) hm
  have h3 := h.1.1.2.1
  have h4 := h.1.2
  exact ⟨h3, by omega, by omega⟩
theorem E_735 (h : WQ L xs g s T f te tc u) (hsh : ∀ l, l < wM L xs → shu (wV L xs) g s l = false) : ∀ (d i k : Nat), i + d = wN L xs → d < k → L_W_law_735 L xs k (nI (wN L xs)) (nI (wM L xs)) (nI (2 ^ wN L xs - 1)) (nI i) u = some (nI 1) := by
  have hm := wM_lt (L := L) (xs := xs)
  have hn := wN_lt (L := L) (xs := xs)
  obtain ⟨w, r⟩ := u
  obtain ⟨hP, hR⟩ := h
  have hP : PQ (wN L xs) (wM L xs) g s T f (wV L xs) te tc w := hP
  have hr : r 0 = lN g := hR.1
  intro d
  induction d with
  | zero =>
    intro i k hi hk
    obtain ⟨k, rfl⟩ : ∃ j, k = j + 1 := ⟨k - 1, by omega⟩
    have hi : i = wN L xs := hi
    have hfree : mk (cg (wM L xs) (wV L xs) g s) (wN L xs) = nI (2 ^ wN L xs - 1) &&& (nI g ^^^ (-nI 1)) := (mk_ext (by omega) (fun j hj => by
      rw [b_and, b_not _ hj, b_all (by omega) hj, b_nI hj]
      have e : cg (wM L xs) (wV L xs) g s j = !g.testBit j := by
        unfold cg
        have : ((List.range (wM L xs)).all fun l => !ho (wV L xs) g s j l) = true := List.all_eq_true.mpr (fun l hl => by rw [ho_un (hsh l (List.mem_range.mp hl))]; rfl)
        rw [this, Bool.and_true]
      rw [e])).symm
    show F_W_law_735 _ _ _ _ _ _ _ _ = _
    unfold F_W_law_735 F_W_law_871
    rw [hi, ile_t (by omega) (by omega), P_free hP, bn_V, am_ckI (by omega) (by omega)]
    show (if mk (cg (wM L xs) (wV L xs) g s) (wN L xs) = (nI (2 ^ wN L xs - 1) &&& ((r (nI 0).toNatClampNeg).toInt32 ^^^ (-nI 1))) then _ else _) = _
    rw [nI_clamp (by omega), hr, lN_i, hfree, ite_rf]
    show ((F_Loc_holds (nI 8) w).bind _) = _
    rw [P_holds8 hP hn.2, bn_V, ite_rf]
    show ((F_Loc_waits (nI 8) w).bind _) = _
    rw [P_waits8 hP hn.2, bn_V, ite_rf]
    show ((F_Loc_go (nI 8) w).bind _) = _
    rw [P_go8 hP hn.2, bn_V, ite_rf]
    show ((F_Loc_saw (nI 10) w).bind _) = _
    rw [P_saw10 hP hm, bn_V, ite_rf]
    show ((F_Loc_told (nI 8) (nI 0) w).bind _) = _
    rw [P_told8 hP hn.2, bn_V, ite_rf]
    show ((F_Loc_told (nI 0) (nI 4) w).bind _) = _
    rw [(P_told0 hP (t := 0) (by omega)).2.2.2.2, bn_V, ite_rf]
    show ((F_Loc_lockTold (nI 10) (nI 0) w).bind _) = _
    rw [P_lockTold10 hP hm, bn_V, ite_rf, iz_b (by omega)]
    cases hz : Nat.beq (wM L xs) 0 with
    | true => rfl
    | false =>
      have := Nat.ne_of_beq_eq_false hz
      rw [cond_V0]
      show ((F_Loc_lockTold (nI 0) (nI 5) w).bind _) = _
      rw [(P_lockTold hP (l := 0) (by omega)).2.2.2.2.2, bn_V, ite_rf]
  | succ d ih =>
    intro i k hi hk
    obtain ⟨k, rfl⟩ : ∃ j, k = j + 1 := ⟨k - 1, by omega⟩
    have i1 := ih (i + 1) k (by omega) (by omega)
    have hz : mk (ho (wV L xs) g s i) (wM L xs) = nI 0 := by
      refine b_z (fun j hj => ?_)
      rw [mk_b _ _ (by omega) hj]
      by_cases h2 : j < wM L xs
      · rw [ho_un (hsh j h2), Bool.and_false]
      · rw [decide_eq_false h2]; rfl
    show F_W_law_735 _ _ _ _ _ _ _ _ = _
    unfold F_W_law_735
    rw [ile_f (by omega) (by omega)]
    show ((F_Loc_holds (nI i) w).bind _) = _
    rw [P_holds hP (t := i) (by omega), bn_V, hz, i00, nI_add]
    exact i1
theorem E_599 (hL : L ≤ 260) (Hq : ∀ l, l < wM L xs → F_W_saws L xs (nI (wO L xs l)) (nI l) = some (sw (wV L xs) te tc f l)) : ∀ (d i k s : Nat) (u : am_U), i + d = wM L xs → d < k → WQ L xs g s T f te tc u → (∀ l, l < i → shu (wV L xs) g s l = false) → L_W_law_599 L xs k (nI (wN L xs)) (nI (wM L xs)) (nI (2 ^ wN L xs - 1)) (nI i) u = some (nI 1) := by
  have hm := wM_lt (L := L) (xs := xs)
  have hn := wN_lt (L := L) (xs := xs)
  intro d
  induction d with
  | zero =>
    intro i k s u hi hk h hpre
    obtain ⟨k, rfl⟩ : ∃ j, k = j + 1 := ⟨k - 1, by omega⟩
    have hi : i = wM L xs := hi
    show F_W_law_599 _ _ _ _ _ _ _ _ = _
    unfold F_W_law_599
    rw [hi, ile_t (by omega) (by omega)]
    exact E_735 h (fun l hl => hpre l (by omega)) (wN L xs) 0 am_NF (by omega) (by show _ < 4000; omega)
  | succ d ih =>
    intro i k s u hi hk h hpre
    obtain ⟨k, rfl⟩ : ∃ j, k = j + 1 := ⟨k - 1, by omega⟩
    have hb := WQ_b h
    have hil : i < wM L xs := by omega
    obtain ⟨w, r⟩ := u
    obtain ⟨hP, hR⟩ := h
    have hP : PQ (wN L xs) (wM L xs) g s T f (wV L xs) te tc w := hP
    have hR : WR L xs g s r := hR
    have h4 : wO L xs i < wN L xs := Nat.mod_lt _ (by omega)
    obtain ⟨w2, e2, hP2⟩ := P_saw hP hil
    have e4 := (P_lockTold hP hil).2.2.2.2.1
    show F_W_law_599 _ _ _ _ _ _ _ _ = _
    cases hsu : shu (wV L xs) g s i with
    | false =>
      rw [hsu, if_neg (by decide)] at e2 hP2
      rw [hsu] at e4
      have i1 := ih (i + 1) k s (w2, r) (by omega) (by omega) ⟨hP2, hR⟩ (fun l hl => by
        by_cases e : l = i
        · rw [e]; exact hsu
        · exact hpre l (by omega))
      have e641 : F_W_law_641 L xs (L_W_law_599 L xs k) (nI (wN L xs)) (nI (wM L xs)) (nI (2 ^ wN L xs - 1)) (nI i) (nI 0) (w, r) = some (nI 1) := by
        unfold F_W_law_641 F_W_law_660 F_W_law_691 F_W_law_711
        simp (disch := omega) only [e4, e2, bn_V, i00, ← bi_f, ite_rf, ite_T, (P_count hP2).2, am_ckI, nI_clamp, hR.2.1, nI_l, lc_b, Nat.beq_refl, cond_V1, nI_add]
        exact i1
      unfold F_W_law_599 F_W_law_640
      simp (disch := omega) only [ile_f, am_ckI, nI_clamp, hR.1, hR.2.1, l_bit, lc_0, W_owner hL, bn_V, e641]
      have h9 : (!s.testBit i && !g.testBit (wO L xs i)) = false := hsu
      cases h1 : s.testBit i
      · cases h2 : g.testBit (wO L xs i)
        · rw [h1, h2] at h9; cases h9
        · rfl
      · rfl
    | true =>
      rw [hsu, if_pos rfl] at e2 hP2
      rw [hsu] at e4
      have i1 := ih (i + 1) k (s ||| 2 ^ i) (w2, vp_updL r 1 (lN (s ||| 2 ^ i))) (by omega) (by omega) ⟨hP2, WR_s hR _⟩ (fun l hl => by
        rw [shu_or]
        by_cases e : l = i
        · rw [e, Nat.beq_refl]; simp
        · rw [hpre l (by omega)]; rfl)
      have hs2 : s ||| 2 ^ i < 2 ^ 31 := by
        have : s ||| 2 ^ i < 2 ^ wM L xs := hP2.2
        have : 2 ^ wM L xs ≤ 2 ^ 5 := Nat.pow_le_pow_right (by omega) hm
        omega
      have e641 : F_W_law_641 L xs (L_W_law_599 L xs k) (nI (wN L xs)) (nI (wM L xs)) (nI (2 ^ wN L xs - 1)) (nI i) (nI 1) (w, r) = some (nI 1) := by
        unfold F_W_law_641 F_W_law_660 F_W_law_691 F_W_law_711
        simp (disch := omega) only [e4, e2, bn_V, i10, ← bi_t, ite_rf, ite_T, W_owner hL, Hq i hil, (P_count hP2).2, am_ckI, am_ltV, hst_n, l_one, l_one2, lN_or, pk_uLs, nI_clamp, hR.2.1, nI_l, lc_b, Nat.beq_refl, cond_V1, nI_add]
        exact i1
      unfold F_W_law_599 F_W_law_640
      simp (disch := omega) only [ile_f, am_ckI, nI_clamp, hR.1, hR.2.1, l_bit, lc_0, W_owner hL, bn_V, e641]
      have h9 : (!s.testBit i && !g.testBit (wO L xs i)) = true := hsu
      cases h1 : s.testBit i
      · cases h2 : g.testBit (wO L xs i)
        · rfl
        · rw [h1, h2] at h9; cases h9
      · rw [h1] at h9; cases h9
theorem E_480 (hL : L ≤ 260) (Hq : ∀ l, l < wM L xs → F_W_saws L xs (nI (wO L xs l)) (nI l) = some (sw (wV L xs) te tc f l)) : ∀ (d i k g : Nat) (u : am_U), i + d = 5 → d < k → WQ L xs g s T f te tc u → L_W_law_480 L xs k (nI (wN L xs)) (nI (wM L xs)) (nI (2 ^ wN L xs - 1)) (nI i) u = some (nI 1) := by
  have hm := wM_lt (L := L) (xs := xs)
  have hn := wN_lt (L := L) (xs := xs)
  intro d
  induction d with
  | zero =>
    intro i k g u hi hk h
    obtain ⟨k, rfl⟩ : ∃ j, k = j + 1 := ⟨k - 1, by omega⟩
    have hi : i = 5 := hi
    show F_W_law_480 _ _ _ _ _ _ _ _ = _
    unfold F_W_law_480
    rw [hi, ile_t (by omega) (by omega)]
    exact E_599 hL Hq (wM L xs) 0 am_NF s u (by omega) (by show _ < 4000; omega) h (fun l hl => by omega)
  | succ d ih =>
    intro i k g u hi hk h
    obtain ⟨k, rfl⟩ : ∃ j, k = j + 1 := ⟨k - 1, by omega⟩
    have hb := WQ_b h
    obtain ⟨w, r⟩ := u
    obtain ⟨hP, hR⟩ := h
    have hP : PQ (wN L xs) (wM L xs) g s T f (wV L xs) te tc w := hP
    have hR : WR L xs g s r := hR
    have hf := fl_e (wA L xs 10) (2 * i) (M := nI 3) 2 (by rfl)
    have hfl := fl_lt (wA L xs 10) (2 * i) 2
    have ht : fl (wA L xs 10) (2 * i) 2 % wN L xs < wN L xs := Nat.mod_lt _ (by omega)
    obtain ⟨w2, e2, hP2⟩ := P_go hP ht
    have hc := W_can (u := (w, r)) hL hR (by omega) (by omega) ht
    show F_W_law_480 _ _ _ _ _ _ _ _ = _
    unfold F_W_law_480
    rw [ile_f (by omega) (by omega), W_at hL (by omega), bn_V, iz_f (by omega) (by omega), pk_mul, hf, pk_rem (by omega) (by omega) (by omega), hc, bn_V]
    show ((F_Loc_go (nI (fl (wA L xs 10) (2 * i) 2 % wN L xs)) w).bind _) = _
    rw [e2, bn_V]
    generalize ht0 : fl (wA L xs 10) (2 * i) 2 % wN L xs = t at *
    cases hcg : cg (wM L xs) (wV L xs) g s t with
    | false =>
      rw [hcg, if_neg (by decide)] at hP2
      have hl := W_last (u := (w2, r)) hL hR hb.1 (by omega)
      have i1 := ih (i + 1) k g (w2, r) (by omega) (by omega) ⟨hP2, hR⟩
      unfold F_W_law_538 F_W_law_558
      simp (disch := omega) only [Bool.false_eq_true, ite_F, bi_ite, cond_V0, ← bi_f, i00, ite_rf, ite_T, (P_count hP2).1, bn_V, am_ckI, nI_clamp, hR.1, nI_l, lc_b, Nat.beq_refl, cond_V1, P_never hP2, hl, nI_add]
      exact i1
    | true =>
      rw [hcg, if_pos rfl] at hP2
      have hgt := cg_t hcg
      have hgl := go_left (wN L xs) (by omega) g hb.2.1 t (by omega) hgt
      have hg2 : g ||| 2 ^ t < 2 ^ wN L xs := hP2.1.2.1
      have hg3 : g ||| 2 ^ t < 2 ^ 31 := by
        have : 2 ^ wN L xs ≤ 2 ^ 4 := Nat.pow_le_pow_right (by omega) hn.2
        omega
      have hl := W_last (u := (w2, vp_updL r 0 (lN (g ||| 2 ^ t)))) hL (WR_g hR _) hg2 (by omega)
      have i1 := ih (i + 1) k (g ||| 2 ^ t) (w2, vp_updL r 0 (lN (g ||| 2 ^ t))) (by omega) (by omega) ⟨hP2, WR_g hR _⟩
      unfold F_W_law_538 F_W_law_558
      simp (disch := omega) only [bi_ite, cond_V1, ← bi_t, i10, am_ckI, nI_clamp, hR.1, W_lbits hb.2.1, hgl, ite_rf, ite_T, am_ltV, hst_n, l_one, l_one2, lN_or, pk_uLs, (P_count hP2).1, bn_V, nI_l, lc_b, Nat.beq_refl, cond_V1, P_never hP2, hl, nI_add]
      exact i1
theorem E_371 (hL : L ≤ 260) (Hq : ∀ l, l < wM L xs → F_W_saws L xs (nI (wO L xs l)) (nI l) = some (sw (wV L xs) te tc f l)) (Hx : ∀ l, l < wM L xs → ∃ k, k ≤ 99 ∧ sw (wV L xs) te tc f l = nI k) : ∀ (d i k : Nat) (u : am_U), i + d = wN L xs → d < k → WQ L xs 0 s T f te tc u → L_W_law_371 L xs k (nI (wN L xs)) (nI (wM L xs)) (nI (2 ^ wN L xs - 1)) (mk (cg (wM L xs) (wV L xs) 0 s) (wN L xs)) (nI i) u = some (nI 1) := by
  have hm := wM_lt (L := L) (xs := xs)
  have hn := wN_lt (L := L) (xs := xs)
  intro d
  induction d with
  | zero =>
    intro i k u hi hk h
    obtain ⟨k, rfl⟩ : ∃ j, k = j + 1 := ⟨k - 1, by omega⟩
    have hi : i = wN L xs := hi
    show F_W_law_371 _ _ _ _ _ _ _ _ _ = _
    unfold F_W_law_371
    rw [hi, ile_t (by omega) (by omega)]
    exact E_480 hL Hq 5 0 am_NF 0 u (by omega) (by show _ < 4000; omega) h
  | succ d ih =>
    intro i k u hi hk h
    obtain ⟨k, rfl⟩ : ∃ j, k = j + 1 := ⟨k - 1, by omega⟩
    have hin : i < wN L xs := by omega
    obtain ⟨w, r⟩ := u
    obtain ⟨hP, hR⟩ := h
    have hP : PQ (wN L xs) (wM L xs) 0 s T f (wV L xs) te tc w := hP
    have hR : WR L xs 0 s r := hR
    obtain ⟨w2, e2, hP2⟩ := P_sawFor hP hin
    obtain ⟨w3, e3, hP3⟩ := P_first hP2 hin (Nat.zero_testBit i)
    obtain ⟨w4, e4, hP4⟩ := P_first hP3 hin (Nat.zero_testBit i)
    have hs0 := saw_0 (n := wN L xs) (g := 0) (s := s) (t := i) (by omega) Hx (by omega)
    have hbn : bt (nI (2 ^ wN L xs - 1) &&& (nI (gal (wN L xs) (wM L xs) (wV L xs) 0 s 0) ^^^ (-nI 1))) i = !(gal (wN L xs) (wM L xs) (wV L xs) 0 s 0).testBit i := by
      rw [b_and, b_all (by omega) (by omega), b_not _ (by omega), b_nI (by omega), decide_eq_true hin, Bool.true_and]
    have hbf : bt (mk (cg (wM L xs) (wV L xs) 0 s) (wN L xs)) i = cg (wM L xs) (wV L xs) 0 s i := by
      rw [mk_b _ _ (by omega) (by omega), decide_eq_true hin, Bool.true_and]
    have e448 : ∀ w1 w5, PQ (wN L xs) (wM L xs) 0 s T f (wV L xs) te tc w1 → F_Loc_first (nI i) (nI 1) w1 = some (b2 (-nI 1) (bst (aho (wN L xs) (wM L xs) (wV L xs) 0 s 0 i) (2 ^ wN L xs)), w5) → PQ (wN L xs) (wM L xs) 0 s T f (wV L xs) te tc w5 → F_W_law_448 L xs (L_W_law_371 L xs k) (nI (wN L xs)) (nI (wM L xs)) (nI (2 ^ wN L xs - 1)) (mk (cg (wM L xs) (wV L xs) 0 s) (wN L xs)) (nI i) (w1, r) = some (nI 1) := by
      intro w1 w5 k1 k2 k3
      unfold F_W_law_448 F_W_law_471
      rw [b_has _ _ (by omega), hbf, bi_it1]
      cases hc : cg (wM L xs) (wV L xs) 0 s i with
      | false =>
        rw [cond_V0, nI_add]
        exact ih (i + 1) k (w1, r) (by omega) (by omega) ⟨k1, hR⟩
      | true =>
        rw [first_0 (by omega) hc] at k2
        rw [cond_V1]
        show ((F_Loc_first (nI i) (nI 1) w1).bind _) = _
        rw [k2, bn_V, i00, nI_add]
        exact ih (i + 1) k (w5, r) (by omega) (by omega) ⟨k3, hR⟩
    show F_W_law_371 _ _ _ _ _ _ _ _ _ = _
    unfold F_W_law_371
    rw [ile_f (by omega) (by omega), P_never hP, bn_V]
    show (if ((nI (2 ^ wN L xs - 1) &&& (nI (gal (wN L xs) (wM L xs) (wV L xs) 0 s 0) ^^^ (-nI 1))) >>> (nI i &&& 31)) &&& nI 1 = 0 then _ else _) = _
    rw [b_has _ _ (by omega), hbn, bi_ite]
    cases hG : (gal (wN L xs) (wM L xs) (wV L xs) 0 s 0).testBit i with
    | false =>
      have hne : ¬ b1 (bst (sx (wN L xs) (wM L xs) (wV L xs) te tc f 0 s (nI (2 ^ i))) (2 ^ wM L xs)) = 0 := fun q => by rw [hs0.mp q] at hG; cases hG
      rw [Bool.not_false, cond_V1]
      unfold F_W_law_394
      show ((F_Loc_sawFor (nI i) (nI 0) w).bind _) = _
      rw [e2, bn_V, if_neg hne]
      unfold F_W_law_413
      rw [ite_rf, i00]
      unfold F_W_law_433
      rw [i00]
      exact e448 w2 w3 hP2 e3 hP3
    | true =>
      obtain ⟨k5, hk5, e5⟩ := first_ge (by omega) hG
      have hev := gal_evr (by omega) hG
      have hk : wK L xs i < 6 := by unfold wK; omega
      have hk6 : ¬ wK L xs i = 5 := fun q => by
        have : (!(Nat.beq (wK L xs i) 5)) = true := hev
        rw [q] at this
        cases this
      rw [Bool.not_true, cond_V0]
      unfold F_W_law_394
      show ((F_Loc_sawFor (nI i) (nI 0) w).bind _) = _
      rw [e2, bn_V, if_pos (hs0.mpr hG)]
      unfold F_W_law_413
      rw [ite_rf, i10, W_kind hL (by omega), bn_V, ieq_f hk6 (by omega) (by omega)]
      unfold F_W_law_433
      rw [i10]
      show ((F_Loc_first (nI i) (nI 1) w2).bind _) = _
      rw [e3, bn_V, e5, ilz_f hk5]
      exact e448 w3 w4 hP3 e4 hP4
theorem E_257 (hL : L ≤ 260) (Hq : ∀ l, l < wM L xs → F_W_saws L xs (nI (wO L xs l)) (nI l) = some (sw (wV L xs) te tc f l)) (Hx : ∀ l, l < wM L xs → ∃ k, k ≤ 99 ∧ sw (wV L xs) te tc f l = nI k) (hs : s = mkN (wSw L xs) (wM L xs)) (h : WQ L xs 0 s T f te tc u) : ∀ (d i k : Nat), i + d = wM L xs → d < k → L_W_law_257 L xs k (nI (wN L xs)) (nI (wM L xs)) (nI (2 ^ wN L xs - 1)) (mk (cg (wM L xs) (wV L xs) 0 s) (wN L xs)) (nI i) u = some (nI 1) := by
  have hm := wM_lt (L := L) (xs := xs)
  have hn := wN_lt (L := L) (xs := xs)
  obtain ⟨w, r⟩ := u
  intro d
  induction d with
  | zero =>
    intro i k hi hk
    obtain ⟨k, rfl⟩ : ∃ j, k = j + 1 := ⟨k - 1, by omega⟩
    have hi : i = wM L xs := hi
    show F_W_law_257 _ _ _ _ _ _ _ _ _ = _
    unfold F_W_law_257
    rw [hi, ile_t (by omega) (by omega)]
    exact E_371 hL Hq Hx (wN L xs) 0 am_NF (w, r) (by omega) (by show _ < 4000; omega) h
  | succ d ih =>
    intro i k hi hk
    obtain ⟨k, rfl⟩ : ∃ j, k = j + 1 := ⟨k - 1, by omega⟩
    have hil : i < wM L xs := by omega
    have i1 := ih (i + 1) k (by omega) (by omega)
    obtain ⟨hP, hR⟩ := id h
    have hP : PQ (wN L xs) (wM L xs) 0 s T f (wV L xs) te tc w := hP
    obtain ⟨l0, l1, l2, l3, l4, l5⟩ := P_lockTold hP hil
    have l0 : F_Loc_lockTold (nI i) (nI 0) w = some (nI (wO L xs i), w) := l0
    have l1 : F_Loc_lockTold (nI i) (nI 1) w = some (nI (wS L xs i), w) := l1
    have l2 : F_Loc_lockTold (nI i) (nI 2) w = some (nI (wT L xs i), w) := l2
    have hsb : s.testBit i = wSw L xs i := by rw [hs, mkN_t, decide_eq_true hil, Bool.true_and]
    have l4 : F_Loc_lockTold (nI i) (nI 4) w = some (bi (!wSw L xs i), w) := by
      rw [l4]
      unfold shu
      rw [hsb, Nat.zero_testBit, Bool.not_false, Bool.and_true]
    rw [hsb] at l3
    show F_W_law_257 _ _ _ _ _ _ _ _ _ = _
    unfold F_W_law_257 F_W_law_333 F_W_law_357
    simp (disch := omega) only [ile_f, l0, l1, l2, l3, l4, bn_V, W_owner hL, W_sort hL, W_through hL, W_sawn hL, ite_rf, ite_T, bi_ite, nI_add]
    cases wSw L xs i with
    | false =>
      simp only [cond_V0, ← bi_f, ite_T, Bool.not_false, ← bi_t, i1]
    | true =>
      simp only [cond_V1, ← bi_f, ite_T, Bool.not_true, ← bi_t, i1]
theorem aw_00 {n : Nat} {v : am_V} {t : Nat} (hn : n ≤ 32) : nI 0 = mk (aw 0 v g s t) n := mk_ext hn (fun i hi => by rw [b_0i]; unfold aw; simp)
theorem aw_n {n m : Nat} {v : am_V} {t : Nat} (h : ho v g s t m = false) : mk (aw (m + 1) v g s t) n = mk (aw m v g s t) n ||| nI 0 := by
  have key : mk (aw m v g s t) n ||| nI 0 = mk (aw m v g s t) n := b_ext (fun j hj => by rw [b_or, b_0i, Bool.or_false])
  rw [key]
  exact mk_c (fun u _ => by unfold aw; rw [List.range_succ, List.any_append]; simp [h])
theorem aw_s {n m : Nat} {v : am_V} {t : Nat} (hn : n ≤ 32) (h4 : v 4 m < n) (h : ho v g s t m = true) : mk (aw (m + 1) v g s t) n = mk (aw m v g s t) n ||| (nI 1 <<< (nI (v 4 m) &&& 31)) := by
  refine (mk_ext hn ?_).symm
  exact or_one (p := aw m v g s t) hn h4 (fun j hj => mk_b _ n hn hj) (fun u => by unfold aw; rw [List.range_succ, List.any_append]; simp [h])
theorem E_40 (hL : L ≤ 260) (Hq : ∀ l, l < wM L xs → F_W_saws L xs (nI (wO L xs l)) (nI l) = some (sw (wV L xs) te tc f l)) (Hx : ∀ l, l < wM L xs → ∃ k, k ≤ 99 ∧ sw (wV L xs) te tc f l = nI k) (hs : s = mkN (wSw L xs) (wM L xs)) (h : WQ L xs 0 s T f te tc u) : ∀ (d i k : Nat), i + d = wN L xs → d < k → L_W_law_40 L xs k (nI (wN L xs)) (nI (wM L xs)) (nI (2 ^ wN L xs - 1)) (mk (cg (wM L xs) (wV L xs) 0 s) i) (nI i) u = some (nI 1) := by
  have hm := wM_lt (L := L) (xs := xs)
  have hn := wN_lt (L := L) (xs := xs)
  have hb := WQ_b h
  obtain ⟨w, r⟩ := u
  obtain ⟨hP, hR⟩ := id h
  have hP : PQ (wN L xs) (wM L xs) 0 s T f (wV L xs) te tc w := hP
  have hR : WR L xs 0 s r := hR
  intro d
  induction d with
  | zero =>
    intro i k hi hk
    obtain ⟨k, rfl⟩ : ∃ j, k = j + 1 := ⟨k - 1, by omega⟩
    have hi : i = wN L xs := hi
    subst hi
    have hl := W_last (u := (w, r)) hL hR hb.1 (by omega)
    show F_W_law_40 _ _ _ _ _ _ _ _ _ = _
    unfold F_W_law_40
    rw [ile_t (by omega) (by omega)]
    simp only [P_free hP, bn_V, ite_rf, ite_T, P_never hP, hl]
    exact E_257 hL Hq Hx hs h (wM L xs) 0 am_NF (by omega) (by show _ < 4000; omega)
  | succ d ih =>
    intro i k hi hk
    obtain ⟨k, rfl⟩ : ∃ j, k = j + 1 := ⟨k - 1, by omega⟩
    have hin : i < wN L xs := by omega
    have i1 := ih (i + 1) k (by omega) (by omega)
    have hh := W_holds (u := (w, r)) hL hR (by omega) (by omega) hin
    have hc := W_can (u := (w, r)) hL hR (by omega) (by omega) hin
    obtain ⟨t0, t1, t2, t3, t4⟩ := P_told0 hP hin
    have t0 : F_Loc_told (nI i) (nI 0) w = some (nI (wK L xs i), w) := t0
    have t1 : F_Loc_told (nI i) (nI 1) w = some (nI (wO2 L xs i), w) := t1
    have t2 : F_Loc_told (nI i) (nI 2) w = some (nI (wC L xs i), w) := t2
    rw [Nat.zero_testBit] at t3
    have e157 : ∀ x, mk (cg (wM L xs) (wV L xs) 0 s) i ||| x = mk (cg (wM L xs) (wV L xs) 0 s) (i + 1) → F_W_law_157 L xs (L_W_law_40 L xs k) (nI (wN L xs)) (nI (wM L xs)) (nI (2 ^ wN L xs - 1)) (nI i) x (mk (cg (wM L xs) (wV L xs) 0 s) i) (w, r) = some (nI 1) := by
      intro x hx
      unfold F_W_law_157
      simp (disch := omega) only [t0, t1, t2, t3, bn_V, W_kind hL, W_more hL, W_come hL, ite_rf, ite_T, ← bi_f, i00, hx, nI_add]
      exact i1
    have haw : bt (mk (aw (wM L xs) (wV L xs) 0 s i) (wN L xs)) i = false := by
      rw [mk_b _ _ (by omega) (by omega), aw_self, Bool.and_false]
    show F_W_law_40 _ _ _ _ _ _ _ _ _ = _
    unfold F_W_law_40
    rw [ile_f (by omega) (by omega), hh, bn_V, aw_00 (g := 0) (s := s) (v := wV L xs) (t := i) (n := wN L xs) (by omega)]
    refine Eq.trans ?_ (lp_0 (n := am_NF) (G := fun k2 j => L_W_law_61 L xs (L_W_law_40 L xs k) k2 (nI (wN L xs)) (nI (wM L xs)) (nI (2 ^ wN L xs - 1)) (mk (cg (wM L xs) (wV L xs) 0 s) i) (nI i) (mk (ho (wV L xs) 0 s i) (wM L xs)) (mk (aw j (wV L xs) 0 s i) (wN L xs)) (nI j) (w, r)) (m := wM L xs) (e := some (nI 1)) ?_ ?_ (by show _ < 4000; omega))
    · show L_W_law_61 _ _ _ _ _ _ _ _ _ _ _ _ _ = L_W_law_61 _ _ _ _ _ _ _ _ _ _ _ (nI 0) _
      rw [aw_00 (g := 0) (s := s) (v := wV L xs) (t := i) (n := wN L xs) (by omega)]
    · intro k2 j hj
      show F_W_law_61 _ _ _ _ _ _ _ _ _ _ _ _ _ = _
      have h4 : wO L xs j < wN L xs := Nat.mod_lt _ (by omega)
      have hbh : bt (mk (ho (wV L xs) 0 s i) (wM L xs)) j = ho (wV L xs) 0 s i j := by
        rw [mk_b _ _ (by omega) (by omega), decide_eq_true hj, Bool.true_and]
      unfold F_W_law_61 F_W_law_93
      simp (disch := omega) only [ile_f, b_has, hbh, bi_it1, W_owner hL, bn_V, nI_add]
      cases h1 : ho (wV L xs) 0 s i j
      · rw [aw_n h1]; rfl
      · rw [aw_s (by omega) h4 h1]; rfl
    · intro k2
      show F_W_law_61 _ _ _ _ _ _ _ _ _ _ _ _ _ = _
      unfold F_W_law_61
      simp (disch := omega) only [ile_t, P_holds hP hin, P_waits hP hin, bn_V, ite_rf, ite_T, b_has, haw, bi_it1, cond_V0, hc, bi_ite]
      cases h1 : cg (wM L xs) (wV L xs) 0 s i
      · exact e157 _ (mk_n0 h1).symm
      · exact e157 _ (mk_s h1 (by omega)).symm
/-- the law finds no fault -/
theorem E_law (hL : L ≤ 260) (Hq : ∀ l, l < wM L xs → F_W_saws L xs (nI (wO L xs l)) (nI l) = some (sw (wV L xs) te tc f l)) (Hx : ∀ l, l < wM L xs → ∃ k, k ≤ 99 ∧ sw (wV L xs) te tc f l = nI k) {w : am_W} {r : Nat → Int64} (h : PQ (wN L xs) (wM L xs) 0 (mkN (wSw L xs) (wM L xs)) T f (wV L xs) te tc w) : F_W_law L xs (w, r) = some (nI 1) := by
  have hn := wN_lt (L := L) (xs := xs)
  obtain ⟨r2, e, hR⟩ := W_start hL (w, r)
  unfold F_W_law
  rw [e, bn_V, W_things hL, bn_V, W_locks hL, bn_V, s_all (by omega)]
  exact E_40 hL Hq Hx rfl (u := (w, r2)) ⟨h, hR⟩ (wN L xs) 0 am_NF (by omega) (by show _ < 4000; omega)
end
