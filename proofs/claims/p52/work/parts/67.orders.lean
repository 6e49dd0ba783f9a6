/-! ===== rows, ways, first ===== -/
section
variable {n m g s : Nat} {v : am_V} {w : am_W}
theorem two8 (hn : n ≤ 8) : 2 ^ n ≤ 256 := Nat.pow_le_pow_right (by omega) hn
theorem S_count (hV : VI n m v) (hC : CC n m g s v w) (hg : g < 2 ^ n) : ∃ w2, F_Ord_countAll w = some w2 ∧ EX (fun a => Nat.beq a 37) w w2 ∧ ∀ S, S < 2 ^ n → w2.1 37 S = nI (odN (cd n m v 0 s) g S) := by
  have hn := hV.1
  have h8 := two8 hn
  have inner : ∀ (r : Int32 → am_W → Option am_W) (set : Nat), set < 2 ^ n → ∀ (d t F : Nat) (w1 : am_W), t + d = n → d < F → EX (fun a => Nat.beq a 37) w w1 → (∀ S, S < 2 ^ n → w1.1 37 S = nI (odP (cd n m v 0 s) g set t S)) → ∃ w2, L_Ord_countAll_92 r F (nI set) (nI (mkN (cd n m v 0 s set) n)) (nI t) w1 = r (nI (set + 1)) w2 ∧ EX (fun a => Nat.beq a 37) w w2 ∧ ∀ S, S < 2 ^ n → w2.1 37 S = nI (odP (cd n m v 0 s) g (set + 1) 0 S) := by
    intro r set hset d
    induction d with
    | zero =>
      intro t F w1 ht hF k h
      obtain ⟨F, rfl⟩ : ∃ j, F = j + 1 := ⟨F - 1, by omega⟩
      have hz : w1.1 1 0 = nI n := (congrFun (k 1 rfl) 0).trans hC.1
      refine ⟨w1, ?_, k, fun S hS => ?_⟩
      · show F_Ord_countAll_92 _ _ _ _ _ _ = _
        unfold F_Ord_countAll_92 F_Ord_countAll_136
        simp (disch := omega) only [hz, nI_clamp, am_ckI, ile_t, ile_f, ilt_t, ilt_f, ieq_t, ieq_f, iz_t, iz_f, ilz_f, nI_add]
      · rw [h S hS, odP_to (fun u h1 _ => ?_)]
        unfold cd
        rw [decide_eq_false (by omega)]; rfl
    | succ d ih =>
      intro t F w1 ht hF k h
      obtain ⟨F, rfl⟩ : ∃ j, F = j + 1 := ⟨F - 1, by omega⟩
      have hz : w1.1 1 0 = nI n := (congrFun (k 1 rfl) 0).trans hC.1
      have htn : t < n := by omega
      have hb : (mkN (cd n m v 0 s set) n).testBit t = cd n m v 0 s set t := by
        rw [mkN_t, decide_eq_true htn]; rfl
      show ∃ w2, F_Ord_countAll_92 _ _ _ _ _ _ = _ ∧ _
      unfold F_Ord_countAll_92 F_Ord_countAll_130
      simp (disch := omega) only [hz, nI_clamp, am_ckI, ile_t, ile_f, ilt_t, ilt_f, ieq_t, ieq_f, iz_t, iz_f, ilz_f, nI_add, S_hasN, hb, bn_V, am_ltV, am_ckV, cond_V1, cond_V0, bi_ite, ck_bi, ite_T, ite_F, s_one, nx_or]
      cases hc : cd n m v 0 s set t with
      | false => exact ih (t + 1) F w1 (by omega) (by omega) k (fun S hS => by rw [h S hS, odP_no hc])
      | true =>
        have h0 := (cd_not hc).2
        have hlt : set ||| 2 ^ t < 2 ^ n := or_lt hset (Nat.pow_lt_pow_right (by omega) htn)
        simp (disch := omega) only [cond_true, nI_clamp, am_ckI, ile_t, ile_f, ilt_t, ilt_f, ieq_t, ieq_f, iz_t, iz_f, ilz_f, nI_add, bn_V, am_ltV, am_ckV, cond_V1, cond_V0, bi_ite, ck_bi, ite_T, ite_F, wst_f, h _ hlt, h set hset]
        refine ih (t + 1) F _ (by omega) (by omega) (EX_t k (EX_sf rfl)) (fun S hS => ?_)
        rw [odP_add (by omega) hc h0]
        by_cases e : S = set ||| 2 ^ t
        · rw [if_pos e, e, wsf_at, odP_full (Nat.le_refl set)]
        · rw [if_neg e, wsf_ne e, h S hS]
  have outer : ∀ (d set F : Nat) (w1 : am_W), set + d = 2 ^ n → d < F → EX (fun a => Nat.beq a 37) w w1 → (∀ S, S < 2 ^ n → w1.1 37 S = nI (odP (cd n m v 0 s) g set 0 S)) → ∃ w2, L_Ord_countAll_43 F (nI set) w1 = some w2 ∧ EX (fun a => Nat.beq a 37) w w2 ∧ ∀ S, S < 2 ^ n → w2.1 37 S = nI (odN (cd n m v 0 s) g S) := by
    intro d
    induction d with
    | zero =>
      intro set F w1 hs hF k h
      obtain ⟨F, rfl⟩ : ∃ j, F = j + 1 := ⟨F - 1, by omega⟩
      have hC1 : CC n m g s v w1 := CC_fr rfl (KP_b 37 (fun _ => rfl) k) hC
      refine ⟨w1, ?_, k, fun S hS => by rw [h S hS, odP_full (by omega)]⟩
      show F_Ord_countAll_43 _ _ _ = _
      unfold F_Ord_countAll_43
      have := Nat.two_pow_pos n
      simp (disch := omega) only [S_allThings hV hC1, bn_V, am_ltV, am_ckV, cond_V1, cond_V0, bi_ite, ck_bi, ite_T, ite_F, nI_clamp, am_ckI, ile_t, ile_f, ilt_t, ilt_f, ieq_t, ieq_f, iz_t, iz_f, ilz_f, nI_add]
    | succ d ih =>
      intro set F w1 hs hF k h
      obtain ⟨F, rfl⟩ : ∃ j, F = j + 1 := ⟨F - 1, by omega⟩
      have hC1 : CC n m g s v w1 := CC_fr rfl (KP_b 37 (fun _ => rfl) k) hC
      have hset : set < 2 ^ n := by omega
      have hr : w1.1 37 set = nI (odN (cd n m v 0 s) g set) := by rw [h set hset, odP_full (Nat.le_refl set)]
      have hlt := odN_lt (c := cd n m v 0 s) (g := g) set
      show ∃ w2, F_Ord_countAll_43 _ _ _ = _ ∧ _
      unfold F_Ord_countAll_43 F_Ord_countAll_136
      simp (disch := omega) only [S_allThings hV hC1, bn_V, am_ltV, am_ckV, cond_V1, cond_V0, bi_ite, ck_bi, ite_T, ite_F, nI_clamp, am_ckI, ile_t, ile_f, ilt_t, ilt_f, ieq_t, ieq_f, iz_t, iz_f, ilz_f, nI_add, hr, iz_b, hC1.2.2.2.1, S_canGoN hV hC1, hC1.2.2.2.2.1]
      cases hz : Nat.beq (odN (cd n m v 0 s) g set) 0 with
      | true =>
        have hz := Nat.eq_of_beq_eq_true hz
        exact ih (set + 1) F w1 (by omega) (by omega) k (fun S hS => by rw [h S hS, odP_z hz])
      | false =>
        rw [cond_false, mk_N, nx_and, cd_mask]
        obtain ⟨w2, e2, k2, h2⟩ := inner (L_Ord_countAll_43 F) set hset n 0 am_NF w1 (by omega) (by show n < 4000; omega) k h
        obtain ⟨w3, e3, k3, h3⟩ := ih (set + 1) F w2 (by omega) (by omega) k2 h2
        exact ⟨w3, e2.trans e3, k3, h3⟩
  have start : ∀ (d i F : Nat) (w1 : am_W), i + d = 256 → d < F → EX (fun a => Nat.beq a 37) w w1 → (∀ S, S < i → w1.1 37 S = nI 0) → ∃ w2, L_Ord_countAll_2 F (nI i) w1 = some w2 ∧ EX (fun a => Nat.beq a 37) w w2 ∧ ∀ S, S < 2 ^ n → w2.1 37 S = nI (odN (cd n m v 0 s) g S) := by
    intro d
    induction d with
    | zero =>
      intro i F w1 hi hF k h
      obtain ⟨F, rfl⟩ : ∃ j, F = j + 1 := ⟨F - 1, by omega⟩
      have hg1 : w1.1 1 1 = nI g := (congrFun (k 1 rfl) 1).trans hC.2.1
      have hg2 : (wsf w1 37 g (nI 1)).1 1 1 = nI g := (wsf_nc rfl).trans hg1
      obtain ⟨w3, e3, k3, h3⟩ := outer (2 ^ n - g) g am_NF (wsf w1 37 g (nI 1)) (by omega) (by show _ < 4000; omega) (EX_t k (EX_sf rfl)) (fun S hS => by
        rw [odP_g]
        by_cases e : S = g
        · rw [if_pos e, e, wsf_at]
        · rw [if_neg e, wsf_ne e, h S (by omega)])
      refine ⟨w3, ?_, k3, h3⟩
      show F_Ord_countAll_2 _ _ _ = _
      unfold F_Ord_countAll_2
      simp (disch := omega) only [nI_clamp, am_ckI, ile_t, ile_f, ilt_t, ilt_f, ieq_t, ieq_f, iz_t, iz_f, ilz_f, nI_add, hg1, bn_V, am_ltV, am_ckV, cond_V1, cond_V0, bi_ite, ck_bi, ite_T, ite_F, wst_f, hg2]
      exact e3
    | succ d ih =>
      intro i F w1 hi hF k h
      obtain ⟨F, rfl⟩ : ∃ j, F = j + 1 := ⟨F - 1, by omega⟩
      show ∃ w2, F_Ord_countAll_2 _ _ _ = _ ∧ _
      unfold F_Ord_countAll_2
      simp (disch := omega) only [nI_clamp, am_ckI, ile_t, ile_f, ilt_t, ilt_f, ieq_t, ieq_f, iz_t, iz_f, ilz_f, nI_add, bn_V, am_ltV, am_ckV, cond_V1, cond_V0, bi_ite, ck_bi, ite_T, ite_F, wst_f]
      refine ih (i + 1) F _ (by omega) (by omega) (EX_t k (EX_sf rfl)) (fun S hS => ?_)
      by_cases e : S = i
      · rw [e, wsf_at]
      · rw [wsf_ne e]; exact h S (by omega)
  unfold F_Ord_countAll
  exact start 256 0 am_NF w rfl (by show 256 < 4000; omega) (EX_r _ _) (fun S hS => by omega)
/-! the model's counts: longs -/
theorem lz_b {α : Type} {k : Nat} (hk : k < 2 ^ 31) {A B : α} : (if lg_cmp (lN k) (lN 0) ≤ 0 then A else B) = bif Nat.beq k 0 then A else B := by
  unfold lg_cmp
  by_cases h : k = 0
  · subst h
    exact if_pos (by decide)
  · rw [if_pos ((lN_lt (by omega) hk).mpr (by omega)), nbf h]
    exact if_neg (by decide)
theorem b_non : ∀ t, t < 8 → (nI t = -nI 1 ↔ (0 : Nat).testBit t = true) := fun t ht => ⟨fun q => absurd q (m1_ne (by omega)), fun q => by rw [Nat.zero_testBit] at q; cases q⟩
theorem set_ok {a : Int32} (hn : n ≤ 8) : ((a &&& (nI (2 ^ n - 1) ^^^ (-nI 1))) = 0) ↔ am_in a (2 ^ n) = true := by
  have h8 := two8 hn
  constructor
  · intro h
    have key : ∀ i, i < 32 → n ≤ i → bt a i = false := fun i hi hni => by
      have h3 : bt (a &&& (nI (2 ^ n - 1) ^^^ (-nI 1))) i = bt (nI 0) i := congrArg (fun q => bt q i) h
      rw [b_and, b_not _ hi, b_all (by omega) hi, b_0i, decide_eq_false (by omega), Bool.not_false, Bool.and_true] at h3
      exact h3
    obtain ⟨k, hk, rfl⟩ := small_ex (x := a) (fun i h9 hi => key i hi (by omega))
    refine in_nI (Nat.lt_pow_two_of_testBit _ (fun i hi => ?_)) (by omega)
    by_cases h3 : i < 32
    · have := key i h3 hi
      rwa [b_nI h3] at this
    · exact Nat.testBit_lt_two_pow (Nat.lt_of_lt_of_le (show k < 2 ^ 9 from hk) (Nat.pow_le_pow_right (by decide) (by omega : 9 ≤ i)))
  · intro h
    obtain ⟨k, hk, rfl⟩ := in_ex h (by omega)
    refine b_z (fun i hi => ?_)
    rw [b_and, b_not _ hi, b_all (by omega) hi, b_nI hi]
    by_cases h3 : i < n
    · rw [decide_eq_true h3, Bool.not_true, Bool.and_false]
    · rw [Nat.testBit_lt_two_pow (Nat.lt_of_lt_of_le hk (Nat.pow_le_pow_right (by omega) (by omega)))]; rfl
end