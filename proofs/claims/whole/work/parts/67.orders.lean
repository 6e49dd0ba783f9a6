/-! ===== rows, ways, first ===== -/
section
variable {n m g s : Nat} {v : am_V} {w : am_W}
theorem two8 (hn : n ≤ 8) : 2 ^ n ≤ 256 := Nat.pow_le_pow_right (by omega) hn
theorem S_count (hV : VI n m v) (hC : CC n m g s v w) (hg : g < 2 ^ n) : ∃ w2, F_Ord_countAll w = some w2 ∧ EX (fun a => Nat.beq a 37) w w2 ∧ ∀ S, S < 2 ^ n → w2.1 37 S = nI (odN (cd n m v 0 s) g S) := by
  have hn := hV.1
  have h8 := two8 hn
  have inner : ∀ (r : Int32 → am_W → Option am_W) (set : Nat), set < 2 ^ n → ∀ (d t F : Nat) (w1 : am_W), t + d = n → d < F → EX (fun a => Nat.beq a 37) w w1 → (∀ S, S < 2 ^ n → w1.1 37 S = nI (odP (cd n m v 0 s) g set t S)) → ∃ w2, L_Ord_countAll_92 r F (nI set) (nI (mkN (cd n m v 0 s set) n)) (nI t) w1 = r (nI (set + 1)) w2 ∧ EX (fun a => Nat.beq a 37) w w2 ∧ ∀ S, S < 2 ^ n → w2.1 37 S = nI (odP (cd n m v 0 s) g (set + 1) 0 S) := by
    intro r set hset d
    induction d with
    | zero =>
      intro t F w1 ht hF k h
      obtain ⟨F, rfl⟩ : ∃ j, F = j + 1 := ⟨F - 1, by omega⟩
      have hz : w1.1 1 0 = nI n := (congrFun (k 1 rfl) 0).trans hC.1
      refine ⟨w1, ?_, k, fun S hS => ?_⟩
      · show F_Ord_countAll_92 _ _ _ _ _ _ = _
        unfold F_Ord_countAll_92 F_Ord_countAll_136
        simp (disch := omega) only [hz, nI_clamp, am_ckI, ile_t, ile_f, ilt_t, ilt_f, ieq_t, ieq_f, iz_t, iz_f, ilz_f, nI_add]
      · rw [h S hS, odP_to (fun u h1 _ => ?_)]
        unfold cd
        rw [decide_eq_false (by omega)]; rfl
    | succ d ih =>
      intro t F w1 ht hF k h
      obtain ⟨F, rfl⟩ : ∃ j, F = j + 1 := ⟨F - 1, by omega⟩
      have hz : w1.1 1 0 = nI n := (congrFun (k 1 rfl) 0).trans hC.1
      have htn : t < n := by omega
      have hb : (mkN (cd n m v 0 s set) n).testBit t = cd n m v 0 s set t := by
        rw [mkN_t, decide_eq_true htn]; rfl
      show ∃ w2, F_Ord_countAll_92 _ _ _ _ _ _ = _ ∧ _
      unfold F_Ord_countAll_92 F_Ord_countAll_130
      simp (disch := omega) only [hz, nI_clamp, am_ckI, ile_t, ile_f, ilt_t, ilt_f, ieq_t, ieq_f, iz_t, iz_f, ilz_f, nI_add, S_hasN, hb, bn_V, am_ltV, am_ckV, cond_V1, cond_V0, bi_ite, ck_bi, ite_T, ite_F, s_one, nx_or]
      cases hc : cd n m v 0 s set t with
      | false => exact ih (t + 1) F w1 (by omega) (by omega) k (fun S hS => by rw [h S hS, odP_no hc])
      | true =>
        have h0 := (cd_not hc).2
        have hlt : set ||| 2 ^ t < 2 ^ n := or_lt hset (Nat.pow_lt_pow_right (by omega) htn)
        simp (disch := omega) only [cond_true, nI_clamp, am_ckI, ile_t, ile_f, ilt_t, ilt_f, ieq_t, ieq_f, iz_t, iz_f, ilz_f, nI_add, bn_V, am_ltV, am_ckV, cond_V1, cond_V0, bi_ite, ck_bi, ite_T, ite_F, wst_f, h _ hlt, h set hset]
        refine ih (t + 1) F _ (by omega) (by omega) (EX_t k (EX_sf rfl)) (fun S hS => ?_)
        rw [odP_add (by omega) hc h0]
        by_cases e : S = set ||| 2 ^ t
        · rw [if_pos e, e, wsf_at, odP_full (Nat.le_refl set)]
        · rw [if_neg e, wsf_ne e, h S hS]
  have outer : ∀ (d set F : Nat) (w1 : am_W), set + d = 2 ^ n → d < F → EX (fun a => Nat.beq a 37) w w1 → (∀ S, S < 2 ^ n → w1.1 37 S = nI (odP (cd n m v 0 s) g set 0 S)) → ∃ w2, L_Ord_countAll_43 F (nI set) w1 = some w2 ∧ EX (fun a => Nat.beq a 37) w w2 ∧ ∀ S, S < 2 ^ n → w2.1 37 S = nI (odN (cd n m v 0 s) g S) := by
    intro d
    induction d with
    | zero =>
      intro set F w1 hs hF k h
      obtain ⟨F, rfl⟩ : ∃ j, F = j + 1 := ⟨F - 1, by omega⟩
      have hC1 : CC n m g s v w1 := CC_fr rfl (KP_b 37 (fun _ => rfl) k) hC
      refine ⟨w1, ?_, k, fun S hS => by rw [h S hS, odP_full (by omega)]⟩
      show F_Ord_countAll_43 _ _ _ = _
      unfold F_Ord_countAll_43
      have := Nat.two_pow_pos n
      simp (disch := omega) only [S_allThings hV hC1, bn_V, am_ltV, am_ckV, cond_V1, cond_V0, bi_ite, ck_bi, ite_T, ite_F, nI_clamp, am_ckI, ile_t, ile_f, ilt_t, ilt_f, ieq_t, ieq_f, iz_t, iz_f, ilz_f, nI_add]
    | succ d ih =>
      intro set F w1 hs hF k h
      obtain ⟨F, rfl⟩ : ∃ j, F = j + 1 := ⟨F - 1, by omega⟩
      have hC1 : CC n m g s v w1 := CC_fr rfl (KP_b 37 (fun _ => rfl) k) hC
      have hset : set < 2 ^ n := by omega
      have hr : w1.1 37 set = nI (odN (cd n m v 0 s) g set) := by rw [h set hset, odP_full (Nat.le_refl set)]
      have hlt := odN_lt (c := cd n m v 0 s) (g := g) set
      show ∃ w2, F_Ord_countAll_43 _ _ _ = _ ∧ _
      unfold F_Ord_countAll_43 F_Ord_countAll_136
      simp (disch := omega) only [S_allThings hV hC1, bn_V, am_ltV, am_ckV, cond_V1, cond_V0, bi_ite, ck_bi, ite_T, ite_F, nI_clamp, am_ckI, ile_t, ile_f, ilt_t, ilt_f, ieq_t, ieq_f, iz_t, iz_f, ilz_f, nI_add, hr, iz_b, hC1.2.2.2.1, S_canGoN hV hC1, hC1.2.2.2.2.1]
      cases hz : Nat.beq (odN (cd n m v 0 s) g set) 0 with
      | true =>
        have hz := Nat.eq_of_beq_eq_true hz
        exact ih (set + 1) F w1 (by omega) (by omega) k (fun S hS => by rw [h S hS, odP_z hz])
      | false =>
        rw [cond_false, mk_N, nx_and, cd_mask]
        obtain ⟨w2, e2, k2, h2⟩ := inner (L_Ord_countAll_43 F) set hset n 0 am_NF w1 (by omega) (by show n < 4000; omega) k h
        obtain ⟨w3, e3, k3, h3⟩ := ih (set + 1) F w2 (by omega) (by omega) k2 h2
        exact ⟨w3, e2.trans e3, k3, h3⟩
  have start : ∀ (d i F : Nat) (w1 : am_W), i + d = 256 → d < F → EX (fun a => Nat.beq a 37) w w1 → (∀ S, S < i → w1.1 37 S = nI 0) → ∃ w2, L_Ord_countAll_2 F (nI i) w1 = some w2 ∧ EX (fun a => Nat.beq a 37) w w2 ∧ ∀ S, S < 2 ^ n → w2.1 37 S = nI (odN (cd n m v 0 s) g S) := by
    intro d
    induction d with
    | zero =>
      intro i F w1 hi hF k h
      obtain ⟨F, rfl⟩ : ∃ j, F = j + 1 := ⟨F - 1, by omega⟩
      have hg1 : w1.1 1 1 = nI g := (congrFun (k 1 rfl) 1).trans hC.2.1
      have hg2 : (wsf w1 37 g (nI 1)).1 1 1 = nI g := (wsf_nc rfl).trans hg1
      obtain ⟨w3, e3, k3, h3⟩ := outer (2 ^ n - g) g am_NF (wsf w1 37 g (nI 1)) (by omega) (by show _ < 4000; omega) (EX_t k (EX_sf rfl)) (fun S hS => by
        rw [odP_g]
        by_cases e : S = g
        · rw [if_pos e, e, wsf_at]
        · rw [if_neg e, wsf_ne e, h S (by omega)])
      refine ⟨w3, ?_, k3, h3⟩
      show F_Ord_countAll_2 _ _ _ = _
      unfold F_Ord_countAll_2
      simp (disch := omega) only [nI_clamp, am_ckI, ile_t, ile_f, ilt_t, ilt_f, ieq_t, ieq_f, iz_t, iz_f, ilz_f, nI_add, hg1, bn_V, am_ltV, am_ckV, cond_V1, cond_V0, bi_ite, ck_bi, ite_T, ite_F, wst_f, hg2]
      exact e3
    | succ d ih =>
      intro i F w1 hi hF k h
      obtain ⟨F, rfl⟩ : ∃ j, F = j + 1 := ⟨F - 1, by omega⟩
      show ∃ w2, F_Ord_countAll_2 _ _ _ = _ ∧ _
      unfold F_Ord_countAll_2
      simp (disch := omega) only [nI_clamp, am_ckI, ile_t, ile_f, ilt_t, ilt_f, ieq_t, ieq_f, iz_t, iz_f, ilz_f, nI_add, bn_V, am_ltV, am_ckV, cond_V1, cond_V0, bi_ite, ck_bi, ite_T, ite_F, wst_f]
      refine ih (i + 1) F _ (by omega) (by omega) (EX_t k (EX_sf rfl)) (fun S hS => ?_)
      by_cases e : S = i
      · rw [e, wsf_at]
      · rw [wsf_ne e]; exact h S (by omega)
  unfold F_Ord_countAll
  exact start 256 0 am_NF w rfl (by show 256 < 4000; omega) (EX_r _ _) (fun S hS => by omega)
/-! the model's counts: longs -/
def wlg (w : am_W) (h : Nat) (ν : Nat → Int64) : am_W := ((wsf w 53 4 (nI h)).1, ν, w.2.2)
theorem wlg_s {h : Nat} {ν : Nat → Int64} {i : Nat} {y : Int64} (hi : i < 2 ^ 31) : wsl (wlg w h ν) (nI i) y = wlg w h (vp_updL ν i y) := by
  unfold wsl wlg
  rw [nI_clamp hi]
theorem wlg_g {h h2 : Nat} {ν : Nat → Int64} : wsf (wlg w h ν) 53 4 (nI h2) = wlg w h2 ν := by
  unfold wlg wsf
  dsimp only
  rw [mf_mf, mf_s, upd_upd]
theorem wlg_MM (hM : MM n m g s v w) (h : Nat) (ν : Nat → Int64) : MM n m h s v (wlg w h ν) := ⟨hM.1, rfl, hM.2.2.1, hM.2.2.2.1, hM.2.2.2.2.1, hM.2.2.2.2.2⟩
theorem lz_b {α : Type} {k : Nat} (hk : k < 2 ^ 31) {A B : α} : (if lg_cmp (lN k) (lN 0) ≤ 0 then A else B) = bif Nat.beq k 0 then A else B := by
  unfold lg_cmp
  by_cases h : k = 0
  · subst h
    exact if_pos (by decide)
  · rw [if_pos ((lN_lt (by omega) hk).mpr (by omega)), nbf h]
    exact if_neg (by decide)
theorem D_count (hV : VI n m v) (hM : MM n m g s v w) (hg : g < 2 ^ n) {b : Int32} {x : Nat} (hb : ∀ t, t < 8 → (nI t = b ↔ x.testBit t = true)) : ∃ ν, F_Mod_countsOrders b w = some (w.1, ν, w.2.2) ∧ ∀ S, S < 2 ^ n → ν S = lN (odN (cd n m v x s) g S) := by
  have hn := hV.1
  have h8 := two8 hn
  have inner : ∀ (r : Int32 → Int32 → Int32 → am_W → Option am_W) (set : Nat), set < 2 ^ n → 0 < odN (cd n m v x s) g set → ∀ (d t F : Nat) (ν : Nat → Int64), t + d = n → d < F → (∀ S, S < 2 ^ n → ν S = lN (odP (cd n m v x s) g set t S)) → ∃ ν2, L_Mod_countsOrders_54 r F b (nI g) (nI set) (nI t) (wlg w set ν) = r b (nI g) (nI (set + 1)) (wlg w set ν2) ∧ ∀ S, S < 2 ^ n → ν2 S = lN (odP (cd n m v x s) g (set + 1) 0 S) := by
    intro r set hset hpos d
    induction d with
    | zero =>
      intro t F ν ht hF h
      obtain ⟨F, rfl⟩ : ∃ j, F = j + 1 := ⟨F - 1, by omega⟩
      have hM1 := wlg_MM hM set ν
      refine ⟨ν, ?_, fun S hS => ?_⟩
      · show F_Mod_countsOrders_54 _ _ _ _ _ _ _ = _
        unfold F_Mod_countsOrders_54 F_Mod_countsOrders_126
        simp (disch := omega) only [hM1.1, nI_clamp, am_ckI, ile_t, ile_f, ilt_t, ilt_f, ieq_t, ieq_f, iz_t, iz_f, ilz_f, nI_add]
      · rw [h S hS, odP_to (fun u h1 _ => ?_)]
        unfold cd
        rw [decide_eq_false (by omega)]; rfl
    | succ d ih =>
      intro t F ν ht hF h
      obtain ⟨F, rfl⟩ : ∃ j, F = j + 1 := ⟨F - 1, by omega⟩
      have hM1 := wlg_MM hM set ν
      have htn : t < n := by omega
      have hk6 := (hV.2.2.1 t htn).1
      have hlt := odN_lt (c := cd n m v x s) (g := g) set
      have hν : (wlg w set ν).2.1 set = lN (odN (cd n m v x s) g set) := by
        show ν set = _
        rw [h set hset, odP_full (Nat.le_refl set)]
      have hcd : cd n m v x s set t = (!x.testBit t && (!(Nat.beq (v 1 t) 5) && cg m v set s t)) := by
        unfold cd evr
        rw [decide_eq_true htn]; rfl
      have no : cd n m v x s set t = false → ∃ ν2, L_Mod_countsOrders_54 r F b (nI g) (nI set) (nI (t + 1)) (wlg w set ν) = r b (nI g) (nI (set + 1)) (wlg w set ν2) ∧ ∀ S, S < 2 ^ n → ν2 S = lN (odP (cd n m v x s) g (set + 1) 0 S) := fun hc => ih (t + 1) F ν (by omega) (by omega) (fun S hS => by rw [h S hS, odP_no hc])
      show ∃ ν2, F_Mod_countsOrders_54 _ _ _ _ _ _ _ = _ ∧ _
      unfold F_Mod_countsOrders_54 F_Mod_countsOrders_126 F_Mod_countsOrders_120
      simp (disch := omega) only [hM1.1, nI_clamp, am_ckI, ile_t, ile_f, ilt_t, ilt_f, ieq_t, ieq_f, iz_t, iz_f, ilz_f, nI_add, bn_V, am_ltV, am_ckV, cond_V1, cond_V0, bi_ite, ck_bi, ite_T, ite_F, hν, lz_b, nbf (by omega : ¬ odN (cd n m v x s) g set = 0), (hM1.2.2.2.2.1 t htn).1, ieq_b, D_canGo hV hM1 htn, s_one, nx_or]
      cases hx : x.testBit t with
      | true =>
        rw [if_pos ((hb t (by omega)).mpr hx)]
        exact no (by rw [hcd, hx]; rfl)
      | false =>
        rw [if_neg (fun q => by rw [(hb t (by omega)).mp q] at hx; cases hx)]
        cases h5 : Nat.beq (v 1 t) 5 with
        | true => exact no (by rw [hcd, hx, h5]; rfl)
        | false =>
          cases h6 : cg m v set s t with
          | false => exact no (by rw [hcd, hx, h5, h6]; rfl)
          | true =>
            have hc : cd n m v x s set t = true := by rw [hcd, hx, h5, h6]; rfl
            have h0 := (cd_not hc).2
            have hlt2 : set ||| 2 ^ t < 2 ^ n := or_lt hset (Nat.pow_lt_pow_right (by omega) htn)
            have hν2 : (wlg w set ν).2.1 (set ||| 2 ^ t) = lN (odP (cd n m v x s) g set t (set ||| 2 ^ t)) := h _ hlt2
            simp (disch := omega) only [cond_false, cond_true, nI_clamp, am_ckI, ile_t, ile_f, ilt_t, ilt_f, ieq_t, ieq_f, iz_t, iz_f, ilz_f, nI_add, bn_V, am_ltV, am_ckV, cond_V1, cond_V0, bi_ite, ck_bi, ite_T, ite_F, hν2, wlg_s, lN_add]
            refine ih (t + 1) F _ (by omega) (by omega) (fun S hS => ?_)
            rw [odP_add (by omega) hc h0]
            unfold vp_updL
            by_cases e : S = set ||| 2 ^ t
            · rw [if_pos e, if_pos e, e]
            · rw [if_neg e, if_neg e, h S hS]
  have skip : ∀ (r : Int32 → Int32 → Int32 → am_W → Option am_W) (set F : Nat) (ν : Nat → Int64), set < 2 ^ n → ν set = lN 0 → L_Mod_countsOrders_54 r (F + 1) b (nI g) (nI set) (nI 0) (wlg w set ν) = r b (nI g) (nI (set + 1)) (wlg w set ν) := by
    intro r set F ν hset h
    have hM1 := wlg_MM hM set ν
    have hν : (wlg w set ν).2.1 set = lN 0 := h
    show F_Mod_countsOrders_54 _ _ _ _ _ _ _ = _
    unfold F_Mod_countsOrders_54 F_Mod_countsOrders_126
    rw [hM1.1, in_nI (by omega : set < 256) (by omega), am_ckT, nI_clamp (by omega), hν, lz_b (by omega), nI_add]
    show (if nI n ≤ nI 0 then r b (nI g) (nI (set + 1)) (wlg w set ν) else r b (nI g) (nI (set + 1)) (wlg w set ν)) = _
    rw [ite_self]
  have outer : ∀ (d set F h0 : Nat) (ν : Nat → Int64), set + d = 2 ^ n → d < F → (∀ S, S < 2 ^ n → ν S = lN (odP (cd n m v x s) g set 0 S)) → ∃ ν2, L_Mod_countsOrders_38 F b (nI g) (nI set) (wlg w h0 ν) = some (w.1, ν2, w.2.2) ∧ ∀ S, S < 2 ^ n → ν2 S = lN (odN (cd n m v x s) g S) := by
    intro d
    induction d with
    | zero =>
      intro set F h0 ν hs hF h
      obtain ⟨F, rfl⟩ : ∃ j, F = j + 1 := ⟨F - 1, by omega⟩
      have hM1 := wlg_MM hM h0 ν
      refine ⟨ν, ?_, fun S hS => by rw [h S hS, odP_full (by omega)]⟩
      have := Nat.two_pow_pos n
      show F_Mod_countsOrders_38 _ _ _ _ _ = _
      unfold F_Mod_countsOrders_38
      simp (disch := omega) only [D_everything hV hM1, bn_V, am_ltV, am_ckV, cond_V1, cond_V0, bi_ite, ck_bi, ite_T, ite_F, nI_clamp, am_ckI, ile_t, ile_f, ilt_t, ilt_f, ieq_t, ieq_f, iz_t, iz_f, ilz_f, nI_add, wlg_g]
      unfold wlg
      rw [wsf_e hM.2.1]
    | succ d ih =>
      intro set F h0 ν hs hF h
      obtain ⟨F, rfl⟩ : ∃ j, F = j + 1 := ⟨F - 1, by omega⟩
      have hM1 := wlg_MM hM h0 ν
      have hset : set < 2 ^ n := by omega
      have hν : ν set = lN (odN (cd n m v x s) g set) := by rw [h set hset, odP_full (Nat.le_refl set)]
      show ∃ ν2, F_Mod_countsOrders_38 _ _ _ _ _ = _ ∧ _
      unfold F_Mod_countsOrders_38
      simp (disch := omega) only [D_everything hV hM1, bn_V, am_ltV, am_ckV, cond_V1, cond_V0, bi_ite, ck_bi, ite_T, ite_F, nI_clamp, am_ckI, ile_t, ile_f, ilt_t, ilt_f, ieq_t, ieq_f, iz_t, iz_f, ilz_f, nI_add, wlg_g]
      by_cases hz : odN (cd n m v x s) g set = 0
      · rw [hz] at hν
        have e := skip (L_Mod_countsOrders_38 F) set 3999 ν hset hν
        have e : L_Mod_countsOrders_54 (L_Mod_countsOrders_38 F) am_NF b (nI g) (nI set) (nI 0) (wlg w set ν) = _ := e
        rw [e]
        exact ih (set + 1) F set ν (by omega) (by omega) (fun S hS => by rw [h S hS, odP_z hz])
      · obtain ⟨ν2, e2, h2⟩ := inner (L_Mod_countsOrders_38 F) set hset (by omega) n 0 am_NF ν (by omega) (by show n < 4000; omega) h
        rw [e2]
        exact ih (set + 1) F set ν2 (by omega) (by omega) h2
  have start : ∀ (d i F : Nat) (ν : Nat → Int64), i + d = 256 → d < F → (∀ S, S < i → ν S = lN (if S = g then 1 else 0)) → ∃ ν2, L_Mod_countsOrders_7 F b (nI g) (nI i) (wlg w g ν) = some (w.1, ν2, w.2.2) ∧ ∀ S, S < 2 ^ n → ν2 S = lN (odN (cd n m v x s) g S) := by
    intro d
    induction d with
    | zero =>
      intro i F ν hi hF h
      obtain ⟨F, rfl⟩ : ∃ j, F = j + 1 := ⟨F - 1, by omega⟩
      show ∃ ν2, F_Mod_countsOrders_7 _ _ _ _ _ = _ ∧ _
      unfold F_Mod_countsOrders_7
      simp (disch := omega) only [nI_clamp, am_ckI, ile_t, ile_f, ilt_t, ilt_f, ieq_t, ieq_f, iz_t, iz_f, ilz_f, nI_add]
      exact outer (2 ^ n - g) g am_NF g ν (by omega) (by show _ < 4000; omega) (fun S hS => by rw [odP_g]; exact h S (by omega))
    | succ d ih =>
      intro i F ν hi hF h
      obtain ⟨F, rfl⟩ : ∃ j, F = j + 1 := ⟨F - 1, by omega⟩
      have step : ∀ k, k = (if i = g then 1 else 0) → ∃ ν2, L_Mod_countsOrders_7 F b (nI g) (nI (i + 1)) (wlg w g (vp_updL ν i (lN k))) = some (w.1, ν2, w.2.2) ∧ ∀ S, S < 2 ^ n → ν2 S = lN (odN (cd n m v x s) g S) := fun k hk => ih (i + 1) F _ (by omega) (by omega) (fun S hS => by
        unfold vp_updL
        by_cases e : S = i
        · rw [if_pos e, hk, e]
        · rw [if_neg e]; exact h S (by omega))
      show ∃ ν2, F_Mod_countsOrders_7 _ _ _ _ _ = _ ∧ _
      unfold F_Mod_countsOrders_7 F_Mod_countsOrders_29
      simp (disch := omega) only [nI_clamp, am_ckI, ile_t, ile_f, ilt_t, ilt_f, ieq_t, ieq_f, iz_t, iz_f, ilz_f, nI_add, bn_V, am_ltV, am_ckV, cond_V1, cond_V0, bi_ite, ck_bi, ite_T, ite_F, wlg_s]
      by_cases e : i = g
      · rw [ieq_t e]; exact step 1 (if_pos e).symm
      · rw [ieq_f e (by omega) (by omega)]; exact step 0 (if_neg e).symm
  obtain ⟨ν2, e2, h2⟩ := start 256 0 am_NF w.2.1 rfl (by show 256 < 4000; omega) (fun S hS => by omega)
  have ew : wlg w g w.2.1 = w := by
    unfold wlg
    rw [wsf_e hM.2.1]
  rw [ew] at e2
  refine ⟨ν2, ?_, h2⟩
  unfold F_Mod_countsOrders
  rw [hM.2.1]
  exact e2
theorem b_non : ∀ t, t < 8 → (nI t = -nI 1 ↔ (0 : Nat).testBit t = true) := fun t ht => ⟨fun q => absurd q (m1_ne (by omega)), fun q => by rw [Nat.zero_testBit] at q; cases q⟩
theorem set_ok {a : Int32} (hn : n ≤ 8) : ((a &&& (nI (2 ^ n - 1) ^^^ (-nI 1))) = 0) ↔ am_in a (2 ^ n) = true := by
  have h8 := two8 hn
  constructor
  · intro h
    have key : ∀ i, i < 32 → n ≤ i → bt a i = false := fun i hi hni => by
      have h3 : bt (a &&& (nI (2 ^ n - 1) ^^^ (-nI 1))) i = bt (nI 0) i := congrArg (fun q => bt q i) h
      rw [b_and, b_not _ hi, b_all (by omega) hi, b_0i, decide_eq_false (by omega), Bool.not_false, Bool.and_true] at h3
      exact h3
    obtain ⟨k, hk, rfl⟩ := small_ex (x := a) (fun i h9 hi => key i hi (by omega))
    refine in_nI (Nat.lt_pow_two_of_testBit _ (fun i hi => ?_)) (by omega)
    by_cases h3 : i < 32
    · have := key i h3 hi
      rwa [b_nI h3] at this
    · exact Nat.testBit_lt_two_pow (Nat.lt_of_lt_of_le (show k < 2 ^ 9 from hk) (Nat.pow_le_pow_right (by decide) (by omega : 9 ≤ i)))
  · intro h
    obtain ⟨k, hk, rfl⟩ := in_ex h (by omega)
    refine b_z (fun i hi => ?_)
    rw [b_and, b_not _ hi, b_all (by omega) hi, b_nI hi]
    by_cases h3 : i < n
    · rw [decide_eq_true h3, Bool.not_true, Bool.and_false]
    · rw [Nat.testBit_lt_two_pow (Nat.lt_of_lt_of_le hk (Nat.pow_le_pow_right (by omega) (by omega)))]; rfl
end
theorem B_rows (a : Int32) : BOTHL (F_Loc_rows a) (F_Mod_rows a) := BOTHL_q (fun {n m g s T f v te tc w} hq => by
  obtain ⟨hV, hg, hs, hC, hM, hT, hX, hS, hP, hI, hA⟩ := id hq
  have hn := hV.1
  have h8 := two8 hn
  have hp := Nat.two_pow_pos n
  have hD : ∀ w2, MM n m g s v w2 → F_Mod_rows a w2 = bif am_in a (2 ^ n) then ((F_Mod_countsOrders (-nI 1) w2).bind fun w3 => am_ck (am_in a 256) (some ((w3.2.1 a.toNatClampNeg), w3))) else some (-lN 4611686018427387904, w2) := fun w2 hM2 => by
    unfold F_Mod_rows
    rw [D_everything hV hM2, bn_s, D_in0 (by omega), show 2 ^ n - 1 + 1 = 2 ^ n from by omega, bn_s, bi_ite]
  cases ha : am_in a (2 ^ n) with
  | false =>
    refine ⟨-lN 4611686018427387904, w, w, ?_, ?_, KP_r w⟩
    · unfold F_Loc_rows
      rw [S_allThings hV hC, bn_s, if_neg (fun q => by rw [(set_ok hn).mp q] at ha; cases ha)]
    · rw [hD w hM, ha]; rfl
  | true =>
    obtain ⟨S, hS, rfl⟩ := in_ex ha (by omega)
    obtain ⟨w1, e1, k1, r1⟩ := S_count hV hC hg
    have kp1 : KP w w1 := KP_b 37 (fun _ => rfl) k1
    have hM1 : MM n m g s v w1 := MM_fr rfl kp1 hM
    obtain ⟨ν, e2, r2⟩ := D_count hV hM1 hg (x := 0) b_non
    have hlt := odN_lt (c := cd n m v 0 s) (g := g) S
    refine ⟨lN (odN (cd n m v 0 s) g S), w1, (w1.1, ν, w1.2.2), ?_, ?_, kp1⟩
    · unfold F_Loc_rows F_Ord_leadingTo
      rw [S_allThings hV hC, bn_s, if_pos ((set_ok hn).mpr ha), e1]
      simp (disch := omega) only [bn_V, am_ltV, am_ckV, cond_V1, cond_V0, bi_ite, ck_bi, ite_T, ite_F, nI_clamp, am_ckI, ile_t, ile_f, ilt_t, ilt_f, ieq_t, ieq_f, iz_t, iz_f, ilz_f, nI_add, r1 S hS, nI_l]
    · rw [hD w1 hM1, ha, e2]
      simp (disch := omega) only [bn_V, am_ltV, am_ckV, cond_V1, cond_V0, bi_ite, ck_bi, ite_T, ite_F, nI_clamp, am_ckI, ile_t, ile_f, ilt_t, ilt_f, ieq_t, ieq_f, iz_t, iz_f, ilz_f, nI_add, r2 S hS])
theorem B_ways : BOTHL F_Loc_ways F_Mod_ways := BOTHL_q (fun {n m g s T f v te tc w} hq => by
  obtain ⟨hV, hg, hs, hC, hM, hT, hX, hS, hP, hI, hA⟩ := id hq
  have hn := hV.1
  have h8 := two8 hn
  have hS := gal_lt (n := n) (m := m) (v := v) (x := 0) (s := s) hg
  obtain ⟨w1, e1, k1, r1⟩ := S_count hV hC hg
  have kp1 : KP w w1 := KP_b 37 (fun _ => rfl) k1
  have hM1 : MM n m g s v w1 := MM_fr rfl kp1 hM
  obtain ⟨ν, e2, r2⟩ := D_count hV hM1 hg (x := 0) b_non
  have hlt := odN_lt (c := cd n m v 0 s) (g := g) (gal n m v 0 s g)
  have hM2 : MM n m g s v (w1.1, ν, w1.2.2) := hM1
  refine ⟨lN (odN (cd n m v 0 s) g (gal n m v 0 s g)), w1, (w1.1, ν, w1.2.2), ?_, ?_, kp1⟩
  · unfold F_Loc_ways F_Ord_leadingTo
    rw [hC.2.2.2.1, S_gal hV hC, bn_s, e1]
    simp (disch := omega) only [bn_V, am_ltV, am_ckV, cond_V1, cond_V0, bi_ite, ck_bi, ite_T, ite_F, nI_clamp, am_ckI, ile_t, ile_f, ilt_t, ilt_f, ieq_t, ieq_f, iz_t, iz_f, ilz_f, nI_add, r1 _ hS, nI_l]
  · unfold F_Mod_ways
    rw [e2, bn_s, D_gal hV hM2]
    simp (disch := omega) only [bn_V, am_ltV, am_ckV, cond_V1, cond_V0, bi_ite, ck_bi, ite_T, ite_F, nI_clamp, am_ckI, ile_t, ile_f, ilt_t, ilt_f, ieq_t, ieq_f, iz_t, iz_f, ilz_f, nI_add, r2 _ hS])
