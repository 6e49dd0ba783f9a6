/-! ===== the model's days ===== -/
/-- the model's memory in an hour: who is gone, the hours so far -/
def wm (w : am_W) (c : Nat) (f : Nat → Int32) : am_W := wset (wsf w 53 4 (nI c)) 72 f
theorem wm_sf {w : am_W} {c d : Nat} {f : Nat → Int32} : wsf (wm w c f) 53 4 (nI d) = wm w d f := by
  unfold wm
  rw [wsf_set (by omega), wsf_wsf]
theorem wm_st {w : am_W} {c t : Nat} {f : Nat → Int32} {x : Int32} (ht : t < 2 ^ 31) : wst (wm w c f) 72 (nI t) x = wm w c (upd f t x) := wst_set ht
section
variable {n m g s : Nat} {v : am_V} {w : am_W}
theorem MM_wm (hM : MM n m g s v w) (c : Nat) (f : Nat → Int32) : MM n m c s v (wm w c f) := MM_g hM c
theorem aF_b {cm : Nat → Nat} {f : Nat → Int32} {h c i : Nat} (hi : i < 8) (hs : sub (gN n m v s cm g h) c) (hc : c.testBit i = false) : upd (aF n m v s cm g f h c) i (nI h) = aF n m v s cm g f h (c ||| 2 ^ i) := funext fun t => by
  by_cases ht : t = i
  · subst ht
    have h3 : (gN n m v s cm g h).testBit t = false := by
      cases q : (gN n m v s cm g h).testBit t
      · rfl
      · rw [hs t q] at hc; cases hc
    rw [pk_us]
    unfold aF
    rw [show Nat.ble 8 t = false from Bool.eq_false_iff.mpr (fun q => by have := Nat.le_of_ble_eq_true q; omega), h3, Nat.testBit_or, Nat.testBit_two_pow, decide_eq_true rfl, Bool.or_true]
    rfl
  · rw [pk_un ht]
    unfold aF
    rw [Nat.testBit_or, Nat.testBit_two_pow, decide_eq_false (fun q : i = t => ht q.symm), Bool.or_false]
theorem D_round (hV : VI n m v) (hM : MM n m g s v w) (f : Nat → Int32) {h : Nat} (hh : h < 24) : ∀ (d i k c : Nat) (b : Bool), i + d = n → d < k → sub (gN n m v s (v 3) g h) c → L_Mod_round_4 k (nI h) (bi b) (nI i) (wm w c (aF n m v s (v 3) g f h c)) = some (bi (isqp n m v (wl v (v 3) h) s d i c b).2, wm w (isqp n m v (wl v (v 3) h) s d i c b).1 (aF n m v s (v 3) g f h (isqp n m v (wl v (v 3) h) s d i c b).1)) := by
  have hn := hV.1
  intro d
  induction d with
  | zero =>
    intro i k c b hi hk hs
    obtain ⟨k, rfl⟩ : ∃ j, k = j + 1 := ⟨k - 1, by omega⟩
    have hM2 := MM_wm hM c (aF n m v s (v 3) g f h c)
    show F_Mod_round_4 _ _ _ _ _ = _
    unfold F_Mod_round_4
    simp (disch := omega) only [hM2.1, nI_clamp, am_ckI, ile_t, ile_f, ilt_t, ilt_f, ieq_t, ieq_f, iz_t, iz_f, ilz_f, nI_add, Option.bind_some, am_ltU, am_ckT, cond_true, cond_false, bi_ite, ck_bi, ite_T, ite_F]
    rfl
  | succ d ih =>
    intro i k c b hi hk hs
    obtain ⟨k, rfl⟩ : ∃ j, k = j + 1 := ⟨k - 1, by omega⟩
    have hin : i < n := by omega
    have hM2 := MM_wm hM c (aF n m v s (v 3) g f h c)
    obtain ⟨t1, t2, t3⟩ := hM2.2.2.2.2.1 i hin
    obtain ⟨k1, k2, k3⟩ := hV.2.2.1 i hin
    show F_Mod_round_4 _ _ _ _ _ = _
    unfold F_Mod_round_4 F_Mod_round_60
    simp (disch := omega) only [hM2.1, nI_clamp, am_ckI, ile_t, ile_f, ilt_t, ilt_f, ieq_t, ieq_f, iz_t, iz_f, ilz_f, nI_add, t3, D_goesIn hV hM2 hin hh, D_canGo hV hM2 hin, hM2.2.1, s_one, nx_or, wm_sf, wm_st, Option.bind_some, am_ltU, am_ckT, cond_true, cond_false, bi_ite, ck_bi, ite_T, ite_F]
    rw [isqp]
    have t1 := ih (i + 1) k c b (by omega) (by omega) hs
    have hcp : cp n m v (wl v (v 3) h) s c i = (Nat.ble (v 3 i) h && gi (v 1 i) (v 2 i) h && cg m v c s i) := by
      unfold cp wl
      rw [decide_eq_true hin]; rfl
    rw [hcp]
    by_cases h1 : v 3 i ≤ h
    · rw [ilt_f h1 (by omega), Nat.ble_eq_true_of_le h1]
      cases gi (v 1 i) (v 2 i) h with
      | false => exact t1
      | true =>
        cases h2 : cg m v c s i with
        | false => exact t1
        | true =>
          have hc : c.testBit i = false := by
            unfold cg at h2
            rw [Bool.and_eq_true, Bool.not_eq_true'] at h2
            exact h2.1
          rw [cond_true, cond_true, aF_b (by omega) hs hc]
          exact ih (i + 1) k (c ||| 2 ^ i) true (by omega) (by omega) (sub_t hs sub_or)
    · rw [ilt_t (by omega) (by omega), show Nat.ble (v 3 i) h = false from Bool.eq_false_iff.mpr (fun q => h1 (Nat.le_of_ble_eq_true q))]
      exact t1
theorem D_lives (hV : VI n m v) (hM : MM n m g s v w) : F_Mod_lives w = some (wset w 72 (aF n m v s (v 3) g (w.1 72) 24 (gN n m v s (v 3) g 24))) := by
  have hn := hV.1
  have inner : ∀ (r : Int32 → Int32 → am_W → Option am_W) (h : Nat), h < 24 → ∀ (d k c : Nat) (b : Bool), left c 8 + (bif b then 1 else 0) ≤ d → d < k → sub (gN n m v s (v 3) g h) c → (∀ X, sub (gN n m v s (v 3) g h) X → clsp n m v (wl v (v 3) h) s X → sub c X) → (b = false → clsp n m v (wl v (v 3) h) s c) → L_Mod_lives_36 r k (nI g) (nI h) (bi b) (wm w c (aF n m v s (v 3) g (w.1 72) h c)) = r (nI g) (nI (h + 1)) (wm w (gN n m v s (v 3) g (h + 1)) (aF n m v s (v 3) g (w.1 72) h (gN n m v s (v 3) g (h + 1)))) := by
    intro r h hh d
    induction d with
    | zero =>
      intro k c b hd hk h1 h2 h3
      obtain ⟨k, rfl⟩ : ∃ j, k = j + 1 := ⟨k - 1, by omega⟩
      cases b with
      | true => simp at hd
      | false =>
        show F_Mod_lives_36 _ _ _ _ _ _ = _
        unfold F_Mod_lives_36
        simp only [Option.bind_some, am_ltU, am_ckT, cond_true, cond_false, bi_ite, ck_bi, ite_T, ite_F, nI_add]
        have e : c = gN n m v s (v 3) g (h + 1) := galp_eq hn h1 (h3 rfl) h2
        rw [← e]
    | succ d ih =>
      intro k c b hd hk h1 h2 h3
      obtain ⟨k, rfl⟩ : ∃ j, k = j + 1 := ⟨k - 1, by omega⟩
      show F_Mod_lives_36 _ _ _ _ _ _ = _
      unfold F_Mod_lives_36
      cases b with
      | false =>
        simp only [Option.bind_some, am_ltU, am_ckT, cond_true, cond_false, bi_ite, ck_bi, ite_T, ite_F, nI_add]
        have e : c = gN n m v s (v 3) g (h + 1) := galp_eq hn h1 (h3 rfl) h2
        rw [← e]
      | true =>
        have hr : F_Mod_round (nI h) (wm w c (aF n m v s (v 3) g (w.1 72) h c)) = _ := D_round hV hM (w.1 72) hh n 0 am_NF c false (by omega) (by show n < 4000; omega) h1
        simp only [Option.bind_some, am_ltU, am_ckT, cond_true, cond_false, bi_ite, ck_bi, ite_T, ite_F, hr]
        refine ih k _ _ ?_ (by omega) (sub_t h1 (isqp_sub n 0 c false)) (fun X q r => isqp_min r n 0 c false (h2 X q r)) ?_
        · cases hb : (isqp n m v (wl v (v 3) h) s n 0 c false).2
          · have h5 := left_le (isqp_sub (n := n) (m := m) (v := v) (p := wl v (v 3) h) (s := s) n 0 c false) 8
            simp at hd ⊢; omega
          · have h5 := isqp_l (m := m) (v := v) (p := wl v (v 3) h) (s := s) hn n 0 c hb
            simp at hd ⊢; omega
        · intro hb
          obtain ⟨h5, h6⟩ := isqp_f n 0 c hb
          rw [h5]
          intro t
          by_cases ht : t < n
          · exact h6 t (by omega) (by omega)
          · cases hc : cp n m v (wl v (v 3) h) s c t
            · rfl
            · exact absurd (cp_not hc).1 ht
  have outer : ∀ (d h k : Nat), h + d = 24 → d < k → L_Mod_lives_28 k (nI g) (nI h) (wm w (gN n m v s (v 3) g h) (aF n m v s (v 3) g (w.1 72) h (gN n m v s (v 3) g h))) = some (wset w 72 (aF n m v s (v 3) g (w.1 72) 24 (gN n m v s (v 3) g 24))) := by
    intro d
    induction d with
    | zero =>
      intro h k hi hk
      obtain ⟨k, rfl⟩ : ∃ j, k = j + 1 := ⟨k - 1, by omega⟩
      show F_Mod_lives_28 _ _ _ _ = _
      unfold F_Mod_lives_28
      simp (disch := omega) only [nI_clamp, am_ckI, ile_t, ile_f, ilt_t, ilt_f, ieq_t, ieq_f, iz_t, iz_f, ilz_f, nI_add, Option.bind_some, am_ltU, am_ckT, cond_true, cond_false, bi_ite, ck_bi, ite_T, ite_F, wm_sf]
      unfold wm
      rw [wsf_e hM.2.1, show h = 24 from by omega]
    | succ d ih =>
      intro h k hi hk
      obtain ⟨k, rfl⟩ : ∃ j, k = j + 1 := ⟨k - 1, by omega⟩
      show F_Mod_lives_28 _ _ _ _ = _
      unfold F_Mod_lives_28
      simp (disch := omega) only [nI_clamp, am_ckI, ile_t, ile_f, ilt_t, ilt_f, ieq_t, ieq_f, iz_t, iz_f, ilz_f, nI_add]
      have h9 := inner (L_Mod_lives_28 k) h (by omega) 9 am_NF (gN n m v s (v 3) g h) true (by have := left_le8 (gN n m v s (v 3) g h) 8; simp; omega) (by show 9 < 4000; omega) (sub_r _) (fun X q _ => q) (fun q => by cases q)
      refine h9.trans ?_
      rw [aF_s]
      exact ih (h + 1) k (by omega) (by omega)
  unfold F_Mod_lives
  rw [hM.2.1]
  have e0 : w = wset w 72 (fun t => bif Nat.ble 8 t || Nat.ble 0 t then w.1 72 t else -nI 1) := (wset_e (funext fun t => by
    rw [Nat.ble_eq_true_of_le (Nat.zero_le t), Bool.or_true]; rfl)).symm
  have start : ∀ (d i k : Nat), i + d = 8 → d < k → L_Mod_lives_7 k (nI g) (nI i) (wset w 72 (fun t => bif Nat.ble 8 t || Nat.ble i t then w.1 72 t else -nI 1)) = some (wset w 72 (aF n m v s (v 3) g (w.1 72) 24 (gN n m v s (v 3) g 24))) := by
    intro d
    induction d with
    | zero =>
      intro i k hi hk
      obtain ⟨k, rfl⟩ : ∃ j, k = j + 1 := ⟨k - 1, by omega⟩
      show F_Mod_lives_7 _ _ _ _ = _
      unfold F_Mod_lives_7
      simp (disch := omega) only [nI_clamp, am_ckI, ile_t, ile_f, ilt_t, ilt_f, ieq_t, ieq_f, iz_t, iz_f, ilz_f, nI_add]
      have e : (fun t => bif Nat.ble 8 t || Nat.ble i t then w.1 72 t else -nI 1) = aF n m v s (v 3) g (w.1 72) 0 g := by
        rw [aF_0, show i = 8 from by omega]
        funext t
        rw [Bool.or_self]
      rw [e]
      have h9 := outer 24 0 am_NF rfl (by show 24 < 4000; omega)
      have e2 : wm w (gN n m v s (v 3) g 0) (aF n m v s (v 3) g (w.1 72) 0 (gN n m v s (v 3) g 0)) = wset w 72 (aF n m v s (v 3) g (w.1 72) 0 g) := by
        unfold wm
        rw [gN, wsf_e hM.2.1]
      rw [e2] at h9
      exact h9
    | succ d ih =>
      intro i k hi hk
      obtain ⟨k, rfl⟩ : ∃ j, k = j + 1 := ⟨k - 1, by omega⟩
      show F_Mod_lives_7 _ _ _ _ = _
      unfold F_Mod_lives_7
      simp (disch := omega) only [nI_clamp, am_ckI, ile_t, ile_f, ilt_t, ilt_f, ieq_t, ieq_f, iz_t, iz_f, ilz_f, nI_add, wst_set, Option.bind_some, am_ltU, am_ckT, cond_true, cond_false, bi_ite, ck_bi, ite_T, ite_F]
      have e : upd (fun t => bif Nat.ble 8 t || Nat.ble i t then w.1 72 t else -nI 1) i (-nI 1) = fun t => bif Nat.ble 8 t || Nat.ble (i + 1) t then w.1 72 t else -nI 1 := funext fun t => by
        by_cases ht : t = i
        · subst ht
          rw [pk_us, show Nat.ble 8 t = false from Bool.eq_false_iff.mpr (fun q => by have := Nat.le_of_ble_eq_true q; omega), show Nat.ble (t + 1) t = false from Bool.eq_false_iff.mpr (fun q => by have := Nat.le_of_ble_eq_true q; omega)]; rfl
        · rw [pk_un ht]
          have : Nat.ble i t = Nat.ble (i + 1) t := by
            rw [Bool.eq_iff_iff]
            exact ⟨fun q => Nat.ble_eq_true_of_le (by have := Nat.le_of_ble_eq_true q; omega), fun q => Nat.ble_eq_true_of_le (by have := Nat.le_of_ble_eq_true q; omega)⟩
          rw [this]
      rw [e]
      exact ih (i + 1) k (by omega) (by omega)
  have h9 := start 8 0 am_NF rfl (by show 8 < 4000; omega)
  rw [← e0] at h9
  exact h9
end
