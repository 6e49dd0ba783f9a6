/-! ===== the rails' own steps ===== -/
/-- what a set of a lock may be -/
def thr (n : Nat) (a : Int32) : Bool := !(decide (a = 0)) && decide ((a &&& ((nI (2 ^ n - 1) ||| nI 256) ^^^ (-nI 1))) = 0)
section
variable {n m g s : Nat} {v : am_V} {w : am_W}
theorem S_isThrough (hV : VI n m v) (hC : CC n m g s v w) {a : Int32} : F_Rail_isThrough a w = some (bi (thr n a), w) := by
  unfold F_Rail_isThrough thr
  by_cases h1 : a = 0
  · rw [if_pos h1, decide_eq_true h1]; rfl
  · rw [if_neg h1, decide_eq_false h1, S_allThings hV hC, bn_s]
    by_cases h2 : (a &&& ((nI (2 ^ n - 1) ||| nI 256) ^^^ (-nI 1))) = 0
    · rw [decide_eq_true h2, if_pos h2]; rfl
    · rw [decide_eq_false h2, if_neg h2]; rfl
theorem S_regrip {l : Nat} (hn : n ≤ 8) (h0 : w.1 1 0 = nI n) (hl : l < 10) (h7 : w.1 7 l = nI (v 6 l)) (h6 : w.1 6 l = nI (v 5 l)) (h5 : v 5 l < 3) (ht : ∀ t, t < n → w.1 2 t = nI (v 1 t) ∧ w.1 3 t = nI (v 2 t) ∧ v 1 t < 6 ∧ v 2 t < 10) : F_Rail_regrip (nI l) w = some (wsf w 8 l (mk (gr v l) n)) := by
  unfold F_Rail_regrip
  refine lp_0 (G := fun k i => L_Rail_regrip_4 k (nI l) (mk (gr v l) i) (nI i) w) (m := n) ?_ ?_ (by show n < 4000; omega)
  · intro k i hi
    show F_Rail_regrip_4 _ _ _ _ _ = _
    obtain ⟨t1, t2, t3, t4⟩ := ht i hi
    unfold F_Rail_regrip_4
    simp (disch := omega) only [h0, nI_clamp, am_ckI, ile_t, ile_f, ilt_t, ilt_f, ieq_t, ieq_f, iz_t, iz_f, ilz_f, nI_add, h7, h6, t1, t2, S_hasN, S_isHeld, Option.bind_some, am_ltU, am_ckT, cond_true, cond_false, bi_ite, ck_bi, ite_T, ite_F]
    cases h1 : (v 6 l).testBit i
    · rw [mk_n (by unfold gr; rw [h1]; rfl), ← nI_add]; rfl
    · cases h2 : hk (v 1 i) (v 2 i) (v 5 l)
      · rw [mk_n (by unfold gr; rw [h1, h2]; rfl), ← nI_add]; rfl
      · rw [mk_s (by unfold gr; rw [h1, h2]; rfl) (by omega), ← nI_add]; rfl
  · intro k
    show F_Rail_regrip_4 _ _ _ _ _ = _
    unfold F_Rail_regrip_4
    simp (disch := omega) only [h0, nI_clamp, am_ckI, ile_t, ile_f, ilt_t, ilt_f, ieq_t, ieq_f, iz_t, iz_f, ilz_f, nI_add, Option.bind_some, am_ltU, am_ckT, cond_true, cond_false, bi_ite, ck_bi, ite_T, ite_F, wst_f]
/-- what regrip asks of the cells -/
def RG (n m : Nat) (v : am_V) (w : am_W) : Prop := w.1 1 0 = nI n ∧ w.1 1 2 = nI m ∧ (∀ t, t < n → w.1 2 t = nI (v 1 t) ∧ w.1 3 t = nI (v 2 t) ∧ v 1 t < 6 ∧ v 2 t < 10) ∧ ∀ l, l < m → w.1 7 l = nI (v 6 l) ∧ w.1 6 l = nI (v 5 l) ∧ v 5 l < 3
theorem S_grips (hn : n ≤ 8) (hm : m ≤ 10) : ∀ (d i k : Nat) (w : am_W), RG n m v w → i + d = m → d < k → ∃ w', L_Rail_putKind_47 k (nI i) w = some w' ∧ (∀ c, ¬ c = 8 → w'.1 c = w.1 c) ∧ ∀ l, l < m → (i ≤ l → w'.1 8 l = mk (gr v l) n) ∧ (l < i → w'.1 8 l = w.1 8 l) := by
  intro d
  induction d with
  | zero =>
    intro i k w hR hi hk
    obtain ⟨k, rfl⟩ : ∃ j, k = j + 1 := ⟨k - 1, by omega⟩
    refine ⟨w, ?_, fun _ _ => rfl, fun l hl => ⟨fun q => by omega, fun _ => rfl⟩⟩
    show F_Rail_putKind_47 _ _ _ = _
    unfold F_Rail_putKind_47
    simp (disch := omega) only [hR.2.1, nI_clamp, am_ckI, ile_t, ile_f, ilt_t, ilt_f, ieq_t, ieq_f, iz_t, iz_f, ilz_f, nI_add]
  | succ d ih =>
    intro i k w hR hi hk
    obtain ⟨k, rfl⟩ : ∃ j, k = j + 1 := ⟨k - 1, by omega⟩
    have hin : i < m := by omega
    obtain ⟨r7, r6, r5⟩ := hR.2.2.2 i hin
    have hR2 : RG n m v (wsf w 8 i (mk (gr v i) n)) := hR
    obtain ⟨w', e1, e2, e3⟩ := ih (i + 1) k _ hR2 (by omega) (by omega)
    refine ⟨w', ?_, fun c hc => (e2 c hc).trans (mf_n (nbf hc)), fun l hl => ⟨fun q => ?_, fun q => ?_⟩⟩
    · show F_Rail_putKind_47 _ _ _ = _
      unfold F_Rail_putKind_47
      simp (disch := omega) only [hR.2.1, nI_clamp, am_ckI, ile_t, ile_f, ilt_t, ilt_f, ieq_t, ieq_f, iz_t, iz_f, ilz_f, nI_add, S_regrip hn hR.1 (by omega : i < 10) r7 r6 r5 hR.2.2.1, Option.bind_some, am_ltU, am_ckT, cond_true, cond_false, bi_ite, ck_bi, ite_T, ite_F]
      exact e1
    · by_cases e : l = i
      · subst e
        rw [(e3 l hl).2 (by omega), wsf_at]
      · exact (e3 l hl).1 (by omega)
    · rw [(e3 l hl).2 (by omega), wsf_ne (by omega)]
theorem S_goesIn {k mo h : Nat} (hk1 : k < 6) (hmo : mo < 10) (hh : h < 24) : F_Kinds_goesIn (nI k) (nI mo) (nI h) w = some (bi (bif Nat.beq k 3 then Nat.ble 6 h && Nat.ble h (6 + 2 * mo) else !(Nat.beq k 5)), w) := by
  unfold F_Kinds_goesIn
  simp (disch := omega) only [iti_3, iti_5, pk_mul, nI_add]
  cases Nat.beq k 3 with
  | true =>
    rw [cond_true, cond_true]
    by_cases h1 : 6 ≤ h
    · rw [ilt_f h1 (by omega), Nat.ble_eq_true_of_le h1]
      by_cases h2 : h ≤ 6 + 2 * mo
      · rw [ilt_f h2 (by omega), Nat.ble_eq_true_of_le h2]; rfl
      · rw [ilt_t (by omega) (by omega), show Nat.ble h (6 + 2 * mo) = false from Bool.eq_false_iff.mpr (fun q => h2 (Nat.le_of_ble_eq_true q))]; rfl
    · rw [ilt_t (by omega) (by omega), show Nat.ble 6 h = false from Bool.eq_false_iff.mpr (fun q => h1 (Nat.le_of_ble_eq_true q))]; rfl
  | false =>
    rw [cond_false, cond_false]
    cases Nat.beq k 5 <;> rfl
theorem S_everGoes {k mo : Nat} (hk1 : k < 6) (hmo : mo < 10) : F_Kinds_everGoes (nI k) (nI mo) w = some (bi (!(Nat.beq k 5)), w) := by
  unfold F_Kinds_everGoes
  have step : ∀ (q i : Nat), i < 24 → (bif Nat.beq k 3 then Nat.ble 6 i && Nat.ble i (6 + 2 * mo) else !(Nat.beq k 5)) = false → L_Kinds_everGoes_2 (q + 1) (nI k) (nI mo) (nI i) w = L_Kinds_everGoes_2 q (nI k) (nI mo) (nI (i + 1)) w := by
    intro q i hi h
    show F_Kinds_everGoes_2 _ _ _ _ _ = _
    unfold F_Kinds_everGoes_2
    simp (disch := omega) only [nI_clamp, am_ckI, ile_t, ile_f, ilt_t, ilt_f, ieq_t, ieq_f, iz_t, iz_f, ilz_f, nI_add, S_goesIn hk1 hmo hi, h, Option.bind_some, am_ltU, am_ckT, cond_true, cond_false, bi_ite, ck_bi, ite_T, ite_F]
  have stop : ∀ (q i : Nat), i < 24 → (bif Nat.beq k 3 then Nat.ble 6 i && Nat.ble i (6 + 2 * mo) else !(Nat.beq k 5)) = true → L_Kinds_everGoes_2 (q + 1) (nI k) (nI mo) (nI i) w = some (nI 1, w) := by
    intro q i hi h
    show F_Kinds_everGoes_2 _ _ _ _ _ = _
    unfold F_Kinds_everGoes_2
    simp (disch := omega) only [nI_clamp, am_ckI, ile_t, ile_f, ilt_t, ilt_f, ieq_t, ieq_f, iz_t, iz_f, ilz_f, nI_add, S_goesIn hk1 hmo hi, h, Option.bind_some, am_ltU, am_ckT, cond_true, cond_false, bi_ite, ck_bi, ite_T, ite_F]
  cases h5 : Nat.beq k 5 with
  | true =>
    have h3 : Nat.beq k 3 = false := nbf (by have := Nat.eq_of_beq_eq_true h5; omega)
    refine lp_0 (G := fun q i => L_Kinds_everGoes_2 q (nI k) (nI mo) (nI i) w) (m := 24) (fun q i hi => step q i hi (by rw [h3, h5]; rfl)) (fun q => ?_) (by show 24 < 4000; omega)
    show F_Kinds_everGoes_2 _ _ _ _ _ = _
    unfold F_Kinds_everGoes_2
    simp (disch := omega) only [nI_clamp, am_ckI, ile_t, ile_f, ilt_t, ilt_f, ieq_t, ieq_f, iz_t, iz_f, ilz_f, nI_add]
    rfl
  | false =>
    cases h3 : Nat.beq k 3 with
    | true =>
      refine lp_0 (G := fun q i => L_Kinds_everGoes_2 q (nI k) (nI mo) (nI i) w) (m := 6) (fun q i hi => step q i (by omega) (by rw [h3, show Nat.ble 6 i = false from Bool.eq_false_iff.mpr (fun q => by have := Nat.le_of_ble_eq_true q; omega)]; rfl)) (fun q => stop q 6 (by omega) (by rw [h3, Nat.ble_eq_true_of_le (by omega : 6 ≤ 6 + 2 * mo)]; rfl)) (by show 6 < 4000; omega)
    | false =>
      refine lp_0 (G := fun q i => L_Kinds_everGoes_2 q (nI k) (nI mo) (nI i) w) (m := 0) (fun q i hi => by omega) (fun q => stop q 0 (by omega) (by rw [h3, h5]; rfl)) (by show 0 < 4000; omega)
theorem S_putKind {t x : Nat} (hn : n ≤ 8) (hm : m ≤ 10) (ht : t < n) (hx : x < 6) (hvx : v 1 t = x) (h0 : w.1 1 0 = nI n) (h2 : w.1 1 2 = nI m) (hT : ∀ u, u < n → (¬ u = t → w.1 2 u = nI (v 1 u)) ∧ w.1 3 u = nI (v 2 u) ∧ v 1 u < 6 ∧ v 2 u < 10) (hL : ∀ l, l < m → w.1 7 l = nI (v 6 l) ∧ w.1 6 l = nI (v 5 l) ∧ v 5 l < 3) (hE : ∀ i, i < 32 → ¬ i = t → bt (w.1 1 4) i = (decide (i < n) && evr v i)) : ∃ w', F_Rail_putKind (nI t) (nI x) w = some w' ∧ (∀ c, ¬ c = 1 → ¬ c = 2 → ¬ c = 8 → w'.1 c = w.1 c) ∧ (∀ j, ¬ j = 4 → w'.1 1 j = w.1 1 j) ∧ w'.1 1 4 = mk (evr v) n ∧ (∀ u, u < n → w'.1 2 u = nI (v 1 u)) ∧ ∀ l, l < m → w'.1 8 l = mk (gr v l) n := by
  have h3 := (hT t ht).2.1
  have h4 := (hT t ht).2.2.2
  have fin : ∀ e : Int32, e = mk (evr v) n → ∃ w', F_Rail_putKind_42 e (wsf w 2 t (nI x)) = some w' ∧ (∀ c, ¬ c = 1 → ¬ c = 2 → ¬ c = 8 → w'.1 c = w.1 c) ∧ (∀ j, ¬ j = 4 → w'.1 1 j = w.1 1 j) ∧ w'.1 1 4 = mk (evr v) n ∧ (∀ u, u < n → w'.1 2 u = nI (v 1 u)) ∧ ∀ l, l < m → w'.1 8 l = mk (gr v l) n := by
    rintro e rfl
    have hk2 : ∀ u, u < n → (wsf (wsf w 2 t (nI x)) 1 4 (mk (evr v) n)).1 2 u = nI (v 1 u) := fun u hu => by
      show (wsf w 2 t (nI x)).1 2 u = _
      by_cases e : u = t
      · rw [e, wsf_at, hvx]
      · rw [wsf_ne e]; exact (hT u hu).1 e
    have hR : RG n m v (wsf (wsf w 2 t (nI x)) 1 4 (mk (evr v) n)) := ⟨h0, h2, fun u hu => ⟨hk2 u hu, (hT u hu).2⟩, hL⟩
    obtain ⟨w', e1, e2, e3⟩ := S_grips hn hm m 0 am_NF _ hR (by omega) (by show m < 4000; omega)
    refine ⟨w', e1, fun c c1 c2 c8 => ?_, fun j hj => ?_, ?_, fun u hu => ?_, fun l hl => (e3 l hl).1 (by omega)⟩
    · rw [e2 c c8]
      show mf (mf w.1 2 _) 1 _ c = _
      rw [mf_n (nbf c1), mf_n (nbf c2)]
    · rw [e2 1 (by omega), wsf_ne hj]; rfl
    · rw [e2 1 (by omega), wsf_at]
    · rw [e2 2 (by omega)]; exact hk2 u hu
  unfold F_Rail_putKind
  have h3b : (wsf w 2 t (nI x)).1 3 t = nI (v 2 t) := h3
  simp (disch := omega) only [nI_clamp, am_ckI, ile_t, ile_f, ilt_t, ilt_f, ieq_t, ieq_f, iz_t, iz_f, ilz_f, nI_add, wst_f, Option.bind_some, am_ltU, am_ckT, cond_true, cond_false, bi_ite, ck_bi, ite_T, ite_F, h3b, S_everGoes hx h4, s_one]
  have ee : (wsf w 2 t (nI x)).1 1 4 = w.1 1 4 := rfl
  rw [ee]
  cases h5 : Nat.beq x 5 with
  | true =>
    refine fin _ (mk_ext (by omega) (fun i hi => ?_))
    rw [b_and, b_not _ hi, b_nI hi, Nat.testBit_two_pow]
    by_cases e : i = t
    · subst e
      unfold evr
      rw [decide_eq_true rfl, hvx, h5]
      simp
    · rw [hE i hi e, decide_eq_false (fun q : t = i => e q.symm)]
      simp
  | false =>
    refine fin _ (mk_ext (by omega) (fun i hi => ?_))
    rw [b_or, b_nI hi, Nat.testBit_two_pow]
    by_cases e : i = t
    · subst e
      unfold evr
      rw [decide_eq_true rfl, hvx, h5, decide_eq_true ht]
      simp
    · rw [hE i hi e, decide_eq_false (fun q : t = i => e q.symm)]
      simp
end

