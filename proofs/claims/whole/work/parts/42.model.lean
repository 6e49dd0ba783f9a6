/-! ===== the model's queries by the same numbers ===== -/
theorem in_dec {a : Int32} {n : Nat} : am_in a n = decide (0 ≤ a.toInt ∧ a.toInt < n) := by
  rw [Bool.eq_iff_iff, in_iff, decide_eq_true_eq]
theorem D_inG {a b c : Int32} {w : am_W} : F_Mod_in a b c w = some (bi (decide (b.toInt ≤ a.toInt ∧ a.toInt ≤ c.toInt)), w) := by
  unfold F_Mod_in
  by_cases h1 : a < b
  · rw [if_pos h1, decide_eq_false (fun q => by rw [Int32.lt_iff_toInt_lt] at h1; omega)]; rfl
  · rw [if_neg h1]
    by_cases h2 : c < a
    · rw [if_pos h2, decide_eq_false (fun q => by rw [Int32.lt_iff_toInt_lt] at h2; omega)]; rfl
    · rw [if_neg h2, decide_eq_true (by rw [Int32.lt_iff_toInt_lt] at h1 h2; omega)]; rfl
theorem D_in0 {a : Int32} {k : Nat} {w : am_W} (hk : k < 2 ^ 30) : F_Mod_in a (nI 0) (nI k) w = some (bi (am_in a (k + 1)), w) := by
  rw [D_inG, in_dec, nI_toInt (by omega), nI_toInt (by omega)]
  refine congrArg (fun b => some (bi b, w)) (decide_eq_decide.mpr ?_)
  omega
theorem D_inm {a : Int32} {k : Nat} {w : am_W} (hk : k < 2 ^ 30) : F_Mod_in a (nI 0) (nI k - nI 1) w = some (bi (am_in a k), w) := by
  rw [D_inG, in_dec, nI_toInt (by omega), pk_sub_toInt hk (by omega)]
  refine congrArg (fun b => some (bi b, w)) (decide_eq_decide.mpr ?_)
  omega
theorem bi1_ite {α : Type} (b : Bool) {x y : α} : (if bi b = nI 1 then x else y) = bif b then x else y := by
  cases b with
  | true => exact if_pos rfl
  | false => exact if_neg (by decide)
theorem mk_z {p : Nat → Bool} {n : Nat} (hn : n ≤ 32) : (mk p n = 0) ↔ ((List.range n).all fun i => !p i) = true := by
  rw [List.all_eq_true]
  constructor
  · intro h i hi
    have hi := List.mem_range.mp hi
    have h2 := mk_b p n hn (show i < 32 by omega)
    rw [h, show (0 : Int32) = nI 0 from rfl, b_0i, decide_eq_true hi, Bool.true_and] at h2
    rw [← h2]; rfl
  · intro h
    refine b_z (fun i hi => ?_)
    rw [mk_b p n hn hi]
    by_cases h2 : i < n
    · have h3 := h i (List.mem_range.mpr h2)
      rw [Bool.not_eq_true'] at h3
      rw [h3, Bool.and_false]
    · rw [decide_eq_false h2, Bool.false_and]
/-- the model holds it -/
def MM (n m g s : Nat) (v : am_V) (w : am_W) : Prop := w.1 53 0 = nI n ∧ w.1 53 4 = nI g ∧ w.1 53 5 = nI m ∧ w.1 53 7 = nI s ∧ (∀ t, t < n → w.1 54 t = nI (v 1 t) ∧ w.1 55 t = nI (v 2 t) ∧ w.1 56 t = nI (v 3 t)) ∧ ∀ l, l < m → w.1 57 (3 * l) = nI (v 4 l) ∧ w.1 57 (3 * l + 1) = nI (v 5 l) ∧ w.1 57 (3 * l + 2) = nI (v 6 l)
section
variable {n m g s : Nat} {v : am_V} {w : am_W}
theorem D_isThing (hV : VI n m v) (hM : MM n m g s v w) {a : Int32} : F_Mod_isThing a w = some (bi (am_in a n), w) := by
  unfold F_Mod_isThing
  rw [hM.1, D_inm (by have := hV.1; omega)]
  simp only [Option.bind_some, am_ltU, am_ckT, cond_true, cond_false, bi_ite, ck_bi, ite_T, ite_F]
theorem D_isLock (hV : VI n m v) (hM : MM n m g s v w) {a : Int32} : F_Mod_isLock a w = some (bi (am_in a m), w) := by
  unfold F_Mod_isLock
  rw [hM.2.2.1, D_inm (by have := hV.2.1; omega)]
  simp only [Option.bind_some, am_ltU, am_ckT, cond_true, cond_false, bi_ite, ck_bi, ite_T, ite_F]
theorem D_isGone (hM : MM n m g s v w) {t : Nat} (ht : t < 32) : F_Mod_isGone (nI t) w = some (bi (g.testBit t), w) := by
  unfold F_Mod_isGone
  rw [hM.2.1, b_has _ t ht, b_nI ht, bi1_ite]
  cases g.testBit t <;> rfl
theorem D_isSawn (hM : MM n m g s v w) {l : Nat} (hl : l < 32) : F_Mod_isSawn (nI l) w = some (bi (s.testBit l), w) := by
  unfold F_Mod_isSawn
  rw [hM.2.2.2.1, b_has _ l hl, b_nI hl, bi1_ite]
  cases s.testBit l <;> rfl
theorem D_everything (hV : VI n m v) (hM : MM n m g s v w) : F_Mod_everything w = some (nI (2 ^ n - 1), w) := by
  unfold F_Mod_everything
  rw [hM.1, s_all (by have := hV.1; omega)]
theorem D_owner (hV : VI n m v) (hM : MM n m g s v w) {l : Nat} (hl : l < m) : F_Mod_owner (nI l) w = some (nI (v 4 l), w) := by
  have hm := hV.2.1
  obtain ⟨l4, l5, l6⟩ := hM.2.2.2.2.2 l hl
  unfold F_Mod_owner
  simp (disch := omega) only [pk_mul, nI_clamp, am_ckI, ile_t, ile_f, ilt_t, ilt_f, ieq_t, ieq_f, iz_t, iz_f, ilz_f, nI_add, l4]
theorem D_sortOf (hV : VI n m v) (hM : MM n m g s v w) {l : Nat} (hl : l < m) : F_Mod_sortOf (nI l) w = some (nI (v 5 l), w) := by
  have hm := hV.2.1
  obtain ⟨l4, l5, l6⟩ := hM.2.2.2.2.2 l hl
  unfold F_Mod_sortOf
  simp (disch := omega) only [pk_mul, nI_clamp, am_ckI, ile_t, ile_f, ilt_t, ilt_f, ieq_t, ieq_f, iz_t, iz_f, ilz_f, nI_add, l5]
theorem D_through (hV : VI n m v) (hM : MM n m g s v w) {l : Nat} (hl : l < m) : F_Mod_through (nI l) w = some (nI (v 6 l), w) := by
  have hm := hV.2.1
  obtain ⟨l4, l5, l6⟩ := hM.2.2.2.2.2 l hl
  unfold F_Mod_through
  simp (disch := omega) only [pk_mul, nI_clamp, am_ckI, ile_t, ile_f, ilt_t, ilt_f, ieq_t, ieq_f, iz_t, iz_f, ilz_f, nI_add, l6]
theorem D_isShut (hV : VI n m v) (hM : MM n m g s v w) {l : Nat} (hl : l < m) : F_Mod_isShut (nI l) w = some (bi (shu v g s l), w) := by
  have hm := hV.2.1
  have hn := hV.1
  have h4 := (hV.2.2.2 l hl).1
  unfold F_Mod_isShut shu
  simp (disch := omega) only [D_isSawn hM, D_owner hV hM hl, D_isGone hM, Option.bind_some, am_ltU, am_ckT, cond_true, cond_false, bi_ite, ck_bi, ite_T, ite_F]
  cases s.testBit l <;> cases g.testBit (v 4 l) <;> rfl
theorem D_isHeldBySort (hV : VI n m v) (hM : MM n m g s v w) {t so : Nat} (ht : t < n) (hs : so < 2 ^ 29) : F_Mod_isHeldBySort (nI t) (nI so) w = some (bi (hk (v 1 t) (v 2 t) so), w) := by
  have hn := hV.1
  obtain ⟨t1, t2, t3⟩ := hM.2.2.2.2.1 t ht
  obtain ⟨k1, k2, k3⟩ := hV.2.2.1 t ht
  unfold F_Mod_isHeldBySort F_Mod_isHeldBySort_17 F_Mod_isHeldBySort_21 hk
  simp (disch := omega) only [nI_clamp, am_ckI, ile_t, ile_f, ilt_t, ilt_f, ieq_t, ieq_f, iz_t, iz_f, ilz_f, nI_add, t1, t2, ieq_b, iz_b, pk_mul, ile_b, ble_n]
  cases h2 : Nat.beq (v 1 t) 2 with
  | true =>
    have h4 : Nat.beq (v 1 t) 4 = false := nbf (by have := Nat.eq_of_beq_eq_true h2; omega)
    rw [h4]
    cases Nat.beq so 0 <;> rfl
  | false =>
    cases Nat.beq (v 1 t) 4 <;> cases Nat.beq so 0 <;> cases Nat.ble (3 * so) (v 2 t) <;> rfl
theorem D_fixes (hV : VI n m v) (hM : MM n m g s v w) {l t : Nat} (hl : l < m) (ht : t < n) : F_Mod_fixes (nI l) (nI t) w = some (bi (fx v g s t l), w) := by
  have hm := hV.2.1
  have hn := hV.1
  obtain ⟨h4, h5, h6, h7⟩ := hV.2.2.2 l hl
  unfold F_Mod_fixes
  simp (disch := omega) only [D_through hV hM hl, D_isShut hV hM hl, D_sortOf hV hM hl, D_isHeldBySort hV hM ht, hM.2.1, Option.bind_some, am_ltU, am_ckT, cond_true, cond_false, bi_ite, ck_bi, ite_T, ite_F, b_has, b_nI, bi1_ite, ite_b (oth_0 h6 _)]
  unfold fx gr
  cases shu v g s l <;> cases (v 6 l).testBit t <;> cases hk (v 1 t) (v 2 t) (v 5 l) <;> cases oth v g l t <;> rfl
theorem D_holdsNow (hV : VI n m v) (hM : MM n m g s v w) {t : Nat} (ht : t < n) : F_Mod_holdsNow (nI t) w = some (mk (ho v g s t) m, w) := by
  have hm := hV.2.1
  have hn := hV.1
  unfold F_Mod_holdsNow
  refine lp_0 (G := fun k i => L_Mod_holdsNow_4 k (nI t) (mk (ho v g s t) i) (nI i) w) (m := m) ?_ ?_ (by show m < 4000; omega)
  · intro k i hi
    show F_Mod_holdsNow_4 _ _ _ _ _ = _
    have h4 := (hV.2.2.2 i hi).1
    unfold F_Mod_holdsNow_4
    simp (disch := omega) only [hM.2.2.1, nI_clamp, am_ckI, ile_t, ile_f, ilt_t, ilt_f, ieq_t, ieq_f, iz_t, iz_f, ilz_f, nI_add, D_owner hV hM hi, ieq_b, D_fixes hV hM hi ht, Option.bind_some, am_ltU, am_ckT, cond_true, cond_false, bi_ite, ck_bi, ite_T, ite_F]
    cases h1 : Nat.beq (v 4 i) t
    · cases h : fx v g s t i
      · rw [mk_n0 (by unfold ho; rw [h1, h]; rfl), ← nI_add]; rfl
      · rw [mk_s (by unfold ho; rw [h1, h]; rfl) (by omega), ← nI_add]; rfl
    · rw [mk_n0 (by unfold ho; rw [h1]; rfl), ← nI_add]; rfl
  · intro k
    show F_Mod_holdsNow_4 _ _ _ _ _ = _
    unfold F_Mod_holdsNow_4
    simp (disch := omega) only [hM.2.2.1, nI_clamp, am_ckI, ile_t, ile_f, ilt_t, ilt_f, ieq_t, ieq_f, iz_t, iz_f, ilz_f, nI_add]
theorem D_canGo (hV : VI n m v) (hM : MM n m g s v w) {t : Nat} (ht : t < n) : F_Mod_canGo (nI t) w = some (bi (cg m v g s t), w) := by
  have hm := hV.2.1
  have hn := hV.1
  unfold F_Mod_canGo cg
  simp (disch := omega) only [D_isGone hM, D_holdsNow hV hM ht, Option.bind_some, am_ltU, am_ckT, cond_true, cond_false, bi_ite, ck_bi, ite_T, ite_F]
  rw [ite_b1 (mk_z (by omega))]
  cases g.testBit t <;> cases ((List.range m).all fun i => !ho v g s t i) <;> rfl
theorem D_free (hV : VI n m v) (hM : MM n m g s v w) : F_Mod_free w = some (mk (cg m v g s) n, w) := by
  have hn := hV.1
  unfold F_Mod_free
  refine lp_0 (G := fun k i => L_Mod_free_4 k (mk (cg m v g s) i) (nI i) w) (m := n) ?_ ?_ (by show n < 4000; omega)
  · intro k i hi
    show F_Mod_free_4 _ _ _ _ = _
    unfold F_Mod_free_4
    simp (disch := omega) only [hM.1, nI_clamp, am_ckI, ile_t, ile_f, ilt_t, ilt_f, ieq_t, ieq_f, iz_t, iz_f, ilz_f, nI_add, D_canGo hV hM hi, Option.bind_some, am_ltU, am_ckT, cond_true, cond_false, bi_ite, ck_bi, ite_T, ite_F]
    cases h : cg m v g s i
    · rw [mk_n0 h, ← nI_add]; rfl
    · rw [mk_s h (by omega), ← nI_add]; rfl
  · intro k
    show F_Mod_free_4 _ _ _ _ = _
    unfold F_Mod_free_4
    simp (disch := omega) only [hM.1, nI_clamp, am_ckI, ile_t, ile_f, ilt_t, ilt_f, ieq_t, ieq_f, iz_t, iz_f, ilz_f, nI_add]
theorem D_fixedBy (hV : VI n m v) (hM : MM n m g s v w) {t : Nat} (ht : t < n) : F_Mod_fixedBy (nI t) w = some (mk (fx v g s t) m, w) := by
  have hm := hV.2.1
  have hn := hV.1
  unfold F_Mod_fixedBy
  refine lp_0 (G := fun k i => L_Mod_fixedBy_4 k (nI t) (mk (fx v g s t) i) (nI i) w) (m := m) ?_ ?_ (by show m < 4000; omega)
  · intro k i hi
    show F_Mod_fixedBy_4 _ _ _ _ _ = _
    unfold F_Mod_fixedBy_4
    simp (disch := omega) only [hM.2.2.1, nI_clamp, am_ckI, ile_t, ile_f, ilt_t, ilt_f, ieq_t, ieq_f, iz_t, iz_f, ilz_f, nI_add, D_fixes hV hM hi ht, Option.bind_some, am_ltU, am_ckT, cond_true, cond_false, bi_ite, ck_bi, ite_T, ite_F]
    cases h : fx v g s t i
    · rw [mk_n0 h, ← nI_add]; rfl
    · rw [mk_s h (by omega), ← nI_add]; rfl
  · intro k
    show F_Mod_fixedBy_4 _ _ _ _ _ = _
    unfold F_Mod_fixedBy_4
    simp (disch := omega) only [hM.2.2.1, nI_clamp, am_ckI, ile_t, ile_f, ilt_t, ilt_f, ieq_t, ieq_f, iz_t, iz_f, ilz_f, nI_add]
end
