/-! ===== sawFor, sawAll, laws ===== -/
/-- what locks cost to saw, of the first of a set -/
def pcS (x : Nat → Int32) (set : Nat) : Nat → Int32
  | 0 => nI 0
  | i + 1 => pcS x set i + bif set.testBit i then x i else nI 0
/-- only bits of another -/
def sbb (set : Nat) (sh : Int32) : Bool := decide ((nI set &&& (sh ^^^ (-nI 1))) = 0)
theorem sbb_le {set sh : Nat} (h1 : set < 2 ^ 31) (h2 : sh < 2 ^ 31) (h : sbb set (nI sh) = true) : set ≤ sh := by
  have h := of_decide_eq_true h
  have e : set &&& sh = set := Nat.eq_of_testBit_eq (fun i => by
    rw [Nat.testBit_and]
    by_cases hi : i < 32
    · have h3 : bt (nI set &&& (nI sh ^^^ (-nI 1))) i = bt (nI 0) i := congrArg (fun x => bt x i) h
      rw [b_and, b_not _ hi, b_nI hi, b_nI hi, b_0i] at h3
      cases q : set.testBit i
      · rfl
      · rw [q, Bool.true_and, Bool.not_eq_false'] at h3
        rw [h3]; rfl
    · rw [Nat.testBit_lt_two_pow (Nat.lt_of_lt_of_le h1 (Nat.pow_le_pow_right (by omega) (by omega : 31 ≤ i)))]; rfl)
  have := Nat.and_le_right (n := set) (m := sh)
  omega
/-- sets of locks by which all wanted are gone at last, and what they cost -/
def sx (n m : Nat) (v : am_V) (te tc : Nat → Nat → Nat) (f g s : Nat) (W : Int32) (set : Nat) : Option Int32 := bif sbb set (mk (shu v g s) m) && decide ((W &&& (nI (gal n m v 0 (s ||| set) g) ^^^ (-nI 1))) = 0) then some (pcS (sw v te tc f) set m) else none
section
variable {n m g s T f : Nat} {v : am_V} {te tc : Nat → Nat → Nat} {w w2 : am_W}
theorem sx_n {W : Int32} {j : Nat} (hm : m ≤ 10) (hj : j < 2 ^ m) (h : mkN (shu v g s) m < j) : sx n m v te tc f g s W j = none := by
  have hp : 2 ^ m ≤ 2 ^ 10 := Nat.pow_le_pow_right (by omega) hm
  have h0 : sbb j (mk (shu v g s) m) = false := by
    rw [mk_N]
    exact Bool.eq_false_iff.mpr (fun q => by
      have := sbb_le (by omega) (by omega) q
      omega)
  unfold sx
  rw [h0]; rfl
theorem S_price (hV : VI n m v) (hC : CC n m g s v w) {x : Nat → Int32} (hx : ∀ l, l < m → w.1 44 l = x l) {set : Nat} : F_Loc_priceOf (nI set) w = some (pcS x set m, w) := by
  have hm := hV.2.1
  unfold F_Loc_priceOf
  refine lp_0 (G := fun k i => L_Loc_priceOf_4 k (nI set) (pcS x set i) (nI i) w) (m := m) ?_ ?_ (by show m < 4000; omega)
  · intro k i hi
    show F_Loc_priceOf_4 _ _ _ _ _ = _
    unfold F_Loc_priceOf_4 F_Loc_priceOf_34
    simp (disch := omega) only [hC.2.2.1, nI_clamp, am_ckI, ile_t, ile_f, ilt_t, ilt_f, ieq_t, ieq_f, iz_t, iz_f, ilz_f, nI_add, S_hasN, bn_V, am_ltV, am_ckV, cond_V1, cond_V0, bi_ite, ck_bi, ite_T, ite_F, hx]
    rw [pcS]
    cases set.testBit i <;> rfl
  · intro k
    show F_Loc_priceOf_4 _ _ _ _ _ = _
    unfold F_Loc_priceOf_4
    simp (disch := omega) only [hC.2.2.1, nI_clamp, am_ckI, ile_t, ile_f, ilt_t, ilt_f, ieq_t, ieq_f, iz_t, iz_f, ilz_f, nI_add]
theorem S_cheapest (hb : SB n m g s T f v te tc w) {W : Int32} {y : Nat} (hy : y < 2) : ∃ w2, F_Loc_cheapestSaws W (nI y) w = some (bif Nat.beq y 0 then b1 (bst (sx n m v te tc f g s W) (2 ^ m)) else b2 (-nI 1) (bst (sx n m v te tc f g s W) (2 ^ m)), w2) ∧ KP w w2 := by
  have hn := hb.1.1
  have hm := hb.1.2.1
  have hp : 2 ^ m ≤ 2 ^ 10 := Nat.pow_le_pow_right (by omega) hm
  have hsh := mkN_lt (shu v g s) m
  have sets : ∀ (w1 : am_W), SB n m g s T f v te tc w1 → (∀ l, l < m → w1.1 44 l = sw v te tc f l) → ∀ (d i F : Nat), i + d = mkN (shu v g s) m + 1 → d < F → L_Loc_cheapestSaws_78 F W (nI y) (nI (mkN (shu v g s) m)) (b1 (bst (sx n m v te tc f g s W) i)) (b2 (-nI 1) (bst (sx n m v te tc f g s W) i)) (nI i) w1 = some (bif Nat.beq y 0 then b1 (bst (sx n m v te tc f g s W) (2 ^ m)) else b2 (-nI 1) (bst (sx n m v te tc f g s W) (2 ^ m)), w1) := by
    intro w1 hb1 hx d
    induction d with
    | zero =>
      intro i F hi hF
      obtain ⟨F, rfl⟩ : ∃ j, F = j + 1 := ⟨F - 1, by omega⟩
      have he : bst (sx n m v te tc f g s W) (2 ^ m) = bst (sx n m v te tc f g s W) i := bst_n (by omega) (fun j h1 h2 => sx_n hm h2 (by omega))
      show F_Loc_cheapestSaws_78 _ _ _ _ _ _ _ _ = _
      unfold F_Loc_cheapestSaws_78 F_Loc_cheapestSaws_165
      rw [ilt_t (by omega) (by omega), iz_b (by omega), he]
      cases Nat.beq y 0 <;> rfl
    | succ d ih =>
      intro i F hi hF
      obtain ⟨F, rfl⟩ : ∃ j, F = j + 1 := ⟨F - 1, by omega⟩
      have h9 := ih (i + 1) F (by omega) (by omega)
      have hsub : ∀ (α : Type) (A B : α), (if (nI i &&& (nI (mkN (shu v g s) m) ^^^ (-nI 1))) = 0 then A else B) = bif sbb i (mk (shu v g s) m) then A else B := fun α A B => by
        unfold sbb
        rw [mk_N]
        by_cases h : (nI i &&& (nI (mkN (shu v g s) m) ^^^ (-nI 1))) = 0
        · rw [if_pos h, decide_eq_true h]; rfl
        · rw [if_neg h, decide_eq_false h]; rfl
      show F_Loc_cheapestSaws_78 _ _ _ _ _ _ _ _ = _
      unfold F_Loc_cheapestSaws_78 F_Loc_cheapestSaws_116 F_Loc_cheapestSaws_148
      rw [ilt_f (by omega) (by omega), hsub]
      simp (disch := omega) only [S_price hb1.1 hb1.2.2.1 hx, bn_V, am_ltV, am_ckV, cond_V1, cond_V0, bi_ite, ck_bi, ite_T, ite_F, hb1.2.2.1.2.2.2.1, nx_or, S_gal hb1.1 hb1.2.2.1, nI_add]
      cases hs1 : sbb i (mk (shu v g s) m) with
      | false =>
        have hx0 : sx n m v te tc f g s W i = none := by unfold sx; rw [hs1]; rfl
        rw [bst, hx0] at h9
        exact h9
      | true =>
        rw [cond_true]
        by_cases hw : (W &&& (nI (gal n m v 0 (s ||| i) g) ^^^ (-nI 1))) = 0
        · have hx0 : sx n m v te tc f g s W i = some (pcS (sw v te tc f) i m) := by unfold sx; rw [hs1, decide_eq_true hw]; rfl
          rw [if_pos hw]
          obtain ⟨q1, _, q3⟩ := bst_st hx0 (by omega) (-nI 1) (L_Loc_cheapestSaws_78 F W (nI y) (nI (mkN (shu v g s) m)) (nI i) (pcS (sw v te tc f) i m) (nI (i + 1)) w1) (L_Loc_cheapestSaws_78 F W (nI y) (nI (mkN (shu v g s) m)) (b1 (bst (sx n m v te tc f g s W) i)) (b2 (-nI 1) (bst (sx n m v te tc f g s W) i)) (nI (i + 1)) w1)
          rw [q1]
          by_cases h : bst (sx n m v te tc f g s W) (i + 1) = bst (sx n m v te tc f g s W) i
          · rw [if_pos h]; rw [h] at h9; exact h9
          · rw [if_neg h]; rw [q3 h] at h9; exact h9
        · have hx0 : sx n m v te tc f g s W i = none := by unfold sx; rw [hs1, decide_eq_false hw]; rfl
          rw [bst, hx0] at h9
          rw [if_neg hw, ite_self, ite_self]
          exact h9
  have prices : ∀ (d i F : Nat) (w1 : am_W), i + d = m → d < F → KP w w1 → (∀ l, l < i → w1.1 44 l = sw v te tc f l) → ∃ w2, L_Loc_cheapestSaws_5 F W (nI y) (mk (shu v g s) i) (nI i) w1 = some (bif Nat.beq y 0 then b1 (bst (sx n m v te tc f g s W) (2 ^ m)) else b2 (-nI 1) (bst (sx n m v te tc f g s W) (2 ^ m)), w2) ∧ KP w w2 := by
    intro d
    induction d with
    | zero =>
      intro i F w1 hi hF k hx
      obtain ⟨F, rfl⟩ : ∃ j, F = j + 1 := ⟨F - 1, by omega⟩
      have hb1 := SB_kp k hb
      refine ⟨w1, ?_, k⟩
      show F_Loc_cheapestSaws_5 _ _ _ _ _ _ = _
      unfold F_Loc_cheapestSaws_5
      simp (disch := omega) only [hb1.2.2.1.2.2.1, nI_clamp, am_ckI, ile_t, ile_f, ilt_t, ilt_f, ieq_t, ieq_f, iz_t, iz_f, ilz_f, nI_add]
      rw [show i = m from hi, mk_N]
      exact sets w1 hb1 (fun l hl => hx l (by omega)) (mkN (shu v g s) m + 1) 0 am_NF (by omega) (by show _ < 4000; omega)
    | succ d ih =>
      intro i F w1 hi hF k hx
      obtain ⟨F, rfl⟩ : ∃ j, F = j + 1 := ⟨F - 1, by omega⟩
      have hb1 := SB_kp k hb
      have him : i < m := by omega
      obtain ⟨u1, u2, k2⟩ : ∃ w2, F_Law_sawing (nI f) (nI i) w1 = some (sw v te tc f i, w2) ∧ EX ss34 w1 w2 := by
        obtain ⟨w2, e, k⟩ := S_says hb1.1 hb1.2.2.1 hb1.2.2.2.2 hb1.2.2.2.1.1 (u := f) (p := 1) (t := v 4 i) (h := 0) (lo := some i) hb1.2.2.2.1.2.1 (by omega) (hb.1.2.2.2 i him).1 (fun j hj => by cases hj; exact him)
        refine ⟨w2, ?_, k⟩
        have e : F_Law_says (nI f) (nI 1) (nI (v 4 i)) (nI i) (nI 0) w1 = _ := e
        unfold F_Law_sawing
        simp (disch := omega) only [nI_clamp, am_ckI, ile_t, ile_f, ilt_t, ilt_f, ieq_t, ieq_f, iz_t, iz_f, ilz_f, nI_add, bn_V, am_ltV, am_ckV, cond_V1, cond_V0, bi_ite, ck_bi, ite_T, ite_F, (hb1.2.2.1.2.2.2.2.2.2 i him).1, e]
        rfl
      have kp3 : KP w (wsf u1 44 i (sw v te tc f i)) := KP_t k (KP_t (KP_34 k2) (FRA_sf rfl))
      have hb3 := SB_kp kp3 hb
      have t1 := ih (i + 1) F (wsf u1 44 i (sw v te tc f i)) (by omega) (by omega) kp3 (fun l hl => by
        by_cases e : l = i
        · rw [e, wsf_at]
        · rw [wsf_ne e, k2 44 rfl]; exact hx l (by omega))
      show ∃ w2, F_Loc_cheapestSaws_5 _ _ _ _ _ _ = _ ∧ _
      unfold F_Loc_cheapestSaws_5 F_Loc_cheapestSaws_61
      simp (disch := omega) only [hb1.2.2.1.2.2.1, nI_clamp, am_ckI, ile_t, ile_f, ilt_t, ilt_f, ieq_t, ieq_f, iz_t, iz_f, ilz_f, nI_add, hb1.2.2.2.1.2.2, u2, bn_V, am_ltV, am_ckV, cond_V1, cond_V0, bi_ite, ck_bi, ite_T, ite_F, wst_f, S_isShut hb3.1 hb3.2.2.1 him]
      cases hs1 : shu v g s i with
      | false => rw [mk_n0 hs1] at t1; exact t1
      | true => rw [mk_s hs1 (by omega)] at t1; exact t1
  unfold F_Loc_cheapestSaws
  exact prices m 0 am_NF w (by omega) (by show m < 4000; omega) (KP_r w) (fun l hl => by omega)
/-- the model's memory while it looks at sets of locks: what is sawn, the least price yet -/
def wq (w : am_W) (a b : Int32) : am_W := wsf (wsf w 53 7 a) 53 40 b
theorem wq_7 {a b x : Int32} : wsf (wq w a b) 53 7 x = wq w x b := by
  unfold wq wsf
  dsimp only
  rw [mf_mf, mf_mf, mf_s, mf_s, mf_mf, mf_s]
  refine congrArg (fun q => (mf w.1 53 q, w.2)) (funext fun j => ?_)
  unfold upd
  by_cases h1 : j = 7
  · rw [if_pos h1, if_neg (by omega), if_pos h1]
  · by_cases h2 : j = 40
    · rw [if_neg h1, if_pos h2, if_pos h2]
    · rw [if_neg h1, if_neg h2, if_neg h1, if_neg h2, if_neg h1]
theorem wq_40 {a b x : Int32} : wsf (wq w a b) 53 40 x = wq w a x := by
  unfold wq
  rw [wsf_wsf]
end
/-! laws -/
/-- whether a text's prices are as told, of the first locks -/
def lwF (v : am_V) (te tc : Nat → Nat → Nat) (x : Nat → Int32) (u : Nat) : Nat → Bool
  | 0 => true
  | i + 1 => lwF v te tc x u i && decide (sw v te tc u i = x i)
section
variable {n m g s T f : Nat} {v : am_V} {te tc : Nat → Nat → Nat} {w w2 : am_W} {x : Nat → Int32}
theorem lwF_f {u i : Nat} (h : lwF v te tc x u i = false) : ∀ d, lwF v te tc x u (i + d) = false
  | 0 => h
  | d + 1 => by
    rw [show i + (d + 1) = (i + d) + 1 from rfl, lwF, lwF_f h d]; rfl
end