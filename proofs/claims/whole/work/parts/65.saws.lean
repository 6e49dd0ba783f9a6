/-! ===== sawFor, sawAll, laws ===== -/
/-- what locks cost to saw, of the first of a set -/
def pcS (x : Nat → Int32) (set : Nat) : Nat → Int32
  | 0 => nI 0
  | i + 1 => pcS x set i + bif set.testBit i then x i else nI 0
/-- only bits of another -/
def sbb (set : Nat) (sh : Int32) : Bool := decide ((nI set &&& (sh ^^^ (-nI 1))) = 0)
theorem sbb_le {set sh : Nat} (h1 : set < 2 ^ 31) (h2 : sh < 2 ^ 31) (h : sbb set (nI sh) = true) : set ≤ sh := by
  have h := of_decide_eq_true h
  have e : set &&& sh = set := Nat.eq_of_testBit_eq (fun i => by
    rw [Nat.testBit_and]
    by_cases hi : i < 32
    · have h3 : bt (nI set &&& (nI sh ^^^ (-nI 1))) i = bt (nI 0) i := congrArg (fun x => bt x i) h
      rw [b_and, b_not _ hi, b_nI hi, b_nI hi, b_0i] at h3
      cases q : set.testBit i
      · rfl
      · rw [q, Bool.true_and, Bool.not_eq_false'] at h3
        rw [h3]; rfl
    · rw [Nat.testBit_lt_two_pow (Nat.lt_of_lt_of_le h1 (Nat.pow_le_pow_right (by omega) (by omega : 31 ≤ i)))]; rfl)
  have := Nat.and_le_right (n := set) (m := sh)
  omega
/-- sets of locks by which all wanted are gone at last, and what they cost -/
def sx (n m : Nat) (v : am_V) (te tc : Nat → Nat → Nat) (f g s : Nat) (W : Int32) (set : Nat) : Option Int32 := bif sbb set (mk (shu v g s) m) && decide ((W &&& (nI (gal n m v 0 (s ||| set) g) ^^^ (-nI 1))) = 0) then some (pcS (sw v te tc f) set m) else none
section
variable {n m g s T f : Nat} {v : am_V} {te tc : Nat → Nat → Nat} {w w2 : am_W}
theorem sx_n {W : Int32} {j : Nat} (hm : m ≤ 10) (hj : j < 2 ^ m) (h : mkN (shu v g s) m < j) : sx n m v te tc f g s W j = none := by
  have hp : 2 ^ m ≤ 2 ^ 10 := Nat.pow_le_pow_right (by omega) hm
  have h0 : sbb j (mk (shu v g s) m) = false := by
    rw [mk_N]
    exact Bool.eq_false_iff.mpr (fun q => by
      have := sbb_le (by omega) (by omega) q
      omega)
  unfold sx
  rw [h0]; rfl
theorem S_price (hV : VI n m v) (hC : CC n m g s v w) {x : Nat → Int32} (hx : ∀ l, l < m → w.1 44 l = x l) {set : Nat} : F_Loc_priceOf (nI set) w = some (pcS x set m, w) := by
  have hm := hV.2.1
  unfold F_Loc_priceOf
  refine lp_0 (G := fun k i => L_Loc_priceOf_4 k (nI set) (pcS x set i) (nI i) w) (m := m) ?_ ?_ (by show m < 4000; omega)
  · intro k i hi
    show F_Loc_priceOf_4 _ _ _ _ _ = _
    unfold F_Loc_priceOf_4 F_Loc_priceOf_34
    simp (disch := omega) only [hC.2.2.1, nI_clamp, am_ckI, ile_t, ile_f, ilt_t, ilt_f, ieq_t, ieq_f, iz_t, iz_f, ilz_f, nI_add, S_hasN, bn_V, am_ltV, am_ckV, cond_V1, cond_V0, bi_ite, ck_bi, ite_T, ite_F, hx]
    rw [pcS]
    cases set.testBit i <;> rfl
  · intro k
    show F_Loc_priceOf_4 _ _ _ _ _ = _
    unfold F_Loc_priceOf_4
    simp (disch := omega) only [hC.2.2.1, nI_clamp, am_ckI, ile_t, ile_f, ilt_t, ilt_f, ieq_t, ieq_f, iz_t, iz_f, ilz_f, nI_add]
theorem S_cheapest (hb : SB n m g s T f v te tc w) {W : Int32} {y : Nat} (hy : y < 2) : ∃ w2, F_Loc_cheapestSaws W (nI y) w = some (bif Nat.beq y 0 then b1 (bst (sx n m v te tc f g s W) (2 ^ m)) else b2 (-nI 1) (bst (sx n m v te tc f g s W) (2 ^ m)), w2) ∧ KP w w2 := by
  have hn := hb.1.1
  have hm := hb.1.2.1
  have hp : 2 ^ m ≤ 2 ^ 10 := Nat.pow_le_pow_right (by omega) hm
  have hsh := mkN_lt (shu v g s) m
  have sets : ∀ (w1 : am_W), SB n m g s T f v te tc w1 → (∀ l, l < m → w1.1 44 l = sw v te tc f l) → ∀ (d i F : Nat), i + d = mkN (shu v g s) m + 1 → d < F → L_Loc_cheapestSaws_78 F W (nI y) (nI (mkN (shu v g s) m)) (b1 (bst (sx n m v te tc f g s W) i)) (b2 (-nI 1) (bst (sx n m v te tc f g s W) i)) (nI i) w1 = some (bif Nat.beq y 0 then b1 (bst (sx n m v te tc f g s W) (2 ^ m)) else b2 (-nI 1) (bst (sx n m v te tc f g s W) (2 ^ m)), w1) := by
    intro w1 hb1 hx d
    induction d with
    | zero =>
      intro i F hi hF
      obtain ⟨F, rfl⟩ : ∃ j, F = j + 1 := ⟨F - 1, by omega⟩
      have he : bst (sx n m v te tc f g s W) (2 ^ m) = bst (sx n m v te tc f g s W) i := bst_n (by omega) (fun j h1 h2 => sx_n hm h2 (by omega))
      show F_Loc_cheapestSaws_78 _ _ _ _ _ _ _ _ = _
      unfold F_Loc_cheapestSaws_78 F_Loc_cheapestSaws_165
      rw [ilt_t (by omega) (by omega), iz_b (by omega), he]
      cases Nat.beq y 0 <;> rfl
    | succ d ih =>
      intro i F hi hF
      obtain ⟨F, rfl⟩ : ∃ j, F = j + 1 := ⟨F - 1, by omega⟩
      have h9 := ih (i + 1) F (by omega) (by omega)
      have hsub : ∀ (α : Type) (A B : α), (if (nI i &&& (nI (mkN (shu v g s) m) ^^^ (-nI 1))) = 0 then A else B) = bif sbb i (mk (shu v g s) m) then A else B := fun α A B => by
        unfold sbb
        rw [mk_N]
        by_cases h : (nI i &&& (nI (mkN (shu v g s) m) ^^^ (-nI 1))) = 0
        · rw [if_pos h, decide_eq_true h]; rfl
        · rw [if_neg h, decide_eq_false h]; rfl
      show F_Loc_cheapestSaws_78 _ _ _ _ _ _ _ _ = _
      unfold F_Loc_cheapestSaws_78 F_Loc_cheapestSaws_116 F_Loc_cheapestSaws_148
      rw [ilt_f (by omega) (by omega), hsub]
      simp (disch := omega) only [S_price hb1.1 hb1.2.2.1 hx, bn_V, am_ltV, am_ckV, cond_V1, cond_V0, bi_ite, ck_bi, ite_T, ite_F, hb1.2.2.1.2.2.2.1, nx_or, S_gal hb1.1 hb1.2.2.1, nI_add]
      cases hs1 : sbb i (mk (shu v g s) m) with
      | false =>
        have hx0 : sx n m v te tc f g s W i = none := by unfold sx; rw [hs1]; rfl
        rw [bst, hx0] at h9
        exact h9
      | true =>
        rw [cond_true]
        by_cases hw : (W &&& (nI (gal n m v 0 (s ||| i) g) ^^^ (-nI 1))) = 0
        · have hx0 : sx n m v te tc f g s W i = some (pcS (sw v te tc f) i m) := by unfold sx; rw [hs1, decide_eq_true hw]; rfl
          rw [if_pos hw]
          obtain ⟨q1, _, q3⟩ := bst_st hx0 (by omega) (-nI 1) (L_Loc_cheapestSaws_78 F W (nI y) (nI (mkN (shu v g s) m)) (nI i) (pcS (sw v te tc f) i m) (nI (i + 1)) w1) (L_Loc_cheapestSaws_78 F W (nI y) (nI (mkN (shu v g s) m)) (b1 (bst (sx n m v te tc f g s W) i)) (b2 (-nI 1) (bst (sx n m v te tc f g s W) i)) (nI (i + 1)) w1)
          rw [q1]
          by_cases h : bst (sx n m v te tc f g s W) (i + 1) = bst (sx n m v te tc f g s W) i
          · rw [if_pos h]; rw [h] at h9; exact h9
          · rw [if_neg h]; rw [q3 h] at h9; exact h9
        · have hx0 : sx n m v te tc f g s W i = none := by unfold sx; rw [hs1, decide_eq_false hw]; rfl
          rw [bst, hx0] at h9
          rw [if_neg hw, ite_self, ite_self]
          exact h9
  have prices : ∀ (d i F : Nat) (w1 : am_W), i + d = m → d < F → KP w w1 → (∀ l, l < i → w1.1 44 l = sw v te tc f l) → ∃ w2, L_Loc_cheapestSaws_5 F W (nI y) (mk (shu v g s) i) (nI i) w1 = some (bif Nat.beq y 0 then b1 (bst (sx n m v te tc f g s W) (2 ^ m)) else b2 (-nI 1) (bst (sx n m v te tc f g s W) (2 ^ m)), w2) ∧ KP w w2 := by
    intro d
    induction d with
    | zero =>
      intro i F w1 hi hF k hx
      obtain ⟨F, rfl⟩ : ∃ j, F = j + 1 := ⟨F - 1, by omega⟩
      have hb1 := SB_kp k hb
      refine ⟨w1, ?_, k⟩
      show F_Loc_cheapestSaws_5 _ _ _ _ _ _ = _
      unfold F_Loc_cheapestSaws_5
      simp (disch := omega) only [hb1.2.2.1.2.2.1, nI_clamp, am_ckI, ile_t, ile_f, ilt_t, ilt_f, ieq_t, ieq_f, iz_t, iz_f, ilz_f, nI_add]
      rw [show i = m from hi, mk_N]
      exact sets w1 hb1 (fun l hl => hx l (by omega)) (mkN (shu v g s) m + 1) 0 am_NF (by omega) (by show _ < 4000; omega)
    | succ d ih =>
      intro i F w1 hi hF k hx
      obtain ⟨F, rfl⟩ : ∃ j, F = j + 1 := ⟨F - 1, by omega⟩
      have hb1 := SB_kp k hb
      have him : i < m := by omega
      obtain ⟨u1, u2, k2⟩ : ∃ w2, F_Law_sawing (nI f) (nI i) w1 = some (sw v te tc f i, w2) ∧ EX ss34 w1 w2 := by
        obtain ⟨w2, e, k⟩ := S_says hb1.1 hb1.2.2.1 hb1.2.2.2.2 hb1.2.2.2.1.1 (u := f) (p := 1) (t := v 4 i) (h := 0) (lo := some i) hb1.2.2.2.1.2.1 (by omega) (hb.1.2.2.2 i him).1 (fun j hj => by cases hj; exact him)
        refine ⟨w2, ?_, k⟩
        have e : F_Law_says (nI f) (nI 1) (nI (v 4 i)) (nI i) (nI 0) w1 = _ := e
        unfold F_Law_sawing
        simp (disch := omega) only [nI_clamp, am_ckI, ile_t, ile_f, ilt_t, ilt_f, ieq_t, ieq_f, iz_t, iz_f, ilz_f, nI_add, bn_V, am_ltV, am_ckV, cond_V1, cond_V0, bi_ite, ck_bi, ite_T, ite_F, (hb1.2.2.1.2.2.2.2.2.2 i him).1, e]
        rfl
      have kp3 : KP w (wsf u1 44 i (sw v te tc f i)) := KP_t k (KP_t (KP_34 k2) (FRA_sf rfl))
      have hb3 := SB_kp kp3 hb
      have t1 := ih (i + 1) F (wsf u1 44 i (sw v te tc f i)) (by omega) (by omega) kp3 (fun l hl => by
        by_cases e : l = i
        · rw [e, wsf_at]
        · rw [wsf_ne e, k2 44 rfl]; exact hx l (by omega))
      show ∃ w2, F_Loc_cheapestSaws_5 _ _ _ _ _ _ = _ ∧ _
      unfold F_Loc_cheapestSaws_5 F_Loc_cheapestSaws_61
      simp (disch := omega) only [hb1.2.2.1.2.2.1, nI_clamp, am_ckI, ile_t, ile_f, ilt_t, ilt_f, ieq_t, ieq_f, iz_t, iz_f, ilz_f, nI_add, hb1.2.2.2.1.2.2, u2, bn_V, am_ltV, am_ckV, cond_V1, cond_V0, bi_ite, ck_bi, ite_T, ite_F, wst_f, S_isShut hb3.1 hb3.2.2.1 him]
      cases hs1 : shu v g s i with
      | false => rw [mk_n0 hs1] at t1; exact t1
      | true => rw [mk_s hs1 (by omega)] at t1; exact t1
  unfold F_Loc_cheapestSaws
  exact prices m 0 am_NF w (by omega) (by show m < 4000; omega) (KP_r w) (fun l hl => by omega)
/-- the model's memory while it looks at sets of locks: what is sawn, the least price yet -/
def wq (w : am_W) (a b : Int32) : am_W := wsf (wsf w 53 7 a) 53 40 b
theorem wq_7 {a b x : Int32} : wsf (wq w a b) 53 7 x = wq w x b := by
  unfold wq wsf
  dsimp only
  rw [mf_mf, mf_mf, mf_s, mf_s, mf_mf, mf_s]
  refine congrArg (fun q => (mf w.1 53 q, w.2)) (funext fun j => ?_)
  unfold upd
  by_cases h1 : j = 7
  · rw [if_pos h1, if_neg (by omega), if_pos h1]
  · by_cases h2 : j = 40
    · rw [if_neg h1, if_pos h2, if_pos h2]
    · rw [if_neg h1, if_neg h2, if_neg h1, if_neg h2, if_neg h1]
theorem wq_40 {a b x : Int32} : wsf (wq w a b) 53 40 x = wq w a x := by
  unfold wq
  rw [wsf_wsf]
theorem wq_MM (hM : MM n m g s v w) (a : Nat) (b : Int32) : MM n m g a v (wq w (nI a) b) := ⟨hM.1, hM.2.1, hM.2.2.1, rfl, hM.2.2.2.2.1, hM.2.2.2.2.2⟩
theorem D_cheapest (hb : DB n m g s T f v te tc w) {W : Int32} : ∃ w2, F_Mod_sawsFor W w = some (b1 (bst (sx n m v te tc f g s W) (2 ^ m)), w2) ∧ KP w w2 ∧ w2.1 53 40 = b2 (-nI 1) (bst (sx n m v te tc f g s W) (2 ^ m)) := by
  have hn := hb.1.1
  have hm := hb.1.2.1
  have hp : 2 ^ m ≤ 2 ^ 10 := Nat.pow_le_pow_right (by omega) hm
  have sets : ∀ (w1 : am_W), KP w w1 → (∀ l, l < m → w1.1 73 l = sw v te tc f l) → ∀ (d i F a : Nat), i + d = 2 ^ m → d < F → ∃ w2, L_Mod_sawsFor_52 F W (mk (shu v g s) m) (nI s) (b1 (bst (sx n m v te tc f g s W) i)) (nI i) (wq w1 (nI a) (b2 (-nI 1) (bst (sx n m v te tc f g s W) i))) = some (b1 (bst (sx n m v te tc f g s W) (2 ^ m)), w2) ∧ w2 = wq w1 (nI s) (b2 (-nI 1) (bst (sx n m v te tc f g s W) (2 ^ m))) := by
    intro w1 k hx d
    have hM1 : MM n m g s v w1 := (DB_kp k hb).2.2.2.1
    induction d with
    | zero =>
      intro i F a hi hF
      obtain ⟨F, rfl⟩ : ∃ j, F = j + 1 := ⟨F - 1, by omega⟩
      have hMa := wq_MM hM1 a (b2 (-nI 1) (bst (sx n m v te tc f g s W) i))
      refine ⟨_, ?_, rfl⟩
      show F_Mod_sawsFor_52 _ _ _ _ _ _ _ = _
      unfold F_Mod_sawsFor_52
      rw [hMa.2.2.1, s_one m (by omega), ile_t (by omega) (by omega), am_ltU, wq_7, show i = 2 ^ m from hi]
    | succ d ih =>
      intro i F a hi hF
      obtain ⟨F, rfl⟩ : ∃ j, F = j + 1 := ⟨F - 1, by omega⟩
      have hMa := wq_MM hM1 a (b2 (-nI 1) (bst (sx n m v te tc f g s W) i))
      have exit : F_Mod_sawsFor_69 (L_Mod_sawsFor_52 F) (fun _ _ _ _ _ _ _ _ => none) W (mk (shu v g s) m) (nI s) (b1 (bst (sx n m v te tc f g s W) i)) (nI i) (pcS (sw v te tc f) i m) (nI m) (wq w1 (nI a) (b2 (-nI 1) (bst (sx n m v te tc f g s W) i))) = L_Mod_sawsFor_52 F W (mk (shu v g s) m) (nI s) (b1 (bst (sx n m v te tc f g s W) (i + 1))) (nI (i + 1)) (wq w1 (nI (if sbb i (mk (shu v g s) m) = true ∧ (b1 (bst (sx n m v te tc f g s W) i) = -nI 1 ∨ ¬ b2 (-nI 1) (bst (sx n m v te tc f g s W) i) ≤ pcS (sw v te tc f) i m) then s ||| i else a)) (b2 (-nI 1) (bst (sx n m v te tc f g s W) (i + 1)))) := by
        have hsub : ∀ (α : Type) (A B : α), (if (nI i &&& (mk (shu v g s) m ^^^ (-nI 1))) = 0 then A else B) = bif sbb i (mk (shu v g s) m) then A else B := fun α A B => by
          unfold sbb
          by_cases h : (nI i &&& (mk (shu v g s) m ^^^ (-nI 1))) = 0
          · rw [if_pos h, decide_eq_true h]; rfl
          · rw [if_neg h, decide_eq_false h]; rfl
        have h40 : (wq w1 (nI a) (b2 (-nI 1) (bst (sx n m v te tc f g s W) i))).1 53 40 = b2 (-nI 1) (bst (sx n m v te tc f g s W) i) := wsf_at _ _ _ _
        unfold F_Mod_sawsFor_69 F_Mod_sawsFor_194
        rw [hMa.2.2.1, ile_t (Nat.le_refl _) (by omega), hsub, nI_add, h40]
        cases hs1 : sbb i (mk (shu v g s) m) with
        | false =>
          have hx0 : sx n m v te tc f g s W i = none := by unfold sx; rw [hs1]; rfl
          have hbs : bst (sx n m v te tc f g s W) (i + 1) = bst (sx n m v te tc f g s W) i := by rw [bst, hx0]
          rw [hbs, if_neg (show ¬ (false = true ∧ (b1 (bst (sx n m v te tc f g s W) i) = -nI 1 ∨ ¬ b2 (-nI 1) (bst (sx n m v te tc f g s W) i) ≤ pcS (sw v te tc f) i m)) from fun q => by cases q.1)]; rfl
        | true =>
          have hMs := wq_MM hM1 (s ||| i) (b2 (-nI 1) (bst (sx n m v te tc f g s W) i))
          have h41 : (wq w1 (nI (s ||| i)) (b2 (-nI 1) (bst (sx n m v te tc f g s W) i))).1 53 40 = b2 (-nI 1) (bst (sx n m v te tc f g s W) i) := wsf_at _ _ _ _
          have h135 : F_Mod_sawsFor_135 (L_Mod_sawsFor_52 F) W (mk (shu v g s) m) (nI s) (b1 (bst (sx n m v te tc f g s W) i)) (nI i) (pcS (sw v te tc f) i m) (wq w1 (nI a) (b2 (-nI 1) (bst (sx n m v te tc f g s W) i))) = if (W &&& (nI (gal n m v 0 (s ||| i) g) ^^^ (-nI 1))) = 0 then L_Mod_sawsFor_52 F W (mk (shu v g s) m) (nI s) (nI i) (nI (i + 1)) (wq w1 (nI (s ||| i)) (pcS (sw v te tc f) i m)) else L_Mod_sawsFor_52 F W (mk (shu v g s) m) (nI s) (b1 (bst (sx n m v te tc f g s W) i)) (nI (i + 1)) (wq w1 (nI (s ||| i)) (b2 (-nI 1) (bst (sx n m v te tc f g s W) i))) := by
            unfold F_Mod_sawsFor_135 F_Mod_sawsFor_160 F_Mod_sawsFor_174 F_Mod_sawsFor_191 F_Mod_sawsFor_194
            rw [nx_or, wq_7, am_ltU, D_gal hb.1 hMs, bn_s]
            dsimp only
            rw [h41, nI_add]
            by_cases hw : (W &&& (nI (gal n m v 0 (s ||| i) g) ^^^ (-nI 1))) = 0
            · rw [if_pos hw, if_pos hw, if_neg (by decide), if_neg (by decide), am_ltU, wq_40]
            · rw [if_neg hw, if_neg hw, iz_t rfl, iz_t rfl, am_ltU, wq_40]
          rw [cond_true, h135]
          by_cases hw : (W &&& (nI (gal n m v 0 (s ||| i) g) ^^^ (-nI 1))) = 0
          · have hx0 : sx n m v te tc f g s W i = some (pcS (sw v te tc f) i m) := by unfold sx; rw [hs1, decide_eq_true hw]; rfl
            rw [if_pos hw]
            by_cases c1 : b1 (bst (sx n m v te tc f g s W) i) = -nI 1
            · have hbs : bst (sx n m v te tc f g s W) (i + 1) = some (i, pcS (sw v te tc f) i m) := by
                rw [bst, hx0]
                cases hy : bst (sx n m v te tc f g s W) i with
                | none => rfl
                | some r =>
                  obtain ⟨b, q⟩ := r
                  rw [hy] at c1
                  have := bst_lt hy
                  exact absurd c1 (m1_ne (by omega))
              rw [if_pos c1, if_pos ⟨rfl, Or.inl c1⟩, hbs]; rfl
            · by_cases c2 : b2 (-nI 1) (bst (sx n m v te tc f g s W) i) ≤ pcS (sw v te tc f) i m
              · have hbs : bst (sx n m v te tc f g s W) (i + 1) = bst (sx n m v te tc f g s W) i := by
                  rw [bst, hx0]
                  cases hy : bst (sx n m v te tc f g s W) i with
                  | none => rw [hy] at c1; exact absurd rfl c1
                  | some r =>
                    obtain ⟨b, q⟩ := r
                    rw [hy] at c2
                    exact if_pos c2
                rw [if_neg c1, if_pos c2, hbs, if_neg (fun q => by
                  rcases q.2 with q | q
                  · exact c1 q
                  · exact q c2)]
              · have hbs : bst (sx n m v te tc f g s W) (i + 1) = some (i, pcS (sw v te tc f) i m) := by
                  rw [bst, hx0]
                  cases hy : bst (sx n m v te tc f g s W) i with
                  | none => rfl
                  | some r =>
                    obtain ⟨b, q⟩ := r
                    rw [hy] at c2
                    exact if_neg c2
                rw [if_neg c1, if_neg c2, if_pos ⟨rfl, Or.inr c2⟩, hbs]; rfl
          · have hx0 : sx n m v te tc f g s W i = none := by unfold sx; rw [hs1, decide_eq_false hw]; rfl
            have hbs : bst (sx n m v te tc f g s W) (i + 1) = bst (sx n m v te tc f g s W) i := by rw [bst, hx0]
            rw [if_neg hw, hbs]
            by_cases c1 : b1 (bst (sx n m v te tc f g s W) i) = -nI 1
            · rw [if_pos c1, if_pos ⟨rfl, Or.inl c1⟩]
            · rw [if_neg c1]
              by_cases c2 : b2 (-nI 1) (bst (sx n m v te tc f g s W) i) ≤ pcS (sw v te tc f) i m
              · rw [if_pos c2, if_neg (fun q => by
                  rcases q.2 with q | q
                  · exact c1 q
                  · exact q c2)]
              · rw [if_neg c2, if_pos ⟨rfl, Or.inr c2⟩]
      have costs : ∀ (e l G : Nat), l + e = m → e < G → L_Mod_sawsFor_69 (L_Mod_sawsFor_52 F) G W (mk (shu v g s) m) (nI s) (b1 (bst (sx n m v te tc f g s W) i)) (nI i) (pcS (sw v te tc f) i l) (nI l) (wq w1 (nI a) (b2 (-nI 1) (bst (sx n m v te tc f g s W) i))) = L_Mod_sawsFor_52 F W (mk (shu v g s) m) (nI s) (b1 (bst (sx n m v te tc f g s W) (i + 1))) (nI (i + 1)) (wq w1 (nI (if sbb i (mk (shu v g s) m) = true ∧ (b1 (bst (sx n m v te tc f g s W) i) = -nI 1 ∨ ¬ b2 (-nI 1) (bst (sx n m v te tc f g s W) i) ≤ pcS (sw v te tc f) i m) then s ||| i else a)) (b2 (-nI 1) (bst (sx n m v te tc f g s W) (i + 1)))) := by
        intro e
        induction e with
        | zero =>
          intro l G hl hG
          obtain ⟨G, rfl⟩ : ∃ j, G = j + 1 := ⟨G - 1, by omega⟩
          refine Eq.trans ?_ exit
          rw [show l = m from hl]
          show F_Mod_sawsFor_69 _ _ _ _ _ _ _ _ _ _ = _
          unfold F_Mod_sawsFor_69
          rw [hMa.2.2.1, ile_t (Nat.le_refl _) (by omega), ile_t (Nat.le_refl _) (by omega)]
        | succ e ih2 =>
          intro l G hl hG
          obtain ⟨G, rfl⟩ : ∃ j, G = j + 1 := ⟨G - 1, by omega⟩
          have h73 : (wq w1 (nI a) (b2 (-nI 1) (bst (sx n m v te tc f g s W) i))).1 73 l = sw v te tc f l := hx l (by omega)
          have h9 := ih2 (l + 1) G (by omega) (by omega)
          rw [pcS] at h9
          show F_Mod_sawsFor_69 _ _ _ _ _ _ _ _ _ _ = _
          unfold F_Mod_sawsFor_69 F_Mod_sawsFor_102
          simp (disch := omega) only [hMa.2.2.1, nI_clamp, am_ckI, ile_t, ile_f, ilt_t, ilt_f, ieq_t, ieq_f, iz_t, iz_f, ilz_f, nI_add, b_has, b_nI, bi1_ite, bn_V, am_ltV, am_ckV, cond_V1, cond_V0, bi_ite, ck_bi, ite_T, ite_F, h73]
          cases hbit : i.testBit l with
          | false => rw [hbit] at h9; exact h9
          | true => rw [hbit] at h9; exact h9
      obtain ⟨w2, e2, q2⟩ := ih (i + 1) F (if sbb i (mk (shu v g s) m) = true ∧ (b1 (bst (sx n m v te tc f g s W) i) = -nI 1 ∨ ¬ b2 (-nI 1) (bst (sx n m v te tc f g s W) i) ≤ pcS (sw v te tc f) i m) then s ||| i else a) (by omega) (by omega)
      refine ⟨w2, ?_, q2⟩
      rw [← e2, ← costs m 0 am_NF (by omega) (by show m < 4000; omega)]
      show F_Mod_sawsFor_52 _ _ _ _ _ _ _ = _
      unfold F_Mod_sawsFor_52
      rw [hMa.2.2.1, s_one m (by omega), ile_f (by omega) (by omega)]
      rfl
  have prices : ∀ (d i F : Nat) (w1 : am_W), i + d = m → d < F → KP w w1 → (∀ l, l < i → w1.1 73 l = sw v te tc f l) → ∃ w2, L_Mod_sawsFor_13 F W (mk (shu v g s) m) (nI s) (nI i) w1 = some (b1 (bst (sx n m v te tc f g s W) (2 ^ m)), w2) ∧ KP w w2 ∧ w2.1 53 40 = b2 (-nI 1) (bst (sx n m v te tc f g s W) (2 ^ m)) := by
    intro d
    induction d with
    | zero =>
      intro i F w1 hi hF k hx
      obtain ⟨F, rfl⟩ : ∃ j, F = j + 1 := ⟨F - 1, by omega⟩
      have hb1 := DB_kp k hb
      have h7 : w1.1 53 7 = nI s := hb1.2.2.2.1.2.2.2.1
      obtain ⟨w2, e2, rfl⟩ := sets w1 k (fun l hl => hx l (by omega)) (2 ^ m) 0 am_NF s (by omega) (by show _ < 4000; omega)
      have ew : wq w1 (nI s) (b2 (-nI 1) (bst (sx n m v te tc f g s W) 0)) = wsf w1 53 40 (-nI 1) := by
        unfold wq
        rw [wsf_e h7]; rfl
      rw [ew] at e2
      refine ⟨wq w1 (nI s) (b2 (-nI 1) (bst (sx n m v te tc f g s W) (2 ^ m))), ?_, ?_, wsf_at _ _ _ _⟩
      · show F_Mod_sawsFor_13 _ _ _ _ _ _ = _
        unfold F_Mod_sawsFor_13
        simp (disch := omega) only [hb1.2.2.2.1.2.2.1, nI_clamp, am_ckI, ile_t, ile_f, ilt_t, ilt_f, ieq_t, ieq_f, iz_t, iz_f, ilz_f, nI_add, bn_V, am_ltV, am_ckV, cond_V1, cond_V0, bi_ite, ck_bi, ite_T, ite_F]
        exact e2
      · unfold wq
        rw [wsf_e h7]
        exact KP_t k (FRA_sf rfl)
    | succ d ih =>
      intro i F w1 hi hF k hx
      obtain ⟨F, rfl⟩ : ∃ j, F = j + 1 := ⟨F - 1, by omega⟩
      have hb1 := DB_kp k hb
      have him : i < m := by omega
      obtain ⟨u1, u2, k2⟩ : ∃ w2, F_Mod_sawsOf (nI i) w1 = some (sw v te tc f i, w2) ∧ EX ss68 w1 w2 := by
        obtain ⟨w2, e, k⟩ := D_asks hb1.1 hb1.2.2.2.1 hb1.2.2.2.2.2 hb1.2.2.2.2.1 (p := 1) (t := v 4 i) (h := 0) (lo := some i) (by omega) (hb.1.2.2.2 i him).1 (fun j hj => by cases hj; exact him)
        refine ⟨w2, ?_, k⟩
        have e : F_Mod_asksOf (nI 1) (nI (v 4 i)) (nI i) (nI 0) w1 = _ := e
        unfold F_Mod_sawsOf
        simp (disch := omega) only [nI_clamp, am_ckI, ile_t, ile_f, ilt_t, ilt_f, ieq_t, ieq_f, iz_t, iz_f, ilz_f, nI_add, bn_V, am_ltV, am_ckV, cond_V1, cond_V0, bi_ite, ck_bi, ite_T, ite_F, D_owner hb1.1 hb1.2.2.2.1 him, e]
        rfl
      have t1 := ih (i + 1) F (wsf u1 73 i (sw v te tc f i)) (by omega) (by omega) (KP_t k (KP_t (KP_68 k2) (FRA_sf rfl))) (fun l hl => by
        by_cases e : l = i
        · rw [e, wsf_at]
        · rw [wsf_ne e, k2 73 rfl]; exact hx l (by omega))
      show ∃ w2, F_Mod_sawsFor_13 _ _ _ _ _ _ = _ ∧ _
      unfold F_Mod_sawsFor_13
      simp (disch := omega) only [hb1.2.2.2.1.2.2.1, nI_clamp, am_ckI, ile_t, ile_f, ilt_t, ilt_f, ieq_t, ieq_f, iz_t, iz_f, ilz_f, nI_add, u2, bn_V, am_ltV, am_ckV, cond_V1, cond_V0, bi_ite, ck_bi, ite_T, ite_F, wst_f]
      exact t1
  unfold F_Mod_sawsFor
  rw [D_shutNow hb.1 hb.2.2.2.1, bn_s]
  dsimp only
  rw [hb.2.2.2.1.2.2.2.1]
  exact prices m 0 am_NF w (by omega) (by show m < 4000; omega) (KP_r w) (fun l hl => by omega)
theorem D_ever (hV : VI n m v) (hM : MM n m g s v w) : F_Mod_ever w = some (mk (evr v) n, w) := by
  have hn := hV.1
  unfold F_Mod_ever
  refine lp_0 (G := fun k i => L_Mod_ever_4 k (mk (evr v) i) (nI i) w) (m := n) ?_ ?_ (by show n < 4000; omega)
  · intro k i hi
    show F_Mod_ever_4 _ _ _ _ = _
    have hk6 := (hV.2.2.1 i hi).1
    unfold F_Mod_ever_4 F_Mod_ever_30
    simp (disch := omega) only [hM.1, nI_clamp, am_ckI, ile_t, ile_f, ilt_t, ilt_f, ieq_t, ieq_f, iz_t, iz_f, ilz_f, nI_add, (hM.2.2.2.2.1 i hi).1, ieq_b, bn_V, am_ltV, am_ckV, cond_V1, cond_V0, bi_ite, ck_bi, ite_T, ite_F]
    cases h : Nat.beq (v 1 i) 5 with
    | true => rw [mk_n0 (by unfold evr; rw [h]; rfl)]; rfl
    | false => rw [mk_s (by unfold evr; rw [h]; rfl) (by omega)]; rfl
  · intro k
    show F_Mod_ever_4 _ _ _ _ = _
    unfold F_Mod_ever_4
    simp (disch := omega) only [hM.1, nI_clamp, am_ckI, ile_t, ile_f, ilt_t, ilt_f, ieq_t, ieq_f, iz_t, iz_f, ilz_f, nI_add]
end
theorem B_sawFor (a b : Int32) : BOTH (F_Loc_sawFor a b) (F_Mod_sawFor a b) := BOTH_q (fun {n m g s T f v te tc w} hq => by
  obtain ⟨hV, hg, hs, hC, hM, hT, hX, hS, hP, hI, hA⟩ := id hq
  have hn := hV.1
  cases h : am_in a n with
  | false =>
    refine ⟨-nI 5, w, w, ?_, ?_, KP_r w⟩
    · unfold F_Loc_sawFor
      rw [S_isThing hV hC, h]; rfl
    · unfold F_Mod_sawFor
      rw [D_isThing hV hM, h]; rfl
  | true =>
    obtain ⟨t, ht, rfl⟩ := in_ex h (by omega)
    cases h2 : am_in b 2 with
    | false =>
      refine ⟨-nI 7, w, w, ?_, ?_, KP_r w⟩
      · unfold F_Loc_sawFor F_Loc_sawFor_34
        rw [S_isThing hV hC, h, bn_s, bi_ite, cond_true, S_isEither, h2]; rfl
      · unfold F_Mod_sawFor
        rw [D_isThing hV hM, h, bn_s, bi_ite, cond_true, D_in0 (k := 1) (by omega), h2]; rfl
    | true =>
      obtain ⟨y, hy, rfl⟩ := in_ex h2 (by omega)
      obtain ⟨w1, e1, k1⟩ := S_cheapest (SB_q hq) (W := nI 1 <<< (nI t &&& 31)) hy
      have hM1 : MM n m g s v w1 := MM_fr rfl k1 hM
      obtain ⟨w2, e2, k2, r2⟩ := D_cheapest (DB_kp k1 (DB_q hq)) (W := nI 1 <<< (nI t &&& 31))
      refine ⟨bif Nat.beq y 0 then b1 (bst (sx n m v te tc f g s (nI 1 <<< (nI t &&& 31))) (2 ^ m)) else b2 (-nI 1) (bst (sx n m v te tc f g s (nI 1 <<< (nI t &&& 31))) (2 ^ m)), w1, w2, ?_, ?_, KP_t k1 k2⟩
      · unfold F_Loc_sawFor F_Loc_sawFor_34
        rw [S_isThing hV hC, h, bn_s, bi_ite, cond_true, S_isEither, h2, bn_s, bi_ite, cond_true]
        dsimp only
        rw [e1, bn_s]
      · unfold F_Mod_sawFor F_Mod_sawFor_43
        rw [D_isThing hV hM1, h, bn_s, bi_ite, cond_true, D_in0 (k := 1) (by omega), h2, bn_s, bi_ite, cond_true]
        dsimp only
        rw [e2, bn_s]
        dsimp only
        rw [r2, iz_b (by omega)]
        cases Nat.beq y 0 <;> rfl)
theorem B_sawAll (a : Int32) : BOTH (F_Loc_sawAll a) (F_Mod_sawAll a) := BOTH_q (fun {n m g s T f v te tc w} hq => by
  obtain ⟨hV, hg, hs, hC, hM, hT, hX, hS, hP, hI, hA⟩ := id hq
  cases h2 : am_in a 2 with
  | false =>
    refine ⟨-nI 2, w, w, ?_, ?_, KP_r w⟩
    · unfold F_Loc_sawAll F_Loc_sawAll_24
      rw [S_isEither, h2]; rfl
    · unfold F_Mod_sawAll
      rw [D_in0 (k := 1) (by omega), h2]; rfl
  | true =>
    obtain ⟨y, hy, rfl⟩ := in_ex h2 (by omega)
    obtain ⟨w1, e1, k1⟩ := S_cheapest (SB_q hq) (W := mk (evr v) n) hy
    have hM1 : MM n m g s v w1 := MM_fr rfl k1 hM
    obtain ⟨w2, e2, k2, r2⟩ := D_cheapest (DB_kp k1 (DB_q hq)) (W := mk (evr v) n)
    refine ⟨bif Nat.beq y 0 then b1 (bst (sx n m v te tc f g s (mk (evr v) n)) (2 ^ m)) else b2 (-nI 1) (bst (sx n m v te tc f g s (mk (evr v) n)) (2 ^ m)), w1, w2, ?_, ?_, KP_t k1 k2⟩
    · unfold F_Loc_sawAll F_Loc_sawAll_24
      rw [S_isEither, h2, bn_s, bi_ite, cond_true]
      dsimp only
      rw [hC.2.2.2.2.1, e1, bn_s]
    · unfold F_Mod_sawAll F_Mod_sawAll_33
      rw [D_in0 (k := 1) (by omega), h2, bn_s, bi_ite, cond_true, D_ever hV hM1, bn_s]
      dsimp only
      rw [e2, bn_s]
      dsimp only
      rw [r2, iz_b (by omega)]
      cases Nat.beq y 0 <;> rfl)
/-! laws -/
/-- whether a text's prices are as told, of the first locks -/
def lwF (v : am_V) (te tc : Nat → Nat → Nat) (x : Nat → Int32) (u : Nat) : Nat → Bool
  | 0 => true
  | i + 1 => lwF v te tc x u i && decide (sw v te tc u i = x i)
section
variable {n m g s T f : Nat} {v : am_V} {te tc : Nat → Nat → Nat} {w w2 : am_W} {x : Nat → Int32}
theorem lwF_f {u i : Nat} (h : lwF v te tc x u i = false) : ∀ d, lwF v te tc x u (i + d) = false
  | 0 => h
  | d + 1 => by
    rw [show i + (d + 1) = (i + d) + 1 from rfl, lwF, lwF_f h d]; rfl
theorem S_areSo (hb : SB n m g s T f v te tc w) {p u : Nat} (hp : p < 4) (hu : u < T) (hx : ∀ i, i < 40 → w.1 (46 + 2 * p) i = x i) : ∃ w2, F_Loc_sawsAreSo p (nI u) w = some (bi (lwF v te tc x u m), w2) ∧ EX ss34 w w2 := by
  have hm := hb.1.2.1
  have key : ∀ (d i F : Nat) (w1 : am_W), i + d = m → d < F → EX ss34 w w1 → lwF v te tc x u i = true → ∃ w2, L_Loc_sawsAreSo_2 F p (nI u) (nI i) w1 = some (bi (lwF v te tc x u m), w2) ∧ EX ss34 w w2 := by
    intro d
    induction d with
    | zero =>
      intro i F w1 hi hF k hl
      obtain ⟨F, rfl⟩ : ∃ j, F = j + 1 := ⟨F - 1, by omega⟩
      have hb1 := SB_kp (KP_34 k) hb
      refine ⟨w1, ?_, k⟩
      show F_Loc_sawsAreSo_2 _ _ _ _ _ = _
      unfold F_Loc_sawsAreSo_2
      simp (disch := omega) only [hb1.2.2.1.2.2.1, nI_clamp, am_ckI, ile_t, ile_f, ilt_t, ilt_f, ieq_t, ieq_f, iz_t, iz_f, ilz_f, nI_add]
      rw [← show i = m from hi, hl]; rfl
    | succ d ih =>
      intro i F w1 hi hF k hl
      obtain ⟨F, rfl⟩ : ∃ j, F = j + 1 := ⟨F - 1, by omega⟩
      have hb1 := SB_kp (KP_34 k) hb
      have him : i < m := by omega
      obtain ⟨w2, e2, k2⟩ : ∃ w2, F_Law_sawing (nI u) (nI i) w1 = some (sw v te tc u i, w2) ∧ EX ss34 w1 w2 := by
        obtain ⟨w2, e, k⟩ := S_says hb1.1 hb1.2.2.1 hb1.2.2.2.2 hb1.2.2.2.1.1 (u := u) (p := 1) (t := v 4 i) (h := 0) (lo := some i) hu (by omega) (hb.1.2.2.2 i him).1 (fun j hj => by cases hj; exact him)
        refine ⟨w2, ?_, k⟩
        have e : F_Law_says (nI u) (nI 1) (nI (v 4 i)) (nI i) (nI 0) w1 = _ := e
        unfold F_Law_sawing
        simp (disch := omega) only [nI_clamp, am_ckI, ile_t, ile_f, ilt_t, ilt_f, ieq_t, ieq_f, iz_t, iz_f, ilz_f, nI_add, bn_V, am_ltV, am_ckV, cond_V1, cond_V0, bi_ite, ck_bi, ite_T, ite_F, (hb1.2.2.1.2.2.2.2.2.2 i him).1, e]
        rfl
      have hr : w1.1 (46 + 2 * p) i = x i := by
        rw [k (46 + 2 * p) (by unfold ss34; rw [nbf (by omega), nbf (by omega)]; rfl)]
        exact hx i (by omega)
      show ∃ w2, F_Loc_sawsAreSo_2 _ _ _ _ _ = _ ∧ _
      unfold F_Loc_sawsAreSo_2
      simp (disch := omega) only [hb1.2.2.1.2.2.1, nI_clamp, am_ckI, ile_t, ile_f, ilt_t, ilt_f, ieq_t, ieq_f, iz_t, iz_f, ilz_f, nI_add, bn_V, am_ltV, am_ckV, cond_V1, cond_V0, bi_ite, ck_bi, ite_T, ite_F, e2, hr]
      by_cases h : x i = sw v te tc u i
      · rw [if_pos h]
        exact ih (i + 1) F w2 (by omega) (by omega) (EX_t k k2) (by rw [lwF, hl, decide_eq_true h.symm]; rfl)
      · rw [if_neg h]
        have h2 : lwF v te tc x u (i + 1) = false := by rw [lwF, decide_eq_false (fun q => h q.symm), Bool.and_false]
        have h3 := lwF_f h2 (m - (i + 1))
        rw [show i + 1 + (m - (i + 1)) = m from by omega] at h3
        rw [h3]
        exact ⟨w2, rfl, EX_t k k2⟩
  unfold F_Loc_sawsAreSo
  exact key m 0 am_NF w (by omega) (by show m < 4000; omega) (EX_r _ _) rfl
theorem S_laws (hb : SB n m g s T f v te tc w) (h1 : w.1 17 1 = nI T) {p : Nat} (hp : p < 4) (hx : ∀ i, i < 40 → w.1 (46 + 2 * p) i = x i) : ∃ w2, L_Loc_laws_39 am_NF (nI p) (nI 0) (nI 0) w = some (mk (fun u => lwF v te tc x u m) T, w2) ∧ EX ss34 w w2 := by
  have hT6 := hb.2.2.2.1.1
  have key : ∀ (d i F : Nat) (w1 : am_W), i + d = T → d < F → EX ss34 w w1 → ∃ w2, L_Loc_laws_39 F (nI p) (mk (fun u => lwF v te tc x u m) i) (nI i) w1 = some (mk (fun u => lwF v te tc x u m) T, w2) ∧ EX ss34 w w2 := by
    intro d
    induction d with
    | zero =>
      intro i F w1 hi hF k
      obtain ⟨F, rfl⟩ : ∃ j, F = j + 1 := ⟨F - 1, by omega⟩
      have h2 : w1.1 17 1 = nI T := (congrFun (k 17 rfl) 1).trans h1
      refine ⟨w1, ?_, k⟩
      show F_Loc_laws_39 _ _ _ _ _ = _
      unfold F_Loc_laws_39
      simp (disch := omega) only [h2, nI_clamp, am_ckI, ile_t, ile_f, ilt_t, ilt_f, ieq_t, ieq_f, iz_t, iz_f, ilz_f, nI_add]
      rw [show i = T from hi]
    | succ d ih =>
      intro i F w1 hi hF k
      obtain ⟨F, rfl⟩ : ∃ j, F = j + 1 := ⟨F - 1, by omega⟩
      have h2 : w1.1 17 1 = nI T := (congrFun (k 17 rfl) 1).trans h1
      have hb1 := SB_kp (KP_34 k) hb
      obtain ⟨w2, e2, k2⟩ := S_areSo hb1 hp (u := i) (x := x) (by omega) (fun j hj => by
        rw [k (46 + 2 * p) (by unfold ss34; rw [nbf (by omega), nbf (by omega)]; rfl)]
        exact hx j hj)
      have t1 := ih (i + 1) F w2 (by omega) (by omega) (EX_t k k2)
      show ∃ w2, F_Loc_laws_39 _ _ _ _ _ = _ ∧ _
      unfold F_Loc_laws_39 F_Loc_laws_73
      simp (disch := omega) only [h2, nI_clamp, am_ckI, ile_t, ile_f, ilt_t, ilt_f, ieq_t, ieq_f, iz_t, iz_f, ilz_f, nI_add, bn_V, am_ltV, am_ckV, cond_V1, cond_V0, bi_ite, ck_bi, ite_T, ite_F, e2]
      cases hl : lwF v te tc x i m with
      | false => rw [mk_n (p := fun u => lwF v te tc x u m) hl] at t1; exact t1
      | true => rw [mk_s (p := fun u => lwF v te tc x u m) hl (by omega)] at t1; exact t1
  exact key T 0 am_NF w (by omega) (by show T < 4000; omega) (EX_r _ _)
theorem D_laws (hb : DB n m g s T f v te tc w) (h1 : w.1 53 12 = nI T) {p : Nat} (hp : p < 4) (hx : ∀ i, i < 40 → w.1 64 (40 * p + i) = x i) : ∃ w2, L_Mod_laws_39 am_NF (nI p) (nI f) (nI 0) (nI 0) w = some (mk (fun u => lwF v te tc x u m) T, w2) ∧ KP w w2 := by
  have hT6 := hb.2.2.2.2.1.1
  have hm := hb.1.2.1
  have h13 := hb.2.2.2.2.1.2.2
  have inner : ∀ (r : Int32 → Int32 → Int32 → Int32 → am_W → Option (Int32 × am_W)) (u : Nat) (a4 : Int32), u < T → ∀ (d i F : Nat) (w1 : am_W), i + d = m → d < F → EX ss68 (wsf w 53 13 (nI u)) w1 → ∃ w2, L_Mod_laws_60 r F (nI p) (nI f) a4 (nI u) (bi (lwF v te tc x u i)) (nI i) w1 = r (nI p) (nI f) (a4 ||| (bif lwF v te tc x u m then nI 1 <<< (nI u &&& 31) else nI 0)) (nI (u + 1)) w2 ∧ EX ss68 (wsf w 53 13 (nI u)) w2 := by
    intro r u a4 hu d
    have f1 : FRA (fun a => Nat.beq a 7) w (wsf w 53 13 (nI u)) := FRA_sf rfl
    have hbu : DB n m g s T u v te tc (wsf w 53 13 (nI u)) := ⟨hb.1, hb.2.1, hb.2.2.1, MM_fr rfl f1 hb.2.2.2.1, ⟨hT6, hu, wsf_at _ _ _ _⟩, TX_fr rfl f1 hb.2.2.2.2.2 hT6⟩
    induction d with
    | zero =>
      intro i F w1 hi hF k
      obtain ⟨F, rfl⟩ : ∃ j, F = j + 1 := ⟨F - 1, by omega⟩
      have hb1 := DB_kp (KP_68 k) hbu
      refine ⟨w1, ?_, k⟩
      show F_Mod_laws_60 _ _ _ _ _ _ _ _ _ = _
      unfold F_Mod_laws_60 F_Mod_laws_123
      simp (disch := omega) only [hb1.2.2.2.1.2.2.1, nI_clamp, am_ckI, ile_t, ile_f, ilt_t, ilt_f, ieq_t, ieq_f, iz_t, iz_f, ilz_f, nI_add, bi_ite]
      rw [show i = m from hi]
      cases lwF v te tc x u m <;> rfl
    | succ d ih =>
      intro i F w1 hi hF k
      obtain ⟨F, rfl⟩ : ∃ j, F = j + 1 := ⟨F - 1, by omega⟩
      have hb1 := DB_kp (KP_68 k) hbu
      have him : i < m := by omega
      show ∃ w2, F_Mod_laws_60 _ _ _ _ _ _ _ _ _ = _ ∧ _
      unfold F_Mod_laws_60 F_Mod_laws_99 F_Mod_laws_100
      simp (disch := omega) only [hb1.2.2.2.1.2.2.1, nI_clamp, am_ckI, ile_t, ile_f, ilt_t, ilt_f, ieq_t, ieq_f, iz_t, iz_f, ilz_f, nI_add, bi_ite]
      cases hl : lwF v te tc x u i with
      | false =>
        have h9 := ih (i + 1) F w1 (by omega) (by omega) k
        rw [show lwF v te tc x u (i + 1) = false from by rw [lwF, hl]; rfl] at h9
        exact h9
      | true =>
        obtain ⟨w2, e2, k2⟩ : ∃ w2, F_Mod_sawsOf (nI i) w1 = some (sw v te tc u i, w2) ∧ EX ss68 w1 w2 := by
          obtain ⟨w2, e, k⟩ := D_asks hb1.1 hb1.2.2.2.1 hb1.2.2.2.2.2 hb1.2.2.2.2.1 (p := 1) (t := v 4 i) (h := 0) (lo := some i) (by omega) (hb.1.2.2.2 i him).1 (fun j hj => by cases hj; exact him)
          refine ⟨w2, ?_, k⟩
          have e : F_Mod_asksOf (nI 1) (nI (v 4 i)) (nI i) (nI 0) w1 = _ := e
          unfold F_Mod_sawsOf
          simp (disch := omega) only [nI_clamp, am_ckI, ile_t, ile_f, ilt_t, ilt_f, ieq_t, ieq_f, iz_t, iz_f, ilz_f, nI_add, bn_V, am_ltV, am_ckV, cond_V1, cond_V0, bi_ite, ck_bi, ite_T, ite_F, D_owner hb1.1 hb1.2.2.2.1 him, e]
          rfl
        have hr : w2.1 64 (40 * p + i) = x i := by
          rw [k2 64 rfl, k 64 rfl, wsf_nc rfl]
          exact hx i (by omega)
        have h9 := ih (i + 1) F w2 (by omega) (by omega) (EX_t k k2)
        simp (disch := omega) only [cond_true, e2, bn_V, am_ltV, am_ckV, cond_V1, cond_V0, bi_ite, ck_bi, ite_T, ite_F, nI_clamp, am_ckI, ile_t, ile_f, ilt_t, ilt_f, ieq_t, ieq_f, iz_t, iz_f, ilz_f, nI_add, pk_mul, hr]
        by_cases h : sw v te tc u i = x i
        · rw [show lwF v te tc x u (i + 1) = true from by rw [lwF, hl, decide_eq_true h]; rfl] at h9
          rw [if_pos h]
          exact h9
        · rw [show lwF v te tc x u (i + 1) = false from by rw [lwF, hl, decide_eq_false h]; rfl] at h9
          rw [if_neg h]
          exact h9
  have outer : ∀ (d i F : Nat) (w1 : am_W), i + d = T → d < F → (∀ c, ss68 c = false → ¬ c = 53 → w1.1 c = w.1 c) → (∀ j, ¬ j = 13 → w1.1 53 j = w.1 53 j) → ∃ w2, L_Mod_laws_39 F (nI p) (nI f) (mk (fun u => lwF v te tc x u m) i) (nI i) w1 = some (mk (fun u => lwF v te tc x u m) T, w2) ∧ KP w w2 := by
    intro d
    induction d with
    | zero =>
      intro i F w1 hi hF k k53
      obtain ⟨F, rfl⟩ : ∃ j, F = j + 1 := ⟨F - 1, by omega⟩
      have h2 : w1.1 53 12 = nI T := (k53 12 (by omega)).trans h1
      refine ⟨wsf w1 53 13 (nI f), ?_, fun c j q => ?_⟩
      · show F_Mod_laws_39 _ _ _ _ _ _ = _
        unfold F_Mod_laws_39
        simp (disch := omega) only [h2, nI_clamp, am_ckI, ile_t, ile_f, ilt_t, ilt_f, ieq_t, ieq_f, iz_t, iz_f, ilz_f, nI_add, bn_V, am_ltV, am_ckV, cond_V1, cond_V0, bi_ite, ck_bi, ite_T, ite_F]
        rw [show i = T from hi]
      · by_cases hc : c = 53
        · rw [hc]
          by_cases hj : j = 13
          · rw [hj, wsf_at, h13]
          · rw [wsf_ne hj, k53 j hj]
        · rw [wsf_nc (nbf hc)]
          cases h68 : ss68 c with
          | false => rw [k c h68 hc]
          | true =>
            unfold ss68 at h68
            rw [Bool.or_eq_true] at h68
            rcases h68 with h68 | h68
            · rw [Nat.eq_of_beq_eq_true h68] at q; cases q
            · rw [Nat.eq_of_beq_eq_true h68] at q; cases q
    | succ d ih =>
      intro i F w1 hi hF k k53
      obtain ⟨F, rfl⟩ : ∃ j, F = j + 1 := ⟨F - 1, by omega⟩
      have h2 : w1.1 53 12 = nI T := (k53 12 (by omega)).trans h1
      have k3 : EX ss68 (wsf w 53 13 (nI i)) (wsf w1 53 13 (nI i)) := fun c hc => by
        by_cases h53 : c = 53
        · rw [h53]
          funext j
          by_cases hj : j = 13
          · rw [hj, wsf_at, wsf_at]
          · rw [wsf_ne hj, wsf_ne hj, k53 j hj]
        · funext j
          rw [wsf_nc (nbf h53), wsf_nc (nbf h53), k c hc h53]
      obtain ⟨w2, e2, k2⟩ := inner (L_Mod_laws_39 F) i (mk (fun u => lwF v te tc x u m) i) (by omega) m 0 am_NF (wsf w1 53 13 (nI i)) (by omega) (by show m < 4000; omega) k3
      have t1 := ih (i + 1) F w2 (by omega) (by omega) (fun c hc h53 => by
        rw [k2 c hc]
        funext j
        rw [wsf_nc (nbf h53)]) (fun j hj => by rw [k2 53 rfl, wsf_ne hj])
      show ∃ w2, F_Mod_laws_39 _ _ _ _ _ _ = _ ∧ _
      unfold F_Mod_laws_39
      simp (disch := omega) only [h2, nI_clamp, am_ckI, ile_t, ile_f, ilt_t, ilt_f, ieq_t, ieq_f, iz_t, iz_f, ilz_f, nI_add, bn_V, am_ltV, am_ckV, cond_V1, cond_V0, bi_ite, ck_bi, ite_T, ite_F]
      have e2 : L_Mod_laws_60 (L_Mod_laws_39 F) am_NF (nI p) (nI f) (mk (fun u => lwF v te tc x u m) i) (nI i) (nI 1) (nI 0) (wsf w1 53 13 (nI i)) = _ := e2
      rw [e2]
      cases hl : lwF v te tc x i m with
      | false => rw [mk_n0 (p := fun u => lwF v te tc x u m) hl] at t1; exact t1
      | true => rw [mk_s (p := fun u => lwF v te tc x u m) hl (by omega)] at t1; exact t1
  exact outer T 0 am_NF w (by omega) (by show T < 4000; omega) (fun c _ _ => rfl) (fun j _ => rfl)
end
theorem B_laws (a : Int32) : BOTH (F_Loc_laws a) (F_Mod_laws a) := BOTH_q (fun {n m g s T f v te tc w} hq => by
  obtain ⟨hV, hg, hs, hC, hM, hT, hX, hS, hP, hI, hA⟩ := id hq
  have hm := hV.2.1
  cases ha : am_in a 4 with
  | false =>
    refine ⟨-nI 2, w, w, ?_, ?_, KP_r w⟩
    · unfold F_Loc_laws
      rw [S_ref0 ha]; rfl
    · unfold F_Mod_laws
      rw [D_ref0 ha]; rfl
  | true =>
    obtain ⟨p, hp, rfl⟩ := in_ex ha (by omega)
    rcases sh_there hp hS with ⟨s1, s2⟩ | ⟨so, z, hso, hz, s1, s2, s3, s4, s5⟩
    · refine ⟨-nI 11, w, w, ?_, ?_, KP_r w⟩
      · unfold F_Loc_laws
        rw [S_ref1 hp s1]; rfl
      · unfold F_Mod_laws
        rw [D_ref1 hp s2]; rfl
    · have hS1 : F_Loc_refusalOf (nI p) w = some (nI 0, w) := by rw [S_ref1 hp s1, if_neg (m1_ne (by omega))]
      by_cases hzm : z = m
      · obtain ⟨w1, e1, k1⟩ := S_laws (SB_q hq) hT.2.2.1 hp (x := fun i => w.1 64 (40 * p + i)) s5
        have kp1 := KP_34 k1
        have hM1 : MM n m g s v w1 := MM_fr rfl kp1 hM
        have hD2 : F_Mod_sheetWrong (nI p) w1 = some (nI 0, w1) := by rw [D_ref1 hp ((congrFun (k1 62 rfl) p).trans s2), if_neg (m1_ne (by omega))]
        have t3 : w1.1 63 p = nI z := (congrFun (k1 63 rfl) p).trans s3
        have h13 : w1.1 53 13 = nI f := (congrFun (k1 53 rfl) 13).trans hT.2.2.2.2.2
        obtain ⟨w2, e2, k2⟩ := D_laws (DB_kp kp1 (DB_q hq)) ((congrFun (k1 53 rfl) 12).trans hT.2.2.2.2.1) hp (x := fun i => w.1 64 (40 * p + i)) (fun i _ => by rw [k1 64 rfl])
        refine ⟨mk (fun u => lwF v te tc (fun i => w.1 64 (40 * p + i)) u m) T, w1, w2, ?_, ?_, KP_t kp1 k2⟩
        · unfold F_Loc_laws
          simp (disch := omega) only [hS1, bn_V, am_ltV, am_ckV, cond_V1, cond_V0, bi_ite, ck_bi, ite_T, ite_F, nI_clamp, am_ckI, ile_t, ile_f, ilt_t, ilt_f, ieq_t, ieq_f, iz_t, iz_f, ilz_f, nI_add, s4, hC.2.2.1]
          exact e1
        · unfold F_Mod_laws
          simp (disch := omega) only [hD2, bn_V, am_ltV, am_ckV, cond_V1, cond_V0, bi_ite, ck_bi, ite_T, ite_F, nI_clamp, am_ckI, ile_t, ile_f, ilt_t, ilt_f, ieq_t, ieq_f, iz_t, iz_f, ilz_f, nI_add, t3, hM1.2.2.1, h13]
          exact e2
      · have hD1 : F_Mod_sheetWrong (nI p) w = some (nI 0, w) := by rw [D_ref1 hp s2, if_neg (m1_ne (by omega))]
        refine ⟨-nI 2, w, w, ?_, ?_, KP_r w⟩
        · unfold F_Loc_laws
          simp (disch := omega) only [hS1, bn_V, am_ltV, am_ckV, cond_V1, cond_V0, bi_ite, ck_bi, ite_T, ite_F, nI_clamp, am_ckI, ile_t, ile_f, ilt_t, ilt_f, ieq_t, ieq_f, iz_t, iz_f, ilz_f, nI_add, s4, hC.2.2.1]
        · unfold F_Mod_laws
          simp (disch := omega) only [hD1, bn_V, am_ltV, am_ckV, cond_V1, cond_V0, bi_ite, ck_bi, ite_T, ite_F, nI_clamp, am_ckI, ile_t, ile_f, ilt_t, ilt_f, ieq_t, ieq_f, iz_t, iz_f, ilz_f, nI_add, s3, hM.2.2.1])
