/-! ===== sawFor, sawAll, laws ===== -/
/-- what locks cost to saw, of the first of a set -/
def pcS (x : Nat → Int32) (set : Nat) : Nat → Int32
  | 0 => nI 0
  | i + 1 => pcS x set i + bif set.testBit i then x i else nI 0
/-- only bits of another -/
def sbb (set : Nat) (sh : Int32) : Bool := decide ((nI set &&& (sh ^^^ (-nI 1))) = 0)
theorem sbb_le {set sh : Nat} (h1 : set < 2 ^ 31) (h2 : sh < 2 ^ 31) (h : sbb set (nI sh) = true) : set ≤ sh := by
  have h := of_decide_eq_true h
  have e : set &&& sh = set := Nat.eq_of_testBit_eq (fun i => by
    rw [Nat.testBit_and]
    by_cases hi : i < 32
    · have h3 : bt (nI set &&& (nI sh ^^^ (-nI 1))) i = bt (nI 0) i := congrArg (fun x => bt x i) h
      rw [b_and, b_not _ hi, b_nI hi, b_nI hi, b_0i] at h3
      cases q : set.testBit i
      · rfl
      · rw [q, Bool.true_and, Bool.not_eq_false'] at h3
        rw [h3]; rfl
    · rw [Nat.testBit_lt_two_pow (Nat.lt_of_lt_of_le h1 (Nat.pow_le_pow_right (by omega) (by omega : 31 ≤ i)))]; rfl)
  have := Nat.and_le_right (n := set) (m := sh)
  omega
/-- sets of locks by which all wanted are gone at last, and what they cost -/
def sx (n m : Nat) (v : am_V) (te tc : Nat → Nat → Nat) (f g s : Nat) (W : Int32) (set : Nat) : Option Int32 := bif sbb set (mk (shu v g s) m) && decide ((W &&& (nI (gal n m v 0 (s ||| set) g) ^^^ (-nI 1))) = 0) then some (pcS (sw v te tc f) set m) else none
section
variable {n m g s T f : Nat} {v : am_V} {te tc : Nat → Nat → Nat} {w w2 : am_W}
theorem sx_n {W : Int32} {j : Nat} (hm : m ≤ 10) (hj : j < 2 ^ m) (h : mkN (shu v g s) m < j) : sx n m v te tc f g s W j = none := by
  have hp : 2 ^ m ≤ 2 ^ 10 := Nat.pow_le_pow_right (by omega) hm
  have h0 : sbb j (mk (shu v g s) m) = false := by
    rw [mk_N]
    exact Bool.eq_false_iff.mpr (fun q => by
      have := sbb_le (by omega) (by omega) q
      omega)
  unfold sx
  rw [h0]; rfl
theorem S_price (hV : VI n m v) (hC : CC n m g s v w) {x : Nat → Int32} (hx : ∀ l, l < m → w.1 44 l = x l) {set : Nat} : F_Loc_priceOf (nI set) w = some (pcS x set m, w) := by
  have hm := hV.2.1
  unfold F_Loc_priceOf
  refine lp_0 (G := fun k i => L_Loc_priceOf_4 k (nI set) (pcS x set i) (nI i) w) (m := m) ?_ ?_ (by show m < 4000; omega)
  · intro k i hi
    show F_Loc_priceOf_4 _ _ _ _ _ = _
    unfold F_Loc_priceOf_4 F_Loc_priceOf_34
    simp (disch := omega) only [hC.2.2.1, nI_clamp, am_ckI, ile_t, ile_f, ilt_t, ilt_f, ieq_t, ieq_f, iz_t, iz_f, ilz_f, nI_add, S_hasN, bn_V, am_ltV, am_ckV, cond_V1, cond_V0, bi_ite, ck_bi, ite_T, ite_F, hx]
    rw [pcS]
    cases set.testBit i <;> rfl
  · intro k
    show F_Loc_priceOf_4 _ _ _ _ _ = _
    unfold F_Loc_priceOf_4
    simp (disch := omega) only [hC.2.2.1, nI_clamp, am_ckI, ile_t, ile_f, ilt_t, ilt_f, ieq_t, ieq_f, iz_t, iz_f, ilz_f, nI_add]
/-- the model's memory while it looks at sets of locks: what is sawn, the least price yet -/
def wq (w : am_W) (a b : Int32) : am_W := wsf (wsf w 53 7 a) 53 40 b
theorem wq_7 {a b x : Int32} : wsf (wq w a b) 53 7 x = wq w x b := by
  unfold wq wsf
  dsimp only
  rw [mf_mf, mf_mf, mf_s, mf_s, mf_mf, mf_s]
  refine congrArg (fun q => (mf w.1 53 q, w.2)) (funext fun j => ?_)
  unfold upd
  by_cases h1 : j = 7
  · rw [if_pos h1, if_neg (by omega), if_pos h1]
  · by_cases h2 : j = 40
    · rw [if_neg h1, if_pos h2, if_pos h2]
    · rw [if_neg h1, if_neg h2, if_neg h1, if_neg h2, if_neg h1]
theorem wq_40 {a b x : Int32} : wsf (wq w a b) 53 40 x = wq w a x := by
  unfold wq
  rw [wsf_wsf]
end
/-! laws -/
/-- whether a text's prices are as told, of the first locks -/
def lwF (v : am_V) (te tc : Nat → Nat → Nat) (x : Nat → Int32) (u : Nat) : Nat → Bool
  | 0 => true
  | i + 1 => lwF v te tc x u i && decide (sw v te tc u i = x i)
section
variable {n m g s T f : Nat} {v : am_V} {te tc : Nat → Nat → Nat} {w w2 : am_W} {x : Nat → Int32}
theorem lwF_f {u i : Nat} (h : lwF v te tc x u i = false) : ∀ d, lwF v te tc x u (i + d) = false
  | 0 => h
  | d + 1 => by
    rw [show i + (d + 1) = (i + d) + 1 from rfl, lwF, lwF_f h d]; rfl
end