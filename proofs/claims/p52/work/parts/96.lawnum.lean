/-! ===== the law by numbers: longs as sets, what it reads from its script, its own reckoning ===== -/
def lbt (x : Int64) (i : Nat) : Bool := x.toBitVec.getLsbD i
theorem l_ext {x y : Int64} (h : ∀ i, i < 64 → lbt x i = lbt y i) : x = y := Int64.toBitVec_inj.mp (BitVec.eq_of_getLsbD_eq (fun i hi => h i hi))
theorem l_or (x y : Int64) (i : Nat) : lbt (x ||| y) i = (lbt x i || lbt y i) := by unfold lbt; rw [Int64.toBitVec_or, BitVec.getLsbD_or]
theorem l_and (x y : Int64) (i : Nat) : lbt (x &&& y) i = (lbt x i && lbt y i) := by unfold lbt; rw [Int64.toBitVec_and, BitVec.getLsbD_and]
theorem l_xor (x y : Int64) (i : Nat) : lbt (x ^^^ y) i = (lbt x i ^^ lbt y i) := by unfold lbt; rw [Int64.toBitVec_xor, BitVec.getLsbD_xor]
theorem l_m1 : ∀ i, i < 64 → lbt (-lN 1) i = true := by decide +kernel
theorem l_lN {n : Nat} {i : Nat} (hi : i < 64) : lbt (lN n) i = n.testBit i := by
  show (BitVec.ofNat 64 n).getLsbD i = _
  rw [BitVec.getLsbD_ofNat]
  simp [hi]
theorem l_not (x : Int64) {i : Nat} (hi : i < 64) : lbt (x ^^^ (-lN 1)) i = !lbt x i := by
  rw [l_xor, l_m1 i hi]
  cases lbt x i <;> rfl
theorem lN_and (a b : Nat) : lN a &&& lN b = lN (a &&& b) := l_ext (fun i hi => by rw [l_and, l_lN hi, l_lN hi, l_lN hi, Nat.testBit_and])
theorem lN_or (a b : Nat) : lN a ||| lN b = lN (a ||| b) := l_ext (fun i hi => by rw [l_or, l_lN hi, l_lN hi, l_lN hi, Nat.testBit_or])
theorem wb_tb (n : Nat) : (lN n).toBitVec = BitVec.ofNat 64 n := rfl
theorem wb_inj {a b : Int64} (h : a.toBitVec = b.toBitVec) : a = b := Int64.toBitVec_inj.mp h
theorem wb_c : ∀ k, k < 64 → ((nI k).toInt64 &&& 63) = lN k := by decide +kernel
theorem wb_sm : ∀ k, k < 64 → (BitVec.ofNat 64 k).smod 64 = BitVec.ofNat 64 k := by decide +kernel
theorem wb_sn : ∀ k, k < 64 → ((lN k).toBitVec.smod 64).toNat = k := by decide +kernel
theorem wb_shl (n : Nat) {k : Nat} (hk : k < 64) : lN n <<< ((nI k).toInt64 &&& 63) = lN (n * 2 ^ k) := by
  rw [wb_c k hk]
  apply wb_inj
  rw [Int64.toBitVec_shiftLeft, wb_tb, wb_tb, wb_tb, wb_sm k hk]
  apply BitVec.eq_of_toNat_eq
  rw [BitVec.shiftLeft_eq', BitVec.toNat_shiftLeft, BitVec.toNat_ofNat, BitVec.toNat_ofNat, BitVec.toNat_ofNat, Nat.mod_eq_of_lt (show k < 2 ^ 64 by omega), Nat.shiftLeft_eq, Nat.mul_mod, Nat.mod_mod, ← Nat.mul_mod]
theorem l_one {k : Nat} (hk : k < 64) : lN 1 <<< ((nI k).toInt64 &&& 63) = lN (2 ^ k) := by rw [wb_shl 1 hk, Nat.one_mul]
theorem pf_lI {a : Nat} (h : a < 2 ^ 63) : (lN a).toInt = (a : Int) := lg_ofNat_toInt h
theorem pf_shr {a d : Nat} {D : Int64} (hD : (D.toBitVec.smod 64).toNat = d) (h : a < 2 ^ 62) : lN a >>> D = lN (a / 2 ^ d) := by
  have hd : a / 2 ^ d ≤ a := Nat.div_le_self _ _
  apply Int64.toInt_inj.mp
  have e : (lN a >>> D).toInt = (lN a).toInt >>> d := by
    rw [← hD]
    exact BitVec.toInt_sshiftRight ..
  rw [e, Int.shiftRight_eq_div_pow, pf_lI (by omega), pf_lI (by omega)]
  rfl
theorem l_bit {g t : Nat} (hg : g < 2 ^ 62) (ht : t < 64) : (lN g >>> ((nI t).toInt64 &&& 63)) &&& lN 1 = lN (g.testBit t).toNat := by
  rw [wb_c t ht, pf_shr (wb_sn t ht) hg, lN_and, Nat.and_one_is_mod, Nat.testBit_eq_decide_div_mod_eq]
  rcases Nat.mod_two_eq_zero_or_one (g / 2 ^ t) with h | h <;> rw [h] <;> rfl
theorem lc_e {a b : Nat} (ha : a < 2 ^ 63) (hb : b < 2 ^ 63) : (lg_cmp (lN a) (lN b) = 0) = (a = b) := propext (by rw [lg_cmp_eq]; exact pk_lEQ ha hb)
theorem lc_0 {α : Type} (b : Bool) {x y : α} : (if lg_cmp (lN b.toNat) (lN 0) = 0 then x else y) = bif b then y else x := by
  cases b with
  | true => exact if_neg (by rw [lc_e (by decide) (by decide)]; decide)
  | false => exact if_pos (by rw [lc_e (by decide) (by decide)]; rfl)
theorem lc_1 {α : Type} (b : Bool) {x y : α} : (if lg_cmp (lN b.toNat) (lN 1) = 0 then x else y) = bif b then x else y := by
  cases b with
  | true => exact if_pos (by rw [lc_e (by decide) (by decide)]; rfl)
  | false => exact if_neg (by rw [lc_e (by decide) (by decide)]; decide)
theorem lc_b {α : Type} {a b : Nat} (ha : a < 2 ^ 63) (hb : b < 2 ^ 63) {x y : α} : (if lg_cmp (lN a) (lN b) = 0 then x else y) = bif Nat.beq a b then x else y := ite_b1 (by rw [lc_e ha hb]; exact nbt.symm)
theorem lc_le {α : Type} {a b : Nat} (ha : a < 2 ^ 63) (hb : b < 2 ^ 63) {x y : α} : (if 0 ≤ lg_cmp (lN a) (lN b) then x else y) = bif Nat.ble b a then x else y := ite_b1 (by rw [lg_cmp_ge, pk_lLE hb ha]; exact ⟨Nat.ble_eq_true_of_le, Nat.le_of_ble_eq_true⟩)
theorem lc_lt {α : Type} {a b : Nat} (ha : a < 2 ^ 63) (hb : b < 2 ^ 63) {x y : α} : (if 0 < lg_cmp (lN a) (lN b) then x else y) = bif Nat.ble (b + 1) a then x else y := ite_b1 (by rw [lg_cmp_gt, pk_lLT hb ha]; exact ⟨Nat.ble_eq_true_of_le, Nat.le_of_ble_eq_true⟩)
theorem oth_L {v : am_V} {g l t : Nat} (h6 : v 6 l < 512) (ht : t < 62) {α : Type} {x y : α} : (if lg_cmp ((lN (v 6 l) &&& (lN g ^^^ (-lN 1))) &&& ((lN 1 <<< ((nI t).toInt64 &&& 63)) ^^^ (-lN 1))) (lN 0) = 0 then x else y) = bif oth v g l t then y else x := by
  refine ite_b ?_
  have e : (lN (v 6 l) &&& (lN g ^^^ (-lN 1))) &&& ((lN 1 <<< ((nI t).toInt64 &&& 63)) ^^^ (-lN 1)) = lN (mkN (fun j => (v 6 l).testBit j && (!g.testBit j && !(Nat.beq j t))) 9) := by
    refine l_ext (fun i hi => ?_)
    rw [l_and, l_and, l_not _ hi, l_not _ hi, l_one (by omega), l_lN hi, l_lN hi, l_lN hi, l_lN hi, mkN_t, Nat.testBit_two_pow]
    by_cases h9 : i < 9
    · rw [decide_eq_true h9, Bool.true_and, Bool.and_assoc]
      by_cases e : t = i
      · rw [e, Nat.beq_refl, decide_eq_true rfl]
      · rw [decide_eq_false e, nbf (fun q => e q.symm)]
    · rw [decide_eq_false h9, Nat.testBit_lt_two_pow (Nat.lt_of_lt_of_le (by omega : v 6 l < 2 ^ 9) (Nat.pow_le_pow_right (by omega) (by omega)))]
      rfl
  have hlt := mkN_lt (fun j => (v 6 l).testBit j && (!g.testBit j && !(Nat.beq j t))) 9
  rw [e, lc_e (by omega) (by decide), mkN_z]
  unfold oth
  rw [List.any_eq_false]
  exact ⟨fun h j hj => Bool.eq_false_iff.mp (h j (List.mem_range.mp hj)), fun h j hj => Bool.eq_false_iff.mpr (h j (List.mem_range.mpr hj))⟩
/-! what the script gives -/
def wA (L : Nat) (xs : Nat → Int32) (i : Nat) : Int32 := if i < L then xs i else nI 0
def f0 (a : Int32) (j : Nat) : Nat := a.toBitVec.toNat % 2 ^ j
def fl (a : Int32) (k j : Nat) : Nat := (a >>> (nI k &&& 31)).toBitVec.toNat % 2 ^ j
theorem f0_lt (a : Int32) (j : Nat) : f0 a j < 2 ^ j := Nat.mod_lt _ (Nat.two_pow_pos j)
theorem fl_lt (a : Int32) (k j : Nat) : fl a k j < 2 ^ j := Nat.mod_lt _ (Nat.two_pow_pos j)
theorem f0_e (a : Int32) {M : Int32} (j : Nat) (hm : M.toBitVec.toNat = 2 ^ j - 1) : a &&& M = nI (f0 a j) := pk_and a j hm
theorem fl_e (a : Int32) (k : Nat) {M : Int32} (j : Nat) (hm : M.toBitVec.toNat = 2 ^ j - 1) : (a >>> (nI k &&& 31)) &&& M = nI (fl a k j) := pk_and _ j hm
section
variable (L : Nat) (xs : Nat → Int32)
def wN : Nat := 1 + f0 (wA L xs 0) 2
def wM : Nat := fl (wA L xs 0) 2 3 % 6
def wP : Bool := Nat.beq (fl (wA L xs 0) 5 2) 0
def wK (t : Nat) : Nat := f0 (wA L xs (1 + t)) 3 % 6
def wO2 (t : Nat) : Nat := fl (wA L xs (1 + t)) 3 4 % 10
def wC (t : Nat) : Nat := fl (wA L xs (1 + t)) 7 5 % 24
def wO (l : Nat) : Nat := f0 (wA L xs (5 + l)) 2 % wN L xs
def wS (l : Nat) : Nat := fl (wA L xs (5 + l)) 2 2 % 3
def wT0 (l : Nat) : Nat := fl (wA L xs (5 + l)) 4 (wN L xs) ||| fl (wA L xs (5 + l)) 8 1 * 2 ^ 8
def wT (l : Nat) : Nat := bif Nat.beq (wT0 L xs l) 0 then 1 else wT0 L xs l
def wSw (l : Nat) : Bool := Nat.beq (fl (wA L xs (5 + l)) 9 3) 7
def wV : am_V := fun c i => match c with
  | 1 => wK L xs i
  | 2 => wO2 L xs i
  | 3 => wC L xs i
  | 4 => wO L xs i
  | 5 => wS L xs i
  | 6 => wT L xs i
  | _ => 0
variable {L} {xs}
theorem wN_lt : 1 ≤ wN L xs ∧ wN L xs ≤ 4 := by
  have := f0_lt (wA L xs 0) 2
  unfold wN
  omega
theorem wM_lt : wM L xs ≤ 5 := by unfold wM; omega
theorem wT0_lt {l : Nat} : wT0 L xs l < 512 := by
  have h1 := fl_lt (wA L xs (5 + l)) 4 (wN L xs)
  have h2 := fl_lt (wA L xs (5 + l)) 8 1
  have h3 : 2 ^ wN L xs ≤ 2 ^ 4 := Nat.pow_le_pow_right (by omega) wN_lt.2
  unfold wT0
  exact Nat.or_lt_two_pow (n := 9) (by omega) (by omega)
theorem wT_lt {l : Nat} : wT L xs l < 512 := by
  unfold wT
  cases Nat.beq (wT0 L xs l) 0
  · exact wT0_lt
  · show 1 < 512; omega
theorem wT_pos {l : Nat} : 0 < wT L xs l := by
  unfold wT
  cases h : Nat.beq (wT0 L xs l) 0
  · show 0 < wT0 L xs l
    have := Nat.ne_of_beq_eq_false h
    omega
  · show 0 < 1; omega
theorem wT_b {l i : Nat} (hi : i < 8) (hn : wN L xs ≤ i) : (wT L xs l).testBit i = false := by
  unfold wT
  cases Nat.beq (wT0 L xs l) 0
  · show (wT0 L xs l).testBit i = false
    unfold wT0
    rw [Nat.testBit_or, Nat.testBit_lt_two_pow (Nat.lt_of_lt_of_le (fl_lt _ _ _) (Nat.pow_le_pow_right (by omega) hn)), ← Nat.shiftLeft_eq, Nat.testBit_shiftLeft, decide_eq_false (by omega)]
    rfl
  · show (1 : Nat).testBit i = false
    have := (wN_lt (L := L) (xs := xs)).1
    exact Nat.testBit_lt_two_pow (Nat.lt_of_lt_of_le (by omega : 1 < 2 ^ 1) (Nat.pow_le_pow_right (by omega) (by omega)))
theorem wV_I : VI (wN L xs) (wM L xs) (wV L xs) := by
  have h1 := wN_lt (L := L) (xs := xs)
  have h2 := wM_lt (L := L) (xs := xs)
  refine ⟨by omega, by omega, fun t _ => ⟨?_, ?_, ?_⟩, fun l _ => ⟨?_, ?_, wT_lt, fun i hi hn => wT_b hi hn⟩⟩
  · show _ % 6 < 6; omega
  · show _ % 10 < 10; omega
  · show _ % 24 < 24; omega
  · exact Nat.mod_lt _ (by omega)
  · show _ % 3 < 3; omega
theorem W_at (hL : L ≤ 260) {i : Nat} (hi : i < 2 ^ 31) : F_W_at L xs (nI i) = some (wA L xs i) := by
  unfold F_W_at F_W_at_13 wA
  by_cases h : i < L
  · rw [if_neg (nI_ge h (by omega)), am_ckI h (by omega), nI_clamp hi, if_pos h]
  · rw [if_pos (nI_le (by omega) hi), if_neg h]
theorem W_things (hL : L ≤ 260) : F_W_things L xs = some (nI (wN L xs)) := by
  unfold F_W_things
  rw [W_at hL (by omega), bn_V, f0_e _ 2 (by rfl), nI_add]
  rfl
theorem W_locks (hL : L ≤ 260) : F_W_locks L xs = some (nI (wM L xs)) := by
  have := fl_lt (wA L xs 0) 2 3
  unfold F_W_locks
  rw [W_at hL (by omega), bn_V, fl_e _ 2 3 (by rfl), pk_rem (by omega) (by omega) (by omega)]
  rfl
theorem W_kind (hL : L ≤ 260) {t : Nat} (ht : t < 100) : F_W_kind L xs (nI t) = some (nI (wK L xs t)) := by
  have := f0_lt (wA L xs (1 + t)) 3
  unfold F_W_kind
  rw [nI_add, W_at hL (by omega), bn_V, f0_e _ 3 (by rfl), pk_rem (by omega) (by omega) (by omega)]
  rfl
theorem W_more (hL : L ≤ 260) {t : Nat} (ht : t < 100) : F_W_more L xs (nI t) = some (nI (wO2 L xs t)) := by
  have := fl_lt (wA L xs (1 + t)) 3 4
  unfold F_W_more
  rw [nI_add, W_at hL (by omega), bn_V, fl_e _ 3 4 (by rfl), pk_rem (by omega) (by omega) (by omega)]
  rfl
theorem W_come (hL : L ≤ 260) {t : Nat} (ht : t < 100) : F_W_come L xs (nI t) = some (nI (wC L xs t)) := by
  have := fl_lt (wA L xs (1 + t)) 7 5
  unfold F_W_come
  rw [nI_add, W_at hL (by omega), bn_V, fl_e _ 7 5 (by rfl), pk_rem (by omega) (by omega) (by omega)]
  rfl
theorem W_owner (hL : L ≤ 260) {l : Nat} (hl : l < 100) : F_W_owner L xs (nI l) = some (nI (wO L xs l)) := by
  have := f0_lt (wA L xs (5 + l)) 2
  have h1 := wN_lt (L := L) (xs := xs)
  unfold F_W_owner
  rw [nI_add, W_at hL (by omega), bn_V, W_things hL, bn_V, iz_f (by omega) (by omega), f0_e _ 2 (by rfl), pk_rem (by omega) (by omega) (by omega)]
  rfl
theorem W_sort (hL : L ≤ 260) {l : Nat} (hl : l < 100) : F_W_sort L xs (nI l) = some (nI (wS L xs l)) := by
  have := fl_lt (wA L xs (5 + l)) 2 2
  unfold F_W_sort
  rw [nI_add, W_at hL (by omega), bn_V, fl_e _ 2 2 (by rfl), pk_rem (by omega) (by omega) (by omega)]
  rfl
theorem W_through (hL : L ≤ 260) {l : Nat} (hl : l < 100) : F_W_through L xs (nI l) = some (nI (wT L xs l)) := by
  have h1 := wN_lt (L := L) (xs := xs)
  have h2 := fl_lt (wA L xs (5 + l)) 8 1
  have h3 : 2 ^ wN L xs ≤ 2 ^ 4 := Nat.pow_le_pow_right (by omega) h1.2
  have h4 := wT0_lt (L := L) (xs := xs) (l := l)
  unfold F_W_through F_W_through_44
  rw [nI_add, W_at hL (by omega), bn_V, W_things hL, bn_V, bn_V, s_all (by omega), fl_e _ 4 (wN L xs) (pk_tn (by omega)), fl_e _ 8 1 (by rfl), pk_shlN (nI 8 &&& 31) 8 (s_l 8 (by omega)) (by omega), nx_or]
  show (if nI (wT0 L xs l) = 0 then _ else some (nI (wT0 L xs l))) = _
  rw [iz_b (by omega)]
  unfold wT
  cases Nat.beq (wT0 L xs l) 0 <;> rfl
theorem W_sawn (hL : L ≤ 260) {l : Nat} (hl : l < 100) : F_W_sawn L xs (nI l) = some (bi (wSw L xs l)) := by
  have := fl_lt (wA L xs (5 + l)) 9 3
  unfold F_W_sawn F_W_sawn_23
  rw [nI_add, W_at hL (by omega), bn_V, fl_e _ 9 3 (by rfl), ieq_b (by omega) (by omega)]
  unfold wSw
  cases Nat.beq (fl (wA L xs (5 + l)) 9 3) 7 <;> rfl
theorem W_plain (hL : L ≤ 260) : F_W_plain L xs = some (bi (wP L xs)) := by
  have := fl_lt (wA L xs 0) 5 2
  unfold F_W_plain F_W_plain_17
  rw [W_at hL (by omega), bn_V, fl_e _ 5 2 (by rfl), iz_b (by omega)]
  unfold wP
  cases Nat.beq (fl (wA L xs 0) 5 2) 0 <;> rfl
end
