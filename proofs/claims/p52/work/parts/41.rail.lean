/-! ===== what a rail says: by numbers, and by the class's own methods ===== -/
theorem ck_bi {α : Type} (b : Bool) (k : Option α) : am_ck (am_bo (bi b)) k = k := by rw [bi_bo]; rfl
theorem ck_b0 {α : Type} (k : Option α) : am_ck (am_bo (nI 0)) k = k := rfl
theorem ck_b1 {α : Type} (k : Option α) : am_ck (am_bo (nI 1)) k = k := rfl
theorem ite_T {α : Type} {x y : α} : (if True then x else y) = x := if_pos trivial
theorem ite_F {α : Type} {x y : α} : (if False then x else y) = y := if_neg id
theorem ite_b {α : Type} {P : Prop} {hd : Decidable P} {b : Bool} {x y : α} (h : P ↔ b = false) : (if P then x else y) = bif b then y else x := by
  cases b with
  | true => exact if_neg (fun hp => by cases h.mp hp)
  | false => exact if_pos (h.mpr rfl)
theorem ite_b1 {α : Type} {P : Prop} {hd : Decidable P} {b : Bool} {x y : α} (h : P ↔ b = true) : (if P then x else y) = bif b then x else y := by
  cases b with
  | false => exact if_neg (fun hp => by cases h.mp hp)
  | true => exact if_pos (h.mpr rfl)
theorem ile_t {α : Type} {a b : Nat} {x y : α} (h : a ≤ b) (hb : b < 2 ^ 31) : (if nI a ≤ nI b then x else y) = x := if_pos (nI_le h hb)
theorem ile_f {α : Type} {a b : Nat} {x y : α} (h : b < a) (hb : a < 2 ^ 31) : (if nI a ≤ nI b then x else y) = y := if_neg (nI_ge h hb)
theorem ilt_t {α : Type} {a b : Nat} {x y : α} (h : a < b) (hb : b < 2 ^ 31) : (if nI a < nI b then x else y) = x := if_pos (nI_lt h hb)
theorem ilt_f {α : Type} {a b : Nat} {x y : α} (h : b ≤ a) (hb : a < 2 ^ 31) : (if nI a < nI b then x else y) = y := if_neg (nI_nlt h hb)
theorem ieq_t {α : Type} {a b : Nat} {x y : α} (h : a = b) : (if nI a = nI b then x else y) = x := if_pos (congrArg nI h)
theorem ieq_f {α : Type} {a b : Nat} {x y : α} (h : ¬ a = b) (ha : a < 2 ^ 31) (hb : b < 2 ^ 31) : (if nI a = nI b then x else y) = y := if_neg (fun q => h ((nI_eq ha hb).mp q))
theorem iz_t {α : Type} {a : Nat} {x y : α} (h : a = 0) : (if nI a = 0 then x else y) = x := if_pos (by rw [h]; rfl)
theorem iz_f {α : Type} {a : Nat} {x y : α} (h : 0 < a) (ha : a < 2 ^ 31) : (if nI a = 0 then x else y) = y := if_neg (nI_ne0 h ha)
theorem ilz_f {α : Type} {a : Nat} {x y : α} (ha : a < 2 ^ 31) : (if nI a < 0 then x else y) = y := if_neg (nI_pos ha)
theorem ieq_b {α : Type} {a b : Nat} {x y : α} (ha : a < 2 ^ 31) (hb : b < 2 ^ 31) : (if nI a = nI b then x else y) = bif Nat.beq a b then x else y := ite_b1 ⟨fun h => by rw [(nI_eq ha hb).mp h]; exact Nat.beq_refl b, fun h => congrArg nI (Nat.eq_of_beq_eq_true h)⟩
theorem iz_b {α : Type} {a : Nat} {x y : α} (ha : a < 2 ^ 31) : (if nI a = 0 then x else y) = bif Nat.beq a 0 then x else y := ieq_b (b := 0) ha (by omega)
theorem ile_b {α : Type} {a b : Nat} {x y : α} (ha : a < 2 ^ 31) (hb : b < 2 ^ 31) : (if nI a ≤ nI b then x else y) = bif Nat.ble a b then x else y := ite_b1 ⟨fun h => Nat.ble_eq_true_of_le ((nI_leI ha hb).mp h), fun h => (nI_leI ha hb).mpr (Nat.le_of_ble_eq_true h)⟩
theorem iti_b {α : Type} {a b : Nat} {c : Int} {x y : α} (ha : a < 2 ^ 31) (hc : c = (b : Int)) : (if (nI a).toInt = c then x else y) = bif Nat.beq a b then x else y := ite_b1 (by
  rw [nI_toInt ha, hc]
  exact ⟨fun h => by rw [Int.ofNat_inj.mp h]; exact Nat.beq_refl b, fun h => by rw [Nat.eq_of_beq_eq_true h]⟩)
theorem iti_0 {α : Type} {a : Nat} {x y : α} (ha : a < 2 ^ 31) : (if (nI a).toInt = 0 then x else y) = bif Nat.beq a 0 then x else y := iti_b ha rfl
theorem iti_1 {α : Type} {a : Nat} {x y : α} (ha : a < 2 ^ 31) : (if (nI a).toInt = 1 then x else y) = bif Nat.beq a 1 then x else y := iti_b ha rfl
theorem iti_2 {α : Type} {a : Nat} {x y : α} (ha : a < 2 ^ 31) : (if (nI a).toInt = 2 then x else y) = bif Nat.beq a 2 then x else y := iti_b ha rfl
theorem iti_3 {α : Type} {a : Nat} {x y : α} (ha : a < 2 ^ 31) : (if (nI a).toInt = 3 then x else y) = bif Nat.beq a 3 then x else y := iti_b ha rfl
theorem iti_4 {α : Type} {a : Nat} {x y : α} (ha : a < 2 ^ 31) : (if (nI a).toInt = 4 then x else y) = bif Nat.beq a 4 then x else y := iti_b ha rfl
theorem iti_5 {α : Type} {a : Nat} {x y : α} (ha : a < 2 ^ 31) : (if (nI a).toInt = 5 then x else y) = bif Nat.beq a 5 then x else y := iti_b ha rfl
theorem iti_6 {α : Type} {a : Nat} {x y : α} (ha : a < 2 ^ 31) : (if (nI a).toInt = 6 then x else y) = bif Nat.beq a 6 then x else y := iti_b ha rfl
theorem iti_7 {α : Type} {a : Nat} {x y : α} (ha : a < 2 ^ 31) : (if (nI a).toInt = 7 then x else y) = bif Nat.beq a 7 then x else y := iti_b ha rfl
theorem in_iff {a : Int32} {n : Nat} : am_in a n = true ↔ 0 ≤ a.toInt ∧ a.toInt < n := by
  refine ⟨fun h => vp_in_iff.mp (am_inv h), fun h => ?_⟩
  have h2 := vp_in_iff.mpr h
  unfold vp_in at h2
  unfold am_in
  rw [Bool.and_eq_true, Bool.not_eq_true', decide_eq_false_iff_not]
  exact ⟨fun q => h2 (Or.inl q), Nat.ble_eq_true_of_le (Nat.lt_of_not_le (fun q => h2 (Or.inr q)))⟩
theorem in_ex {a : Int32} {n : Nat} (h : am_in a n = true) (hn : n < 2 ^ 31) : ∃ t, t < n ∧ a = nI t := vp_in_of (am_inv h) hn
theorem in_le {a : Int32} {n k : Nat} (h : am_in a n = true) (hk : n ≤ k) : am_in a k = true := by
  rw [in_iff] at h ⊢
  omega
/-- arrays of a system: 1 kind, 2 more, 3 hour of each thing; 4 owner, 5 sort, 6 set of each lock -/
abbrev am_V : Type := Nat → Nat → Nat
def VI (n m : Nat) (v : am_V) : Prop := n ≤ 8 ∧ m ≤ 10 ∧ (∀ t, t < n → v 1 t < 6 ∧ v 2 t < 10 ∧ v 3 t < 24) ∧ ∀ l, l < m → v 4 l < n ∧ v 5 l < 3 ∧ v 6 l < 512 ∧ ∀ i, i < 8 → n ≤ i → (v 6 l).testBit i = false
/-- is one of kind k and so many more held by a lock of this sort -/
def hk (k mo so : Nat) : Bool := bif Nat.beq k 2 then !(Nat.beq so 0) else bif Nat.beq k 4 then !(Nat.beq so 0) && Nat.ble (mo + 1) (3 * so) else true
def gr (v : am_V) (l t : Nat) : Bool := (v 6 l).testBit t && hk (v 1 t) (v 2 t) (v 5 l)
/-- g: who is gone; s: what is sawn -/
def shu (v : am_V) (g s l : Nat) : Bool := !s.testBit l && !g.testBit (v 4 l)
def oth (v : am_V) (g l t : Nat) : Bool := (List.range 9).any fun j => (v 6 l).testBit j && (!g.testBit j && !(Nat.beq j t))
def fx (v : am_V) (g s t l : Nat) : Bool := shu v g s l && (gr v l t && oth v g l t)
def ho (v : am_V) (g s t l : Nat) : Bool := !(Nat.beq (v 4 l) t) && fx v g s t l
def cg (m : Nat) (v : am_V) (g s t : Nat) : Bool := !g.testBit t && (List.range m).all fun l => !ho v g s t l
def evr (v : am_V) (t : Nat) : Bool := !(Nat.beq (v 1 t) 5)
/-- the class's rail holds it -/
def CC (n m g s : Nat) (v : am_V) (w : am_W) : Prop := w.1 1 0 = nI n ∧ w.1 1 1 = nI g ∧ w.1 1 2 = nI m ∧ w.1 1 3 = nI s ∧ w.1 1 4 = mk (evr v) n ∧ (∀ t, t < n → w.1 2 t = nI (v 1 t) ∧ w.1 3 t = nI (v 2 t) ∧ w.1 4 t = nI (v 3 t)) ∧ ∀ l, l < m → w.1 5 l = nI (v 4 l) ∧ w.1 6 l = nI (v 5 l) ∧ w.1 7 l = nI (v 6 l) ∧ w.1 8 l = mk (gr v l) n
theorem oth_0 {v : am_V} {g l t : Nat} (h6 : v 6 l < 512) (ht : t < 32) : (((nI (v 6 l) &&& (nI g ^^^ (-nI 1))) &&& ((nI 1 <<< (nI t &&& 31)) ^^^ (-nI 1))) = 0) ↔ oth v g l t = false := by
  have key : ∀ i, i < 32 → bt ((nI (v 6 l) &&& (nI g ^^^ (-nI 1))) &&& ((nI 1 <<< (nI t &&& 31)) ^^^ (-nI 1))) i = ((v 6 l).testBit i && (!g.testBit i && !(Nat.beq i t))) := by
    intro i hi
    rw [b_and, b_and, b_not _ hi, b_not _ hi, b_one t ht hi, b_nI hi, b_nI hi, Bool.and_assoc]
    have e : decide (i = t) = Nat.beq i t := by
      cases h : Nat.beq i t
      · exact decide_eq_false (Nat.ne_of_beq_eq_false h)
      · exact decide_eq_true (Nat.eq_of_beq_eq_true h)
    rw [e]
  constructor
  · intro h
    unfold oth
    rw [List.any_eq_false]
    intro j hj
    have hj := List.mem_range.mp hj
    rw [← key j (by omega), h]
    exact Bool.eq_false_iff.mp (b_0i j)
  · intro h
    unfold oth at h
    rw [List.any_eq_false] at h
    refine b_z (fun i hi => ?_)
    rw [key i hi]
    by_cases h9 : i < 9
    · exact Bool.eq_false_iff.mpr (h i (List.mem_range.mpr h9))
    · have hz : (v 6 l).testBit i = false := Nat.testBit_lt_two_pow (Nat.lt_of_lt_of_le (by omega : v 6 l < 2 ^ 9) (Nat.pow_le_pow_right (by omega) (by omega)))
      rw [hz]; rfl
theorem S_has {x : Int32} {w : am_W} {l : Nat} (hl : l < 32) : F_Loc_has x (nI l) w = some (bi (bt x l), w) := by
  unfold F_Loc_has
  rw [b_has x l hl, bi_ite]
  cases bt x l <;> rfl
theorem S_hasN {x : Nat} {w : am_W} {l : Nat} (hl : l < 32) : F_Loc_has (nI x) (nI l) w = some (bi (x.testBit l), w) := by
  rw [S_has hl, b_nI hl]
theorem ble_n (a b : Nat) : Nat.ble (a + 1) b = !Nat.ble b a := by
  cases h : Nat.ble b a
  · exact Nat.ble_eq_true_of_le (Nat.lt_of_not_le (fun q => by rw [Nat.ble_eq_true_of_le q] at h; cases h))
  · exact Bool.eq_false_iff.mpr (fun q => by have := Nat.le_of_ble_eq_true q; have := Nat.le_of_ble_eq_true h; omega)
theorem S_isHeld {k mo so : Nat} {w : am_W} (hk1 : k < 2 ^ 31) (hm : mo < 2 ^ 31) (hs : so < 2 ^ 29) : F_Kinds_isHeld (nI k) (nI mo) (nI so) w = some (bi (hk k mo so), w) := by
  unfold F_Kinds_isHeld hk
  simp (disch := omega) only [iti_2, iti_4, iz_b, pk_mul, ile_b, ble_n]
  cases Nat.beq k 2 <;> cases Nat.beq k 4 <;> cases Nat.beq so 0 <;> cases Nat.ble (3 * so) mo <;> rfl
section
variable {n m g s : Nat} {v : am_V} {w : am_W}
theorem S_isThing (hV : VI n m v) (hC : CC n m g s v w) {a : Int32} : F_Rail_isThing a w = some (bi (am_in a n), w) := by
  unfold F_Rail_isThing
  rw [hC.1]
  by_cases h : am_in a n = true
  · obtain ⟨t, ht, rfl⟩ := in_ex h (by have := hV.1; omega)
    rw [h, ilz_f (by have := hV.1; omega), ile_f ht (by have := hV.1; omega)]
    rfl
  · rw [Bool.not_eq_true] at h
    rw [h]
    by_cases h0 : a < 0
    · rw [if_pos h0]; rfl
    · rw [if_neg h0, if_pos]
      · rfl
      · refine Classical.byContradiction fun h1 => ?_
        have h2 : am_in a n = true := in_iff.mpr ⟨by rw [Int32.lt_iff_toInt_lt] at h0; exact Int.not_lt.mp h0, by rw [Int32.le_iff_toInt_le, nI_toInt (by have := hV.1; omega)] at h1; omega⟩
        rw [h] at h2
        cases h2
theorem S_isLock (hV : VI n m v) (hC : CC n m g s v w) {a : Int32} : F_Rail_isLock a w = some (bi (am_in a m), w) := by
  unfold F_Rail_isLock
  rw [hC.2.2.1]
  by_cases h : am_in a m = true
  · obtain ⟨t, ht, rfl⟩ := in_ex h (by have := hV.2.1; omega)
    rw [h, ilz_f (by have := hV.2.1; omega), ile_f ht (by have := hV.2.1; omega)]
    rfl
  · rw [Bool.not_eq_true] at h
    rw [h]
    by_cases h0 : a < 0
    · rw [if_pos h0]; rfl
    · rw [if_neg h0, if_pos]
      · rfl
      · refine Classical.byContradiction fun h1 => ?_
        have h2 : am_in a m = true := in_iff.mpr ⟨by rw [Int32.lt_iff_toInt_lt] at h0; exact Int.not_lt.mp h0, by rw [Int32.le_iff_toInt_le, nI_toInt (by have := hV.2.1; omega)] at h1; omega⟩
        rw [h] at h2
        cases h2
theorem S_isGone (hC : CC n m g s v w) {t : Nat} (ht : t < 32) : F_Rail_isGone (nI t) w = some (bi (g.testBit t), w) := by
  unfold F_Rail_isGone
  rw [hC.2.1, S_hasN ht]
  simp only [Option.bind_some, am_ltU, am_ckT, cond_true, cond_false, bi_ite, ck_bi, ite_T, ite_F]
theorem S_allThings (hV : VI n m v) (hC : CC n m g s v w) : F_Rail_allThings w = some (nI (2 ^ n - 1), w) := by
  unfold F_Rail_allThings
  rw [hC.1, s_all (by have := hV.1; omega)]
theorem S_isShut (hV : VI n m v) (hC : CC n m g s v w) {l : Nat} (hl : l < m) : F_Rail_isShut (nI l) w = some (bi (shu v g s l), w) := by
  have hm := hV.2.1
  have hn := hV.1
  have h4 := (hV.2.2.2 l hl).1
  have hl4 := (hC.2.2.2.2.2.2 l hl).1
  unfold F_Rail_isShut shu
  simp (disch := omega) only [hC.2.1, hC.2.2.2.1, S_hasN, Option.bind_some, am_ltU, am_ckT, cond_true, cond_false, bi_ite, ck_bi, ite_T, ite_F, nI_clamp, am_ckI, ile_t, ile_f, ilt_t, ilt_f, ieq_t, ieq_f, iz_t, iz_f, ilz_f, nI_add, hl4]
  cases s.testBit l <;> cases g.testBit (v 4 l) <;> rfl
theorem S_isFixing (hV : VI n m v) (hC : CC n m g s v w) {l t : Nat} (hl : l < m) (ht : t < n) : F_Rail_isFixing (nI l) (nI t) w = some (bi (fx v g s t l), w) := by
  have hm := hV.2.1
  have hn := hV.1
  obtain ⟨h4, h5, h6, h7⟩ := hV.2.2.2 l hl
  obtain ⟨l4, l5, l6, l7⟩ := hC.2.2.2.2.2.2 l hl
  have hg : bt (mk (gr v l) n) t = gr v l t := by
    rw [mk_b _ n (by omega) (by omega), decide_eq_true ht, Bool.true_and]
  unfold F_Rail_isFixing
  simp (disch := omega) only [nI_clamp, am_ckI, ile_t, ile_f, ilt_t, ilt_f, ieq_t, ieq_f, iz_t, iz_f, ilz_f, nI_add]
  rw [l6, hC.2.1, ite_b (oth_0 h6 (by omega))]
  have key : ∀ b, F_Rail_isFixing_27 (nI l) (nI t) (bi b) w = some (bi (shu v g s l && (gr v l t && b)), w) := by
    intro b
    unfold F_Rail_isFixing_27
    simp (disch := omega) only [S_isShut hV hC hl, Option.bind_some, am_ltU, am_ckT, cond_true, cond_false, bi_ite, ck_bi, ite_T, ite_F, nI_clamp, am_ckI, ile_t, ile_f, ilt_t, ilt_f, ieq_t, ieq_f, iz_t, iz_f, ilz_f, nI_add, l7, S_has, hg]
    cases shu v g s l <;> cases gr v l t <;> cases b <;> rfl
  unfold fx
  cases oth v g l t
  · exact key false
  · exact key true
theorem S_holders (hV : VI n m v) (hC : CC n m g s v w) {t : Nat} (ht : t < n) : F_Rail_holders (nI t) w = some (mk (ho v g s t) m, w) := by
  have hm := hV.2.1
  have hn := hV.1
  unfold F_Rail_holders
  refine lp_0 (G := fun k i => L_Rail_holders_4 k (nI t) (mk (ho v g s t) i) (nI i) w) (m := m) ?_ ?_ (by show m < 4000; omega)
  · intro k i hi
    show F_Rail_holders_4 _ _ _ _ _ = _
    have h4 := (hV.2.2.2 i hi).1
    unfold F_Rail_holders_4
    simp (disch := omega) only [hC.2.2.1, nI_clamp, am_ckI, ile_t, ile_f, ilt_t, ilt_f, ieq_t, ieq_f, iz_t, iz_f, ilz_f, nI_add, (hC.2.2.2.2.2.2 i hi).1, ieq_b, S_isFixing hV hC hi ht, Option.bind_some, am_ltU, am_ckT, cond_true, cond_false, bi_ite, ck_bi, ite_T, ite_F]
    cases h1 : Nat.beq (v 4 i) t
    · cases h : fx v g s t i
      · rw [mk_n0 (by unfold ho; rw [h1, h]; rfl), ← nI_add]; rfl
      · rw [mk_s (by unfold ho; rw [h1, h]; rfl) (by omega), ← nI_add]; rfl
    · rw [mk_n0 (by unfold ho; rw [h1]; rfl), ← nI_add]; rfl
  · intro k
    show F_Rail_holders_4 _ _ _ _ _ = _
    unfold F_Rail_holders_4
    simp (disch := omega) only [hC.2.2.1, nI_clamp, am_ckI, ile_t, ile_f, ilt_t, ilt_f, ieq_t, ieq_f, iz_t, iz_f, ilz_f, nI_add]
theorem nbf {a b : Nat} (h : ¬ a = b) : Nat.beq a b = false := Bool.eq_false_iff.mpr (fun q => h (Nat.eq_of_beq_eq_true q))
/-- whom t waits for -/
def aw (m : Nat) (v : am_V) (g s t u : Nat) : Bool := (List.range m).any fun l => ho v g s t l && Nat.beq (v 4 l) u
theorem or_one {x : Int32} {k : Nat} {p q : Nat → Bool} {n : Nat} (hn : n ≤ 32) (hk : k < n) (hx : ∀ i, i < 32 → bt x i = (decide (i < n) && p i)) (hq : ∀ i, q i = (p i || Nat.beq k i)) : ∀ i, i < 32 → bt (x ||| (nI 1 <<< (nI k &&& 31))) i = (decide (i < n) && q i) := by
  intro i hi
  rw [b_or, hx i hi, b_one k (by omega) hi, hq i]
  by_cases h : i = k
  · subst h
    rw [Nat.beq_refl, decide_eq_true rfl, decide_eq_true hk, Bool.or_true, Bool.or_true, Bool.true_and]
  · rw [decide_eq_false h, nbf (fun q => h q.symm), Bool.or_false, Bool.or_false]
theorem S_awaited (hV : VI n m v) (hC : CC n m g s v w) {t : Nat} (ht : t < n) : F_Rail_awaited (nI t) w = some (mk (aw m v g s t) n, w) := by
  have hm := hV.2.1
  have hn := hV.1
  unfold F_Rail_awaited
  simp (disch := omega) only [S_holders hV hC ht, Option.bind_some, am_ltU, am_ckT, cond_true, cond_false, bi_ite, ck_bi, ite_T, ite_F]
  have key : ∀ i, i ≤ m → mk (aw i v g s t) n ||| nI 0 = mk (aw i v g s t) n := fun i _ => b_ext (fun j hj => by rw [b_or, b_0i, Bool.or_false])
  have e0 : nI 0 = mk (aw 0 v g s t) n := mk_ext (by omega) (fun i hi => by rw [b_0i]; unfold aw; simp)
  refine Eq.trans ?_ (lp_0 (n := am_NF) (G := fun k i => L_Rail_awaited_11 k (mk (ho v g s t) m) (mk (aw i v g s t) n) (nI i) w) (m := m) ?_ ?_ (by show m < 4000; omega))
  · rw [← e0]
  · intro k i hi
    show F_Rail_awaited_11 _ _ _ _ _ = _
    have h4 := (hV.2.2.2 i hi).1
    unfold F_Rail_awaited_11
    simp (disch := omega) only [hC.2.2.1, nI_clamp, am_ckI, ile_t, ile_f, ilt_t, ilt_f, ieq_t, ieq_f, iz_t, iz_f, ilz_f, nI_add, (hC.2.2.2.2.2.2 i hi).1, S_has, mk_b, Option.bind_some, am_ltU, am_ckT, cond_true, cond_false, bi_ite, ck_bi, ite_T, ite_F, decide_eq_true hi, Bool.true_and]
    cases h1 : ho v g s t i
    · have e : mk (aw (i + 1) v g s t) n = mk (aw i v g s t) n ||| nI 0 := by
        rw [key i (by omega)]
        exact mk_c (fun u _ => by unfold aw; rw [List.range_succ, List.any_append]; simp [h1])
      rw [e, ← nI_add]; rfl
    · have e : mk (aw (i + 1) v g s t) n = mk (aw i v g s t) n ||| (nI 1 <<< (nI (v 4 i) &&& 31)) := by
        refine (mk_ext (by omega) ?_).symm
        exact or_one (p := aw i v g s t) (by omega) h4 (fun j hj => mk_b _ n (by omega) hj) (fun u => by unfold aw; rw [List.range_succ, List.any_append]; simp [h1])
      rw [e, ← nI_add]; rfl
  · intro k
    show F_Rail_awaited_11 _ _ _ _ _ = _
    unfold F_Rail_awaited_11
    simp (disch := omega) only [hC.2.2.1, nI_clamp, am_ckI, ile_t, ile_f, ilt_t, ilt_f, ieq_t, ieq_f, iz_t, iz_f, ilz_f, nI_add]
/-! the class's canGo: by masks -/
def sevN (x : Nat) : Bool := (List.range 9).any fun i => (List.range 9).any fun j => x.testBit i && (x.testBit j && !(Nat.beq i j))
theorem sevN_0 : ∀ x, x < 512 → decide (nI x &&& (nI x - nI 1) = 0) = !sevN x := by decide +kernel
theorem small_ex {x : Int32} (h : ∀ i, 9 ≤ i → i < 32 → bt x i = false) : ∃ k, k < 512 ∧ x = nI k := by
  refine ⟨x.toBitVec.toNat, Nat.lt_pow_two_of_testBit (n := 9) _ (fun i hi => ?_), ?_⟩
  · by_cases h3 : i < 32
    · exact h i hi h3
    · exact Nat.testBit_lt_two_pow (Nat.lt_of_lt_of_le x.toBitVec.isLt (Nat.pow_le_pow_right (by omega) (by omega)))
  · apply Int32.toBitVec_inj.mp
    show x.toBitVec = BitVec.ofNat 32 x.toBitVec.toNat
    simp
def sev (v : am_V) (a l : Nat) : Bool := (List.range 9).any fun i => (List.range 9).any fun j => ((v 6 l).testBit i && !a.testBit i) && (((v 6 l).testBit j && !a.testBit j) && !(Nat.beq i j))
theorem sev_0 {v : am_V} {a l : Nat} (h6 : v 6 l < 512) : ((nI (v 6 l) &&& (nI a ^^^ (-nI 1))) &&& ((nI (v 6 l) &&& (nI a ^^^ (-nI 1))) - nI 1) = 0) ↔ sev v a l = false := by
  have key : ∀ i, i < 32 → bt (nI (v 6 l) &&& (nI a ^^^ (-nI 1))) i = ((v 6 l).testBit i && !a.testBit i) := by
    intro i hi
    rw [b_and, b_not _ hi, b_nI hi, b_nI hi]
  obtain ⟨k, hk, e⟩ := small_ex (x := nI (v 6 l) &&& (nI a ^^^ (-nI 1))) (fun i h9 hi => by
    rw [key i hi, Nat.testBit_lt_two_pow (Nat.lt_of_lt_of_le (by omega : v 6 l < 2 ^ 9) (Nat.pow_le_pow_right (by omega) (by omega)))]; rfl)
  have e2 : sev v a l = sevN k := by
    unfold sev sevN
    have e3 : ∀ i, i ∈ List.range 9 → ((v 6 l).testBit i && !a.testBit i) = k.testBit i := fun i hi => by
      have h9 := List.mem_range.mp hi
      rw [← key i (by omega), e, b_nI (by omega)]
    rw [Bool.eq_iff_iff, List.any_eq_true, List.any_eq_true]
    simp only [List.any_eq_true]
    constructor
    · rintro ⟨i, hi, j, hj, h⟩
      rw [e3 i hi, e3 j hj] at h
      exact ⟨i, hi, j, hj, h⟩
    · rintro ⟨i, hi, j, hj, h⟩
      rw [← e3 i hi, ← e3 j hj] at h
      exact ⟨i, hi, j, hj, h⟩
  rw [e, e2]
  have h := sevN_0 k hk
  cases h2 : sevN k
  · rw [h2] at h
    exact ⟨fun _ => rfl, fun _ => of_decide_eq_true h⟩
  · rw [h2] at h
    exact ⟨fun q => absurd q (of_decide_eq_false h), fun q => by cases q⟩
def hd (v : am_V) (a b t l : Nat) : Bool := shu v a b l && (sev v a l && (gr v l t && !(Nat.beq (v 4 l) t)))
theorem hd_ho {v : am_V} {a b t l : Nat} (ht : t < 8) (ha : a.testBit t = false) : hd v a b t l = ho v a b t l := by
  unfold hd ho fx
  cases Nat.beq (v 4 l) t with
  | true => simp
  | false =>
    cases shu v a b l with
    | false => simp
    | true =>
      cases hg : gr v l t with
      | false => simp
      | true =>
        have hs : (v 6 l).testBit t = true := by
          unfold gr at hg
          rw [Bool.and_eq_true] at hg
          exact hg.1
        simp only [Bool.true_and, Bool.not_false, Bool.and_true]
        unfold sev oth
        rw [Bool.eq_iff_iff, List.any_eq_true, List.any_eq_true]
        constructor
        · rintro ⟨i, hi, h⟩
          rw [List.any_eq_true] at h
          obtain ⟨j, hj, h⟩ := h
          simp only [Bool.and_eq_true, Bool.not_eq_true'] at h
          obtain ⟨⟨h1, h2⟩, ⟨h3, h4⟩, h5⟩ := h
          by_cases hit : i = t
          · subst hit
            refine ⟨j, hj, ?_⟩
            rw [h3, h4, nbf (fun q => by rw [q, Nat.beq_refl] at h5; cases h5)]
            rfl
          · refine ⟨i, hi, ?_⟩
            rw [h1, h2, nbf hit]
            rfl
        · rintro ⟨j, hj, h⟩
          simp only [Bool.and_eq_true, Bool.not_eq_true'] at h
          obtain ⟨h1, h2, h3⟩ := h
          refine ⟨t, List.mem_range.mpr (by omega), ?_⟩
          rw [List.any_eq_true]
          refine ⟨j, hj, ?_⟩
          rw [hs, ha, h1, h2, nbf (fun q => by rw [q, Nat.beq_refl] at h3; cases h3)]
          rfl
theorem cg_hd {m : Nat} {v : am_V} {a b t : Nat} (ht : t < 8) : cg m v a b t = (!a.testBit t && !((List.range m).any fun l => hd v a b t l)) := by
  unfold cg
  cases ha : a.testBit t with
  | true => rfl
  | false =>
    rw [Bool.not_false, Bool.true_and, Bool.true_and, List.not_any_eq_all_not]
    refine congrArg (fun f => List.all (List.range m) f) (funext fun l => ?_)
    rw [hd_ho ht ha]
theorem any_s {p : Nat → Bool} {i : Nat} : ((List.range (i + 1)).any fun l => p l) = (((List.range i).any fun l => p l) || p i) := by
  rw [List.range_succ, List.any_append]; simp
theorem or_set {x y : Int32} {p q r : Nat → Bool} {n : Nat} (hx : ∀ i, i < 32 → bt x i = (decide (i < n) && p i)) (hy : ∀ i, i < 32 → bt y i = (decide (i < n) && q i)) (hr : ∀ i, r i = (p i || q i)) : ∀ i, i < 32 → bt (x ||| y) i = (decide (i < n) && r i) := by
  intro i hi
  rw [b_or, hx i hi, hy i hi, hr i]
  cases decide (i < n) <;> rfl
theorem S_canGo (hV : VI n m v) (hC : CC n m g s v w) {a b : Nat} : F_Rail_canGo (nI a) (nI b) w = some (mk (cg m v a b) n, w) := by
  have hm := hV.2.1
  have hn := hV.1
  unfold F_Rail_canGo
  have e0 : nI 0 = mk (fun u => (List.range 0).any fun l => hd v a b u l) n := mk_ext (by omega) (fun i hi => by rw [b_0i]; simp)
  refine Eq.trans ?_ (lp_0 (n := am_NF) (G := fun k i => L_Rail_canGo_5 k (nI a) (nI b) (mk (fun u => (List.range i).any fun l => hd v a b u l) n) (nI i) w) (m := m) ?_ ?_ (by show m < 4000; omega))
  · rw [← e0]
  · intro k i hi
    show F_Rail_canGo_5 _ _ _ _ _ _ = _
    obtain ⟨h4, h5, h6, h7⟩ := hV.2.2.2 i hi
    obtain ⟨l4, l5, l6, l7⟩ := hC.2.2.2.2.2.2 i hi
    have skip : (∀ u, hd v a b u i = false) → L_Rail_canGo_5 k (nI a) (nI b) (mk (fun u => (List.range i).any fun l => hd v a b u l) n) (nI i + nI 1) w = L_Rail_canGo_5 k (nI a) (nI b) (mk (fun u => (List.range (i + 1)).any fun l => hd v a b u l) n) (nI (i + 1)) w := by
      intro h
      rw [← nI_add]
      refine congrArg (fun q => L_Rail_canGo_5 k (nI a) (nI b) q (nI i + nI 1) w) (mk_c (fun u _ => ?_))
      rw [any_s, h u, Bool.or_false]
    unfold F_Rail_canGo_5
    simp (disch := omega) only [hC.2.2.1, nI_clamp, am_ckI, ile_t, ile_f, ilt_t, ilt_f, ieq_t, ieq_f, iz_t, iz_f, ilz_f, nI_add, S_hasN, l4, l6, Option.bind_some, am_ltU, am_ckT, cond_true, cond_false, bi_ite, ck_bi, ite_T, ite_F]
    rw [ite_b (sev_0 h6)]
    cases h1 : b.testBit i with
    | true => exact skip (fun u => by unfold hd shu; rw [h1]; rfl)
    | false =>
      cases h2 : a.testBit (v 4 i) with
      | true => exact skip (fun u => by unfold hd shu; rw [h1, h2]; rfl)
      | false =>
        cases h3 : sev v a i with
        | false => exact skip (fun u => by unfold hd; rw [h3, Bool.false_and, Bool.and_false])
        | true =>
          rw [cond_false, cond_false, cond_true]
          unfold F_Rail_canGo_68
          simp (disch := omega) only [iz_f, nI_clamp, am_ckI, ile_t, ile_f, ilt_t, ilt_f, ieq_t, ieq_f, iz_t, iz_f, ilz_f, nI_add, l4, l7]
          show L_Rail_canGo_5 k _ _ _ _ _ = _
          rw [← nI_add]
          refine congrArg (fun q => L_Rail_canGo_5 k (nI a) (nI b) q (nI i + nI 1) w) (mk_ext (by omega) ?_)
          refine or_set (p := fun u => (List.range i).any fun l => hd v a b u l) (q := fun u => hd v a b u i) (fun j hj => mk_b _ n (by omega) hj) ?_ (fun u => any_s)
          intro j hj
          rw [b_and, mk_b _ n (by omega) hj, b_not _ hj, b_one _ (by omega) hj]
          unfold hd shu
          rw [h1, h2, h3]
          by_cases hj4 : j = v 4 i
          · subst hj4
            simp
          · rw [decide_eq_false hj4, nbf (fun q => hj4 q.symm)]
            simp [Bool.and_assoc]
  · intro k
    show F_Rail_canGo_5 _ _ _ _ _ _ = _
    unfold F_Rail_canGo_5
    simp (disch := omega) only [hC.2.2.1, nI_clamp, am_ckI, ile_t, ile_f, ilt_t, ilt_f, ieq_t, ieq_f, iz_t, iz_f, ilz_f, nI_add, S_allThings hV hC, Option.bind_some, am_ltU, am_ckT, cond_true, cond_false, bi_ite, ck_bi, ite_T, ite_F]
    refine congrArg (fun q => some (q, w)) (mk_ext (by omega) ?_)
    intro j hj
    rw [b_and, b_and, b_all (by omega) hj, b_not _ hj, b_not _ hj, b_nI hj, mk_b _ n (by omega) hj]
    by_cases hjn : j < n
    · rw [cg_hd (by omega), decide_eq_true hjn]
      simp
    · rw [decide_eq_false hjn]; rfl
end
