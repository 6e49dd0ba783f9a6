/-! ===== ints as numbers and as sets of bits (first rows pasted from kit/laws/BITS), loops ===== -/
def bt (x : Int32) (i : Nat) : Bool := x.toBitVec.getLsbD i
theorem b_ext {x y : Int32} (h : ∀ i, i < 32 → bt x i = bt y i) : x = y := Int32.toBitVec_inj.mp (BitVec.eq_of_getLsbD_eq (fun i hi => h i hi))
theorem b_or (x y : Int32) (i : Nat) : bt (x ||| y) i = (bt x i || bt y i) := by unfold bt; rw [Int32.toBitVec_or, BitVec.getLsbD_or]
theorem b_and (x y : Int32) (i : Nat) : bt (x &&& y) i = (bt x i && bt y i) := by unfold bt; rw [Int32.toBitVec_and, BitVec.getLsbD_and]
theorem b_xor (x y : Int32) (i : Nat) : bt (x ^^^ y) i = (bt x i ^^ bt y i) := by unfold bt; rw [Int32.toBitVec_xor, BitVec.getLsbD_xor]
theorem b_big {x : Int32} {i : Nat} (h : 32 ≤ i) : bt x i = false := BitVec.getLsbD_of_ge _ _ h
theorem b_m1 : ∀ i, i < 32 → bt (-1) i = true := by decide +kernel
theorem b_0 (i : Nat) : bt 0 i = false := BitVec.getLsbD_zero
theorem s_l : ∀ n, n < 32 → ((nI n &&& 31).toBitVec.smod 32).toNat = n := by decide +kernel
theorem s_u : ∀ n, n < 32 → (((nI n).toUInt32 &&& Int32.toUInt32 31).toBitVec % 32).toNat = n := by decide +kernel
theorem b_shl (n : Nat) (hn : n < 32) (x : Int32) {i : Nat} (hi : i < 32) : bt (x <<< (nI n &&& 31)) i = (decide (n ≤ i) && bt x (i - n)) := by
  unfold bt
  rw [Int32.toBitVec_shiftLeft]
  show (x.toBitVec <<< ((nI n &&& 31).toBitVec.smod 32).toNat).getLsbD i = _
  rw [s_l n hn, BitVec.getLsbD_shiftLeft]
  rcases Nat.lt_or_ge i n with h | h
  · simp [h, Nat.not_le.mpr h]
  · simp [hi, h, Nat.not_lt.mpr h]
theorem b_sshr (n : Nat) (hn : n < 32) (x : Int32) {i : Nat} (hi : i < 32) : bt (x >>> (nI n &&& 31)) i = if n + i < 32 then bt x (n + i) else bt x 31 := by
  unfold bt
  rw [Int32.toBitVec_shiftRight]
  show (x.toBitVec.sshiftRight ((nI n &&& 31).toBitVec.smod 32).toNat).getLsbD i = _
  rw [s_l n hn, BitVec.getLsbD_sshiftRight, BitVec.msb_eq_getLsbD_last]
  simp [hi]
theorem nx_and (a b : Nat) : nI a &&& nI b = nI (a &&& b) := by
  apply Int32.toBitVec_inj.1
  show BitVec.ofNat 32 a &&& BitVec.ofNat 32 b = BitVec.ofNat 32 (a &&& b)
  apply BitVec.eq_of_getLsbD_eq
  intro i hi
  simp [hi]
theorem nx_xor (a b : Nat) : nI a ^^^ nI b = nI (a ^^^ b) := by
  apply Int32.toBitVec_inj.1
  show BitVec.ofNat 32 a ^^^ BitVec.ofNat 32 b = BitVec.ofNat 32 (a ^^^ b)
  apply BitVec.eq_of_getLsbD_eq
  intro i hi
  simp [hi]
theorem nx_or (a b : Nat) : nI a ||| nI b = nI (a ||| b) := by
  apply Int32.toBitVec_inj.1
  show BitVec.ofNat 32 a ||| BitVec.ofNat 32 b = BitVec.ofNat 32 (a ||| b)
  apply BitVec.eq_of_getLsbD_eq
  intro i hi
  simp [hi]
/-- a Bool as an int -/
def bi (b : Bool) : Int32 := match b with
  | true => nI 1
  | false => nI 0
theorem bi_0 (b : Bool) : (bi b = 0) = (b = false) := by
  cases b with
  | true => exact propext ⟨fun h => absurd h (by decide), fun h => (by cases h)⟩
  | false => exact propext ⟨fun _ => rfl, fun _ => rfl⟩
theorem bi_bo (b : Bool) : am_bo (bi b) = true := by cases b <;> rfl
theorem bi_f : nI 0 = bi false := rfl
theorem bi_t : nI 1 = bi true := rfl
theorem bi_ite {α : Type} (b : Bool) {x y : α} : (if bi b = 0 then x else y) = bif b then y else x := by
  cases b with
  | true => exact if_neg (by decide)
  | false => exact if_pos rfl
theorem b_nI {n : Nat} {i : Nat} (hi : i < 32) : bt (nI n) i = n.testBit i := by
  show (BitVec.ofNat 32 n).getLsbD i = _
  rw [BitVec.getLsbD_ofNat]
  simp [hi]
theorem b_nIs {n : Nat} (i : Nat) (hn : n < 2 ^ 32) : bt (nI n) i = n.testBit i := by
  rcases Nat.lt_or_ge i 32 with h | h
  · exact b_nI h
  · rw [b_big h, Nat.testBit_lt_two_pow (Nat.lt_of_lt_of_le hn (Nat.pow_le_pow_right (by omega) h))]
theorem b_not (x : Int32) {i : Nat} (hi : i < 32) : bt (x ^^^ (-nI 1)) i = !bt x i := by
  rw [b_xor, show (-nI 1 : Int32) = -1 from by decide, b_m1 i hi]
  cases bt x i <;> rfl
theorem s_one (l : Nat) (hl : l < 32) : nI 1 <<< (nI l &&& 31) = nI (2 ^ l) := by
  have h := pk_shlN (n := 1) (nI l &&& 31) l (s_l l hl) (by rw [Nat.one_mul]; exact Nat.pow_lt_pow_right (by omega) hl)
  rwa [Nat.one_mul] at h
theorem b_one (l : Nat) (hl : l < 32) {i : Nat} (hi : i < 32) : bt (nI 1 <<< (nI l &&& 31)) i = decide (i = l) := by
  rw [s_one l hl, b_nI hi, Nat.testBit_two_pow]
  exact decide_eq_decide.mpr ⟨fun h => h.symm, fun h => h.symm⟩
theorem b_has (x : Int32) (l : Nat) (hl : l < 32) : (x >>> (nI l &&& 31)) &&& nI 1 = bi (bt x l) := by
  apply b_ext
  intro i hi
  rw [b_and, b_sshr l hl x hi, b_nI hi]
  rcases Nat.eq_zero_or_pos i with h | h
  · subst h
    rw [if_pos (by omega), Nat.add_zero]
    cases bt x l <;> rfl
  · have h1 : (1 : Nat).testBit i = false := Nat.testBit_lt_two_pow (Nat.lt_of_lt_of_le (by omega : 1 < 2 ^ 1) (Nat.pow_le_pow_right (by omega) h))
    rw [h1, Bool.and_false]
    cases bt x l
    · exact (b_nI hi).symm ▸ (Nat.zero_testBit i).symm
    · exact (b_nI hi).symm ▸ h1.symm
theorem b_z {x : Int32} (h : ∀ i, i < 32 → bt x i = false) : x = nI 0 := b_ext (fun i hi => by rw [h i hi, b_nI hi, Nat.zero_testBit])
theorem b_nz {x : Int32} (h : ¬ x = 0) : ∃ i, i < 32 ∧ bt x i = true := by
  refine Classical.byContradiction fun h2 => h ?_
  exact b_z (fun i hi => Bool.eq_false_iff.mpr fun h3 => h2 ⟨i, hi, h3⟩)
theorem b_0i (i : Nat) : bt (nI 0) i = false := by rw [b_nIs (n := 0) i (by omega), Nat.zero_testBit]
/-! the set of those below n that have p -/
def mk (p : Nat → Bool) : Nat → Int32
  | 0 => nI 0
  | n + 1 => mk p n ||| (bif p n then nI (2 ^ n) else nI 0)
theorem mk_b (p : Nat → Bool) : ∀ (n : Nat) {i : Nat}, n ≤ 32 → i < 32 → bt (mk p n) i = (decide (i < n) && p i)
  | 0, i, _, _ => by rw [mk, b_0i]; simp
  | n + 1, i, hn, hi => by
    rw [mk, b_or, mk_b p n (by omega) hi]
    cases hp : p n
    · rw [cond_false, b_0i]
      rcases Nat.lt_trichotomy i n with h | h | h
      · simp [h, Nat.lt_succ_of_lt h]
      · subst h; simp [hp]
      · simp [Nat.not_lt.mpr (Nat.le_of_lt h), Nat.not_lt.mpr h]
    · rw [cond_true, b_nI hi, Nat.testBit_two_pow]
      rcases Nat.lt_trichotomy i n with h | h | h
      · simp [h, Nat.lt_succ_of_lt h, Nat.ne_of_gt h]
      · subst h; simp [hp]
      · simp [Nat.not_lt.mpr (Nat.le_of_lt h), Nat.not_lt.mpr h, Nat.ne_of_lt h]
theorem mk_s {p : Nat → Bool} {n : Nat} (h : p n = true) (hn : n < 32) : mk p (n + 1) = mk p n ||| (nI 1 <<< (nI n &&& 31)) := by
  rw [mk, h, s_one n hn]; rfl
theorem mk_n {p : Nat → Bool} {n : Nat} (h : p n = false) : mk p (n + 1) = mk p n := by
  rw [mk, h, cond_false]
  apply b_ext
  intro i _
  rw [b_or, b_0i, Bool.or_false]
theorem mk_n0 {p : Nat → Bool} {n : Nat} (h : p n = false) : mk p (n + 1) = mk p n ||| nI 0 := by
  rw [mk, h]; rfl
theorem mk_ext {p : Nat → Bool} {n : Nat} {x : Int32} (hn : n ≤ 32) (h : ∀ i, i < 32 → bt x i = (decide (i < n) && p i)) : x = mk p n := b_ext (fun i hi => by rw [h i hi, mk_b p n hn hi])
theorem mk_c {p q : Nat → Bool} {n : Nat} (h : ∀ i, i < n → p i = q i) : mk p n = mk q n := by
  induction n with
  | zero => rfl
  | succ n ih => rw [mk, mk, ih (fun i hi => h i (by omega)), h n (by omega)]
theorem s_all {n : Nat} (hn : n < 31) : nI 1 <<< (nI n &&& 31) - nI 1 = nI (2 ^ n - 1) := by
  rw [s_one n (by omega), pk_sub Nat.one_le_two_pow]
theorem b_all {n i : Nat} (hn : n < 31) (hi : i < 32) : bt (nI (2 ^ n - 1)) i = decide (i < n) := by
  rw [b_nI hi, Nat.testBit_two_pow_sub_one]
/-! index checks -/
theorem in_nI {i n : Nat} (h : i < n) (hn : n < 2 ^ 31) : am_in (nI i) n = true := by
  unfold am_in
  rw [nI_clamp (by omega), decide_eq_false (nI_pos (by omega))]
  exact Nat.ble_eq_true_of_le h
theorem am_ckT {α : Type} {k : Option α} : am_ck true k = k := rfl
theorem am_ckI {α : Type} {i n : Nat} {k : Option α} (h : i < n) (hn : n < 2 ^ 31) : am_ck (am_in (nI i) n) k = k := by rw [in_nI h hn]; rfl
theorem am_ltU {α β : Type} (x : α) (f : α → β) : am_lt x f = f x := rfl
theorem bn_s {α β : Type} (x : α) (f : α → Option β) : (some x).bind f = f x := rfl
/-- a loop from i to m, through the states X; behind it e -/
theorem lp_x {β : Type} {G : Nat → Nat → Option β} {m : Nat} {e : Option β} (hs : ∀ n i, i < m → G (n + 1) i = G n (i + 1)) (he : ∀ n, G (n + 1) m = e) : ∀ (k i n : Nat), i + k = m → k < n → G n i = e
  | 0, i, n, h, hn => by
    obtain ⟨n, rfl⟩ : ∃ j, n = j + 1 := ⟨n - 1, by omega⟩
    rw [show i = m from h]
    exact he n
  | k + 1, i, n, h, hn => by
    obtain ⟨n, rfl⟩ : ∃ j, n = j + 1 := ⟨n - 1, by omega⟩
    rw [hs n i (by omega)]
    exact lp_x hs he k (i + 1) n (by omega) (by omega)
theorem lp_0 {β : Type} {G : Nat → Nat → Option β} {m n : Nat} {e : Option β} (hs : ∀ n i, i < m → G (n + 1) i = G n (i + 1)) (he : ∀ n, G (n + 1) m = e) (hn : m < n) : G n 0 = e := lp_x hs he m 0 n (Nat.zero_add m) hn
