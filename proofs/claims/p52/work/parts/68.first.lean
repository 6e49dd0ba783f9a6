/-! ===== first ===== -/
theorem pc_x {a b : Nat} (h : sub a b) : ∀ k, pc (b ^^^ a) k + pc a k = pc b k
  | 0 => rfl
  | k + 1 => by
    have ih := pc_x h k
    rw [pc, pc, pc, Nat.testBit_xor]
    cases q : a.testBit k with
    | true =>
      rw [h k q]
      show pc (b ^^^ a) k + 0 + (pc a k + 1) = pc b k + 1
      omega
    | false =>
      cases b.testBit k
      · show pc (b ^^^ a) k + 0 + (pc a k + 0) = pc b k + 0
        omega
      · show pc (b ^^^ a) k + 1 + (pc a k + 0) = pc b k + 1
        omega
theorem and_notx {a b : Nat} (h : sub a b) : nI b &&& (nI a ^^^ (-nI 1)) = nI (b ^^^ a) := b_ext (fun i hi => by
  rw [b_and, b_not _ hi, b_nI hi, b_nI hi, b_nI hi, Nat.testBit_xor]
  cases q : a.testBit i with
  | true => rw [h i q]; rfl
  | false => cases b.testBit i <;> rfl)
theorem bst_val {x : Nat → Option Int32} : ∀ {i b : Nat} {q : Int32}, bst x i = some (b, q) → x b = some q
  | 0, _, _, h => by cases h
  | i + 1, b, q, h => by
    rw [bst] at h
    cases hx : x i with
    | none =>
      rw [hx] at h
      exact bst_val (i := i) h
    | some p =>
      rw [hx] at h
      cases hy : bst x i with
      | none =>
        rw [hy] at h
        have h : some (i, p) = some (b, q) := h
        cases h
        exact hx
      | some r =>
        obtain ⟨b0, q0⟩ := r
        rw [hy] at h
        have h : (if q0 ≤ p then some (b0, q0) else some (i, p)) = some (b, q) := h
        by_cases h2 : q0 ≤ p
        · rw [if_pos h2] at h
          cases h
          exact bst_val hy
        · rw [if_neg h2] at h
          cases h
          exact hx
theorem bst_none {x : Nat → Option Int32} : ∀ {i : Nat}, bst x i = none → ∀ j, j < i → x j = none
  | 0, _, j, hj => by omega
  | i + 1, h, j, hj => by
    rw [bst] at h
    cases hx : x i with
    | none =>
      rw [hx] at h
      by_cases e : j = i
      · rw [e]; exact hx
      · exact bst_none (i := i) h j (by omega)
    | some p =>
      rw [hx] at h
      cases hy : bst x i with
      | none => rw [hy] at h; cases h
      | some r =>
        obtain ⟨b0, q0⟩ := r
        rw [hy] at h
        have h : (if q0 ≤ p then some (b0, q0) else some (i, p)) = none := h
        by_cases h2 : q0 ≤ p
        · rw [if_pos h2] at h; cases h
        · rw [if_neg h2] at h; cases h
/-- the least of what there is: as the class, as the model takes it -/
theorem bst_cls {x : Nat → Option Int32} {i : Nat} {p : Int32} (hx : x i = some p) (hv : ∀ j q, x j = some q → ∃ k, k < 2 ^ 31 ∧ q = nI k) : (if 0 ≤ b2 (-nI 1) (bst x i) then (if p < b2 (-nI 1) (bst x i) then p else b2 (-nI 1) (bst x i)) else p) = b2 (-nI 1) (bst x (i + 1)) := by
  rw [bst, hx]
  cases hy : bst x i with
  | none => exact if_neg (by decide)
  | some r =>
    obtain ⟨b, q⟩ := r
    obtain ⟨k, hk, rfl⟩ := hv b q (bst_val hy)
    show (if (0 : Int32) ≤ nI k then (if p < nI k then p else nI k) else p) = b2 (-nI 1) (if nI k ≤ p then some (b, nI k) else some (i, p))
    rw [if_pos (show (0 : Int32) ≤ nI k from nI_le (a := 0) (Nat.zero_le k) hk)]
    by_cases h : nI k ≤ p
    · rw [if_pos h, if_neg (fun h2 => by
        rw [Int32.lt_iff_toInt_lt] at h2
        rw [Int32.le_iff_toInt_le] at h
        omega)]; rfl
    · rw [if_neg h, if_pos (by
        rw [Int32.le_iff_toInt_le] at h
        rw [Int32.lt_iff_toInt_lt]
        omega)]; rfl
theorem bst_mod {x : Nat → Option Int32} {i : Nat} {p : Int32} (hx : x i = some p) (hv : ∀ j q, x j = some q → ∃ k, k < 2 ^ 31 ∧ q = nI k) : (if b2 (-nI 1) (bst x i) = -nI 1 then p else if b2 (-nI 1) (bst x i) ≤ p then b2 (-nI 1) (bst x i) else p) = b2 (-nI 1) (bst x (i + 1)) := by
  rw [bst, hx]
  cases hy : bst x i with
  | none => exact if_pos rfl
  | some r =>
    obtain ⟨b, q⟩ := r
    obtain ⟨k, hk, rfl⟩ := hv b q (bst_val hy)
    show (if nI k = -nI 1 then p else if nI k ≤ p then nI k else p) = b2 (-nI 1) (if nI k ≤ p then some (b, nI k) else some (i, p))
    rw [if_neg (m1_ne hk)]
    by_cases h : nI k ≤ p
    · rw [if_pos h, if_pos h]; rfl
    · rw [if_neg h, if_neg h]; rfl
/-- sets of gone things behind which one can go -/
def ahd (n m : Nat) (v : am_V) (y s g t S : Nat) : Bool := !(Nat.beq (odN (cd n m v y s) g S) 0) && cg m v S s t
def aho (n m : Nat) (v : am_V) (y s g t S : Nat) : Option Int32 := bif ahd n m v y s g t S then some (nI (pc S 10 - pc g 10)) else none
/-- what all sets that are some have in common -/
def cmn (x : Nat → Bool) : Nat → Option Nat
  | 0 => none
  | i + 1 => bif x i then (match cmn x i with | none => some i | some k => some (k &&& i)) else cmn x i
def cmE : Option Nat → Int32
  | none => -nI 1
  | some k => nI k
theorem cmn_n {x : Nat → Bool} : ∀ {i : Nat}, cmn x i = none → ∀ j, j < i → x j = false
  | 0, _, j, hj => by omega
  | i + 1, h, j, hj => by
    rw [cmn] at h
    cases hx : x i with
    | true =>
      rw [hx] at h
      cases hy : cmn x i with
      | none => rw [hy] at h; cases h
      | some k => rw [hy] at h; cases h
    | false =>
      rw [hx] at h
      by_cases e : j = i
      · rw [e]; exact hx
      · exact cmn_n (i := i) h j (by omega)
theorem cmn_b {x : Nat → Bool} : ∀ {i k : Nat}, cmn x i = some k → ∀ u, k.testBit u = true ↔ ∀ j, j < i → x j = true → j.testBit u = true
  | 0, _, h, _ => by cases h
  | i + 1, k, h, u => by
    rw [cmn] at h
    cases hx : x i with
    | false =>
      rw [hx] at h
      rw [cmn_b (i := i) h u]
      refine ⟨fun q j hj hxj => ?_, fun q j hj hxj => q j (by omega) hxj⟩
      by_cases e : j = i
      · rw [e, hx] at hxj; cases hxj
      · exact q j (by omega) hxj
    | true =>
      rw [hx] at h
      cases hy : cmn x i with
      | none =>
        rw [hy] at h
        have h : some i = some k := h
        cases h
        refine ⟨fun q j hj hxj => ?_, fun q => q i (by omega) hx⟩
        by_cases e : j = i
        · rw [e]; exact q
        · rw [cmn_n hy j (by omega)] at hxj
          cases hxj
      | some k0 =>
        rw [hy] at h
        have h : some (k0 &&& i) = some k := h
        cases h
        rw [Nat.testBit_and, Bool.and_eq_true, cmn_b hy u]
        refine ⟨fun q j hj hxj => ?_, fun q => ⟨fun j hj hxj => q j (by omega) hxj, q i (by omega) hx⟩⟩
        by_cases e : j = i
        · rw [e]; exact q.2
        · exact q.1 j (by omega) hxj
theorem cmn_lt {x : Nat → Bool} : ∀ {i k : Nat}, cmn x i = some k → k < i
  | 0, _, h => by cases h
  | i + 1, k, h => by
    rw [cmn] at h
    cases hx : x i with
    | false =>
      rw [hx] at h
      have := cmn_lt (i := i) h
      omega
    | true =>
      rw [hx] at h
      cases hy : cmn x i with
      | none =>
        rw [hy] at h
        have h : some i = some k := h
        cases h
        omega
      | some k0 =>
        rw [hy] at h
        have h : some (k0 &&& i) = some k := h
        cases h
        have := Nat.and_le_right (n := k0) (m := i)
        omega
/-- whom one needs gone -/
def ndP (n m : Nat) (v : am_V) (s g t u : Nat) : Bool := !(Nat.beq u t) && (!(g.testBit u) && !(cg m v (gal n m v (2 ^ t ||| 2 ^ u) s g) s t))
section
variable {n m g s : Nat} {v : am_V} {w : am_W}
theorem cg_t {S t : Nat} (h : cg m v S s t = true) : S.testBit t = false := by
  unfold cg at h
  rw [Bool.and_eq_true, Bool.not_eq_true'] at h
  exact h.1
theorem ahd_rc (hn : n ≤ 8) {y t S : Nat} (h : ahd n m v y s g t S = true) : rc n m v y s g S ∧ cg m v S s t = true := by
  unfold ahd at h
  rw [Bool.and_eq_true, Bool.not_eq_true'] at h
  exact ⟨(odN_iff hn).mp (Nat.pos_of_ne_zero (Nat.ne_of_beq_eq_false h.1)), h.2⟩
theorem rc_ahd (hn : n ≤ 8) {y t S : Nat} (h : rc n m v y s g S) (hc : cg m v S s t = true) : ahd n m v y s g t S = true := by
  unfold ahd
  have := (odN_iff hn).mpr h
  rw [nbf (by omega), hc]; rfl
theorem ahd_bar (hn : n ≤ 8) {t S : Nat} : ahd n m v 0 s g t S = ahd n m v (2 ^ t) s g t S := by
  rw [Bool.eq_iff_iff]
  constructor
  · intro h
    obtain ⟨h1, h2⟩ := ahd_rc hn h
    refine rc_ahd hn (rc_bar (fun u hu => ?_) h1) h2
    rw [Nat.testBit_two_pow, decide_eq_true_eq] at hu
    rw [← hu]
    exact cg_t h2
  · intro h
    obtain ⟨h1, h2⟩ := ahd_rc hn h
    exact rc_ahd hn (rc_unbar h1) h2
theorem aho_v {y t : Nat} : ∀ j q, aho n m v y s g t j = some q → ∃ k, k < 2 ^ 31 ∧ q = nI k := fun j q h => by
  unfold aho at h
  cases hx : ahd n m v y s g t j with
  | false => rw [hx] at h; cases h
  | true =>
    rw [hx] at h
    cases h
    have : ∀ k, pc j k ≤ k := fun k => by
      induction k with
      | zero => exact Nat.le_refl 0
      | succ k ih =>
        rw [pc]
        cases j.testBit k
        · show pc j k + 0 ≤ _; omega
        · show pc j k + 1 ≤ _; omega
    have := this 10
    exact ⟨_, by omega, rfl⟩
theorem S_fewest (hV : VI n m v) (hC : CC n m g s v w) (hg : g < 2 ^ n) {t : Nat} (ht : t < n) : ∃ w2, F_Ord_fewestAhead (nI t) w = some (b2 (-nI 1) (bst (aho n m v 0 s g t) (2 ^ n)), w2) ∧ KP w w2 := by
  have hn := hV.1
  have h8 := two8 hn
  have hp := Nat.two_pow_pos n
  obtain ⟨w1, e1, k1, r1⟩ := S_count hV hC hg
  have kp1 : KP w w1 := KP_b 37 (fun _ => rfl) k1
  have hC1 : CC n m g s v w1 := CC_fr rfl kp1 hC
  refine ⟨w1, ?_, kp1⟩
  unfold F_Ord_fewestAhead
  rw [e1, bn_s]
  have key : ∀ d i F, i + d = 2 ^ n → d < F → L_Ord_fewestAhead_8 F (nI t) (b2 (-nI 1) (bst (aho n m v 0 s g t) i)) (nI i) w1 = some (b2 (-nI 1) (bst (aho n m v 0 s g t) (2 ^ n)), w1) := by
    intro d
    induction d with
    | zero =>
      intro i F hi hF
      obtain ⟨F, rfl⟩ : ∃ j, F = j + 1 := ⟨F - 1, by omega⟩
      show F_Ord_fewestAhead_8 _ _ _ _ _ = _
      unfold F_Ord_fewestAhead_8
      simp (disch := omega) only [S_allThings hV hC1, bn_V, am_ltV, am_ckV, cond_V1, cond_V0, bi_ite, ck_bi, ite_T, ite_F, nI_clamp, am_ckI, ile_t, ile_f, ilt_t, ilt_f, ieq_t, ieq_f, iz_t, iz_f, ilz_f, nI_add]
      rw [show i = 2 ^ n from hi]
    | succ d ih =>
      intro i F hi hF
      obtain ⟨F, rfl⟩ : ∃ j, F = j + 1 := ⟨F - 1, by omega⟩
      have hi2 : i < 2 ^ n := by omega
      have hlt := odN_lt (c := cd n m v 0 s) (g := g) i
      have h9 := ih (i + 1) F (by omega) (by omega)
      have hle0 : ∀ (α : Type) (A B : α), (if nI (odN (cd n m v 0 s) g i) ≤ 0 then A else B) = bif Nat.beq (odN (cd n m v 0 s) g i) 0 then A else B := fun α A B => by
        by_cases q : odN (cd n m v 0 s) g i = 0
        · rw [q]; exact if_pos (by decide)
        · rw [nbf q]; exact if_neg (nI_ngt (by omega) (by omega))
      show F_Ord_fewestAhead_8 _ _ _ _ _ = _
      unfold F_Ord_fewestAhead_8
      rw [S_allThings hV hC1, bn_s]
      dsimp only
      rw [ilt_f (by omega) (by omega), in_nI (by omega : i < 256) (by omega), am_ckT, nI_clamp (by omega), r1 i hi2, hle0, hC1.2.2.2.1, S_canGo hV hC1, bn_s]
      dsimp only
      rw [S_has (by omega), mk_b _ _ (by omega) (by omega), decide_eq_true ht, Bool.true_and, bn_s, bi_ite]
      dsimp only
      unfold F_Ord_fewestAhead_82 F_Ord_fewestAhead_81 F_Ord_fewestAhead_82
      rw [nI_add]
      cases q1 : Nat.beq (odN (cd n m v 0 s) g i) 0 with
      | true =>
        have hx : aho n m v 0 s g t i = none := by unfold aho ahd; rw [q1]; rfl
        rw [bst, hx] at h9
        exact h9
      | false =>
        cases q2 : cg m v i s t with
        | false =>
          have hx : aho n m v 0 s g t i = none := by unfold aho ahd; rw [q1, q2]; rfl
          rw [bst, hx] at h9
          exact h9
        | true =>
          have hA : ahd n m v 0 s g t i = true := by unfold ahd; rw [q1, q2]; rfl
          have hx : aho n m v 0 s g t i = some (nI (pc i 10 - pc g 10)) := by unfold aho; rw [hA]; rfl
          have hsub := rc_sub (ahd_rc hn hA).1
          have hpx := pc_x hsub 10
          have hxl : i ^^^ g < 2 ^ 8 := Nat.xor_lt_two_pow (by omega) (by omega)
          rw [cond_false, cond_true, hC1.2.1, and_notx hsub, S_bits (by omega), bn_s, show pc (i ^^^ g) 10 = pc i 10 - pc g 10 from by omega]
          dsimp only
          rw [← bst_cls hx aho_v] at h9
          by_cases h0 : 0 ≤ b2 (-nI 1) (bst (aho n m v 0 s g t) i)
          · rw [if_pos h0]; rw [if_pos h0] at h9; exact h9
          · rw [if_neg h0]; rw [if_neg h0] at h9; exact h9
  exact key (2 ^ n) 0 am_NF (by omega) (by show _ < 4000; omega)
theorem S_ahead (hV : VI n m v) (hC : CC n m g s v w) (hg : g < 2 ^ n) {t : Nat} (ht : t < n) : ∃ w2, F_Ord_goneAhead (nI t) w = some (match cmn (ahd n m v 0 s g t) (2 ^ n) with | none => -nI 1 | some k => nI k &&& (nI g ^^^ (-nI 1)), w2) ∧ KP w w2 := by
  have hn := hV.1
  have h8 := two8 hn
  have hp := Nat.two_pow_pos n
  obtain ⟨w1, e1, k1, r1⟩ := S_count hV hC hg
  have kp1 : KP w w1 := KP_b 37 (fun _ => rfl) k1
  have hC1 : CC n m g s v w1 := CC_fr rfl kp1 hC
  refine ⟨w1, ?_, kp1⟩
  unfold F_Ord_goneAhead
  rw [e1, bn_s]
  have key : ∀ d i F, i + d = 2 ^ n → d < F → L_Ord_goneAhead_8 F (nI t) (cmE (cmn (ahd n m v 0 s g t) i)) (nI i) w1 = some (match cmn (ahd n m v 0 s g t) (2 ^ n) with | none => -nI 1 | some k => nI k &&& (nI g ^^^ (-nI 1)), w1) := by
    intro d
    induction d with
    | zero =>
      intro i F hi hF
      obtain ⟨F, rfl⟩ : ∃ j, F = j + 1 := ⟨F - 1, by omega⟩
      show F_Ord_goneAhead_8 _ _ _ _ _ = _
      unfold F_Ord_goneAhead_8 F_Ord_goneAhead_79
      simp (disch := omega) only [S_allThings hV hC1, bn_V, am_ltV, am_ckV, cond_V1, cond_V0, bi_ite, ck_bi, ite_T, ite_F, nI_clamp, am_ckI, ile_t, ile_f, ilt_t, ilt_f, ieq_t, ieq_f, iz_t, iz_f, ilz_f, nI_add, hC1.2.1]
      rw [show i = 2 ^ n from hi]
      cases hy : cmn (ahd n m v 0 s g t) (2 ^ n) with
      | none => exact if_neg (by decide)
      | some k =>
        have := cmn_lt hy
        exact if_pos (show (0 : Int32) ≤ nI k from nI_le (a := 0) (Nat.zero_le k) (by omega))
    | succ d ih =>
      intro i F hi hF
      obtain ⟨F, rfl⟩ : ∃ j, F = j + 1 := ⟨F - 1, by omega⟩
      have hi2 : i < 2 ^ n := by omega
      have hlt := odN_lt (c := cd n m v 0 s) (g := g) i
      have h9 := ih (i + 1) F (by omega) (by omega)
      have hle0 : ∀ (α : Type) (A B : α), (if nI (odN (cd n m v 0 s) g i) ≤ 0 then A else B) = bif Nat.beq (odN (cd n m v 0 s) g i) 0 then A else B := fun α A B => by
        by_cases q : odN (cd n m v 0 s) g i = 0
        · rw [q]; exact if_pos (by decide)
        · rw [nbf q]; exact if_neg (nI_ngt (by omega) (by omega))
      show F_Ord_goneAhead_8 _ _ _ _ _ = _
      unfold F_Ord_goneAhead_8
      rw [S_allThings hV hC1, bn_s]
      dsimp only
      rw [ilt_f (by omega) (by omega), in_nI (by omega : i < 256) (by omega), am_ckT, nI_clamp (by omega), r1 i hi2, hle0, hC1.2.2.2.1, S_canGo hV hC1, bn_s]
      dsimp only
      rw [S_has (by omega), mk_b _ _ (by omega) (by omega), decide_eq_true ht, Bool.true_and, bn_s, bi_ite]
      dsimp only
      unfold F_Ord_goneAhead_54
      rw [nI_add]
      cases q1 : Nat.beq (odN (cd n m v 0 s) g i) 0 with
      | true =>
        have hx : ahd n m v 0 s g t i = false := by unfold ahd; rw [q1]; rfl
        rw [cmn, hx] at h9
        exact h9
      | false =>
        cases q2 : cg m v i s t with
        | false =>
          have hx : ahd n m v 0 s g t i = false := by unfold ahd; rw [q1, q2]; rfl
          rw [cmn, hx] at h9
          exact h9
        | true =>
          have hx : ahd n m v 0 s g t i = true := by unfold ahd; rw [q1, q2]; rfl
          rw [cmn, hx] at h9
          rw [cond_false, cond_true]
          cases hy : cmn (ahd n m v 0 s g t) i with
          | none =>
            rw [hy] at h9
            have e : cmE none &&& nI i = nI i := b_ext (fun j hj => by
              rw [b_and, show cmE none = -1 from by decide, b_m1 j hj, Bool.true_and])
            rw [e]
            exact h9
          | some k =>
            rw [hy] at h9
            have e : cmE (some k) &&& nI i = nI (k &&& i) := nx_and k i
            rw [e]
            exact h9
  exact key (2 ^ n) 0 am_NF (by omega) (by show _ < 4000; omega)
/-- the two ways to say who must be gone first say the same -/
theorem first_eq (hn : n ≤ 8) (hg : g < 2 ^ n) {t k : Nat} (ht : t < n) (hgt : g.testBit t = false) (h : cmn (ahd n m v 0 s g t) (2 ^ n) = some k) : nI k &&& (nI g ^^^ (-nI 1)) = mk (ndP n m v s g t) n := by
  have h8 := two8 hn
  obtain ⟨S0, hS0, hx0⟩ : ∃ S0, S0 < 2 ^ n ∧ ahd n m v 0 s g t S0 = true := Classical.byContradiction fun q => by
    have hz : ∀ i, i ≤ 2 ^ n → cmn (ahd n m v 0 s g t) i = none := fun i => by
      induction i with
      | zero => exact fun _ => rfl
      | succ i ih =>
        intro hi
        rw [cmn, Bool.eq_false_iff.mpr (fun r => q ⟨i, by omega, r⟩)]
        exact ih (by omega)
    rw [hz _ (Nat.le_refl _)] at h
    cases h
  obtain ⟨r0, c0⟩ := ahd_rc hn hx0
  refine mk_ext (by omega) (fun i hi => ?_)
  rw [b_and, b_not _ hi, b_nI hi, b_nI hi]
  unfold ndP
  rw [Bool.eq_iff_iff]
  simp only [Bool.and_eq_true, Bool.not_eq_true', decide_eq_true_eq]
  rw [cmn_b h i]
  constructor
  · rintro ⟨h1, h2⟩
    have hi0 := h1 S0 hS0 hx0
    have hin : i < n := Nat.lt_of_not_le (fun q => by
      rw [Nat.testBit_lt_two_pow (Nat.lt_of_lt_of_le hS0 (Nat.pow_le_pow_right (by omega) q))] at hi0
      cases hi0)
    have hit : ¬ i = t := fun q => by
      rw [q, cg_t c0] at hi0
      cases hi0
    refine ⟨hin, nbf hit, h2, Bool.eq_false_iff.mpr (fun q => ?_)⟩
    have hR := rc_gal (n := n) (m := m) (v := v) (x := 2 ^ t ||| 2 ^ i) (s := s) (g := g) hn
    have h3 := h1 _ (gal_lt hg) (rc_ahd hn (rc_unbar hR) q)
    rw [rc_barred (t := i) (by rw [Nat.testBit_or, Nat.testBit_two_pow, Nat.testBit_two_pow, decide_eq_true rfl, Bool.or_true]) h2 hR] at h3
    cases h3
  · rintro ⟨hin, h1, h2, h3⟩
    refine ⟨fun S hS hx => ?_, h2⟩
    cases hSi : S.testBit i with
    | true => rfl
    | false =>
      obtain ⟨r1, c1⟩ := ahd_rc hn hx
      have h4 : rc n m v (2 ^ t ||| 2 ^ i) s g S := rc_bar (fun u hu => by
        rw [Nat.testBit_or, Nat.testBit_two_pow, Nat.testBit_two_pow, Bool.or_eq_true, decide_eq_true_eq, decide_eq_true_eq] at hu
        rcases hu with hu | hu
        · rw [← hu]; exact cg_t c1
        · rw [← hu]; exact hSi) r1
      have h5 := rc_in h4 gal_sub (gal_cls hn g)
      have hR := rc_gal (n := n) (m := m) (v := v) (x := 2 ^ t ||| 2 ^ i) (s := s) (g := g) hn
      have h6 := rc_barred (t := t) (by rw [Nat.testBit_or, Nat.testBit_two_pow, decide_eq_true rfl, Bool.true_or]) hgt hR
      rw [cg_mono h5 c1 h6] at h3
      cases h3
end