/-! ===== sets of gone things that are come to, and in how many orders ===== -/
/-- come to from g by so many steps, some barred -/
def rcN (n m : Nat) (v : am_V) (x s g : Nat) : Nat → Nat → Prop
  | 0, S => S = g
  | d + 1, S => ∃ S1 t, rcN n m v x s g d S1 ∧ cd n m v x s S1 t = true ∧ S = S1 ||| 2 ^ t
def rc (n m : Nat) (v : am_V) (x s g S : Nat) : Prop := ∃ d, rcN n m v x s g d S
section
variable {n m x s g : Nat} {v : am_V}
theorem rc_g : rc n m v x s g g := ⟨0, rfl⟩
theorem rc_s {S t : Nat} (h : rc n m v x s g S) (c : cd n m v x s S t = true) : rc n m v x s g (S ||| 2 ^ t) := by
  obtain ⟨d, h⟩ := h
  exact ⟨d + 1, S, t, h, c, rfl⟩
theorem rc_lt (hg : g < 2 ^ n) {S : Nat} (h : rc n m v x s g S) : S < 2 ^ n := by
  obtain ⟨d, h⟩ := h
  induction d generalizing S with
  | zero => rw [show S = g from h]; exact hg
  | succ d ih =>
    obtain ⟨S1, t, h1, h2, rfl⟩ := h
    exact or_lt (ih h1) (Nat.pow_lt_pow_right (by omega) (cd_not h2).1)
theorem rc_sub {S : Nat} (h : rc n m v x s g S) : sub g S := by
  obtain ⟨d, h⟩ := h
  induction d generalizing S with
  | zero => rw [show S = g from h]; exact sub_r g
  | succ d ih =>
    obtain ⟨S1, t, h1, h2, rfl⟩ := h
    exact sub_t (ih h1) sub_or
/-- what is come to lies in each closed set above -/
theorem rc_in {S X : Nat} (h : rc n m v x s g S) (h1 : sub g X) (h2 : cls n m v x s X) : sub S X := by
  obtain ⟨d, h⟩ := h
  induction d generalizing S with
  | zero => rw [show S = g from h]; exact h1
  | succ d ih =>
    obtain ⟨S1, t, h3, h4, rfl⟩ := h
    refine sub_bit (ih h3) ?_
    rcases cd_mono (ih h3) h4 with q | q
    · exact q
    · rw [h2 t] at q; cases q
theorem rc_max (hn : n ≤ 8) : ∀ k S, rc n m v x s g S → left S 8 ≤ k → ∃ Y, rc n m v x s g Y ∧ cls n m v x s Y := by
  intro k
  induction k with
  | zero =>
    intro S h hk
    refine ⟨S, h, fun t => ?_⟩
    cases hc : cd n m v x s S t
    · rfl
    · obtain ⟨h1, h2⟩ := cd_not hc
      have h3 := left_z (g := S) 8 (by omega) t (by omega : t < 8)
      rw [h3] at h2
      cases h2
  | succ k ih =>
    intro S h hk
    by_cases hc : ∃ t, cd n m v x s S t = true
    · obtain ⟨t, ht⟩ := hc
      refine ih _ (rc_s h ht) ?_
      have h3 := left_lt (h := S ||| 2 ^ t) sub_or (cd_not ht).2 (by rw [Nat.testBit_or, Nat.testBit_two_pow, decide_eq_true rfl, Bool.or_true]) 8 (by have := (cd_not ht).1; omega)
      omega
    · exact ⟨S, h, fun t => Bool.eq_false_iff.mpr (fun q => hc ⟨t, q⟩)⟩
/-- who is gone at last is come to -/
theorem rc_gal (hn : n ≤ 8) : rc n m v x s g (gal n m v x s g) := by
  obtain ⟨Y, h1, h2⟩ := rc_max (n := n) (m := m) (v := v) (x := x) (s := s) (g := g) hn 8 g rc_g (left_le8 g 8)
  have e := gal_eq (g := g) hn (rc_sub h1) h2 (fun X h3 h4 => rc_in h1 h3 h4)
  rw [← e]
  exact h1
theorem gal_lt (hg : g < 2 ^ n) : gal n m v x s g < 2 ^ n := git_lt 8 g hg
/-- barring some who aren't in a set changes nothing of it -/
theorem rc_bar {y S : Nat} (hy : ∀ u, y.testBit u = true → S.testBit u = false) (h : rc n m v 0 s g S) : rc n m v y s g S := by
  obtain ⟨d, h⟩ := h
  refine ⟨d, ?_⟩
  induction d generalizing S with
  | zero => exact h
  | succ d ih =>
    obtain ⟨S1, u, h1, h2, rfl⟩ := h
    refine ⟨S1, u, ih (fun k hk => ?_) h1, ?_, rfl⟩
    · have := hy k hk
      rw [Nat.testBit_or, Bool.or_eq_false_iff] at this
      exact this.1
    · have hu : y.testBit u = false := Bool.eq_false_iff.mpr (fun q => by
        have := hy u q
        rw [Nat.testBit_or, Nat.testBit_two_pow, decide_eq_true rfl, Bool.or_true] at this
        cases this)
      unfold cd at h2 ⊢
      rw [hu]
      rw [Nat.zero_testBit] at h2
      exact h2
theorem rc_unbar {y S : Nat} (h : rc n m v y s g S) : rc n m v 0 s g S := by
  obtain ⟨d, h⟩ := h
  refine ⟨d, ?_⟩
  induction d generalizing S with
  | zero => exact h
  | succ d ih =>
    obtain ⟨S1, u, h1, h2, rfl⟩ := h
    refine ⟨S1, u, ih h1, ?_, rfl⟩
    unfold cd at h2 ⊢
    rw [Nat.zero_testBit]
    simp only [Bool.and_eq_true] at h2 ⊢
    exact ⟨h2.1, rfl, h2.2.2⟩
theorem rc_barred {y t S : Nat} (hy : y.testBit t = true) (hg : g.testBit t = false) (h : rc n m v y s g S) : S.testBit t = false := by
  obtain ⟨d, h⟩ := h
  induction d generalizing S with
  | zero => rw [show S = g from h]; exact hg
  | succ d ih =>
    obtain ⟨S1, u, h1, h2, rfl⟩ := h
    have hu : ¬ u = t := fun q => by
      unfold cd at h2
      rw [q, hy, Bool.not_true, Bool.false_and, Bool.and_false] at h2
      cases h2
    rw [Nat.testBit_or, ih h1, Nat.testBit_two_pow, decide_eq_false hu]; rfl
end
/-! in how many orders -/
def smN (f : Nat → Nat) : Nat → Nat
  | 0 => 0
  | k + 1 => smN f k + f k
theorem smN_c {f h : Nat → Nat} : ∀ {k : Nat}, (∀ u, u < k → f u = h u) → smN f k = smN h k
  | 0, _ => rfl
  | k + 1, q => by rw [smN, smN, smN_c (fun u hu => q u (by omega)), q k (by omega)]
theorem smN_z {f : Nat → Nat} : ∀ {k : Nat}, (∀ u, u < k → f u = 0) → smN f k = 0
  | 0, _ => rfl
  | k + 1, q => by rw [smN, smN_z (fun u hu => q u (by omega)), q k (by omega)]
theorem smN_1 {f h : Nat → Nat} {t : Nat} : ∀ {k : Nat}, t < k → (∀ u, u < k → ¬ u = t → h u = f u) → f t = 0 → smN h k = smN f k + h t
  | 0, q, _, _ => by omega
  | k + 1, q, q1, q2 => by
    rw [smN, smN]
    by_cases e : t = k
    · subst e
      rw [smN_c (h := f) (fun u hu => q1 u (by omega) (by omega)), q2]
      omega
    · rw [smN_1 (t := t) (by omega) (fun u hu hne => q1 u (by omega) hne) q2, q1 k (by omega) (fun h => e h.symm)]
      omega
theorem smN_le {f : Nat → Nat} {B : Nat} : ∀ {k : Nat}, (∀ u, u < k → f u ≤ B) → smN f k ≤ k * B
  | 0, _ => by rw [smN]; omega
  | k + 1, q => by
    have h1 := smN_le (f := f) (B := B) (k := k) (fun u hu => q u (by omega))
    have h2 := q k (by omega)
    rw [smN, Nat.succ_mul]
    omega
theorem smN_pos {f : Nat → Nat} : ∀ {k : Nat}, 0 < smN f k → ∃ u, u < k ∧ 0 < f u
  | 0, h => by rw [smN] at h; omega
  | k + 1, h => by
    rw [smN] at h
    by_cases e : 0 < f k
    · exact ⟨k, by omega, e⟩
    · obtain ⟨u, hu, q⟩ := smN_pos (f := f) (k := k) (by omega)
      exact ⟨u, by omega, q⟩
theorem smN_ge {f : Nat → Nat} {u : Nat} : ∀ {k : Nat}, u < k → f u ≤ smN f k
  | 0, h => by omega
  | k + 1, h => by
    rw [smN]
    by_cases e : u = k
    · rw [e]; omega
    · have := smN_ge (f := f) (u := u) (k := k) (by omega)
      omega
theorem tb_le {S u : Nat} (h : S.testBit u = true) : 2 ^ u ≤ S := Nat.ge_two_pow_of_testBit h
theorem or_add {S u : Nat} (h : S.testBit u = false) : S ||| 2 ^ u = S + 2 ^ u := by
  have h0 : S / 2 ^ u % 2 = 0 := by
    rw [Nat.testBit_eq_decide_div_mod_eq, decide_eq_false_iff_not] at h
    omega
  have h1 : S % 2 ^ (u + 1) = S % 2 ^ u := by
    rw [Nat.mod_pow_succ, h0]; rfl
  have h2 : S % 2 ^ u < 2 ^ u := Nat.mod_lt _ (Nat.two_pow_pos u)
  have h3 : S = 2 ^ (u + 1) * (S / 2 ^ (u + 1)) ||| S % 2 ^ u := by
    rw [← Nat.two_pow_add_eq_or_of_lt (by rw [Nat.pow_succ]; omega), ← h1]
    exact (Nat.div_add_mod S (2 ^ (u + 1))).symm
  have h4 : 2 ^ u * 1 ||| S % 2 ^ u = 2 ^ u * 1 + S % 2 ^ u := (Nat.two_pow_add_eq_or_of_lt h2 1).symm
  rw [Nat.mul_one] at h4
  have h5 : S ||| 2 ^ u = 2 ^ (u + 1) * (S / 2 ^ (u + 1)) ||| (2 ^ u ||| S % 2 ^ u) := by
    conv => lhs; rw [h3]
    rw [Nat.or_assoc, Nat.or_comm (S % 2 ^ u)]
  rw [h5, h4, ← Nat.two_pow_add_eq_or_of_lt (by rw [Nat.pow_succ]; omega)]
  have h6 := Nat.div_add_mod S (2 ^ (u + 1))
  rw [h1] at h6
  omega
theorem tb_sub {S u : Nat} (h : S.testBit u = true) : S = (S - 2 ^ u) ||| 2 ^ u ∧ (S - 2 ^ u).testBit u = false := by
  have h1 : (S ^^^ 2 ^ u) ||| 2 ^ u = S := Nat.eq_of_testBit_eq (fun i => by
    rw [Nat.testBit_or, Nat.testBit_xor, Nat.testBit_two_pow]
    by_cases e : u = i
    · rw [decide_eq_true e, ← e, h]; rfl
    · rw [decide_eq_false e, Bool.xor_false, Bool.or_false])
  have h2 : (S ^^^ 2 ^ u).testBit u = false := by
    rw [Nat.testBit_xor, Nat.testBit_two_pow, decide_eq_true rfl, h]; rfl
  have h3 : S = (S ^^^ 2 ^ u) + 2 ^ u := by
    have := or_add h2
    rw [h1] at this
    exact this
  have h4 : S - 2 ^ u = S ^^^ 2 ^ u := by omega
  rw [h4]
  exact ⟨h1.symm, h2⟩
theorem tb_sb {S u : Nat} (h : S.testBit u = true) : sub (S - 2 ^ u) S := fun i hi => by
  rw [(tb_sub h).1, Nat.testBit_or, hi]; rfl
theorem tb_add {S u : Nat} (h : S.testBit u = false) : (S ||| 2 ^ u) - 2 ^ u = S ∧ (S ||| 2 ^ u).testBit u = true := by
  have h1 := or_add h
  refine ⟨by omega, ?_⟩
  rw [Nat.testBit_or, Nat.testBit_two_pow, decide_eq_true rfl, Bool.or_true]
/-- in how many orders one comes from g to a set -/
def odN (c : Nat → Nat → Bool) (g S : Nat) : Nat := (if S = g then 1 else 0) + smN (fun u => if h : S.testBit u = true then (bif c (S - 2 ^ u) u then odN c g (S - 2 ^ u) else 0) else 0) 8
termination_by S
decreasing_by
  have h1 := tb_le h
  have h2 := Nat.two_pow_pos u
  omega
section
variable {c : Nat → Nat → Bool} {g : Nat}
theorem odN_e (S : Nat) : odN c g S = (if S = g then 1 else 0) + smN (fun u => bif S.testBit u && c (S - 2 ^ u) u then odN c g (S - 2 ^ u) else 0) 8 := by
  rw [odN]
  refine congrArg (fun q => _ + q) (smN_c (fun u _ => ?_))
  cases h : S.testBit u
  · rfl
  · show (bif c (S - 2 ^ u) u then odN c g (S - 2 ^ u) else 0) = bif true && c (S - 2 ^ u) u then odN c g (S - 2 ^ u) else 0
    rw [Bool.true_and]
theorem odN_le : ∀ (k S : Nat), S < k → odN c g S ≤ 9 ^ (8 - left S 8)
  | 0, _, h => by omega
  | k + 1, S, h => by
    rw [odN_e]
    have h8 := left_le8 S 8
    have h1 : (if S = g then 1 else 0) ≤ 1 := by
      by_cases q : S = g
      · rw [if_pos q]; omega
      · rw [if_neg q]; omega
    by_cases hz : left S 8 = 8
    · have h2 : smN (fun u => bif S.testBit u && c (S - 2 ^ u) u then odN c g (S - 2 ^ u) else 0) 8 = 0 := smN_z (fun u hu => by
        have h3 : S.testBit u = false := by
          cases q : S.testBit u
          · rfl
          · obtain ⟨q1, q2⟩ := tb_sub q
            have := left_lt (g := S - 2 ^ u) (h := S) (tb_sb q) q2 q 8 hu
            have := left_le8 (S - 2 ^ u) 8
            omega
        rw [h3]; rfl)
      rw [h2, hz]
      show _ + 0 ≤ 9 ^ 0
      omega
    · obtain ⟨j, hj⟩ : ∃ j, 8 - left S 8 = j + 1 := ⟨7 - left S 8, by omega⟩
      have h2 : smN (fun u => bif S.testBit u && c (S - 2 ^ u) u then odN c g (S - 2 ^ u) else 0) 8 ≤ 8 * 9 ^ j := smN_le (fun u hu => by
        cases q : S.testBit u
        · rw [Bool.false_and, cond_false]; exact Nat.zero_le _
        · obtain ⟨q1, q2⟩ := tb_sub q
          have q3 := left_lt (g := S - 2 ^ u) (h := S) (tb_sb q) q2 q 8 hu
          have q4 := tb_le q
          have q5 := Nat.two_pow_pos u
          have q6 := odN_le k (S - 2 ^ u) (by omega)
          have q7 : 9 ^ (8 - left (S - 2 ^ u) 8) ≤ 9 ^ j := Nat.pow_le_pow_right (by omega) (by omega)
          rw [Bool.true_and]
          cases c (S - 2 ^ u) u
          · rw [cond_false]; omega
          · rw [cond_true]; omega)
      have h3 : 0 < 9 ^ j := Nat.pow_pos (by omega)
      rw [hj, Nat.pow_succ]
      omega
theorem odN_lt (S : Nat) : odN c g S < 2 ^ 30 := by
  have h1 := odN_le (c := c) (g := g) (S + 1) S (by omega)
  have h2 : 9 ^ (8 - left S 8) ≤ 9 ^ 8 := Nat.pow_le_pow_right (by omega) (by omega)
  have h3 : (9 : Nat) ^ 8 < 2 ^ 30 := by decide
  omega
/-- what stands of it, when all sets below one, and of that one so many things, are through -/
def odP (c : Nat → Nat → Bool) (g set t S : Nat) : Nat := (if S = g then 1 else 0) + smN (fun u => bif S.testBit u && (c (S - 2 ^ u) u && (Nat.ble (S - 2 ^ u + 1) set || (Nat.beq (S - 2 ^ u) set && Nat.ble (u + 1) t))) then odN c g (S - 2 ^ u) else 0) 8
theorem odP_full {set t S : Nat} (h : S ≤ set) : odP c g set t S = odN c g S := by
  rw [odN_e, odP]
  refine congrArg (fun q => _ + q) (smN_c (fun u _ => ?_))
  cases q : S.testBit u with
  | false => rfl
  | true =>
    have h1 := tb_le q
    have h2 := Nat.two_pow_pos u
    rw [Nat.ble_eq_true_of_le (show S - 2 ^ u + 1 ≤ set by omega), Bool.true_or, Bool.and_true]
theorem odP_c {set t set2 t2 S : Nat} (h : ∀ u, u < 8 → c (S - 2 ^ u) u = true → S.testBit u = true → odN c g (S - 2 ^ u) = 0 ∨ ((S - 2 ^ u + 1 ≤ set ∨ (S - 2 ^ u = set ∧ u + 1 ≤ t)) ↔ (S - 2 ^ u + 1 ≤ set2 ∨ (S - 2 ^ u = set2 ∧ u + 1 ≤ t2)))) : odP c g set t S = odP c g set2 t2 S := by
  rw [odP, odP]
  refine congrArg (fun q => _ + q) (smN_c (fun u hu => ?_))
  cases q : S.testBit u with
  | false => rfl
  | true =>
    cases q1 : c (S - 2 ^ u) u with
    | false => rfl
    | true =>
      rcases h u hu q1 q with q2 | q2
      · rw [q2]
        cases (Nat.ble (S - 2 ^ u + 1) set || (Nat.beq (S - 2 ^ u) set && Nat.ble (u + 1) t)) <;> cases (Nat.ble (S - 2 ^ u + 1) set2 || (Nat.beq (S - 2 ^ u) set2 && Nat.ble (u + 1) t2)) <;> rfl
      · have e : (Nat.ble (S - 2 ^ u + 1) set || (Nat.beq (S - 2 ^ u) set && Nat.ble (u + 1) t)) = (Nat.ble (S - 2 ^ u + 1) set2 || (Nat.beq (S - 2 ^ u) set2 && Nat.ble (u + 1) t2)) := by
          rw [Bool.eq_iff_iff, Bool.or_eq_true, Bool.or_eq_true, Bool.and_eq_true, Bool.and_eq_true, Nat.ble_eq, Nat.ble_eq, Nat.ble_eq, Nat.ble_eq, nbt, nbt]
          exact q2
        rw [e]
theorem odP_add {set t S : Nat} (ht : t < 8) (hc : c set t = true) (h0 : set.testBit t = false) : odP c g set (t + 1) S = if S = set ||| 2 ^ t then odP c g set t S + odN c g set else odP c g set t S := by
  by_cases e : S = set ||| 2 ^ t
  · obtain ⟨e1, e2⟩ := tb_add h0
    rw [if_pos e, e, odP, odP, Nat.add_assoc]
    refine Nat.add_left_cancel_iff.mpr ?_
    refine (smN_1 (f := fun u => bif (set ||| 2 ^ t).testBit u && (c ((set ||| 2 ^ t) - 2 ^ u) u && (Nat.ble ((set ||| 2 ^ t) - 2 ^ u + 1) set || (Nat.beq ((set ||| 2 ^ t) - 2 ^ u) set && Nat.ble (u + 1) t))) then odN c g ((set ||| 2 ^ t) - 2 ^ u) else 0) (t := t) ht (fun u hu hne => ?_) ?_).trans ?_
    · have e3 : Nat.ble (u + 1) (t + 1) = Nat.ble (u + 1) t := by
        rw [Bool.eq_iff_iff, Nat.ble_eq, Nat.ble_eq]; omega
      show (bif _ && (_ && (_ || (_ && Nat.ble (u + 1) (t + 1)))) then _ else 0) = _
      rw [e3]
    · show (bif _ && (_ && (Nat.ble ((set ||| 2 ^ t) - 2 ^ t + 1) set || (_ && Nat.ble (t + 1) t))) then _ else 0) = 0
      rw [e1, show Nat.ble (set + 1) set = false from Bool.eq_false_iff.mpr (fun q => by have := Nat.le_of_ble_eq_true q; omega), show Nat.ble (t + 1) t = false from Bool.eq_false_iff.mpr (fun q => by have := Nat.le_of_ble_eq_true q; omega), Bool.and_false, Bool.or_false, Bool.and_false, Bool.and_false]; rfl
    · refine Nat.add_left_cancel_iff.mpr ?_
      show (bif (set ||| 2 ^ t).testBit t && (c ((set ||| 2 ^ t) - 2 ^ t) t && (Nat.ble ((set ||| 2 ^ t) - 2 ^ t + 1) set || (Nat.beq ((set ||| 2 ^ t) - 2 ^ t) set && Nat.ble (t + 1) (t + 1)))) then odN c g ((set ||| 2 ^ t) - 2 ^ t) else 0) = odN c g set
      rw [e1, e2, hc, Nat.beq_refl, Nat.ble_eq_true_of_le (Nat.le_refl (t + 1))]
      cases Nat.ble (set + 1) set <;> rfl
  · rw [if_neg e]
    refine odP_c (fun u hu q1 q2 => Or.inr ?_)
    have e4 : ¬ (S - 2 ^ u = set ∧ u = t) := fun q => e (by
      rw [← q.1, ← q.2]
      exact (tb_sub q2).1)
    omega
theorem odP_no {set t S : Nat} (h : c set t = false) : odP c g set (t + 1) S = odP c g set t S := odP_c (fun u hu q1 q2 => Or.inr (by
  have e4 : ¬ (S - 2 ^ u = set ∧ u = t) := fun q => by
    rw [q.1, q.2, h] at q1
    cases q1
  omega))
theorem odP_to {set t S : Nat} (h : ∀ u, t ≤ u → u < 8 → c set u = false) : odP c g set t S = odP c g (set + 1) 0 S := odP_c (fun u hu q1 q2 => Or.inr (by
  have e4 : ¬ (S - 2 ^ u = set ∧ t ≤ u) := fun q => by
    rw [q.1, h u q.2 hu] at q1
    cases q1
  omega))
theorem odP_z {set t S : Nat} (h : odN c g set = 0) : odP c g set t S = odP c g (set + 1) 0 S := odP_c (fun u hu q1 q2 => by
  by_cases e : S - 2 ^ u = set
  · rw [e]; exact Or.inl h
  · exact Or.inr (by omega))
end
section
variable {n m x s g : Nat} {v : am_V}
theorem odN_rc : ∀ (k S : Nat), S < k → 0 < odN (cd n m v x s) g S → rc n m v x s g S
  | 0, _, h, _ => by omega
  | k + 1, S, h, q => by
    by_cases e : S = g
    · rw [e]; exact rc_g
    · rw [odN_e, if_neg e, Nat.zero_add] at q
      obtain ⟨u, hu, q1⟩ := smN_pos q
      cases q2 : S.testBit u with
      | false => simp only [q2, Bool.false_and, cond_false] at q1; omega
      | true =>
        cases q3 : cd n m v x s (S - 2 ^ u) u with
        | false => simp only [q2, q3, Bool.and_false, cond_false] at q1; omega
        | true =>
          simp only [q2, q3, Bool.and_true, cond_true] at q1
          have q4 := tb_le q2
          have q5 := Nat.two_pow_pos u
          have q6 := odN_rc k (S - 2 ^ u) (by omega) q1
          rw [(tb_sub q2).1]
          exact rc_s q6 q3
theorem rc_odN (hn : n ≤ 8) {S : Nat} (h : rc n m v x s g S) : 0 < odN (cd n m v x s) g S := by
  obtain ⟨d, h⟩ := h
  induction d generalizing S with
  | zero =>
    have e : S = g := h
    rw [odN_e, if_pos e]; omega
  | succ d ih =>
    obtain ⟨S1, t, h1, h2, rfl⟩ := h
    obtain ⟨c1, c2⟩ := cd_not h2
    obtain ⟨e1, e2⟩ := tb_add c2
    have h3 := smN_ge (f := fun u => bif (S1 ||| 2 ^ t).testBit u && cd n m v x s ((S1 ||| 2 ^ t) - 2 ^ u) u then odN (cd n m v x s) g ((S1 ||| 2 ^ t) - 2 ^ u) else 0) (u := t) (k := 8) (by omega)
    simp only [e1, e2, h2, Bool.true_and, cond_true] at h3
    have h4 := ih h1
    rw [odN_e]
    omega
theorem odN_iff (hn : n ≤ 8) {S : Nat} : 0 < odN (cd n m v x s) g S ↔ rc n m v x s g S := ⟨odN_rc (S + 1) S (by omega), rc_odN hn⟩
theorem sub_leN {a b : Nat} (h : sub a b) : a ≤ b := by
  have e : a &&& b = a := Nat.eq_of_testBit_eq (fun i => by
    rw [Nat.testBit_and]
    cases q : a.testBit i
    · rfl
    · rw [h i q]; rfl)
  have := Nat.and_le_right (n := a) (m := b)
  omega
theorem odP_g (S : Nat) : odP (cd n m v x s) g g 0 S = if S = g then 1 else 0 := by
  rw [odP]
  rw [smN_z (fun u hu => ?_), Nat.add_zero]
  by_cases h : S - 2 ^ u + 1 ≤ g
  · have h0 : odN (cd n m v x s) g (S - 2 ^ u) = 0 := by
      refine Nat.eq_zero_of_not_pos (fun q => ?_)
      have := sub_leN (rc_sub (odN_rc (S - 2 ^ u + 1) (S - 2 ^ u) (by omega) q))
      omega
    rw [h0]
    cases (S.testBit u && (cd n m v x s (S - 2 ^ u) u && (Nat.ble (S - 2 ^ u + 1) g || (Nat.beq (S - 2 ^ u) g && Nat.ble (u + 1) 0)))) <;> rfl
  · rw [show Nat.ble (S - 2 ^ u + 1) g = false from Bool.eq_false_iff.mpr (fun q => h (Nat.le_of_ble_eq_true q)), show Nat.ble (u + 1) 0 = false from rfl, Bool.and_false, Bool.or_false, Bool.and_false, Bool.and_false]; rfl
end
