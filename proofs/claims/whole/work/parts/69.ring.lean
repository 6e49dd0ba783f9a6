/-! ===== ring ===== -/
/-- who can stand last in a row of just these, each waiting for the next, t first -/
def rgB (n t : Nat) (b0 : Bool) (a : Nat → Nat → Bool) (S u : Nat) : Bool := (b0 && (Nat.beq S (2 ^ t) && Nat.beq u t)) || (if h : S.testBit u = true then (List.range n).any (fun x => rgB n t b0 a (S - 2 ^ u) x && a x u) else false)
termination_by S
decreasing_by
  have h1 := tb_le h
  have h2 := Nat.two_pow_pos u
  omega
/-- whom those who stand last in such rows wait for; those of the first so many -/
def awU (n t : Nat) (b0 : Bool) (a : Nat → Nat → Bool) (k S u : Nat) : Bool := (List.range k).any (fun x => rgB n t b0 a S x && a x u)
/-- what stands of it when all sets below one are through, and of that one some things -/
def PG (n t : Nat) (b0 : Bool) (a : Nat → Nat → Bool) (set : Nat) (cur : Nat → Bool) (S u : Nat) : Bool := (b0 && (Nat.beq S (2 ^ t) && Nat.beq u t)) || (S.testBit u && ((Nat.ble (S - 2 ^ u + 1) set && awU n t b0 a n (S - 2 ^ u) u) || (Nat.beq (S - 2 ^ u) set && cur u)))
def nob (_ : Nat) : Bool := false
section
variable {n t : Nat} {b0 : Bool} {a : Nat → Nat → Bool}
theorem rgB_e (S u : Nat) : rgB n t b0 a S u = ((b0 && (Nat.beq S (2 ^ t) && Nat.beq u t)) || (S.testBit u && awU n t b0 a n (S - 2 ^ u) u)) := by
  rw [rgB]
  unfold awU
  cases h : S.testBit u with
  | false => rfl
  | true => rfl
theorem awU_ex {k S u : Nat} : awU n t b0 a k S u = true ↔ ∃ x, x < k ∧ rgB n t b0 a S x = true ∧ a x u = true := by
  unfold awU
  rw [List.any_eq_true]
  constructor
  · rintro ⟨x, hx, h⟩
    rw [Bool.and_eq_true] at h
    exact ⟨x, List.mem_range.mp hx, h⟩
  · rintro ⟨x, hx, h1, h2⟩
    exact ⟨x, List.mem_range.mpr hx, by rw [h1, h2]; rfl⟩
theorem awU_s {k S u : Nat} : awU n t b0 a (k + 1) S u = (awU n t b0 a k S u || (rgB n t b0 a S k && a k u)) := by
  unfold awU
  rw [List.range_succ, List.any_append]
  simp
theorem rgB_in : ∀ (k S u : Nat), S < k → rgB n t b0 a S u = true → S.testBit u = true ∧ S.testBit t = true
  | 0, _, _, h, _ => by omega
  | k + 1, S, u, h, q => by
    rw [rgB_e, Bool.or_eq_true, Bool.and_eq_true, Bool.and_eq_true, Bool.and_eq_true] at q
    rcases q with ⟨_, q1, q2⟩ | ⟨q1, q2⟩
    · rw [Nat.eq_of_beq_eq_true q1, Nat.eq_of_beq_eq_true q2, Nat.testBit_two_pow, decide_eq_true rfl]
      exact ⟨rfl, rfl⟩
    · obtain ⟨x, _, q3, _⟩ := awU_ex.mp q2
      have h1 := tb_le q1
      have h2 := Nat.two_pow_pos u
      exact ⟨q1, tb_sb q1 t (rgB_in k _ x (by omega) q3).2⟩
theorem rgB_i {S u : Nat} (q : rgB n t b0 a S u = true) : S.testBit u = true ∧ S.testBit t = true := rgB_in (S + 1) S u (by omega) q
theorem rgB_p {p : Nat → Bool} (h0 : b0 = true → p t = true) (ha : ∀ x u, a x u = true → p u = true) {S u : Nat} (q : rgB n t b0 a S u = true) : p u = true := by
  rw [rgB_e, Bool.or_eq_true, Bool.and_eq_true, Bool.and_eq_true, Bool.and_eq_true] at q
  rcases q with ⟨q0, _, q2⟩ | ⟨_, q2⟩
  · rw [Nat.eq_of_beq_eq_true q2]; exact h0 q0
  · obtain ⟨x, _, _, q4⟩ := awU_ex.mp q2
    exact ha x u q4
theorem rgB_ff : ∀ (k S u : Nat), S < k → rgB n t false a S u = false
  | 0, _, _, h => by omega
  | k + 1, S, u, h => by
    rw [rgB_e, Bool.false_and, Bool.false_or]
    cases q : S.testBit u with
    | false => rfl
    | true =>
      rw [Bool.true_and]
      refine Bool.eq_false_iff.mpr (fun q2 => ?_)
      obtain ⟨x, _, q3, _⟩ := awU_ex.mp q2
      have h1 := tb_le q
      have h2 := Nat.two_pow_pos u
      rw [rgB_ff k _ x (by omega)] at q3
      cases q3
theorem PG_full {set : Nat} {cur : Nat → Bool} (u : Nat) : PG n t b0 a set cur set u = rgB n t b0 a set u := by
  rw [rgB_e]
  unfold PG
  refine congrArg (fun q => (b0 && (Nat.beq set (2 ^ t) && Nat.beq u t)) || q) ?_
  cases q : set.testBit u with
  | false => rfl
  | true =>
    have h1 := tb_le q
    have h2 := Nat.two_pow_pos u
    rw [Nat.ble_eq_true_of_le (by omega), nbf (by omega : ¬ set - 2 ^ u = set), Bool.true_and, Bool.true_and, Bool.false_and, Bool.or_false]
theorem PG_next {set : Nat} {cur : Nat → Bool} {S u : Nat} (h : cur u = awU n t b0 a n set u) : PG n t b0 a set cur S u = PG n t b0 a (set + 1) nob S u := by
  unfold PG nob
  refine congrArg (fun q => _ || q) (congrArg (fun q => S.testBit u && q) ?_)
  rw [Bool.and_false, Bool.or_false]
  by_cases e : S - 2 ^ u = set
  · rw [e, Nat.beq_refl, Bool.true_and, h, Nat.ble_eq_true_of_le (Nat.le_refl (set + 1)), Bool.true_and]
    cases Nat.ble (set + 1) set <;> cases awU n t b0 a n set u <;> rfl
  · rw [nbf e, Bool.false_and, Bool.or_false]
    have : Nat.ble (S - 2 ^ u + 1) set = Nat.ble (S - 2 ^ u + 1) (set + 1) := by
      rw [Bool.eq_iff_iff, Nat.ble_eq, Nat.ble_eq]; omega
    rw [this]
theorem PG_c {set : Nat} {cur c2 : Nat → Bool} {S u : Nat} (h : cur u = c2 u) : PG n t b0 a set cur S u = PG n t b0 a set c2 S u := by
  unfold PG
  rw [h]
theorem PG_add {set k : Nat} {cur : Nat → Bool} {S u : Nat} (h0 : set.testBit k = false) : PG n t b0 a set (fun x => cur x || Nat.beq k x) S u = (PG n t b0 a set cur S u || (Nat.beq S (set ||| 2 ^ k) && Nat.beq k u)) := by
  unfold PG
  dsimp only
  by_cases hk : k = u
  · subst hk
    rw [Nat.beq_refl, Bool.or_true, Bool.and_true, Bool.and_true]
    by_cases hS : S = set ||| 2 ^ k
    · obtain ⟨e1, e2⟩ := tb_add h0
      rw [hS, e1, e2, Nat.beq_refl, Nat.beq_refl, Bool.or_true, Bool.or_true, Bool.true_and, Bool.or_true]
    · rw [nbf hS, Bool.or_false]
      cases q : S.testBit k with
      | false => rfl
      | true =>
        have : ¬ S - 2 ^ k = set := fun e => hS (by rw [← e]; exact (tb_sub q).1)
        rw [nbf this, Bool.false_and]
  · rw [nbf hk, Bool.or_false, Bool.and_false, Bool.or_false]
theorem PG_no {set k : Nat} {cur : Nat → Bool} {S u : Nat} (h0 : set.testBit k = true) : PG n t b0 a set (fun x => cur x || Nat.beq k x) S u = PG n t b0 a set cur S u := by
  unfold PG
  dsimp only
  by_cases hk : k = u
  · subst hk
    cases q : S.testBit k with
    | false => rfl
    | true =>
      have : ¬ S - 2 ^ k = set := fun e => by
        have := (tb_sub q).2
        rw [e, h0] at this
        cases this
      rw [nbf this, Bool.false_and, Bool.false_and]
  · rw [nbf hk, Bool.or_false]
/-- a store of both -/
theorem PG_st {set k c : Nat} {cur : Nat → Bool} {w1 : am_W} (hn : n ≤ 8) (hk : k < n) (h0 : set.testBit k = false) (h : ∀ S, S < 2 ^ n → w1.1 c S = mk (PG n t b0 a set cur S) n) : ∀ S, S < 2 ^ n → (wsf w1 c (set ||| 2 ^ k) (mk (PG n t b0 a set cur (set ||| 2 ^ k)) n ||| (nI 1 <<< (nI k &&& 31)))).1 c S = mk (PG n t b0 a set (fun x => cur x || Nat.beq k x) S) n := fun S hS => by
  by_cases e : S = set ||| 2 ^ k
  · rw [e, wsf_at]
    refine mk_ext (by omega) (or_one (p := PG n t b0 a set cur (set ||| 2 ^ k)) (by omega) hk (fun i hi => mk_b _ n (by omega) hi) (fun u => ?_))
    rw [PG_add h0, Nat.beq_refl, Bool.true_and]
  · rw [wsf_ne e, h S hS]
    exact mk_c (fun u _ => by rw [PG_add h0, nbf e, Bool.false_and, Bool.or_false])
/-- the ring so far: of the fewest, of like ones the first -/
def rgF (n t : Nat) (b0 : Bool) (a : Nat → Nat → Bool) : Nat → Nat
  | 0 => 0
  | i + 1 => bif awU n t b0 a n i t && (Nat.beq (rgF n t b0 a i) 0 || Nat.ble (pc i 10 + 1) (pc (rgF n t b0 a i) 10)) then i else rgF n t b0 a i
theorem rgF_le : ∀ i, rgF n t b0 a i ≤ i
  | 0 => Nat.le_refl 0
  | i + 1 => by
    have := rgF_le i
    rw [rgF]
    cases awU n t b0 a n i t && (Nat.beq (rgF n t b0 a i) 0 || Nat.ble (pc i 10 + 1) (pc (rgF n t b0 a i) 10))
    · show rgF n t b0 a i ≤ _; omega
    · show i ≤ _; omega
theorem rgF_0 {k : Nat} (h : ∀ i, i < k → awU n t b0 a n i t = false) : rgF n t b0 a k = 0 := by
  induction k with
  | zero => rfl
  | succ k ih =>
    rw [rgF, h k (by omega)]
    exact ih (fun i hi => h i (by omega))
theorem awU_lo {S u : Nat} (h : S < 2 ^ t) : awU n t b0 a n S u = false := Bool.eq_false_iff.mpr (fun q => by
  obtain ⟨x, _, q1, _⟩ := awU_ex.mp q
  have := tb_le (rgB_i q1).2
  omega)
end
theorem pc_2 : ∀ i, i < 8 → ∀ j, j < 8 → ¬ i = j → 2 ≤ pc (2 ^ i ||| 2 ^ j) 10 := by decide +kernel
theorem pc_le {a b : Nat} (h : sub a b) (k : Nat) : pc a k ≤ pc b k := by
  have := pc_x h k
  omega
section
variable {n m g s : Nat} {v : am_V} {w : am_W}
theorem aw_t {t u : Nat} (h : aw m v g s t u = true) : ¬ u = t ∧ g.testBit u = false := by
  unfold aw at h
  rw [List.any_eq_true] at h
  obtain ⟨l, _, h⟩ := h
  rw [Bool.and_eq_true] at h
  obtain ⟨h1, h2⟩ := h
  have h2 := Nat.eq_of_beq_eq_true h2
  unfold ho fx shu at h1
  simp only [Bool.and_eq_true, Bool.not_eq_true'] at h1
  rw [h2] at h1
  exact ⟨Nat.ne_of_beq_eq_false h1.1, h1.2.1.2⟩
/-- a set whose rows close is of at least two -/
theorem aw_two {t S : Nat} {b0 : Bool} (hn : n ≤ 8) (ht : t < n) (h : awU n t b0 (aw m v g s) n S t = true) : 1 < pc S 10 := by
  obtain ⟨x, hx, h1, h2⟩ := awU_ex.mp h
  obtain ⟨i1, i2⟩ := rgB_i h1
  have hne : ¬ x = t := fun e => (aw_t h2).1 e.symm
  have h3 := pc_2 x (by omega) t (by omega) hne
  have h4 : sub (2 ^ x ||| 2 ^ t) S := fun i hi => by
    rw [Nat.testBit_or, Nat.testBit_two_pow, Nat.testBit_two_pow, Bool.or_eq_true, decide_eq_true_eq, decide_eq_true_eq] at hi
    rcases hi with hi | hi
    · rw [← hi]; exact i1
    · rw [← hi]; exact i2
  have := pc_le h4 10
  omega
theorem mk_or2 {p q : Nat → Bool} : mk p n ||| mk q n = mk (fun u => p u || q u) n := by
  rw [mk_N, mk_N, mk_N, nx_or]
  refine congrArg nI (Nat.eq_of_testBit_eq (fun i => ?_))
  rw [Nat.testBit_or, mkN_t, mkN_t, mkN_t]
  cases decide (i < n) <;> rfl
theorem mk_zero {p : Nat → Bool} (h : ∀ u, u < n → p u = false) : mk p n = nI 0 := by
  rw [mk_N, mkN_z.mpr h]
theorem S_ring (hV : VI n m v) (hC : CC n m g s v w) {t : Nat} (ht : t < n) (hgt : g.testBit t = false) : ∃ w2, F_Ord_smallestRing (nI t) w = some (nI (rgF n t true (aw m v g s) (2 ^ n)), w2) ∧ KP w w2 := by
  have hn := hV.1
  have h8 := two8 hn
  have htp : 2 ^ t < 2 ^ n := Nat.pow_lt_pow_right (by omega) ht
  have hp0 := Nat.two_pow_pos n
  have gone : ∀ S u, rgB n t true (aw m v g s) S u = true → g.testBit u = false := fun S u q => by
    have := rgB_p (p := fun u => !(g.testBit u)) (fun _ => by rw [hgt]; rfl) (fun x u h => by rw [(aw_t h).2]; rfl) q
    rwa [Bool.not_eq_true'] at this
  have rows : ∀ (set : Nat) (w1 : am_W), set < 2 ^ n → KP w w1 → (∀ u, u < n → g.testBit u = false → w1.1 39 u = mk (aw m v g s u) n) → (∀ S, S < 2 ^ n → w1.1 38 S = mk (PG n t true (aw m v g s) set nob S) n) → ∃ w2, F_Ord_lengthenRows (nI set) (nI t) w1 = some (bi (awU n t true (aw m v g s) n set t), w2) ∧ KP w w2 ∧ w2.1 39 = w1.1 39 ∧ ∀ S, S < 2 ^ n → w2.1 38 S = mk (PG n t true (aw m v g s) (set + 1) nob S) n := by
    intro set w1 hset k1 h39 h38
    have hC1 : CC n m g s v w1 := CC_fr rfl k1 hC
    have wr : ∀ (d i F : Nat) (w2 : am_W), i + d = n → d < F → KP w w2 → w2.1 39 = w1.1 39 → (∀ S, S < 2 ^ n → w2.1 38 S = mk (PG n t true (aw m v g s) set (fun u => Nat.ble (u + 1) i && awU n t true (aw m v g s) n set u) S) n) → ∃ w3, L_Ord_lengthenRows_54 F (nI set) (nI t) (mk (awU n t true (aw m v g s) n set) n) (nI i) w2 = some (bi (awU n t true (aw m v g s) n set t), w3) ∧ KP w w3 ∧ w3.1 39 = w1.1 39 ∧ ∀ S, S < 2 ^ n → w3.1 38 S = mk (PG n t true (aw m v g s) (set + 1) nob S) n := by
      intro d
      induction d with
      | zero =>
        intro i F w2 hi hF k2 q39 q38
        obtain ⟨F, rfl⟩ : ∃ j, F = j + 1 := ⟨F - 1, by omega⟩
        have hC2 : CC n m g s v w2 := CC_fr rfl k2 hC
        refine ⟨w2, ?_, k2, q39, fun S hS => ?_⟩
        · show F_Ord_lengthenRows_54 _ _ _ _ _ _ = _
          unfold F_Ord_lengthenRows_54
          simp (disch := omega) only [hC2.1, nI_clamp, am_ckI, ile_t, ile_f, ilt_t, ilt_f, ieq_t, ieq_f, iz_t, iz_f, ilz_f, nI_add, S_has, mk_b, decide_eq_true ht, Bool.true_and, bn_V, am_ltV, am_ckV, cond_V1, cond_V0, bi_ite, ck_bi, ite_T, ite_F]
        · rw [q38 S hS]
          exact mk_c (fun u hu => PG_next (by rw [Nat.ble_eq_true_of_le (by omega), Bool.true_and]))
      | succ d ih =>
        intro i F w2 hi hF k2 q39 q38
        obtain ⟨F, rfl⟩ : ∃ j, F = j + 1 := ⟨F - 1, by omega⟩
        have hC2 : CC n m g s v w2 := CC_fr rfl k2 hC
        have hin : i < n := by omega
        have hcur : ∀ u, (Nat.ble (u + 1) (i + 1) && awU n t true (aw m v g s) n set u) = ((Nat.ble (u + 1) i && awU n t true (aw m v g s) n set u) || (Nat.beq i u && awU n t true (aw m v g s) n set i)) := fun u => by
          by_cases e : i = u
          · subst e
            rw [Nat.ble_eq_true_of_le (Nat.le_refl (i + 1)), Nat.beq_refl]
            cases Nat.ble (i + 1) i <;> cases awU n t true (aw m v g s) n set i <;> rfl
          · rw [nbf e, Bool.false_and, Bool.or_false]
            have : Nat.ble (u + 1) (i + 1) = Nat.ble (u + 1) i := by
              rw [Bool.eq_iff_iff, Nat.ble_eq, Nat.ble_eq]; omega
            rw [this]
        have hbit : bt (mk (awU n t true (aw m v g s) n set) n &&& (nI set ^^^ (-nI 1))) i = (awU n t true (aw m v g s) n set i && !(set.testBit i)) := by
          rw [b_and, b_not _ (by omega), b_nI (by omega), mk_b _ n (by omega) (by omega), decide_eq_true hin, Bool.true_and]
        have hlt : set ||| 2 ^ i < 2 ^ n := or_lt hset (Nat.pow_lt_pow_right (by omega) hin)
        show ∃ w3, F_Ord_lengthenRows_54 _ _ _ _ _ _ = _ ∧ _
        unfold F_Ord_lengthenRows_54 F_Ord_lengthenRows_97
        simp (disch := omega) only [hC2.1, nI_clamp, am_ckI, ile_t, ile_f, ilt_t, ilt_f, ieq_t, ieq_f, iz_t, iz_f, ilz_f, nI_add, S_has, hbit, bn_V, am_ltV, am_ckV, cond_V1, cond_V0, bi_ite, ck_bi, ite_T, ite_F, s_one i (by omega), nx_or]
        cases ha : awU n t true (aw m v g s) n set i with
        | false =>
          exact ih (i + 1) F w2 (by omega) (by omega) k2 q39 (fun S hS => by
            rw [q38 S hS]
            exact mk_c (fun u _ => PG_c (by
              have := hcur u
              rw [ha, Bool.and_false, Bool.or_false] at this
              exact this.symm)))
        | true =>
          have hcur2 : ∀ u, (Nat.ble (u + 1) (i + 1) && awU n t true (aw m v g s) n set u) = ((Nat.ble (u + 1) i && awU n t true (aw m v g s) n set u) || Nat.beq i u) := fun u => by
            rw [hcur u, ha, Bool.and_true]
          cases hb : set.testBit i with
          | true =>
            exact ih (i + 1) F w2 (by omega) (by omega) k2 q39 (fun S hS => by
              rw [q38 S hS]
              exact mk_c (fun u _ => (PG_no hb).symm.trans (PG_c (hcur2 u).symm)))
          | false =>
            have st := PG_st (w1 := w2) hn hin hb q38
            rw [s_one i (by omega)] at st
            simp (disch := omega) only [Bool.not_false, Bool.and_true, bn_V, am_ltV, am_ckV, cond_V1, cond_V0, bi_ite, ck_bi, ite_T, ite_F, nI_clamp, am_ckI, ile_t, ile_f, ilt_t, ilt_f, ieq_t, ieq_f, iz_t, iz_f, ilz_f, nI_add, wst_f, q38 _ hlt]
            exact ih (i + 1) F _ (by omega) (by omega) (KP_t k2 (FRA_sf rfl)) ((wsf_fc (by omega)).trans q39) (fun S hS => (st S hS).trans (mk_c (fun u _ => PG_c (hcur2 u).symm)))
    have co : ∀ (d i F : Nat), i + d = n → d < F → L_Ord_lengthenRows_5 F (nI set) (nI t) (mk (awU n t true (aw m v g s) i set) n) (nI i) w1 = L_Ord_lengthenRows_54 am_NF (nI set) (nI t) (mk (awU n t true (aw m v g s) n set) n) (nI 0) w1 := by
      intro d
      induction d with
      | zero =>
        intro i F hi hF
        obtain ⟨F, rfl⟩ : ∃ j, F = j + 1 := ⟨F - 1, by omega⟩
        show F_Ord_lengthenRows_5 _ _ _ _ _ _ = _
        unfold F_Ord_lengthenRows_5
        simp (disch := omega) only [hC1.1, nI_clamp, am_ckI, ile_t, ile_f, ilt_t, ilt_f, ieq_t, ieq_f, iz_t, iz_f, ilz_f, nI_add]
        rw [show i = n from hi]
      | succ d ih =>
        intro i F hi hF
        obtain ⟨F, rfl⟩ : ∃ j, F = j + 1 := ⟨F - 1, by omega⟩
        have hin : i < n := by omega
        have h9 := ih (i + 1) F (by omega) (by omega)
        have hr : w1.1 38 set = mk (rgB n t true (aw m v g s) set) n := by
          rw [h38 set hset]
          exact mk_c (fun u _ => PG_full u)
        show F_Ord_lengthenRows_5 _ _ _ _ _ _ = _
        unfold F_Ord_lengthenRows_5 F_Ord_lengthenRows_43
        simp (disch := omega) only [hC1.1, nI_clamp, am_ckI, ile_t, ile_f, ilt_t, ilt_f, ieq_t, ieq_f, iz_t, iz_f, ilz_f, nI_add, hr, S_has, mk_b, decide_eq_true hin, Bool.true_and, bn_V, am_ltV, am_ckV, cond_V1, cond_V0, bi_ite, ck_bi, ite_T, ite_F]
        cases hb : rgB n t true (aw m v g s) set i with
        | false =>
          have e : mk (awU n t true (aw m v g s) i set) n ||| nI 0 = mk (awU n t true (aw m v g s) (i + 1) set) n := by
            rw [show mk (awU n t true (aw m v g s) i set) n ||| nI 0 = mk (awU n t true (aw m v g s) i set) n from b_ext (fun j hj => by rw [b_or, b_0i, Bool.or_false])]
            exact mk_c (fun u _ => by rw [awU_s, hb, Bool.false_and, Bool.or_false])
          rw [cond_false, e]
          exact h9
        | true =>
          rw [cond_true, h39 i hin (gone set i hb), mk_or2, mk_c (q := awU n t true (aw m v g s) (i + 1) set) (fun u _ => by rw [awU_s, hb, Bool.true_and])]
          exact h9
    obtain ⟨w3, e3, k3, q39, q38⟩ := wr n 0 am_NF w1 (by omega) (by show n < 4000; omega) k1 rfl (fun S hS => (h38 S hS).trans (mk_c (fun u _ => PG_c (by show false = (Nat.ble (u + 1) 0 && _); rfl))))
    refine ⟨w3, ?_, k3, q39, q38⟩
    unfold F_Ord_lengthenRows
    have h0 : nI 0 = mk (awU n t true (aw m v g s) 0 set) n := (mk_zero (fun u _ => rfl)).symm
    have h9 := co n 0 am_NF (by omega) (by show n < 4000; omega)
    rw [← h0] at h9
    exact h9.trans e3
  have sets : ∀ (d set F : Nat) (w1 : am_W), set + d = 2 ^ n → d < F → KP w w1 → (∀ u, u < n → g.testBit u = false → w1.1 39 u = mk (aw m v g s u) n) → (∀ S, S < 2 ^ n → w1.1 38 S = mk (PG n t true (aw m v g s) set nob S) n) → ∃ w2, L_Ord_smallestRing_100 F (nI t) (nI (rgF n t true (aw m v g s) set)) (nI set) w1 = some (nI (rgF n t true (aw m v g s) (2 ^ n)), w2) ∧ KP w w2 := by
    intro d
    induction d with
    | zero =>
      intro set F w1 hs hF k1 h39 h38
      obtain ⟨F, rfl⟩ : ∃ j, F = j + 1 := ⟨F - 1, by omega⟩
      have hC1 : CC n m g s v w1 := CC_fr rfl k1 hC
      refine ⟨w1, ?_, k1⟩
      show F_Ord_smallestRing_100 _ _ _ _ _ = _
      unfold F_Ord_smallestRing_100
      simp (disch := omega) only [S_allThings hV hC1, bn_V, am_ltV, am_ckV, cond_V1, cond_V0, bi_ite, ck_bi, ite_T, ite_F, nI_clamp, am_ckI, ile_t, ile_f, ilt_t, ilt_f, ieq_t, ieq_f, iz_t, iz_f, ilz_f, nI_add]
      rw [show set = 2 ^ n from hs]
    | succ d ih =>
      intro set F w1 hs hF k1 h39 h38
      obtain ⟨F, rfl⟩ : ∃ j, F = j + 1 := ⟨F - 1, by omega⟩
      have hC1 : CC n m g s v w1 := CC_fr rfl k1 hC
      have hset : set < 2 ^ n := by omega
      have hle := rgF_le (n := n) (t := t) (b0 := true) (a := aw m v g s) set
      have hr : w1.1 38 set = nI (mkN (rgB n t true (aw m v g s) set) n) := by
        rw [h38 set hset, ← mk_N]
        exact mk_c (fun u _ => PG_full u)
      have hlt := mkN_lt (rgB n t true (aw m v g s) set) n
      show ∃ w2, F_Ord_smallestRing_100 _ _ _ _ _ = _ ∧ _
      unfold F_Ord_smallestRing_100 F_Ord_smallestRing_133
      rw [S_allThings hV hC1, bn_s]
      dsimp only
      rw [ilt_f (by omega) (by omega), in_nI (by omega : set < 256) (by omega), am_ckT, nI_clamp (by omega), hr, iz_b (by omega)]
      cases hz : Nat.beq (mkN (rgB n t true (aw m v g s) set) n) 0 with
      | true =>
        have hno := mkN_z.mp (Nat.eq_of_beq_eq_true hz)
        have haw : ∀ u, awU n t true (aw m v g s) n set u = false := fun u => Bool.eq_false_iff.mpr (fun q => by
          obtain ⟨x, hx, q1, _⟩ := awU_ex.mp q
          rw [hno x hx] at q1
          cases q1)
        have t1 := ih (set + 1) F w1 (by omega) (by omega) k1 h39 (fun S hS => by
          rw [h38 S hS]
          exact mk_c (fun u _ => PG_next (haw u).symm))
        rw [rgF, haw t, Bool.false_and, cond_false] at t1
        unfold F_Ord_smallestRing_134 F_Ord_smallestRing_158
        rw [cond_true, iz_t rfl, nI_add]
        exact t1
      | false =>
        obtain ⟨w2, e2, k2, q39, q38⟩ := rows set w1 hset k1 h39 h38
        have t1 := ih (set + 1) F w2 (by omega) (by omega) k2 (fun u hu hgu => by rw [q39]; exact h39 u hu hgu) q38
        rw [rgF] at t1
        rw [cond_false, e2, bn_s]
        dsimp only
        rw [bi_ite]
        unfold F_Ord_smallestRing_134 F_Ord_smallestRing_156 F_Ord_smallestRing_158
        rw [nI_add]
        cases ha : awU n t true (aw m v g s) n set t with
        | false =>
          rw [ha, Bool.false_and, cond_false] at t1
          rw [cond_false, iz_t rfl]
          exact t1
        | true =>
          rw [ha, Bool.true_and] at t1
          rw [cond_true, iz_f (by omega) (by omega), iz_b (by omega)]
          cases h0 : Nat.beq (rgF n t true (aw m v g s) set) 0 with
          | true =>
            rw [h0, Bool.true_or] at t1
            exact t1
          | false =>
            rw [h0, Bool.false_or] at t1
            rw [cond_false, S_bits (by omega), bn_s]
            dsimp only
            rw [S_bits (by omega), bn_s]
            dsimp only
            have p10 : ∀ x k, pc x k ≤ k := fun x k => by
              induction k with
              | zero => exact Nat.le_refl 0
              | succ k ih =>
                rw [pc]
                cases x.testBit k
                · show pc x k + 0 ≤ _; omega
                · show pc x k + 1 ≤ _; omega
            have p1 := p10 set 10
            have p2 := p10 (rgF n t true (aw m v g s) set) 10
            by_cases hc : pc (rgF n t true (aw m v g s) set) 10 ≤ pc set 10
            · rw [ile_t hc (by omega)]
              rw [show Nat.ble (pc set 10 + 1) (pc (rgF n t true (aw m v g s) set) 10) = false from Bool.eq_false_iff.mpr (fun q => by have := Nat.le_of_ble_eq_true q; omega)] at t1
              exact t1
            · rw [ile_f (by omega) (by omega)]
              rw [Nat.ble_eq_true_of_le (by omega)] at t1
              exact t1
  have zero : ∀ (d i F : Nat) (w1 : am_W), i + d = 256 → d < F → KP w w1 → (∀ u, u < n → g.testBit u = false → w1.1 39 u = mk (aw m v g s u) n) → (∀ S, S < i → w1.1 38 S = nI 0) → ∃ w2, L_Ord_smallestRing_65 F (nI t) (nI 0) (nI i) w1 = some (nI (rgF n t true (aw m v g s) (2 ^ n)), w2) ∧ KP w w2 := by
    intro d
    induction d with
    | zero =>
      intro i F w1 hi hF k1 h39 h38
      obtain ⟨F, rfl⟩ : ∃ j, F = j + 1 := ⟨F - 1, by omega⟩
      have t1 := sets (2 ^ n - 2 ^ t) (2 ^ t) am_NF (wsf w1 38 (2 ^ t) (nI (2 ^ t))) (Nat.add_sub_cancel' (Nat.le_of_lt htp)) (by
        show 2 ^ n - 2 ^ t < 4000
        have := Nat.sub_le (2 ^ n) (2 ^ t)
        omega) (KP_t k1 (FRA_sf rfl)) (fun u hu hgu => (wsf_nc rfl).trans (h39 u hu hgu)) (fun S hS => by
        have hP : ∀ u, PG n t true (aw m v g s) (2 ^ t) nob S u = (Nat.beq S (2 ^ t) && Nat.beq u t) := fun u => by
          unfold PG nob
          rw [Bool.true_and, Bool.and_false, Bool.or_false]
          by_cases e : S - 2 ^ u + 1 ≤ 2 ^ t
          · rw [awU_lo e, Bool.and_false, Bool.and_false, Bool.or_false]
          · rw [show Nat.ble (S - 2 ^ u + 1) (2 ^ t) = false from Bool.eq_false_iff.mpr (fun q => e (Nat.le_of_ble_eq_true q)), Bool.false_and, Bool.and_false, Bool.or_false]
        by_cases e : S = 2 ^ t
        · rw [e, wsf_at]
          refine mk_ext (by omega) (fun j hj => ?_)
          have hPj := hP j
          rw [e, Nat.beq_refl, Bool.true_and] at hPj
          rw [hPj, b_nI hj, Nat.testBit_two_pow]
          by_cases q : t = j
          · rw [decide_eq_true q, decide_eq_true (by omega : j < n), q, Nat.beq_refl]; rfl
          · rw [decide_eq_false q, nbf (fun h => q h.symm), Bool.and_false]
        · rw [wsf_ne e, h38 S (by omega)]
          exact (mk_zero (fun u _ => by rw [hP, nbf e]; rfl)).symm)
      rw [rgF_0 (fun i hi => awU_lo hi)] at t1
      show ∃ w2, F_Ord_smallestRing_65 _ _ _ _ _ = _ ∧ _
      unfold F_Ord_smallestRing_65
      rw [s_one t (by omega), ile_t (by omega) (by omega), in_nI (by omega : 2 ^ t < 256) (by omega), am_ckT, am_ltV, wst_f (by omega)]
      exact t1
    | succ d ih =>
      intro i F w1 hi hF k1 h39 h38
      obtain ⟨F, rfl⟩ : ∃ j, F = j + 1 := ⟨F - 1, by omega⟩
      show ∃ w2, F_Ord_smallestRing_65 _ _ _ _ _ = _ ∧ _
      unfold F_Ord_smallestRing_65
      simp (disch := omega) only [nI_clamp, am_ckI, ile_t, ile_f, ilt_t, ilt_f, ieq_t, ieq_f, iz_t, iz_f, ilz_f, nI_add, bn_V, am_ltV, am_ckV, cond_V1, cond_V0, bi_ite, ck_bi, ite_T, ite_F, wst_f]
      refine ih (i + 1) F _ (by omega) (by omega) (KP_t k1 (FRA_sf rfl)) (fun u hu hgu => (wsf_nc rfl).trans (h39 u hu hgu)) (fun S hS => ?_)
      by_cases e : S = i
      · rw [e, wsf_at]
      · rw [wsf_ne e]; exact h38 S (by omega)
  have start : ∀ (d i F : Nat) (w1 : am_W), i + d = n → d < F → KP w w1 → (∀ u, u < i → g.testBit u = false → w1.1 39 u = mk (aw m v g s u) n) → ∃ w2, L_Ord_smallestRing_17 F (nI t) (nI 0) (nI i) w1 = some (nI (rgF n t true (aw m v g s) (2 ^ n)), w2) ∧ KP w w2 := by
    intro d
    induction d with
    | zero =>
      intro i F w1 hi hF k1 h39
      obtain ⟨F, rfl⟩ : ∃ j, F = j + 1 := ⟨F - 1, by omega⟩
      have hC1 : CC n m g s v w1 := CC_fr rfl k1 hC
      have t1 := zero 256 0 am_NF w1 rfl (by show 256 < 4000; omega) k1 (fun u hu => h39 u (by omega)) (fun S hS => by omega)
      show ∃ w2, F_Ord_smallestRing_17 _ _ _ _ _ = _ ∧ _
      unfold F_Ord_smallestRing_17
      rw [hC1.1, ile_t (by omega) (by omega)]
      exact t1
    | succ d ih =>
      intro i F w1 hi hF k1 h39
      obtain ⟨F, rfl⟩ : ∃ j, F = j + 1 := ⟨F - 1, by omega⟩
      have hC1 : CC n m g s v w1 := CC_fr rfl k1 hC
      have hin : i < n := by omega
      have step : ∀ y, (g.testBit i = false → y = mk (aw m v g s i) n) → ∃ w2, L_Ord_smallestRing_17 F (nI t) (nI 0) (nI (i + 1)) (wsf w1 39 i y) = some (nI (rgF n t true (aw m v g s) (2 ^ n)), w2) ∧ KP w w2 := fun y hy => ih (i + 1) F _ (by omega) (by omega) (KP_t k1 (FRA_sf rfl)) (fun u hu hgu => by
        by_cases e : u = i
        · rw [e, wsf_at]; exact hy (by rw [← e]; exact hgu)
        · rw [wsf_ne e]; exact h39 u (by omega) hgu)
      show ∃ w2, F_Ord_smallestRing_17 _ _ _ _ _ = _ ∧ _
      unfold F_Ord_smallestRing_17 F_Ord_smallestRing_56
      simp (disch := omega) only [hC1.1, nI_clamp, am_ckI, ile_t, ile_f, ilt_t, ilt_f, ieq_t, ieq_f, iz_t, iz_f, ilz_f, nI_add, S_isGone hC1, S_awaited hV hC1 hin, bn_V, am_ltV, am_ckV, cond_V1, cond_V0, bi_ite, ck_bi, ite_T, ite_F, wst_f]
      cases hgi : g.testBit i with
      | true => exact step _ (fun q => by rw [hgi] at q; cases q)
      | false => exact step _ (fun _ => rfl)
  obtain ⟨w2, e2, k2⟩ := start n 0 am_NF w (by omega) (by show n < 4000; omega) (KP_r w) (fun u hu => by omega)
  refine ⟨w2, ?_, k2⟩
  unfold F_Ord_smallestRing
  rw [S_isGone hC (by omega), hgt, bn_s, bi_ite, cond_false]
  exact e2
end
