/-! ===== ring: the model ===== -/
/-- the ring so far, when of a set so many are looked at -/
def rgU (n t : Nat) (b0 : Bool) (a : Nat → Nat → Bool) (set best : Nat) : Nat → Nat
  | 0 => best
  | U + 1 => bif (rgB n t b0 a set U && a U t) && (Nat.beq (rgU n t b0 a set best U) 0 || Nat.ble (pc set 10 + 1) (pc (rgU n t b0 a set best U) 10)) then set else rgU n t b0 a set best U
section
variable {n t : Nat} {b0 : Bool} {a : Nat → Nat → Bool}
theorem rgU_e {set best : Nat} (U : Nat) : rgU n t b0 a set best U = bif awU n t b0 a U set t && (Nat.beq best 0 || Nat.ble (pc set 10 + 1) (pc best 10)) then set else best := by
  induction U with
  | zero => rfl
  | succ U ih =>
    rw [rgU, ih, awU_s]
    cases h1 : rgB n t b0 a set U && a U t with
    | false => rw [Bool.or_false]; rfl
    | true =>
      have hne : ¬ set = 0 := fun e => by
        rw [Bool.and_eq_true] at h1
        have := (rgB_i h1.1).1
        rw [e, Nat.zero_testBit] at this
        cases this
      rw [Bool.or_true, Bool.true_and, Bool.true_and]
      cases h2 : awU n t b0 a U set t with
      | false => rfl
      | true =>
        cases h3 : Nat.beq best 0 || Nat.ble (pc set 10 + 1) (pc best 10) with
        | false =>
          rw [Bool.and_false, cond_false, h3]; rfl
        | true =>
          rw [Bool.and_self, cond_true, nbf hne]
          cases Nat.ble (pc set 10 + 1) (pc set 10) <;> rfl
theorem rgU_n {set : Nat} : rgU n t b0 a set (rgF n t b0 a set) n = rgF n t b0 a (set + 1) := by
  rw [rgU_e, rgF]
end
section
variable {n m g s : Nat} {v : am_V} {w : am_W}
theorem pc10 (x : Nat) : ∀ k, pc x k ≤ k
  | 0 => Nat.le_refl 0
  | k + 1 => by
    have := pc10 x k
    rw [pc]
    cases x.testBit k
    · show pc x k + 0 ≤ _; omega
    · show pc x k + 1 ≤ _; omega
theorem aw_mask {U : Nat} : mk (aw m v g s U) n &&& (nI g ^^^ (-nI 1)) = mk (aw m v g s U) n := by
  by_cases hn : n ≤ 32
  · refine mk_ext hn (fun i hi => ?_)
    rw [b_and, b_not _ hi, b_nI hi, mk_b _ n hn hi]
    cases h : aw m v g s U i with
    | false => rw [Bool.and_false, Bool.false_and]
    | true => rw [(aw_t h).2, Bool.not_false, Bool.and_true]
  · rw [mk_N]
    refine b_ext (fun i hi => ?_)
    rw [b_and, b_not _ hi, b_nI hi, b_nI hi, mkN_t]
    cases h : aw m v g s U i with
    | false => rw [Bool.and_false, Bool.false_and]
    | true => rw [(aw_t h).2, Bool.not_false, Bool.and_true]
theorem D_ring (hV : VI n m v) (hM : MM n m g s v w) {t y : Nat} (ht : t < n) (hy : y < 2) : ∃ w2, L_Mod_ring_25 am_NF (nI t) (nI y) (nI 0) w = some (if rgF n t (!g.testBit t) (aw m v g s) (2 ^ n) = 0 then -nI 1 else (bif Nat.beq y 0 then nI (pc (rgF n t (!g.testBit t) (aw m v g s) (2 ^ n)) 10) else nI (rgF n t (!g.testBit t) (aw m v g s) (2 ^ n))), w2) ∧ KP w w2 := by
  have hn := hV.1
  have h8 := two8 hn
  have hp0 := Nat.two_pow_pos n
  have htp : 2 ^ t < 2 ^ n := Nat.pow_lt_pow_right (by omega) ht
  generalize hb0 : (!g.testBit t) = b0
  have put : ∀ (r71 : Int32 → Int32 → Int32 → Int32 → am_W → Option (Int32 × am_W)) (r83 : Int32 → Int32 → Int32 → Int32 → Int32 → am_W → Option (Int32 × am_W)) (set U best : Nat), set < 2 ^ n → U < n → ∀ (d V F : Nat) (w1 : am_W), V + d = n → d < F → KP w w1 → (∀ S, S < 2 ^ n → w1.1 71 S = mk (PG n t b0 (aw m v g s) set (fun x => awU n t b0 (aw m v g s) U set x || (Nat.ble (x + 1) V && (rgB n t b0 (aw m v g s) set U && aw m v g s U x))) S) n) → ∃ w2, L_Mod_ring_184 r71 r83 F (nI t) (nI y) (nI best) (nI set) (nI U) (mk (fun x => rgB n t b0 (aw m v g s) set U && aw m v g s U x) n) (nI V) w1 = r83 (nI t) (nI y) (nI best) (nI set) (nI (U + 1)) w2 ∧ KP w w2 ∧ ∀ S, S < 2 ^ n → w2.1 71 S = mk (PG n t b0 (aw m v g s) set (awU n t b0 (aw m v g s) (U + 1) set) S) n := by
    intro r71 r83 set U best hset hU d
    induction d with
    | zero =>
      intro V F w1 hi hF k1 h71
      obtain ⟨F, rfl⟩ : ∃ j, F = j + 1 := ⟨F - 1, by omega⟩
      have hM1 : MM n m g s v w1 := MM_fr rfl k1 hM
      refine ⟨w1, ?_, k1, fun S hS => ?_⟩
      · show F_Mod_ring_184 _ _ _ _ _ _ _ _ _ _ _ = _
        unfold F_Mod_ring_184
        simp (disch := omega) only [hM1.1, nI_clamp, am_ckI, ile_t, ile_f, ilt_t, ilt_f, ieq_t, ieq_f, iz_t, iz_f, ilz_f, nI_add]
      · rw [h71 S hS]
        exact mk_c (fun u hu => PG_c (by rw [awU_s, Nat.ble_eq_true_of_le (by omega : u + 1 ≤ V), Bool.true_and]))
    | succ d ih =>
      intro V F w1 hi hF k1 h71
      obtain ⟨F, rfl⟩ : ∃ j, F = j + 1 := ⟨F - 1, by omega⟩
      have hM1 : MM n m g s v w1 := MM_fr rfl k1 hM
      have hVn : V < n := by omega
      have hlt : set ||| 2 ^ V < 2 ^ n := or_lt hset (Nat.pow_lt_pow_right (by omega) hVn)
      have hcur : ∀ x, (awU n t b0 (aw m v g s) U set x || (Nat.ble (x + 1) (V + 1) && (rgB n t b0 (aw m v g s) set U && aw m v g s U x))) = ((awU n t b0 (aw m v g s) U set x || (Nat.ble (x + 1) V && (rgB n t b0 (aw m v g s) set U && aw m v g s U x))) || (Nat.beq V x && (rgB n t b0 (aw m v g s) set U && aw m v g s U V))) := fun x => by
        by_cases e : V = x
        · subst e
          rw [Nat.ble_eq_true_of_le (Nat.le_refl (V + 1)), Nat.beq_refl]
          cases awU n t b0 (aw m v g s) U set V <;> cases Nat.ble (V + 1) V <;> cases rgB n t b0 (aw m v g s) set U && aw m v g s U V <;> rfl
        · rw [nbf e, Bool.false_and, Bool.or_false]
          have : Nat.ble (x + 1) (V + 1) = Nat.ble (x + 1) V := by
            rw [Bool.eq_iff_iff, Nat.ble_eq, Nat.ble_eq]; omega
          rw [this]
      show ∃ w2, F_Mod_ring_184 _ _ _ _ _ _ _ _ _ _ _ = _ ∧ _
      unfold F_Mod_ring_184 F_Mod_ring_233
      simp (disch := omega) only [hM1.1, nI_clamp, am_ckI, ile_t, ile_f, ilt_t, ilt_f, ieq_t, ieq_f, iz_t, iz_f, ilz_f, nI_add, b_has, bi1_ite, mk_b, decide_eq_true hVn, Bool.true_and, b_nI, bi_ite, s_one V (by omega), nx_or]
      cases ha : rgB n t b0 (aw m v g s) set U && aw m v g s U V with
      | false =>
        exact ih (V + 1) F w1 (by omega) (by omega) k1 (fun S hS => by
          rw [h71 S hS]
          exact mk_c (fun u _ => PG_c (by
            have := hcur u
            rw [ha, Bool.and_false, Bool.or_false] at this
            exact this.symm)))
      | true =>
        have hcur2 : ∀ x, (awU n t b0 (aw m v g s) U set x || (Nat.ble (x + 1) (V + 1) && (rgB n t b0 (aw m v g s) set U && aw m v g s U x))) = ((awU n t b0 (aw m v g s) U set x || (Nat.ble (x + 1) V && (rgB n t b0 (aw m v g s) set U && aw m v g s U x))) || Nat.beq V x) := fun x => by
          rw [hcur x, ha, Bool.and_true]
        cases hb : set.testBit V with
        | true =>
          exact ih (V + 1) F w1 (by omega) (by omega) k1 (fun S hS => by
            rw [h71 S hS]
            exact mk_c (fun u _ => (PG_no hb).symm.trans (PG_c (hcur2 u).symm)))
        | false =>
          have st := PG_st (w1 := w1) hn hVn hb h71
          rw [s_one V (by omega)] at st
          simp (disch := omega) only [cond_true, cond_false, bn_V, am_ltV, am_ckV, cond_V1, cond_V0, bi_ite, ck_bi, ite_T, ite_F, nI_clamp, am_ckI, ile_t, ile_f, ilt_t, ilt_f, ieq_t, ieq_f, iz_t, iz_f, ilz_f, nI_add, wst_f, h71 _ hlt]
          exact ih (V + 1) F _ (by omega) (by omega) (KP_t k1 (FRA_sf rfl)) (fun S hS => (st S hS).trans (mk_c (fun u _ => PG_c (hcur2 u).symm)))
  have row : ∀ (r71 : Int32 → Int32 → Int32 → Int32 → am_W → Option (Int32 × am_W)) (set best : Nat), set < 2 ^ n → best < 2 ^ n → ∀ (d U F : Nat) (w1 : am_W), U + d = n → d < F → KP w w1 → (∀ S, S < 2 ^ n → w1.1 71 S = mk (PG n t b0 (aw m v g s) set (awU n t b0 (aw m v g s) U set) S) n) → ∃ w2, L_Mod_ring_83 r71 F (nI t) (nI y) (nI (rgU n t b0 (aw m v g s) set best U)) (nI set) (nI U) w1 = r71 (nI t) (nI y) (nI (rgU n t b0 (aw m v g s) set best n)) (nI (set + 1)) w2 ∧ KP w w2 ∧ ∀ S, S < 2 ^ n → w2.1 71 S = mk (PG n t b0 (aw m v g s) (set + 1) nob S) n := by
    intro r71 set best hset hbest d
    induction d with
    | zero =>
      intro U F w1 hi hF k1 h71
      obtain ⟨F, rfl⟩ : ∃ j, F = j + 1 := ⟨F - 1, by omega⟩
      have hM1 : MM n m g s v w1 := MM_fr rfl k1 hM
      have hUn : U = n := hi
      subst hUn
      refine ⟨w1, ?_, k1, fun S hS => ?_⟩
      · show F_Mod_ring_83 _ _ _ _ _ _ _ _ = _
        unfold F_Mod_ring_83
        simp (disch := omega) only [hM1.1, nI_clamp, am_ckI, ile_t, ile_f, ilt_t, ilt_f, ieq_t, ieq_f, iz_t, iz_f, ilz_f, nI_add]
      · rw [h71 S hS]
        exact mk_c (fun u hu => PG_next rfl)
    | succ d ih =>
      intro U F w1 hi hF k1 h71
      obtain ⟨F, rfl⟩ : ∃ j, F = j + 1 := ⟨F - 1, by omega⟩
      have hM1 : MM n m g s v w1 := MM_fr rfl k1 hM
      have hUn : U < n := by omega
      have hr : w1.1 71 set = mk (rgB n t b0 (aw m v g s) set) n := by
        rw [h71 set hset]
        exact mk_c (fun u _ => PG_full u)
      have hbl : rgU n t b0 (aw m v g s) set best U < 2 ^ n := by
        rw [rgU_e]
        cases awU n t b0 (aw m v g s) U set t && (Nat.beq best 0 || Nat.ble (pc set 10 + 1) (pc best 10))
        · exact hbest
        · exact hset
      have go : ∀ b2', b2' = rgU n t b0 (aw m v g s) set best (U + 1) → ∃ w2, L_Mod_ring_184 r71 (L_Mod_ring_83 r71 F) am_NF (nI t) (nI y) (nI b2') (nI set) (nI U) (mk (fun x => rgB n t b0 (aw m v g s) set U && aw m v g s U x) n) (nI 0) w1 = r71 (nI t) (nI y) (nI (rgU n t b0 (aw m v g s) set best n)) (nI (set + 1)) w2 ∧ KP w w2 ∧ ∀ S, S < 2 ^ n → w2.1 71 S = mk (PG n t b0 (aw m v g s) (set + 1) nob S) n := fun b2' hb => by
        obtain ⟨w2, e2, k2, h2⟩ := put r71 (L_Mod_ring_83 r71 F) set U b2' hset hUn n 0 am_NF w1 (by omega) (by show n < 4000; omega) k1 (fun S hS => (h71 S hS).trans (mk_c (fun u _ => PG_c (by
          show awU n t b0 (aw m v g s) U set u = (awU n t b0 (aw m v g s) U set u || (false && _))
          rw [Bool.false_and, Bool.or_false]))))
        rw [e2, hb]
        exact ih (U + 1) F w2 (by omega) (by omega) k2 h2
      have p1 := pc10 set 10
      have p2 := pc10 (rgU n t b0 (aw m v g s) set best U) 10
      have mid : ∃ w2, F_Mod_ring_125 r71 (L_Mod_ring_83 r71 F) (nI t) (nI y) (nI (rgU n t b0 (aw m v g s) set best U)) (nI set) (nI U) (mk (fun x => rgB n t b0 (aw m v g s) set U && aw m v g s U x) n) w1 = r71 (nI t) (nI y) (nI (rgU n t b0 (aw m v g s) set best n)) (nI (set + 1)) w2 ∧ KP w w2 ∧ ∀ S, S < 2 ^ n → w2.1 71 S = mk (PG n t b0 (aw m v g s) (set + 1) nob S) n := by
        unfold F_Mod_ring_125 F_Mod_ring_150 F_Mod_ring_151 F_Mod_ring_179 F_Mod_ring_174 F_Mod_ring_180
        rw [b_has _ t (by omega), mk_b _ n (by omega) (by omega), decide_eq_true ht, Bool.true_and, bi1_ite]
        cases ha : rgB n t b0 (aw m v g s) set U && aw m v g s U t with
        | false =>
          rw [cond_false, iz_t rfl]
          exact go _ (by rw [rgU, ha]; rfl)
        | true =>
          have hts : 1 < pc set 10 := aw_two hn ht (awU_ex.mpr ⟨U, hUn, by rw [Bool.and_eq_true] at ha; exact ha.1, by rw [Bool.and_eq_true] at ha; exact ha.2⟩)
          rw [cond_true, D_ones, bn_s]
          dsimp only
          rw [ile_f hts (by omega), iz_f (by omega) (by omega), iz_b (by omega)]
          cases h0 : Nat.beq (rgU n t b0 (aw m v g s) set best U) 0 with
          | true =>
            exact go _ (by rw [rgU, ha, h0]; rfl)
          | false =>
            rw [cond_false, D_ones, bn_s]
            dsimp only
            rw [D_ones, bn_s]
            dsimp only
            by_cases hc : pc (rgU n t b0 (aw m v g s) set best U) 10 ≤ pc set 10
            · rw [ile_t hc (by omega)]
              exact go _ (by rw [rgU, ha, h0, show Nat.ble (pc set 10 + 1) (pc (rgU n t b0 (aw m v g s) set best U) 10) = false from Bool.eq_false_iff.mpr (fun q => by have := Nat.le_of_ble_eq_true q; omega)]; rfl)
            · rw [ile_f (by omega) (by omega)]
              exact go _ (by rw [rgU, ha, h0, Nat.ble_eq_true_of_le (by omega)]; rfl)
      show ∃ w2, F_Mod_ring_83 _ _ _ _ _ _ _ _ = _ ∧ _
      unfold F_Mod_ring_83
      rw [hM1.1, ile_f hUn (by omega), in_nI (by omega : set < 256) (by omega), am_ckT, nI_clamp (by omega), hr, b_has _ U (by omega), mk_b _ n (by omega) (by omega), decide_eq_true hUn, Bool.true_and, bi1_ite, D_waitsFor hV hM1 hUn, bn_s]
      dsimp only
      rw [hM1.2.1, aw_mask]
      cases hb : rgB n t b0 (aw m v g s) set U with
      | true =>
        rw [hb] at mid
        exact mid
      | false =>
        rw [hb, mk_zero (p := fun x => false && aw m v g s U x) (fun u _ => rfl)] at mid
        exact mid
  have sets : ∀ (d set F : Nat) (w1 : am_W), set + d = 2 ^ n → d < F → KP w w1 → (∀ S, S < 2 ^ n → w1.1 71 S = mk (PG n t b0 (aw m v g s) set nob S) n) → ∃ w2, L_Mod_ring_71 F (nI t) (nI y) (nI (rgF n t b0 (aw m v g s) set)) (nI set) w1 = some (if rgF n t b0 (aw m v g s) (2 ^ n) = 0 then -nI 1 else (bif Nat.beq y 0 then nI (pc (rgF n t b0 (aw m v g s) (2 ^ n)) 10) else nI (rgF n t b0 (aw m v g s) (2 ^ n))), w2) ∧ KP w w2 := by
    intro d
    induction d with
    | zero =>
      intro set F w1 hs hF k1 h71
      obtain ⟨F, rfl⟩ : ∃ j, F = j + 1 := ⟨F - 1, by omega⟩
      have hM1 : MM n m g s v w1 := MM_fr rfl k1 hM
      have hs2 : set = 2 ^ n := hs
      subst hs2
      have hle := rgF_le (n := n) (t := t) (b0 := b0) (a := aw m v g s) (2 ^ n)
      refine ⟨w1, ?_, k1⟩
      show F_Mod_ring_71 _ _ _ _ _ _ = _
      unfold F_Mod_ring_71 F_Mod_ring_271
      rw [D_everything hV hM1, bn_s]
      dsimp only
      rw [ilt_t (by omega) (by omega), D_ones, bn_s, iz_b (by omega), iz_b (by omega)]
      by_cases q : rgF n t b0 (aw m v g s) (2 ^ n) = 0
      · rw [if_pos q, q]; rfl
      · rw [if_neg q, nbf q]
        cases Nat.beq y 0 <;> rfl
    | succ d ih =>
      intro set F w1 hs hF k1 h71
      obtain ⟨F, rfl⟩ : ∃ j, F = j + 1 := ⟨F - 1, by omega⟩
      have hM1 : MM n m g s v w1 := MM_fr rfl k1 hM
      have hset : set < 2 ^ n := by omega
      have hle := rgF_le (n := n) (t := t) (b0 := b0) (a := aw m v g s) set
      obtain ⟨w2, e2, k2, h2⟩ := row (L_Mod_ring_71 F) set (rgF n t b0 (aw m v g s) set) hset (by omega) n 0 am_NF w1 (by omega) (by show n < 4000; omega) k1 (fun S hS => (h71 S hS).trans (mk_c (fun u _ => PG_c rfl)))
      show ∃ w2, F_Mod_ring_71 _ _ _ _ _ _ = _ ∧ _
      unfold F_Mod_ring_71
      rw [D_everything hV hM1, bn_s]
      dsimp only
      rw [ilt_f (by omega) (by omega)]
      have e2 : L_Mod_ring_83 (L_Mod_ring_71 F) am_NF (nI t) (nI y) (nI (rgF n t b0 (aw m v g s) set)) (nI set) (nI 0) w1 = _ := e2
      rw [e2, rgU_n]
      exact ih (set + 1) F w2 (by omega) (by omega) k2 h2
  have zero : ∀ (d i F : Nat) (w1 : am_W), i + d = 256 → d < F → KP w w1 → (∀ S, S < i → w1.1 71 S = if S = 2 ^ t then (bif b0 then nI (2 ^ t) else nI 0) else nI 0) → ∃ w2, L_Mod_ring_25 F (nI t) (nI y) (nI i) w1 = some (if rgF n t b0 (aw m v g s) (2 ^ n) = 0 then -nI 1 else (bif Nat.beq y 0 then nI (pc (rgF n t b0 (aw m v g s) (2 ^ n)) 10) else nI (rgF n t b0 (aw m v g s) (2 ^ n))), w2) ∧ KP w w2 := by
    intro d
    induction d with
    | zero =>
      intro i F w1 hi hF k1 h71
      obtain ⟨F, rfl⟩ : ∃ j, F = j + 1 := ⟨F - 1, by omega⟩
      have t1 := sets (2 ^ n) 0 am_NF w1 (by omega) (by show _ < 4000; omega) k1 (fun S hS => by
        have hP : ∀ u, PG n t b0 (aw m v g s) 0 nob S u = (b0 && (Nat.beq S (2 ^ t) && Nat.beq u t)) := fun u => by
          unfold PG nob
          rw [show Nat.ble (S - 2 ^ u + 1) 0 = false from rfl, Bool.false_and, Bool.and_false, Bool.or_false, Bool.and_false, Bool.or_false]
        rw [h71 S (by omega)]
        by_cases e : S = 2 ^ t
        · rw [if_pos e]
          cases b0 with
          | false => exact (mk_zero (fun u _ => by rw [hP]; rfl)).symm
          | true =>
            refine mk_ext (by omega) (fun j hj => ?_)
            rw [hP, e, Nat.beq_refl, Bool.true_and, Bool.true_and]
            show bt (nI (2 ^ t)) j = _
            rw [b_nI hj, Nat.testBit_two_pow]
            by_cases q : t = j
            · rw [decide_eq_true q, decide_eq_true (by omega : j < n), q, Nat.beq_refl]; rfl
            · rw [decide_eq_false q, nbf (fun h => q h.symm), Bool.and_false]
        · rw [if_neg e]
          exact (mk_zero (fun u _ => by rw [hP, nbf e, Bool.false_and, Bool.and_false])).symm)
      show ∃ w2, F_Mod_ring_25 _ _ _ _ _ = _ ∧ _
      unfold F_Mod_ring_25
      rw [ile_t (by omega) (by omega)]
      exact t1
    | succ d ih =>
      intro i F w1 hi hF k1 h71
      obtain ⟨F, rfl⟩ : ∃ j, F = j + 1 := ⟨F - 1, by omega⟩
      have hM1 : MM n m g s v w1 := MM_fr rfl k1 hM
      have step : ∀ z, z = (if i = 2 ^ t then (bif b0 then nI (2 ^ t) else nI 0) else nI 0) → ∃ w2, L_Mod_ring_25 F (nI t) (nI y) (nI (i + 1)) (wsf w1 71 i z) = some (if rgF n t b0 (aw m v g s) (2 ^ n) = 0 then -nI 1 else (bif Nat.beq y 0 then nI (pc (rgF n t b0 (aw m v g s) (2 ^ n)) 10) else nI (rgF n t b0 (aw m v g s) (2 ^ n))), w2) ∧ KP w w2 := fun z hz => ih (i + 1) F _ (by omega) (by omega) (KP_t k1 (FRA_sf rfl)) (fun S hS => by
        by_cases e : S = i
        · rw [e, wsf_at, hz]
        · rw [wsf_ne e]; exact h71 S (by omega))
      show ∃ w2, F_Mod_ring_25 _ _ _ _ _ = _ ∧ _
      unfold F_Mod_ring_25 F_Mod_ring_58 F_Mod_ring_59
      rw [ile_f (by omega) (by omega), s_one t (by omega), D_isGone hM1 (by omega), bn_s, bi_ite]
      dsimp only
      rw [in_nI (by omega : i < 256) (by omega)]
      simp (disch := omega) only [am_ckV, am_ltV, wst_f, nI_add]
      by_cases e : i = 2 ^ t
      · rw [if_pos (congrArg nI e)]
        cases hg : g.testBit t with
        | true => exact step (nI 0) (by rw [if_pos e, ← hb0, hg]; rfl)
        | false => exact step (nI (2 ^ t)) (by rw [if_pos e, ← hb0, hg]; rfl)
      · rw [ieq_f e (by omega) (by omega)]
        exact step (nI 0) (if_neg e).symm
  exact zero 256 0 am_NF w rfl (by show 256 < 4000; omega) (KP_r w) (fun S hS => by omega)
end
theorem B_ring (a b : Int32) : BOTH (F_Loc_ring a b) (F_Mod_ring a b) := BOTH_q (fun {n m g s T f v te tc w} hq => by
  obtain ⟨hV, hg, hs, hC, hM, hT, hX, hS, hP, hI, hA⟩ := id hq
  have hn := hV.1
  have h8 := two8 hn
  cases h : am_in a n with
  | false =>
    refine ⟨-nI 5, w, w, ?_, ?_, KP_r w⟩
    · unfold F_Loc_ring
      rw [S_isThing hV hC, h]; rfl
    · unfold F_Mod_ring
      rw [D_isThing hV hM, h, bn_s, bi_ite, cond_false]
  | true =>
    obtain ⟨t, ht, rfl⟩ := in_ex h (by omega)
    cases h2 : am_in b 2 with
    | false =>
      refine ⟨-nI 7, w, w, ?_, ?_, KP_r w⟩
      · unfold F_Loc_ring
        rw [S_isThing hV hC, h, bn_s, bi_ite, cond_true, S_isEither, h2]; rfl
      · unfold F_Mod_ring
        rw [D_isThing hV hM, h, bn_s, bi_ite, cond_true, D_in0 (k := 1) (by omega), h2, bn_s, bi_ite, cond_false]
    | true =>
      obtain ⟨y, hy, rfl⟩ := in_ex h2 (by omega)
      have hD : ∀ w1, MM n m g s v w1 → F_Mod_ring (nI t) (nI y) w1 = L_Mod_ring_25 am_NF (nI t) (nI y) (nI 0) w1 := fun w1 hM1 => by
        unfold F_Mod_ring
        rw [D_isThing hV hM1, h, bn_s, bi_ite, cond_true, D_in0 (k := 1) (by omega), h2, bn_s, bi_ite, cond_true]
      cases hgt : g.testBit t with
      | true =>
        obtain ⟨w2, e2, k2⟩ := D_ring hV hM ht hy
        have hz : rgF n t (!g.testBit t) (aw m v g s) (2 ^ n) = 0 := rgF_0 (fun i _ => Bool.eq_false_iff.mpr (fun q => by
          obtain ⟨x, _, q1, _⟩ := awU_ex.mp q
          rw [hgt, show (!true) = false from rfl, rgB_ff (i + 1) i x (by omega)] at q1
          cases q1))
        rw [if_pos hz] at e2
        refine ⟨-nI 1, w, w2, ?_, (hD w hM).trans e2, k2⟩
        unfold F_Loc_ring F_Ord_smallestRing
        rw [S_isThing hV hC, h, bn_s, bi_ite, cond_true, S_isEither, h2, bn_s, bi_ite, cond_true, S_isGone hC (by omega), hgt, bn_s, bi_ite, cond_true, bn_s, iz_t rfl]
      | false =>
        obtain ⟨w1, e1, k1⟩ := S_ring hV hC ht hgt
        have hM1 : MM n m g s v w1 := MM_fr rfl k1 hM
        obtain ⟨w2, e2, k2⟩ := D_ring hV hM1 ht hy
        rw [hgt, show (!false) = true from rfl] at e2
        have hle := rgF_le (n := n) (t := t) (b0 := true) (a := aw m v g s) (2 ^ n)
        refine ⟨_, w1, w2, ?_, (hD w1 hM1).trans e2, KP_t k1 k2⟩
        unfold F_Loc_ring F_Loc_ring_51
        rw [S_isThing hV hC, h, bn_s, bi_ite, cond_true, S_isEither, h2, bn_s, bi_ite, cond_true]
        dsimp only
        rw [e1, bn_s]
        dsimp only
        rw [iz_b (by omega), iz_b (by omega), S_bits (by omega), bn_s]
        by_cases q : rgF n t true (aw m v g s) (2 ^ n) = 0
        · rw [if_pos q, q]; rfl
        · rw [if_neg q, nbf q]
          cases Nat.beq y 0 <;> rfl)
