/-! ===== badness, day, guard ===== -/
/-- how bad the hours of one are, from i on -/
def bdL (x : Nat → Int32) : Nat → Nat → Int32 → Int32
  | 0, _, a => a
  | d + 1, i, a => bdL x d (i + 1) (a + x i)
/-- the hour up to which one waits -/
def bdE (q : Int32) : Nat := if q = -nI 1 then 24 else q.toNatClampNeg
theorem bdE_nI {q : Int32} (h : hh q) : (if q = -nI 1 then nI 24 else q) = nI (bdE q) ∧ bdE q ≤ 24 := by
  unfold bdE
  rcases h with h | ⟨k, hk, h⟩
  · rw [if_pos h, if_pos h]; exact ⟨rfl, Nat.le_refl _⟩
  · have hne : ¬ q = -nI 1 := by rw [h]; exact m1_ne (by omega)
    rw [if_neg hne, if_neg hne, h, nI_clamp (by omega)]; exact ⟨rfl, by omega⟩
/-- badness of the first things -/
def bdT (n m : Nat) (v : am_V) (te tc : Nat → Nat → Nat) (f g s : Nat) : Nat → Int32
  | 0 => nI 0
  | t + 1 => bif g.testBit t then bdT n m v te tc f g s t else bdL (fun h => sy v te tc f 2 t none h) (bdE (hoA n m v s (v 3) g t) - v 3 t) (v 3 t) (bdT n m v te tc f g s t)
section
variable {n m g s T f : Nat} {v : am_V} {te tc : Nat → Nat → Nat} {w w2 : am_W}
theorem S_bad (hb : SB n m g s T f v te tc w) : ∃ w2, F_Loc_badness w = some (bdT n m v te tc f g s n, w2) ∧ KP w w2 := by
  have hn := hb.1.1
  obtain ⟨w0, e0, k0, r0⟩ := S_run4 hb.1 hb.2.2.1 hb.2.1
  have kp0 : KP w w0 := KP_b 41 (fun _ => rfl) k0
  have inner : ∀ (r : Int32 → Int32 → am_W → Option (Int32 × am_W)) (t e : Nat), t < n → e ≤ 24 → ∀ (d i F : Nat) (a : Int32) (w1 : am_W), (i + d = e ∨ d = 0 ∧ e ≤ i) → i < 100 → d < F → KP w w1 → w1.1 41 = w0.1 41 → ∃ w2, L_Loc_badness_81 r F a (nI t) (nI e) (nI i) w1 = r (bdL (fun h => sy v te tc f 2 t none h) d i a) (nI (t + 1)) w2 ∧ KP w w2 ∧ w2.1 41 = w0.1 41 := by
    intro r t e ht he d
    induction d with
    | zero =>
      intro i F a w1 hi hi2 hF k k41
      obtain ⟨F, rfl⟩ : ∃ j, F = j + 1 := ⟨F - 1, by omega⟩
      refine ⟨w1, ?_, k, k41⟩
      show F_Loc_badness_81 _ _ _ _ _ _ _ = _
      unfold F_Loc_badness_81 F_Loc_badness_106
      rw [ile_t (by omega) (by omega), nI_add]; rfl
    | succ d ih =>
      intro i F a w1 hi hi2 hF k k41
      obtain ⟨F, rfl⟩ : ∃ j, F = j + 1 := ⟨F - 1, by omega⟩
      have hb1 := SB_kp k hb
      obtain ⟨w2, e2, k2⟩ := S_says hb1.1 hb1.2.2.1 hb1.2.2.2.2 hb1.2.2.2.1.1 (u := f) (p := 2) (t := t) (h := i) (lo := none) hb1.2.2.2.1.2.1 (by omega) ht (fun j hj => by cases hj)
      have e2 : F_Law_says (nI f) (nI 2) (nI t) (-nI 1) (nI i) w1 = _ := e2
      show ∃ w2, F_Loc_badness_81 _ _ _ _ _ _ _ = _ ∧ _
      unfold F_Loc_badness_81 F_Law_minding
      rw [ile_f (by omega) (by omega), hb1.2.2.2.1.2.2, e2, bn_s, bn_s]
      dsimp only
      rw [nI_add]
      exact ih (i + 1) F _ w2 (by omega) (by omega) (by omega) (KP_t k (KP_34 k2)) (by rw [k2 41 rfl]; exact k41)
  have outer : ∀ (d i F : Nat) (w1 : am_W), i + d = n → d < F → KP w w1 → w1.1 41 = w0.1 41 → ∃ w2, L_Loc_badness_18 F (bdT n m v te tc f g s i) (nI i) w1 = some (bdT n m v te tc f g s n, w2) ∧ KP w w2 := by
    intro d
    induction d with
    | zero =>
      intro i F w1 hi hF k k41
      obtain ⟨F, rfl⟩ : ∃ j, F = j + 1 := ⟨F - 1, by omega⟩
      have hC1 := (SB_kp k hb).2.2.1
      refine ⟨w1, ?_, k⟩
      show F_Loc_badness_18 _ _ _ _ = _
      unfold F_Loc_badness_18
      simp (disch := omega) only [hC1.1, nI_clamp, am_ckI, ile_t, ile_f, ilt_t, ilt_f, ieq_t, ieq_f, iz_t, iz_f, ilz_f, nI_add]
      rw [show i = n from hi]
    | succ d ih =>
      intro i F w1 hi hF k k41
      obtain ⟨F, rfl⟩ : ∃ j, F = j + 1 := ⟨F - 1, by omega⟩
      have hb1 := SB_kp k hb
      have hin : i < n := by omega
      obtain ⟨c1, c2, c3⟩ := hb1.2.2.1.2.2.2.2.2.1 i hin
      have v3 := (hb.1.2.2.1 i hin).2.2
      have hr : w1.1 41 i = hoA n m v s (v 3) g i := (congrFun k41 i).trans (r0 i (by omega))
      show ∃ w2, F_Loc_badness_18 _ _ _ _ = _ ∧ _
      unfold F_Loc_badness_18 F_Loc_badness_69
      simp (disch := omega) only [hb1.2.2.1.1, nI_clamp, am_ckI, ile_t, ile_f, ilt_t, ilt_f, ieq_t, ieq_f, iz_t, iz_f, ilz_f, nI_add, S_isGone hb1.2.2.1, bn_V, am_ltV, am_ckV, cond_V1, cond_V0, bi_ite, ck_bi, ite_T, ite_F, hr, c3, hh_le (hoA_h i)]
      cases hgi : g.testBit i with
      | true =>
        have h9 := ih (i + 1) F w1 (by omega) (by omega) k k41
        rw [bdT, hgi] at h9
        unfold F_Loc_badness_106
        rw [nI_add]
        exact h9
      | false =>
        obtain ⟨q1, q2⟩ := bdE_nI (hoA_h (n := n) (m := m) (v := v) (s := s) (cm := v 3) (g := g) i)
        have t1 : ∃ w2, L_Loc_badness_81 (L_Loc_badness_18 F) am_NF (bdT n m v te tc f g s i) (nI i) (nI (bdE (hoA n m v s (v 3) g i))) (nI (v 3 i)) w1 = some (bdT n m v te tc f g s n, w2) ∧ KP w w2 := by
          obtain ⟨w2, e2, k2, k3⟩ := inner (L_Loc_badness_18 F) i _ hin q2 (bdE (hoA n m v s (v 3) g i) - v 3 i) (v 3 i) am_NF (bdT n m v te tc f g s i) w1 (by omega) (by omega) (by show _ < 4000; omega) k k41
          have h9 := ih (i + 1) F w2 (by omega) (by omega) k2 k3
          rw [bdT, hgi] at h9
          rw [e2]
          exact h9
        rw [cond_false]
        rw [← q1] at t1
        by_cases h : hoA n m v s (v 3) g i = -nI 1
        · rw [if_pos h]; rw [if_pos h] at t1; exact t1
        · rw [if_neg h]; rw [if_neg h] at t1; exact t1
  obtain ⟨w2, e2, k2⟩ := outer n 0 am_NF w0 (by omega) (by show n < 4000; omega) kp0 rfl
  refine ⟨w2, ?_, k2⟩
  unfold F_Loc_badness
  rw [e0, bn_s]
  exact e2
theorem D_bad (hb : DB n m g s T f v te tc w) : ∃ w2, F_Mod_badness w = some (bdT n m v te tc f g s n, w2) ∧ KP w w2 := by
  have hn := hb.1.1
  obtain ⟨w0, e0, k0, r0⟩ := D_livesX hb.1 hb.2.2.2.1
  have kp0 : KP w w0 := KP_b 72 (fun _ => rfl) k0
  have inner : ∀ (r : Int32 → Int32 → am_W → Option (Int32 × am_W)) (t e : Nat), t < n → e ≤ 24 → g.testBit t = false → ∀ (d i F : Nat) (a : Int32) (w1 : am_W), (i + d = e ∨ d = 0 ∧ e ≤ i) → i < 100 → d < F → KP w w1 → w1.1 72 = w0.1 72 → ∃ w2, L_Mod_badness_46 r F a (nI t) (nI e) (nI i) w1 = r (bdL (fun h => sy v te tc f 2 t none h) d i a) (nI (t + 1)) w2 ∧ KP w w2 ∧ w2.1 72 = w0.1 72 := by
    intro r t e ht he hgt d
    induction d with
    | zero =>
      intro i F a w1 hi hi2 hF k k41
      obtain ⟨F, rfl⟩ : ∃ j, F = j + 1 := ⟨F - 1, by omega⟩
      refine ⟨w1, ?_, k, k41⟩
      show F_Mod_badness_46 _ _ _ _ _ _ _ = _
      unfold F_Mod_badness_46 F_Mod_badness_78
      rw [ile_t (by omega) (by omega), nI_add]; rfl
    | succ d ih =>
      intro i F a w1 hi hi2 hF k k41
      obtain ⟨F, rfl⟩ : ∃ j, F = j + 1 := ⟨F - 1, by omega⟩
      have hb1 := DB_kp k hb
      obtain ⟨w2, e2, k2⟩ := D_asks hb1.1 hb1.2.2.2.1 hb1.2.2.2.2.2 hb1.2.2.2.2.1 (p := 2) (t := t) (h := i) (lo := none) (by omega) ht (fun j hj => by cases hj)
      have e2 : F_Mod_asksOf (nI 2) (nI t) (-nI 1) (nI i) w1 = _ := e2
      show ∃ w2, F_Mod_badness_46 _ _ _ _ _ _ _ = _ ∧ _
      unfold F_Mod_badness_46
      rw [ile_f (by omega) (by omega), D_isGone hb1.2.2.2.1 (by omega), hgt, bn_s, bi_ite, cond_false]
      dsimp only
      rw [e2, bn_s]
      dsimp only
      rw [nI_add]
      exact ih (i + 1) F _ w2 (by omega) (by omega) (by omega) (KP_t k (KP_68 k2)) (by rw [k2 72 rfl]; exact k41)
  have outer : ∀ (d i F : Nat) (w1 : am_W), i + d = n → d < F → KP w w1 → w1.1 72 = w0.1 72 → ∃ w2, L_Mod_badness_8 F (bdT n m v te tc f g s i) (nI i) w1 = some (bdT n m v te tc f g s n, w2) ∧ KP w w2 := by
    intro d
    induction d with
    | zero =>
      intro i F w1 hi hF k k41
      obtain ⟨F, rfl⟩ : ∃ j, F = j + 1 := ⟨F - 1, by omega⟩
      have hM1 := (DB_kp k hb).2.2.2.1
      refine ⟨w1, ?_, k⟩
      show F_Mod_badness_8 _ _ _ _ = _
      unfold F_Mod_badness_8
      simp (disch := omega) only [hM1.1, nI_clamp, am_ckI, ile_t, ile_f, ilt_t, ilt_f, ieq_t, ieq_f, iz_t, iz_f, ilz_f, nI_add]
      rw [show i = n from hi]
    | succ d ih =>
      intro i F w1 hi hF k k41
      obtain ⟨F, rfl⟩ : ∃ j, F = j + 1 := ⟨F - 1, by omega⟩
      have hb1 := DB_kp k hb
      have hin : i < n := by omega
      obtain ⟨c1, c2, c3⟩ := hb1.2.2.2.1.2.2.2.2.1 i hin
      have v3 := (hb.1.2.2.1 i hin).2.2
      have hr : w1.1 72 i = hoA n m v s (v 3) g i := (congrFun k41 i).trans (r0 i (by omega))
      obtain ⟨q1, q2⟩ := bdE_nI (hoA_h (n := n) (m := m) (v := v) (s := s) (cm := v 3) (g := g) i)
      have t1 : ∃ w2, L_Mod_badness_46 (L_Mod_badness_8 F) am_NF (bdT n m v te tc f g s i) (nI i) (nI (bdE (hoA n m v s (v 3) g i))) (nI (v 3 i)) w1 = some (bdT n m v te tc f g s n, w2) ∧ KP w w2 := by
        cases hgi : g.testBit i with
        | true =>
          have h9 := ih (i + 1) F w1 (by omega) (by omega) k k41
          rw [bdT, hgi] at h9
          refine Exists.imp (fun w2 h => ⟨?_, h.2⟩) h9
          refine Eq.trans ?_ h.1
          show F_Mod_badness_46 _ (L_Mod_badness_46 _ 3999) _ _ _ _ _ = _
          unfold F_Mod_badness_46 F_Mod_badness_78
          rw [D_isGone hb1.2.2.2.1 (by omega), hgi, bn_s, bi_ite, cond_true, nI_add, ite_self]; rfl
        | false =>
          obtain ⟨w2, e2, k2, k3⟩ := inner (L_Mod_badness_8 F) i _ hin q2 hgi (bdE (hoA n m v s (v 3) g i) - v 3 i) (v 3 i) am_NF (bdT n m v te tc f g s i) w1 (by omega) (by omega) (by show _ < 4000; omega) k k41
          have h9 := ih (i + 1) F w2 (by omega) (by omega) k2 k3
          rw [bdT, hgi] at h9
          rw [e2]
          exact h9
      show ∃ w2, F_Mod_badness_8 _ _ _ _ = _ ∧ _
      unfold F_Mod_badness_8 F_Mod_badness_37
      simp (disch := omega) only [hb1.2.2.2.1.1, nI_clamp, am_ckI, ile_t, ile_f, ilt_t, ilt_f, ieq_t, ieq_f, iz_t, iz_f, ilz_f, nI_add, bn_V, am_ltV, am_ckV, cond_V1, cond_V0, bi_ite, ck_bi, ite_T, ite_F, hr, c3]
      rw [← q1] at t1
      by_cases h : hoA n m v s (v 3) g i = -nI 1
      · rw [if_pos h]; rw [if_pos h] at t1; exact t1
      · rw [if_neg h]; rw [if_neg h] at t1; exact t1
  obtain ⟨w2, e2, k2⟩ := outer n 0 am_NF w0 (by omega) (by show n < 4000; omega) kp0 rfl
  refine ⟨w2, ?_, k2⟩
  unfold F_Mod_badness
  rw [e0, bn_s]
  exact e2
end
theorem B_day (a : Int32) : BOTH (F_Loc_day a) (F_Mod_day a) := BOTH_q (fun {n m g s T f v te tc w} hq => by
  cases ha : am_in a 3 with
  | false =>
    refine ⟨-nI 2, w, w, ?_, ?_, KP_r w⟩
    · unfold F_Loc_day F_Loc_day_9
      by_cases h1 : a < 0
      · rw [if_pos h1]
      · rw [if_neg h1, if_neg]
        intro h2
        have h3 : am_in a 3 = true := in_iff.mpr ⟨by rw [Int32.lt_iff_toInt_lt, ti_0] at h1; omega, by rw [Int32.le_iff_toInt_le, nI_toInt (by omega)] at h2; omega⟩
        rw [ha] at h3; cases h3
    · unfold F_Mod_day
      rw [D_in0 (k := 2) (by omega), ha]; rfl
  | true =>
    obtain ⟨x, hx, rfl⟩ := in_ex ha (by omega)
    by_cases h0 : x = 0
    · subst h0
      obtain ⟨w1, e1, k1⟩ := S_bad (SB_q hq)
      obtain ⟨w2, e2, k2⟩ := D_bad (DB_kp k1 (DB_q hq))
      refine ⟨bdT n m v te tc f g s n, w1, w2, ?_, ?_, KP_t k1 k2⟩
      · unfold F_Loc_day
        rw [ilz_f (by omega), ile_t (by omega) (by omega), iz_t rfl, e1, bn_s]
      · unfold F_Mod_day
        rw [D_in0 (k := 2) (by omega), ha, bn_s, bi_ite, cond_true, iz_t rfl, e2, bn_s]
    · exact B_day12 hq (by omega))
/-! guard -/
section
variable {n m g s T f : Nat} {v : am_V} {te tc : Nat → Nat → Nat} {w w2 : am_W}
theorem CC_drop {o so se : Nat} (hC : CC n (m + 1) g s (vL v m o so se) w) : CC n m g s v (wsf w 1 2 (nI m)) := ⟨hC.1, hC.2.1, rfl, hC.2.2.2.1, hC.2.2.2.2.1, hC.2.2.2.2.2.1, fun l hl => by
  obtain ⟨c1, c2, c3, c4⟩ := hC.2.2.2.2.2.2 l (by omega)
  obtain ⟨q1, q2, q3⟩ := vL_1 (v := v) (m := m) (o := o) (so := so) (se := se) (l := l) (by omega)
  rw [q1] at c1
  rw [q2] at c2
  rw [q3] at c3
  refine ⟨c1, c2, c3, ?_⟩
  have e : gr (vL v m o so se) l = gr v l := funext fun t => by
    unfold gr
    rw [q2, q3]; rfl
  rw [e] at c4
  exact c4⟩
theorem MM_drop {o so se : Nat} (hM : MM n (m + 1) g s (vL v m o so se) w) : MM n m g s v (wsf w 53 5 (nI m)) := ⟨hM.1, hM.2.1, rfl, hM.2.2.2.1, hM.2.2.2.2.1, fun l hl => by
  obtain ⟨c1, c2, c3⟩ := hM.2.2.2.2.2 l (by omega)
  obtain ⟨q1, q2, q3⟩ := vL_1 (v := v) (m := m) (o := o) (so := so) (se := se) (l := l) (by omega)
  rw [q1] at c1
  rw [q2] at c2
  rw [q3] at c3
  exact ⟨c1, c2, c3⟩⟩
theorem thr_2 {t o : Nat} (hn : n ≤ 8) (ht : t < n) (ho : o < n ∨ o = 8) : thr n (nI (2 ^ t ||| 2 ^ o)) = true ∧ 2 ^ t ||| 2 ^ o < 512 ∧ ∀ i, i < 8 → n ≤ i → (2 ^ t ||| 2 ^ o).testBit i = false := by
  have h9 : 2 ^ t ||| 2 ^ o < 2 ^ 9 := or_lt (Nat.pow_lt_pow_right (by omega) (by omega)) (Nat.pow_lt_pow_right (by omega) (by omega))
  refine ⟨?_, h9, fun i hi hni => ?_⟩
  · unfold thr
    rw [Bool.and_eq_true, Bool.not_eq_true', decide_eq_false_iff_not, decide_eq_true_eq]
    constructor
    · intro q
      have h1 : bt (nI (2 ^ t ||| 2 ^ o)) t = bt (nI 0) t := by rw [q]; rfl
      rw [b_nI (by omega), b_0i, Nat.testBit_or, Nat.testBit_two_pow, decide_eq_true rfl] at h1
      cases h1
    · refine b_z (fun i hi => ?_)
      have h4 : (256 : Nat).testBit i = decide (i = 8) := by
        rw [show (256 : Nat) = 2 ^ 8 from rfl, Nat.testBit_two_pow]
        exact decide_eq_decide.mpr ⟨fun q => q.symm, fun q => q.symm⟩
      rw [b_and, b_not _ hi, b_or, b_all (by omega) hi, b_nI hi, b_nI hi, h4, Nat.testBit_or, Nat.testBit_two_pow, Nat.testBit_two_pow]
      by_cases h1 : i < n
      · rw [decide_eq_true h1, Bool.true_or, Bool.not_true, Bool.and_false]
      · by_cases h2 : i = 8
        · rw [decide_eq_true h2, Bool.or_true, Bool.not_true, Bool.and_false]
        · rw [decide_eq_false (by omega : ¬ t = i), decide_eq_false (by omega : ¬ o = i)]; rfl
  · rw [Nat.testBit_or, Nat.testBit_two_pow, Nat.testBit_two_pow, decide_eq_false (by omega), decide_eq_false (by omega)]; rfl
/-- where a lock of one's own could be locked to -/
def gdP (n g t o : Nat) : Bool := Nat.beq o 8 || (Nat.ble (o + 1) n && !(Nat.beq o t) && !(g.testBit o))
/-- how bad the day is then -/
def gd (n m : Nat) (v : am_V) (te tc : Nat → Nat → Nat) (f g s t so o : Nat) : Option Int32 := bif gdP n g t o then some (bdT n (m + 1) (vL v m t so (2 ^ t ||| 2 ^ o)) te tc f g s n) else none
theorem S_isThere (hV : VI n m v) (hC : CC n m g s v w) {o : Nat} (ho : o < 32) : F_Rail_isThere (nI o) w = some (bi (am_in (nI o) n && !g.testBit o), w) := by
  unfold F_Rail_isThere F_Rail_isThere_20 F_Rail_isThere_21
  simp (disch := omega) only [S_isThing hV hC, S_isGone hC, bn_V, am_ltV, am_ckV, cond_V1, cond_V0, bi_ite, ck_bi, ite_T, ite_F]
  cases am_in (nI o) n <;> cases g.testBit o <;> rfl
theorem am_inN {a b : Nat} (ha : a < 2 ^ 31) : am_in (nI a) b = Nat.ble (a + 1) b := by
  unfold am_in
  rw [nI_clamp ha, decide_eq_false (nI_pos ha)]; rfl
theorem S_guardL (hb : SB n m g s T f v te tc w) (hm : m < 10) {t so y : Nat} (ht : t < n) (hso : so < 3) (hy : y < 2) : ∀ (d i F : Nat) (w1 : am_W), i + d = 9 → d < F → SB n m g s T f v te tc w1 → FRA (fun a => Nat.ble a 1) w w1 → ∃ w2, L_Loc_guard_69 F (nI t) (nI so) (nI y) (b1 (bst (gd n m v te tc f g s t so) i)) (b2 (-nI 1) (bst (gd n m v te tc f g s t so) i)) (nI i) w1 = some (bif Nat.beq y 0 then b1 (bst (gd n m v te tc f g s t so) 9) else b2 (-nI 1) (bst (gd n m v te tc f g s t so) 9), w2) ∧ SB n m g s T f v te tc w2 ∧ FRA (fun a => Nat.ble a 1) w w2 ∧ ∀ c j, 53 ≤ c → ¬ area c j = 0 → w2.1 c j = w1.1 c j := by
  have hn := hb.1.1
  intro d
  induction d with
  | zero =>
    intro i F w1 hi hF hb1 k
    obtain ⟨F, rfl⟩ : ∃ j, F = j + 1 := ⟨F - 1, by omega⟩
    refine ⟨w1, ?_, hb1, k, fun _ _ _ _ => rfl⟩
    show F_Loc_guard_69 _ _ _ _ _ _ _ _ = _
    unfold F_Loc_guard_69 F_Loc_guard_171
    simp (disch := omega) only [nI_clamp, am_ckI, ile_t, ile_f, ilt_t, ilt_f, ieq_t, ieq_f, iz_t, iz_f, ilz_f, nI_add, iz_b]
    rw [show i = 9 from hi]
    cases Nat.beq y 0 <;> rfl
  | succ d ih =>
    intro i F w1 hi hF hb1 k
    obtain ⟨F, rfl⟩ : ∃ j, F = j + 1 := ⟨F - 1, by omega⟩
    have hP : F_Loc_guard_69 (L_Loc_guard_69 F) (nI t) (nI so) (nI y) (b1 (bst (gd n m v te tc f g s t so) i)) (b2 (-nI 1) (bst (gd n m v te tc f g s t so) i)) (nI i) w1 = bif gdP n g t i then F_Loc_guard_104 (L_Loc_guard_69 F) (nI t) (nI so) (nI y) (b1 (bst (gd n m v te tc f g s t so) i)) (b2 (-nI 1) (bst (gd n m v te tc f g s t so) i)) (nI i) w1 else L_Loc_guard_69 F (nI t) (nI so) (nI y) (b1 (bst (gd n m v te tc f g s t so) i)) (b2 (-nI 1) (bst (gd n m v te tc f g s t so) i)) (nI (i + 1)) w1 := by
      unfold F_Loc_guard_69 F_Loc_guard_154 gdP
      rw [ilt_f (by omega) (by omega), ieq_b (by omega) (by omega), nI_add]
      by_cases h8 : i = 8
      · rw [h8, nbf (by omega : ¬ 8 = t), cond_false, ile_t (by omega) (by omega)]; rfl
      · rw [ile_f (by omega) (by omega), S_isThere hb1.1 hb1.2.2.1 (by omega), bn_s, bi_ite, am_inN (by omega), nbf h8]
        cases Nat.beq i t <;> cases Nat.ble (i + 1) n <;> cases g.testBit i <;> rfl
    show ∃ w2, F_Loc_guard_69 _ _ _ _ _ _ _ _ = _ ∧ _
    rw [hP]
    cases hp : gdP n g t i with
    | false =>
      have hx : gd n m v te tc f g s t so i = none := by unfold gd; rw [hp]; rfl
      have h9 := ih (i + 1) F w1 (by omega) (by omega) hb1 k
      rw [bst, hx] at h9
      exact h9
    | true =>
      have hx : gd n m v te tc f g s t so i = some (bdT n (m + 1) (vL v m t so (2 ^ t ||| 2 ^ i)) te tc f g s n) := by unfold gd; rw [hp]; rfl
      have hi2 : i < n ∨ i = 8 := by
        unfold gdP at hp
        rw [Bool.or_eq_true, Bool.and_eq_true, Bool.and_eq_true] at hp
        rcases hp with hp | hp
        · exact Or.inr (Nat.eq_of_beq_eq_true hp)
        · exact Or.inl (Nat.le_of_ble_eq_true hp.1.1)
      obtain ⟨p1, p2, p3⟩ := thr_2 hn ht hi2
      have hVL : VI n (m + 1) (vL v m t so (2 ^ t ||| 2 ^ i)) := VI_L hb.1 (by omega) (fun l hl e => by omega) ht hso p2 p3
      obtain ⟨e1, hC1⟩ := S_addLock hb1.1 hb1.2.2.1 (o := t) (so := so) (se := 2 ^ t ||| 2 ^ i) hm hso
      have fL := fr_L (w := w1) (m := m) (x := mk (gr (vL v m t so (2 ^ t ||| 2 ^ i)) m) n) (o := t) (so := so) (se := 2 ^ t ||| 2 ^ i)
      have hbL : SB n (m + 1) g s T f (vL v m t so (2 ^ t ||| 2 ^ i)) te tc (addL w1 m t so (2 ^ t ||| 2 ^ i) (mk (gr (vL v m t so (2 ^ t ||| 2 ^ i)) m) n)) := ⟨hVL, hb.2.1, hC1, TS_fr rfl fL hb1.2.2.2.1, TX_fr rfl fL hb1.2.2.2.2 hb1.2.2.2.1.1⟩
      obtain ⟨w3, e3, k3⟩ := S_bad hbL
      have hb3 := SB_kp k3 hbL
      have f3 : FRA (fun a => Nat.ble a 1) w1 w3 := FRA_t fL (FRA_m (fun i h => by cases i with | zero => cases h | succ i => rfl) k3)
      have f4 : FRA (fun a => Nat.ble a 1) w1 (wsf w3 1 2 (nI m)) := FRA_t f3 (FRA_sf rfl)
      have hb4 : SB n m g s T f v te tc (wsf w3 1 2 (nI m)) := ⟨hb.1, hb.2.1, CC_drop hb3.2.2.1, TS_fr rfl f4 hb1.2.2.2.1, TX_fr rfl f4 hb1.2.2.2.2 hb1.2.2.2.1.1⟩
      have hi4 : ∀ c j, 53 ≤ c → ¬ area c j = 0 → (wsf w3 1 2 (nI m)).1 c j = w1.1 c j := fun c j hc hj => by
        rw [wsf_nc (nbf (by omega)), k3 c j (nbf hj), hi_L c hc]
      have step : F_Loc_guard_104 (L_Loc_guard_69 F) (nI t) (nI so) (nI y) (b1 (bst (gd n m v te tc f g s t so) i)) (b2 (-nI 1) (bst (gd n m v te tc f g s t so) i)) (nI i) w1 = if b1 (bst (gd n m v te tc f g s t so) i) < 0 then L_Loc_guard_69 F (nI t) (nI so) (nI y) (nI i) (bdT n (m + 1) (vL v m t so (2 ^ t ||| 2 ^ i)) te tc f g s n) (nI (i + 1)) (wsf w3 1 2 (nI m)) else if b2 (-nI 1) (bst (gd n m v te tc f g s t so) i) ≤ bdT n (m + 1) (vL v m t so (2 ^ t ||| 2 ^ i)) te tc f g s n then L_Loc_guard_69 F (nI t) (nI so) (nI y) (b1 (bst (gd n m v te tc f g s t so) i)) (b2 (-nI 1) (bst (gd n m v te tc f g s t so) i)) (nI (i + 1)) (wsf w3 1 2 (nI m)) else L_Loc_guard_69 F (nI t) (nI so) (nI y) (nI i) (bdT n (m + 1) (vL v m t so (2 ^ t ||| 2 ^ i)) te tc f g s n) (nI (i + 1)) (wsf w3 1 2 (nI m)) := by
        unfold F_Loc_guard_104 F_Loc_guard_146 F_Loc_guard_154 F_Rail_dropLastLock
        rw [s_one t (by omega), s_one i (by omega), nx_or, e1, bn_s, e3, bn_s]
        dsimp only
        rw [hb3.2.2.1.2.2.1, pk_sub (by omega), am_ltU, bn_s, nI_add]; rfl
      rw [cond_true, step]
      obtain ⟨s1, _, s3⟩ := bst_st hx (by omega) (-nI 1) (L_Loc_guard_69 F (nI t) (nI so) (nI y) (nI i) (bdT n (m + 1) (vL v m t so (2 ^ t ||| 2 ^ i)) te tc f g s n) (nI (i + 1)) (wsf w3 1 2 (nI m))) (L_Loc_guard_69 F (nI t) (nI so) (nI y) (b1 (bst (gd n m v te tc f g s t so) i)) (b2 (-nI 1) (bst (gd n m v te tc f g s t so) i)) (nI (i + 1)) (wsf w3 1 2 (nI m)))
      rw [s1]
      obtain ⟨w5, e5, a5, f5, i5⟩ := ih (i + 1) F (wsf w3 1 2 (nI m)) (by omega) (by omega) hb4 (FRA_t k f4)
      refine ⟨w5, ?_, a5, f5, fun c j hc hj => (i5 c j hc hj).trans (hi4 c j hc hj)⟩
      by_cases h : bst (gd n m v te tc f g s t so) (i + 1) = bst (gd n m v te tc f g s t so) i
      · rw [if_pos h]; rw [h] at e5; exact e5
      · rw [if_neg h]; rw [s3 h] at e5; exact e5
theorem D_guardL (hb : DB n m g s T f v te tc w) (hm : m < 10) {t so y : Nat} (ht : t < n) (hgt : g.testBit t = false) (hso : so < 3) (hy : y < 2) : ∀ (d i F : Nat) (w1 : am_W), i + d = 9 → d < F → DB n m g s T f v te tc w1 → FRA (fun a => Nat.ble a 1) w w1 → ∃ w2, L_Mod_guard_64 F (nI t) (nI so) (nI y) (b1 (bst (gd n m v te tc f g s t so) i)) (b2 (nI 0) (bst (gd n m v te tc f g s t so) i)) (nI i) w1 = some (bif Nat.beq y 0 then b1 (bst (gd n m v te tc f g s t so) 9) else b2 (nI 0) (bst (gd n m v te tc f g s t so) 9), w2) ∧ DB n m g s T f v te tc w2 ∧ FRA (fun a => Nat.ble a 1) w w2 ∧ ∀ c, c < 53 → (∀ j, ¬ area c j = 0) → w2.1 c = w1.1 c := by
  have hn := hb.1.1
  have hs2 : s < 2 ^ (m + 1) := Nat.lt_of_lt_of_le hb.2.2.1 (Nat.pow_le_pow_right (by omega) (by omega))
  intro d
  induction d with
  | zero =>
    intro i F w1 hi hF hb1 k
    obtain ⟨F, rfl⟩ : ∃ j, F = j + 1 := ⟨F - 1, by omega⟩
    refine ⟨w1, ?_, hb1, k, fun _ _ _ => rfl⟩
    show F_Mod_guard_64 _ _ _ _ _ _ _ _ = _
    unfold F_Mod_guard_64 F_Mod_guard_195
    simp (disch := omega) only [nI_clamp, am_ckI, ile_t, ile_f, ilt_t, ilt_f, ieq_t, ieq_f, iz_t, iz_f, ilz_f, nI_add, iz_b]
    rw [show i = 9 from hi]
    cases Nat.beq y 0 <;> rfl
  | succ d ih =>
    intro i F w1 hi hF hb1 k
    obtain ⟨F, rfl⟩ : ∃ j, F = j + 1 := ⟨F - 1, by omega⟩
    have hM1 := hb1.2.2.2.1
    have hP : F_Mod_guard_64 (L_Mod_guard_64 F) (nI t) (nI so) (nI y) (b1 (bst (gd n m v te tc f g s t so) i)) (b2 (nI 0) (bst (gd n m v te tc f g s t so) i)) (nI i) w1 = bif gdP n g t i then F_Mod_guard_102 (L_Mod_guard_64 F) (nI t) (nI so) (nI y) (b1 (bst (gd n m v te tc f g s t so) i)) (b2 (nI 0) (bst (gd n m v te tc f g s t so) i)) (nI i) w1 else L_Mod_guard_64 F (nI t) (nI so) (nI y) (b1 (bst (gd n m v te tc f g s t so) i)) (b2 (nI 0) (bst (gd n m v te tc f g s t so) i)) (nI (i + 1)) w1 := by
      unfold F_Mod_guard_64 F_Mod_guard_178 gdP
      rw [ile_f (by omega) (by omega), nI_add]
      by_cases h8 : i = 8
      · rw [h8, ieq_t rfl]; rfl
      · rw [ieq_f h8 (by omega) (by omega), D_isThing hb1.1 hM1, bn_s, bi_ite, am_inN (by omega), nbf h8]
        dsimp only
        rw [ieq_b (by omega) (by omega), D_isGone hM1 (by omega), bn_s, bi_ite]
        cases Nat.beq i t <;> cases Nat.ble (i + 1) n <;> cases g.testBit i <;> rfl
    show ∃ w2, F_Mod_guard_64 _ _ _ _ _ _ _ _ = _ ∧ _
    rw [hP]
    cases hp : gdP n g t i with
    | false =>
      have hx : gd n m v te tc f g s t so i = none := by unfold gd; rw [hp]; rfl
      have h9 := ih (i + 1) F w1 (by omega) (by omega) hb1 k
      rw [bst, hx] at h9
      exact h9
    | true =>
      have hx : gd n m v te tc f g s t so i = some (bdT n (m + 1) (vL v m t so (2 ^ t ||| 2 ^ i)) te tc f g s n) := by unfold gd; rw [hp]; rfl
      have hi2 : (i < n ∧ g.testBit i = false) ∨ i = 8 := by
        unfold gdP at hp
        rw [Bool.or_eq_true, Bool.and_eq_true, Bool.and_eq_true] at hp
        rcases hp with hp | hp
        · exact Or.inr (Nat.eq_of_beq_eq_true hp)
        · exact Or.inl ⟨Nat.le_of_ble_eq_true hp.1.1, by
            have h9 := hp.2
            rwa [Bool.not_eq_true'] at h9⟩
      have hgi : g.testBit i = false := by
        rcases hi2 with h | h
        · exact h.2
        · rw [h]
          exact Nat.testBit_lt_two_pow (Nat.lt_of_lt_of_le hb.2.1 (Nat.pow_le_pow_right (by omega) hn))
      obtain ⟨p1, p2, p3⟩ := thr_2 hn ht (by omega : i < n ∨ i = 8)
      have hVL : VI n (m + 1) (vL v m t so (2 ^ t ||| 2 ^ i)) := VI_L hb.1 (by omega) (fun l hl e => by omega) ht hso p2 p3
      have hz : Nat.beq ((2 ^ t ||| 2 ^ i) &&& g) 0 = true := by
        rw [nbt]
        refine Nat.eq_of_testBit_eq (fun j => ?_)
        rw [Nat.testBit_and, Nat.testBit_or, Nat.testBit_two_pow, Nat.testBit_two_pow, Nat.zero_testBit]
        by_cases j1 : t = j
        · rw [← j1, hgt, Bool.and_false]
        · by_cases j2 : i = j
          · rw [← j2, hgi, Bool.and_false]
          · rw [decide_eq_false j1, decide_eq_false j2]; rfl
      have hOK : lkOK n m g t (2 ^ t ||| 2 ^ i) = true := by
        unfold lkOK
        rw [hgt, hz, nbf (by omega : ¬ m = 10)]; rfl
      have hNN : lkN m g t (2 ^ t ||| 2 ^ i) = nI m := by
        unfold lkN
        rw [hgt, hz, nbf (by omega : ¬ m = 10)]
        show nI (m + 1) - nI 1 = nI m
        rw [pk_sub (by omega), Nat.add_sub_cancel]
      have e1 := D_lock hb1.1 hM1 hb.2.1 hb.2.2.1 ht hso p2 p1
      rw [hOK, hNN, cond_true] at e1
      have hML := MM_L hM1 (o := t) (so := so) (se := 2 ^ t ||| 2 ^ i)
      have fL := fr_ML (w := w1) (m := m) (s := s) (o := t) (so := so) (se := 2 ^ t ||| 2 ^ i)
      have hbL : DB n (m + 1) g s T f (vL v m t so (2 ^ t ||| 2 ^ i)) te tc (adML w1 m t so (2 ^ t ||| 2 ^ i) s) := ⟨hVL, hb.2.1, hs2, hML, TD_fr rfl fL hb1.2.2.2.2.1, TX_fr rfl fL hb1.2.2.2.2.2 hb1.2.2.2.2.1.1⟩
      obtain ⟨w3, e3, k3⟩ := D_bad hbL
      have hb3 := DB_kp k3 hbL
      have f3 : FRA (fun a => Nat.ble a 1) w1 w3 := FRA_t fL (FRA_m (fun i h => by cases i with | zero => cases h | succ i => rfl) k3)
      have f4 : FRA (fun a => Nat.ble a 1) w1 (wsf w3 53 5 (nI m)) := FRA_t f3 (FRA_sf rfl)
      have hb4 : DB n m g s T f v te tc (wsf w3 53 5 (nI m)) := ⟨hb.1, hb.2.1, hb.2.2.1, MM_drop hb3.2.2.2.1, TD_fr rfl f4 hb1.2.2.2.2.1, TX_fr rfl f4 hb1.2.2.2.2.2 hb1.2.2.2.2.1.1⟩
      have lo4 : ∀ c, c < 53 → (∀ j, ¬ area c j = 0) → (wsf w3 53 5 (nI m)).1 c = w1.1 c := fun c hc hj => by
        rw [← lo_ML (w := w1) (m := m) (s := s) (o := t) (so := so) (se := 2 ^ t ||| 2 ^ i) c hc]
        exact (mf_n (nbf (by omega))).trans (funext fun j => k3 c j (nbf (hj j)))
      have step : F_Mod_guard_102 (L_Mod_guard_64 F) (nI t) (nI so) (nI y) (b1 (bst (gd n m v te tc f g s t so) i)) (b2 (nI 0) (bst (gd n m v te tc f g s t so) i)) (nI i) w1 = if b1 (bst (gd n m v te tc f g s t so) i) = -nI 1 then L_Mod_guard_64 F (nI t) (nI so) (nI y) (nI i) (bdT n (m + 1) (vL v m t so (2 ^ t ||| 2 ^ i)) te tc f g s n) (nI (i + 1)) (wsf w3 53 5 (nI m)) else if b2 (nI 0) (bst (gd n m v te tc f g s t so) i) ≤ bdT n (m + 1) (vL v m t so (2 ^ t ||| 2 ^ i)) te tc f g s n then L_Mod_guard_64 F (nI t) (nI so) (nI y) (b1 (bst (gd n m v te tc f g s t so) i)) (b2 (nI 0) (bst (gd n m v te tc f g s t so) i)) (nI (i + 1)) (wsf w3 53 5 (nI m)) else L_Mod_guard_64 F (nI t) (nI so) (nI y) (nI i) (bdT n (m + 1) (vL v m t so (2 ^ t ||| 2 ^ i)) te tc f g s n) (nI (i + 1)) (wsf w3 53 5 (nI m)) := by
        unfold F_Mod_guard_102 F_Mod_guard_143 F_Mod_guard_148 F_Mod_guard_162 F_Mod_guard_176 F_Mod_guard_178
        rw [s_one t (by omega), s_one i (by omega), nx_or, e1, bn_s, e3, bn_s]
        dsimp only
        rw [am_ltU, nI_add]
        rfl
      rw [cond_true, step]
      obtain ⟨_, s2, s3⟩ := bst_st hx (by omega) (nI 0) (L_Mod_guard_64 F (nI t) (nI so) (nI y) (nI i) (bdT n (m + 1) (vL v m t so (2 ^ t ||| 2 ^ i)) te tc f g s n) (nI (i + 1)) (wsf w3 53 5 (nI m))) (L_Mod_guard_64 F (nI t) (nI so) (nI y) (b1 (bst (gd n m v te tc f g s t so) i)) (b2 (nI 0) (bst (gd n m v te tc f g s t so) i)) (nI (i + 1)) (wsf w3 53 5 (nI m)))
      rw [s2]
      obtain ⟨w5, e5, a5, f5, i5⟩ := ih (i + 1) F (wsf w3 53 5 (nI m)) (by omega) (by omega) hb4 (FRA_t k f4)
      refine ⟨w5, ?_, a5, f5, fun c hc hj => (i5 c hc hj).trans (lo4 c hc hj)⟩
      by_cases h : bst (gd n m v te tc f g s t so) (i + 1) = bst (gd n m v te tc f g s t so) i
      · rw [if_pos h]; rw [h] at e5; exact e5
      · rw [if_neg h]; rw [s3 h] at e5; exact e5
/-- the post can always be locked to -/
theorem gd_some (t so : Nat) : b2 (-nI 1) (bst (gd n m v te tc f g s t so) 9) = b2 (nI 0) (bst (gd n m v te tc f g s t so) 9) := by
  have hx : gd n m v te tc f g s t so 8 = some (bdT n (m + 1) (vL v m t so (2 ^ t ||| 2 ^ 8)) te tc f g s n) := rfl
  rw [bst, hx]
  cases bst (gd n m v te tc f g s t so) 8 with
  | none => rfl
  | some r =>
    obtain ⟨b, q⟩ := r
    show b2 _ (if q ≤ _ then some (b, q) else _) = b2 _ (if q ≤ _ then some (b, q) else _)
    by_cases h : q ≤ bdT n (m + 1) (vL v m t so (2 ^ t ||| 2 ^ 8)) te tc f g s n
    · rw [if_pos h]; rfl
    · rw [if_neg h]; rfl
end
theorem B_guard (a b c : Int32) : BOTH (F_Loc_guard a b c) (F_Mod_guard a b c) := fun w ⟨n, m, g, s, T, f, v, te, tc, hq⟩ => by
  have same : ∀ r, F_Loc_guard a b c w = some (r, w) → F_Mod_guard a b c w = some (r, w) → ∃ (r : Int32) (w1 w2 : am_W), F_Loc_guard a b c w = some (r, w1) ∧ F_Mod_guard a b c w1 = some (r, w2) ∧ RR w2 := fun r h1 h2 => ⟨r, w, w, h1, h2, n, m, g, s, T, f, v, te, tc, hq⟩
  obtain ⟨hV, hg, hs, hC, hM, hT, hX, hS, hP, hI, hA⟩ := id hq
  have hn := hV.1
  have hm := hV.2.1
  cases ha : am_in a n with
  | false =>
    refine same (-nI 5) ?_ ?_
    · unfold F_Loc_guard
      rw [S_isThing hV hC, ha]; rfl
    · unfold F_Mod_guard
      rw [D_isThing hV hM, ha]; rfl
  | true =>
    cases hb : am_in b 3 with
    | false =>
      refine same (-nI 7) ?_ ?_
      · unfold F_Loc_guard F_Loc_guard_28
        rw [S_isThing hV hC, ha, bn_s, bi_ite, cond_true, S_isSort, hb]; rfl
      · unfold F_Mod_guard F_Mod_guard_29
        rw [D_isThing hV hM, ha, bn_s, bi_ite, cond_true, D_in0 (k := 2) (by omega), hb]; rfl
    | true =>
      cases hc : am_in c 2 with
      | false =>
        refine same (-nI 7) ?_ ?_
        · unfold F_Loc_guard F_Loc_guard_28
          rw [S_isThing hV hC, ha, bn_s, bi_ite, cond_true, S_isSort, hb, bn_s, bi_ite, cond_true, S_isEither, hc]; rfl
        · unfold F_Mod_guard F_Mod_guard_29
          rw [D_isThing hV hM, ha, bn_s, bi_ite, cond_true, D_in0 (k := 2) (by omega), hb, bn_s, bi_ite, cond_true, D_in0 (k := 1) (by omega), hc]; rfl
      | true =>
        obtain ⟨t, ht, rfl⟩ := in_ex ha (by omega)
        obtain ⟨so, hso, rfl⟩ := in_ex hb (by omega)
        obtain ⟨y, hy, rfl⟩ := in_ex hc (by omega)
        cases hgt : g.testBit t with
        | true =>
          refine same (-nI 3) ?_ ?_
          · unfold F_Loc_guard
            simp (disch := omega) only [S_isThing hV hC, ha, S_isSort, hb, S_isEither, hc, S_isGone hC, hgt, bn_V, am_ltV, am_ckV, cond_V1, cond_V0, bi_ite, ck_bi, ite_T, ite_F]
          · unfold F_Mod_guard
            rw [D_isThing hV hM, ha, bn_s, bi_ite, cond_true, D_in0 (k := 2) (by omega), hb, bn_s, bi_ite, cond_true, D_in0 (k := 1) (by omega), hc, bn_s, bi_ite, cond_true, D_isGone hM (by omega), hgt, bn_s, bi_ite, cond_true]
        | false =>
          have hS : F_Loc_guard (nI t) (nI so) (nI y) w = if nI m < nI 10 then L_Loc_guard_69 am_NF (nI t) (nI so) (nI y) (-nI 1) (-nI 1) (nI 0) w else some (-nI 4, w) := by
            unfold F_Loc_guard
            simp (disch := omega) only [S_isThing hV hC, ha, S_isSort, hb, S_isEither, hc, S_isGone hC, hgt, bn_V, am_ltV, am_ckV, cond_V1, cond_V0, bi_ite, ck_bi, ite_T, ite_F, hC.2.2.1]
          have hD : ∀ w2, MM n m g s v w2 → F_Mod_guard (nI t) (nI so) (nI y) w2 = if nI m = nI 10 then some (-nI 4, w2) else L_Mod_guard_64 am_NF (nI t) (nI so) (nI y) (-nI 1) (nI 0) (nI 0) w2 := fun w2 hM2 => by
            unfold F_Mod_guard
            rw [D_isThing hV hM2, ha, bn_s, bi_ite, cond_true, D_in0 (k := 2) (by omega), hb, bn_s, bi_ite, cond_true, D_in0 (k := 1) (by omega), hc, bn_s, bi_ite, cond_true, D_isGone hM2 (by omega), hgt, bn_s, bi_ite, cond_false, hM2.2.2.1]
          by_cases h10 : m = 10
          · refine same (-nI 4) ?_ ?_
            · rw [hS, ilt_f (by omega) (by omega)]
            · rw [hD w hM, ieq_t h10]
          · have hm10 : m < 10 := by omega
            obtain ⟨w1, e1, b1', f1, i1⟩ := S_guardL (SB_q hq) hm10 ht hso hy 9 0 am_NF w rfl (by show 9 < 4000; omega) (SB_q hq) (FRA_r _ w)
            have hM1 : MM n m g s v w1 := by
              have e : ∀ c j, 53 ≤ c → ¬ area c j = 0 → w1.1 c j = w.1 c j := i1
              exact ⟨(e 53 0 (by omega) (by decide)).trans hM.1, (e 53 4 (by omega) (by decide)).trans hM.2.1, (e 53 5 (by omega) (by decide)).trans hM.2.2.1, (e 53 7 (by omega) (by decide)).trans hM.2.2.2.1, fun t ht => ⟨(e 54 t (by omega) (by show ¬ 1 = 0; omega)).trans (hM.2.2.2.2.1 t ht).1, (e 55 t (by omega) (by show ¬ 1 = 0; omega)).trans (hM.2.2.2.2.1 t ht).2.1, (e 56 t (by omega) (by show ¬ 1 = 0; omega)).trans (hM.2.2.2.2.1 t ht).2.2⟩, fun l hl => ⟨(e 57 _ (by omega) (by show ¬ 1 = 0; omega)).trans (hM.2.2.2.2.2 l hl).1, (e 57 _ (by omega) (by show ¬ 1 = 0; omega)).trans (hM.2.2.2.2.2 l hl).2.1, (e 57 _ (by omega) (by show ¬ 1 = 0; omega)).trans (hM.2.2.2.2.2 l hl).2.2⟩⟩
            have hD1 : DB n m g s T f v te tc w1 := ⟨hV, hg, hs, hM1, TD_fr rfl f1 (DB_q hq).2.2.2.2.1, TX_fr rfl f1 hX hT.1⟩
            obtain ⟨w2, e2, d2, f2, i2⟩ := D_guardL hD1 hm10 ht hgt hso hy 9 0 am_NF w1 rfl (by show 9 < 4000; omega) hD1 (FRA_r _ w1)
            have hC2 : CC n m g s v w2 := by
              have e : ∀ c, 1 ≤ c → c < 9 → w2.1 c = w1.1 c := fun c h1 h2 => i2 c (by omega) (fun j => by
                match c, h1, h2 with
                | 1, _, _ => show ¬ 1 = 0; omega
                | 2, _, _ => show ¬ 1 = 0; omega
                | 3, _, _ => show ¬ 1 = 0; omega
                | 4, _, _ => show ¬ 1 = 0; omega
                | 5, _, _ => show ¬ 1 = 0; omega
                | 6, _, _ => show ¬ 1 = 0; omega
                | 7, _, _ => show ¬ 1 = 0; omega
                | 8, _, _ => show ¬ 1 = 0; omega)
              have hc := b1'.2.2.1
              unfold CC
              rw [e 1 (by omega) (by omega), e 2 (by omega) (by omega), e 3 (by omega) (by omega), e 4 (by omega) (by omega), e 5 (by omega) (by omega), e 6 (by omega) (by omega), e 7 (by omega) (by omega), e 8 (by omega) (by omega)]
              exact hc
            refine ⟨bif Nat.beq y 0 then b1 (bst (gd n m v te tc f g s t so) 9) else b2 (-nI 1) (bst (gd n m v te tc f g s t so) 9), w1, w2, ?_, ?_, n, m, g, s, T, f, v, te, tc, RQ_rl (FRA_t f1 f2) hq hV hg hs hC2 d2.2.2.2.1 hI⟩
            · rw [hS, ilt_t (by omega) (by omega)]
              exact e1
            · rw [hD w1 hM1, ieq_f h10 (by omega) (by omega)]
              refine e2.trans ?_
              rw [gd_some]
