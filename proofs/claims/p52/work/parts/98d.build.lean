/-! ===== the class as the law makes it: the constructor, things, locks, a text ===== -/
def wB (w : am_W) : am_W := (fun c => bif Nat.ble c 35 && !(Nat.beq c 0) then w.1 c else sg0 c, some 0)
theorem HC_ww {w : am_W} : H_C68 w = ww (wB w) := rfl
theorem BEGIN (v : am_V) : ∃ w1, F_Read_read 0 0 (wL 40) = some (nI 1, w1) ∧ (wsf w1 17 1 (nI 1)).2 = some 0 ∧ PQ 0 0 0 0 1 0 v te0 tc0 (wB (wsf w1 17 1 (nI 1))) ∧ (wB (wsf w1 17 1 (nI 1))).1 17 1 = nI 1 ∧ (wB (wsf w1 17 1 (nI 1))).1 18 0 = nI 0 := by
  obtain ⟨a1, a2, a3, a4⟩ := wL_s 40 (Nat.le_refl _)
  have hx : ∀ i, i < 40 → lawX i < 256 := by decide +kernel
  have hR : RB lawX 40 (wL 40) := ⟨by omega, a1, fun i hi => ⟨a4 i hi, hx i hi⟩⟩
  obtain ⟨w1, e1, q1, n0, n1, n2, z1, V1, u1⟩ := TXT0 hR
  refine ⟨w1, e1, u1, ?_⟩
  have r2 : ∀ c, 0 < c → c ≤ 35 → ¬ c = 17 → ¬ c = 18 → ¬ c = 19 → ¬ c = 21 → ¬ c = 28 → (wB (wsf w1 17 1 (nI 1))).1 c = sg0 c := fun c h1 h2 h3 h4 h5 h6 h7 => by
    show (bif Nat.ble c 35 && !(Nat.beq c 0) then _ else _) = _
    rw [Nat.ble_eq_true_of_le h2, nbf (by omega)]
    show (wsf w1 17 1 (nI 1)).1 c = sg0 c
    refine (wsf_fc h3).trans ((V1 c ?_).trans (a3 c h4 h5))
    show (Nat.beq c 18 || (Nat.beq c (20 + 1 + 0) || Nat.beq c (27 + 1 + 0))) = false
    rw [nbf h4, nbf (by omega), nbf (by omega)]; rfl
  have c17 : w1.1 17 = sg0 17 := (V1 17 rfl).trans (a3 17 (by omega) (by omega))
  have e1 := r2 1 (by omega) (by omega) (by omega) (by omega) (by omega) (by omega) (by omega)
  refine ⟨⟨⟨⟨by omega, by omega, fun t ht => absurd ht (Nat.not_lt_zero _), fun l hl => absurd hl (Nat.not_lt_zero _)⟩, by decide, ⟨?_, ?_, ?_, ?_, ?_, fun t ht => absurd ht (Nat.not_lt_zero _), fun l hl => absurd hl (Nat.not_lt_zero _)⟩, ⟨by omega, by omega, ?_⟩, TX_new (T := 0) (te := fun _ _ => 0) (tc := fun _ _ => 0) FT_0 ?_ ?_ (fun t ht => absurd ht (Nat.not_lt_zero _))⟩, by decide⟩, ?_, ?_⟩
  · rw [e1]; rfl
  · rw [e1]; rfl
  · rw [e1]; rfl
  · rw [e1]; rfl
  · rw [e1]; rfl
  · show (wsf w1 17 1 (nI 1)).1 17 2 = nI 0
    rw [wsf_ne (by omega), c17]; rfl
  · show SQ stp _ 0 ((wsf w1 17 1 (nI 1)).1 21)
    rw [wsf_fc (by omega)]
    exact q1
  · show (wsf w1 17 1 (nI 1)).1 28 0 = _ ∧ (wsf w1 17 1 (nI 1)).1 28 1 = _ ∧ (wsf w1 17 1 (nI 1)).1 28 2 = _
    rw [wsf_fc (by omega)]
    exact ⟨n0, n1, n2⟩
  · show (wsf w1 17 1 (nI 1)).1 17 1 = nI 1
    rw [wsf_at]
  · show (wsf w1 17 1 (nI 1)).1 18 0 = nI 0
    rw [wsf_fc (by omega)]
    exact z1
/-- the count of texts, the tape's length -/
def PT (T z : Nat) (w : am_W) : Prop := w.1 17 1 = nI T ∧ w.1 18 0 = nI z
theorem PT_fr {A : Nat → Bool} {T z : Nat} {w w2 : am_W} (h7 : A 7 = false) (h5 : A 5 = false) (k : FRA A w w2) (h : PT T z w) : PT T z w2 := ⟨(k 17 1 h7).trans h.1, (k 18 0 h5).trans h.2⟩
theorem vset_e {v : am_V} {a n : Nat} : vset v a n (v a n) = v := funext fun b => funext fun j => by
  unfold vset
  cases h : Nat.beq b a && Nat.beq j n with
  | false => rfl
  | true =>
    rw [Bool.and_eq_true] at h
    rw [Nat.eq_of_beq_eq_true h.1, Nat.eq_of_beq_eq_true h.2]
    rfl
theorem vT_e {v : am_V} {n : Nat} : vT v n (v 1 n) (v 2 n) (v 3 n) = v := by
  unfold vT
  rw [vset_e, vset_e, vset_e]
theorem vL_e {v : am_V} {m : Nat} : vL v m (v 4 m) (v 5 m) (v 6 m) = v := by
  unfold vL
  rw [vset_e, vset_e, vset_e]
section
variable {n m g s T f z : Nat} {v : am_V} {te tc : Nat → Nat → Nat} {w : am_W}
theorem P_thing (h : PQ n m g s T f v te tc w) (hT : PT T z w) (hn : n < 8) (h1 : v 1 n < 6) (h2 : v 2 n < 10) (h3 : v 3 n < 24) : ∃ r w2, F_Loc_thing (nI (v 1 n)) (nI (v 2 n)) (nI (v 3 n)) w = some (r, w2) ∧ PQ (n + 1) m g s T f v te tc w2 ∧ PT T z w2 := by
  obtain ⟨⟨hV, hg, hC, hS, hX⟩, hs⟩ := h
  obtain ⟨w2, e, hC2, k, -⟩ := S_addThing hV hC (x := v 1 n) (y := v 2 n) (h := v 3 n) hn h1 h2
  have hV2 := VI_T hV (x := v 1 n) (y := v 2 n) (h := v 3 n) hn h1 h2 h3
  rw [vT_e] at hC2 hV2
  refine ⟨w2.1 1 0 - nI 1, w2, ?_, ⟨⟨hV2, Nat.lt_of_lt_of_le hg (Nat.pow_le_pow_right (by omega) (by omega)), hC2, TS_fr rfl k hS, TX_fr rfl k hX hS.1⟩, hs⟩, PT_fr rfl rfl k hT⟩
  unfold F_Loc_thing
  rw [S_isKind, bn_V, in_nI h1 (by omega)]
  show (if nI 1 = 0 then _ else _) = _
  rw [i10, ilz_f (by omega), ilt_f (by omega) (by omega), S_isHour, bn_V, in_nI h3 (by omega)]
  show (if nI 1 = 0 then _ else _) = _
  rw [i10]
  show (if w.1 1 0 < nI 8 then _ else _) = _
  rw [hC.1, ilt_t hn (by omega), e, bn_V]
theorem thr_ok {n se : Nat} (h0 : 0 < se) (h9 : se < 512) (hb : ∀ i, i < 8 → n ≤ i → se.testBit i = false) (hn : n ≤ 8) : thr n (nI se) = true := by
  unfold thr
  rw [decide_eq_false (nI_ne0 h0 (by omega)), Bool.not_false, Bool.true_and]
  refine decide_eq_true (b_z (fun i hi => ?_))
  rw [b_and, b_not _ hi, b_or, b_all (by omega) hi, b_nI hi, b_nI hi]
  by_cases h1 : i < n
  · rw [decide_eq_true h1]; simp
  · rw [decide_eq_false h1]
    by_cases h2 : i < 8
    · rw [hb i h2 (by omega)]; rfl
    · by_cases h3 : i = 8
      · subst h3
        rw [show (256 : Nat).testBit 8 = true by decide]; simp
      · rw [Nat.testBit_lt_two_pow (Nat.lt_of_lt_of_le (by omega : se < 2 ^ 9) (Nat.pow_le_pow_right (by omega) (by omega)))]; rfl
theorem P_lock (h : PQ n m 0 s T f v te tc w) (hT : PT T z w) (hm : m < 10) (h4 : v 4 m < n) (h5 : v 5 m < 3) (h6 : v 6 m < 512) (h0 : 0 < v 6 m) (hb : ∀ i, i < 8 → n ≤ i → (v 6 m).testBit i = false) : ∃ r w2, F_Loc_lock (nI (v 4 m)) (nI (v 5 m)) (nI (v 6 m)) w = some (r, w2) ∧ PQ n (m + 1) 0 s T f v te tc w2 ∧ PT T z w2 := by
  obtain ⟨⟨hV, hg, hC, hS, hX⟩, hs⟩ := h
  have e := S_lock hV hC hg h4 h5 h6 (thr_ok h0 h6 hb hV.1)
  have ok : lkOK n m 0 (v 4 m) (v 6 m) = true := by
    unfold lkOK
    rw [Nat.zero_testBit, Nat.and_zero, nbf (show ¬ m = 10 by omega)]
    rfl
  rw [ok, cond_true] at e
  have hC2 := (S_addLock hV hC (o := v 4 m) (se := v 6 m) hm h5).2
  have hV2 : VI n (m + 1) (vL v m (v 4 m) (v 5 m) (v 6 m)) := VI_L hV (by omega) (fun l hl he => by omega) h4 h5 h6 hb
  have k := fr_L (w := w) (m := m) (x := mk (gr (vL v m (v 4 m) (v 5 m) (v 6 m)) m) n) (o := v 4 m) (so := v 5 m) (se := v 6 m)
  rw [vL_e] at hC2 hV2 k e
  exact ⟨_, _, e, ⟨⟨hV2, hg, hC2, TS_fr rfl k hS, TX_fr rfl k hX hS.1⟩, Nat.lt_of_lt_of_le hs (Nat.pow_le_pow_right (by omega) (by omega))⟩, PT_fr rfl rfl k hT⟩
theorem P_sawT (h : PQ n m g s T f v te tc w) (hT : PT T z w) {l : Nat} (hl : l < m) (h1 : shu v g s l = true) : ∃ r w2, F_Loc_saw (nI l) w = some (r, w2) ∧ PQ n m g (s ||| 2 ^ l) T f v te tc w2 ∧ PT T z w2 := by
  obtain ⟨⟨hV, hg, hC, hS, hX⟩, hs⟩ := id h
  have hm := hV.2.1
  have hs2 : s ||| 2 ^ l < 2 ^ m := or_lt hs (Nat.pow_lt_pow_right (by omega) hl)
  have hC1 := CC_s hC (s ||| 2 ^ l)
  have k1 : FRA (fun a => Nat.ble a 1) w (wsf w 1 3 (nI (s ||| 2 ^ l))) := FRA_sf rfl
  have hS1 : SB n m g (s ||| 2 ^ l) T f v te tc (wsf w 1 3 (nI (s ||| 2 ^ l))) := ⟨hV, hg, hC1, TS_fr rfl k1 hS, TX_fr rfl k1 hX hS.1⟩
  obtain ⟨w2, e2, k2⟩ := S_sawing hS1 hS.2.1 hl
  refine ⟨sw v te tc f l, w2, ?_, ⟨SB_kp k2 hS1, hs2⟩, PT_fr (A := fun a => Nat.beq a 0) rfl rfl k2 (PT_fr rfl rfl k1 hT)⟩
  have e9 : (wsf w 1 3 (nI (s ||| 2 ^ l))).1 17 2 = nI f := (wsf_nc rfl).trans hS.2.2
  unfold F_Loc_saw
  simp (disch := omega) only [S_isLock hV hC, in_nI hl (by omega), bn_V, am_ltV, am_ckV, cond_V1, cond_V0, bi_ite, S_isShut hV hC hl, h1, hC.2.2.2.1, s_one, nx_or, e9, e2]
/-- the tape fed up to i -/
def TP (x : Nat → Nat) (i : Nat) (w : am_W) : Prop := ∀ j, j < i → w.1 19 j = nI (x j)
theorem P_feed {x : Nat → Nat} (h : PQ n m g s T f v te tc w) (hT : PT T z w) (hx : TP x z w) (hz : z < 160) (hxz : x z < 256) : ∃ r w2, F_Loc_feed (nI 1) (nI (x z)) (nI 0) (nI 0) (nI 0) (nI 0) w = some (r, w2) ∧ PQ n m g s T f v te tc w2 ∧ PT T (z + 1) w2 ∧ TP x (z + 1) w2 := by
  obtain ⟨⟨hV, hg, hC, hS, hX⟩, hs⟩ := h
  obtain ⟨w2, e, q1, q2, q3, q4, q5⟩ := S_feedL (a := nI (x z)) (b := nI 0) (c := nI 0) (d := nI 0) (e := nI 0) (w := w) (z := z) (N := 1) (by omega) (by omega) hT.2 1 0 am_NF w (by omega) (by show 1 < 4000; omega) (fun _ _ _ => rfl) (fun _ _ => rfl) hT.2 (fun _ _ => rfl) (fun j hj => absurd hj (Nat.not_lt_zero _))
  have k : FRA (fun a => Nat.beq a 5) w w2 := fun c j hc => by
    by_cases c18 : c = 18
    · subst c18
      by_cases j0 : j = 0
      · subst j0; cases hc
      · exact q2 j j0
    · by_cases c19 : c = 19
      · subst c19; cases hc
      · rw [q1 c c18 c19]
  refine ⟨nI (z + 1), w2, ?_, ⟨⟨hV, hg, CC_fr (A := fun a => Nat.beq a 5) rfl k hC, TS_fr (A := fun a => Nat.beq a 5) rfl k hS, TX_fr (A := fun a => Nat.beq a 5) rfl k hX hS.1⟩, hs⟩, ⟨(k 17 1 rfl).trans hT.1, q3⟩, fun j hj => ?_⟩
  · unfold F_Loc_feed
    have b0 : am_in (nI 0) 256 = true := in_nI (by omega) (by omega)
    rw [ilt_f (by omega) (by omega), ilt_f (by omega) (by omega)]
    simp only [S_isByte, bn_V, in_nI hxz (show 256 < 2 ^ 31 by omega), b0, bi_ite, cond_V1, hT.2, nI_add]
    rw [ile_t (by omega) (by omega)]
    exact e
  · by_cases e : j = z
    · have := q5 0 (by omega)
      rw [Nat.add_zero] at this
      rw [e, this]
      rfl
    · rw [q4 j (by omega)]; exact hx j (by omega)
theorem P_text {K J M : Nat} (hK : K < 4) (hJ : J < 8) (hM : M < 4) (h : PQ n m g s 1 f v te0 tc0 w) (hT : PT 1 59 w) (hx : TP (tX K J M) 59 w) (hb : ∀ i, i < 59 → tX K J M i < 256) : ∃ w2, F_Loc_text w = some (nI 1, w2) ∧ PQ n m g s 2 f v (te1 (100000 + K) (100000 + J) (100000 + M)) (tc1 (100000 + K) (100000 + J) (100000 + M)) w2 ∧ w2.1 17 1 = nI 2 := by
  obtain ⟨⟨hV, hg, hC, hS, hX⟩, hs⟩ := h
  have hR : RB (tX K J M) 59 w := ⟨by omega, hT.2, fun i hi => ⟨hx i hi, hb i hi⟩⟩
  obtain ⟨w1, e1, q1, n0, n1, n2, z1, V1, u1⟩ := TXT1 hK hJ hM hR
  have r : ∀ c, ¬ c = 18 → ¬ c = 22 → ¬ c = 29 → w1.1 c = w.1 c := fun c c1 c2 c3 => V1 c (by
    show (Nat.beq c 18 || (Nat.beq c (20 + 1 + 1) || Nat.beq c (27 + 1 + 1))) = false
    rw [nbf c1, nbf c2, nbf c3]; rfl)
  have c17 : w1.1 17 1 = nI 1 := by rw [r 17 (by omega) (by omega) (by omega)]; exact hT.1
  have r2 : ∀ c, ¬ c = 17 → ¬ c = 18 → ¬ c = 22 → ¬ c = 29 → (wsf w1 17 1 (nI 2)).1 c = w.1 c := fun c c0 c1 c2 c3 => (wsf_fc c0).trans (r c c1 c2 c3)
  have hX2 : TX 1 te0 tc0 (wsf w1 17 1 (nI 2)) := fun t ht => by
    have h0 := hX t ht
    obtain rfl : t = 0 := by omega
    rw [r2 (27 + 1 + 0) (by omega) (by omega) (by omega) (by omega), r2 (20 + 1 + 0) (by omega) (by omega) (by omega) (by omega)]
    exact h0
  have hC2 : CC n m g s v (wsf w1 17 1 (nI 2)) := by
    unfold CC
    rw [r2 1 (by omega) (by omega) (by omega) (by omega), r2 2 (by omega) (by omega) (by omega) (by omega), r2 3 (by omega) (by omega) (by omega) (by omega), r2 4 (by omega) (by omega) (by omega) (by omega), r2 5 (by omega) (by omega) (by omega) (by omega), r2 6 (by omega) (by omega) (by omega) (by omega), r2 7 (by omega) (by omega) (by omega) (by omega), r2 8 (by omega) (by omega) (by omega) (by omega)]
    exact hC
  refine ⟨wsf w1 17 1 (nI 2), ?_, ⟨⟨hV, hg, hC2, ⟨by omega, by have := hS.2.1; omega, ?_⟩, TX_new (T := 1) (FT_1 hK hJ hM) ?_ ?_ hX2⟩, hs⟩, wsf_at _ _ _ _⟩
  · unfold F_Loc_text F_Loc_text_50 F_Law_takeTape
    rw [hT.1, ilt_t (by omega) (by omega), ile_f (by omega) (by omega), am_ckI (by omega) (by omega), am_ckI (by omega) (by omega), nI_clamp (by omega), e1, bn_V, i10, am_ltV, bn_V, i10, c17, nI_add]
    show some ((wsf w1 17 1 (nI 2)).1 17 1 - nI 1, wsf w1 17 1 (nI 2)) = _
    rw [wsf_at]
    rfl
  · rw [wsf_ne (by omega), r 17 (by omega) (by omega) (by omega)]; exact hS.2.2
  · show SQ stp _ 0 ((wsf w1 17 1 (nI 2)).1 22)
    rw [wsf_fc (by omega)]
    exact q1
  · show (wsf w1 17 1 (nI 2)).1 29 0 = _ ∧ (wsf w1 17 1 (nI 2)).1 29 1 = _ ∧ (wsf w1 17 1 (nI 2)).1 29 2 = _
    rw [wsf_fc (by omega)]
    exact ⟨n0, n1, n2⟩
theorem P_force (h : PQ n m g s 2 f v te tc w) (hT : w.1 17 1 = nI 2) : ∃ r w2, F_Loc_force (nI 1) w = some (r, w2) ∧ PQ n m g s 2 1 v te tc w2 := by
  obtain ⟨⟨hV, hg, hC, hS, hX⟩, hs⟩ := h
  have k : FRA (fun a => Nat.beq a 7) w (wsf w 17 2 (nI 1)) := FRA_sf rfl
  refine ⟨w.1 17 2, wsf w 17 2 (nI 1), ?_, ⟨⟨hV, hg, CC_fr (A := fun a => Nat.beq a 7) rfl k hC, ⟨hS.1, by omega, wsf_at _ _ _ _⟩, TX_fr (A := fun a => Nat.beq a 7) rfl k hX hS.1⟩, hs⟩⟩
  unfold F_Loc_force
  rw [ilz_f (by omega), hT, ilt_t (by omega) (by omega), am_ltV]
end
theorem tX_all : ((List.range 128).all fun n => (List.range 59).all fun i => decide (tX (n % 4) (n / 4 % 8) (n / 32) i < 256)) = true := by decide +kernel
theorem tX_b {K J M : Nat} (hK : K < 4) (hJ : J < 8) (hM : M < 4) : ∀ i, i < 59 → tX K J M i < 256 := fun i hi => by
  have h2 := of_decide_eq_true (List.all_eq_true.mp (List.all_eq_true.mp tX_all (K + 4 * J + 32 * M) (List.mem_range.mpr (by omega))) i (List.mem_range.mpr hi))
  rwa [show (K + 4 * J + 32 * M) % 4 = K by omega, show (K + 4 * J + 32 * M) / 4 % 8 = J by omega, show (K + 4 * J + 32 * M) / 32 = M by omega] at h2
