/-! ===== odds ===== -/
theorem cdv_w : ∀ (k : Nat) (a b d : Int32) (w : am_W), L_Loc_commonDivisor_2 k a b d w = (L_Loc_commonDivisor_2 k a b d w00).map (fun q => (q.1, w))
  | 0, _, _, _, _ => rfl
  | k + 1, a, b, d, w => by
    show F_Loc_commonDivisor_2 (L_Loc_commonDivisor_2 k) a b d w = (F_Loc_commonDivisor_2 (L_Loc_commonDivisor_2 k) a b d w00).map (fun q => (q.1, w))
    have t1 := cdv_w k a b (d + (-nI 1)) w
    unfold F_Loc_commonDivisor_2 F_Loc_commonDivisor_21
    by_cases h1 : d ≤ nI 1
    · rw [if_pos h1, if_pos h1]; rfl
    · rw [if_neg h1, if_neg h1]
      by_cases h2 : d = 0
      · rw [if_pos h2, if_pos h2]; rfl
      · rw [if_neg h2, if_neg h2]
        by_cases h3 : a - a / d * d = 0
        · rw [if_pos h3, if_pos h3, if_neg h2, if_neg h2]
          by_cases h4 : b - b / d * d = 0
          · rw [if_pos h4, if_pos h4]; rfl
          · rw [if_neg h4, if_neg h4]; exact t1
        · simp only [if_neg h3, if_neg h2]; exact t1
theorem low_w : ∀ (k : Nat) (a b : Int64) (p : Int32) (x y : Int64) (w : am_W), L_Mod_lowest_16 k a b p x y w = (L_Mod_lowest_16 k a b p x y w00).map (fun q => (q.1, w))
  | 0, _, _, _, _, _, _ => rfl
  | k + 1, a, b, p, x, y, w => by
    show F_Mod_lowest_16 (L_Mod_lowest_16 k) a b p x y w = (F_Mod_lowest_16 (L_Mod_lowest_16 k) a b p x y w00).map (fun q => (q.1, w))
    have t1 := low_w k a b p y (x - x / y * y) w
    unfold F_Mod_lowest_16 F_Mod_lowest_51
    by_cases h1 : lg_cmp y (lN 0) = 0
    · rw [if_pos h1, if_pos h1]
      by_cases h2 : p = 0
      · rw [if_pos h2, if_pos h2]
        by_cases h3 : x = 0
        · rw [if_pos h3, if_pos h3]; rfl
        · rw [if_neg h3, if_neg h3]; rfl
      · rw [if_neg h2, if_neg h2]
        by_cases h3 : x = 0
        · rw [if_pos h3, if_pos h3]; rfl
        · rw [if_neg h3, if_neg h3]; rfl
    · rw [if_neg h1, if_neg h1]
      by_cases h2 : y = 0
      · rw [if_pos h2, if_pos h2]; rfl
      · rw [if_neg h2, if_neg h2]; exact t1
theorem cdv_all : ((List.range 40).all fun k => (List.range 41).all fun c => decide ((F_Loc_commonDivisor (nI (k + 1)) (nI c) w00).map (fun q => q.1) = some (nI (Nat.gcd (k + 1) c)))) = true := by decide +kernel
theorem low_all : ((List.range 40).all fun k => (List.range 41).all fun c => (List.range 2).all fun p => decide ((F_Mod_lowest (lN c) (lN (k + 1)) (nI p) w00).map (fun q => q.1) = some (lN ((bif Nat.beq p 0 then c else k + 1) / Nat.gcd (k + 1) c)))) = true := by decide +kernel
theorem map_1 {α : Type} {o : Option (α × am_W)} {r : α} (h : o.map (fun q => q.1) = some r) (w : am_W) : o.map (fun q => (q.1, w)) = some (r, w) := by
  cases o with
  | none => cases h
  | some q => rw [Option.map_some] at h ⊢; rw [Option.some.inj h]
theorem S_cdv {k c : Nat} (hk : 0 < k) (hk2 : k ≤ 40) (hc : c ≤ 40) {w : am_W} : F_Loc_commonDivisor (nI k) (nI c) w = some (nI (Nat.gcd k c), w) := by
  obtain ⟨k, rfl⟩ : ∃ j, k = j + 1 := ⟨k - 1, by omega⟩
  have h := of_decide_eq_true (List.all_eq_true.mp (List.all_eq_true.mp cdv_all k (List.mem_range.mpr (by omega))) c (List.mem_range.mpr (by omega)))
  exact (cdv_w am_NF _ _ _ w).trans (map_1 h w)
theorem D_low {k c p : Nat} (hk : 0 < k) (hk2 : k ≤ 40) (hc : c ≤ 40) (hp : p < 2) {w : am_W} : F_Mod_lowest (lN c) (lN k) (nI p) w = some (lN ((bif Nat.beq p 0 then c else k) / Nat.gcd k c), w) := by
  obtain ⟨k, rfl⟩ : ∃ j, k = j + 1 := ⟨k - 1, by omega⟩
  have h := of_decide_eq_true (List.all_eq_true.mp (List.all_eq_true.mp (List.all_eq_true.mp low_all k (List.mem_range.mpr (by omega))) c (List.mem_range.mpr (by omega))) p (List.mem_range.mpr hp))
  refine Eq.trans ?_ (map_1 h w)
  unfold F_Mod_lowest
  by_cases h1 : lg_cmp (lN c) (lN 0) = 0
  · rw [if_pos h1, if_pos h1]; rfl
  · rw [if_neg h1, if_neg h1]; exact low_w am_NF _ _ _ _ _ w
theorem cnt_le (p : Nat → Bool) : ∀ n, cnt p n ≤ n
  | 0 => Nat.le_refl 0
  | n + 1 => by
    have := cnt_le p n
    rw [cnt]
    cases p n
    · show cnt p n + 0 ≤ _; omega
    · show cnt p n + 1 ≤ _; omega
/-- a seed with which one goes by an hour -/
def hit (n m : Nat) (v : am_V) (s g x t y i : Nat) : Bool := am_in (hoA n m v s (dr (x + i)) g t) (y + 1)
section
variable {n m g s : Nat} {v : am_V} {w : am_W}
theorem S_odds (hV : VI n m v) (hC : CC n m g s v w) (hg : g < 2 ^ n) {x K p t y : Nat} (hx : x < 100000) (hK : 0 < K) (hK2 : K ≤ 40) (hp : p < 2) (ht : t < n) (hy : y < 24) : ∀ (d i k : Nat) (w1 : am_W), i + d = K → d < k → KP w w1 → ∃ w2, L_Loc_odds_80 k (nI x) (nI K) (nI p) (nI t) (nI y) (nI (cnt (hit n m v s g x t y) i)) (nI i) w1 = some (lN ((bif Nat.beq p 0 then cnt (hit n m v s g x t y) K else K) / Nat.gcd K (cnt (hit n m v s g x t y) K)), w2) ∧ KP w w2 := by
  have hn := hV.1
  intro d
  induction d with
  | zero =>
    intro i k w1 hi hk kp
    obtain ⟨k, rfl⟩ : ∃ j, k = j + 1 := ⟨k - 1, by omega⟩
    have hc := cnt_le (hit n m v s g x t y) K
    have hd : 0 < Nat.gcd K (cnt (hit n m v s g x t y) K) := Nat.gcd_pos_of_pos_left _ hK
    have hd2 : Nat.gcd K (cnt (hit n m v s g x t y) K) ≤ 40 := Nat.le_trans (Nat.gcd_le_left _ hK) hK2
    refine ⟨w1, ?_, kp⟩
    rw [show i = K from hi]
    show F_Loc_odds_80 _ _ _ _ _ _ _ _ _ = _
    unfold F_Loc_odds_80 F_Loc_odds_176
    have q1 : cnt (hit n m v s g x t y) K / Nat.gcd K (cnt (hit n m v s g x t y) K) ≤ 40 := Nat.le_trans (Nat.div_le_self _ _) (by omega)
    have q2 : K / Nat.gcd K (cnt (hit n m v s g x t y) K) ≤ 40 := Nat.le_trans (Nat.div_le_self _ _) (by omega)
    rw [ile_t (Nat.le_refl _) (by omega), S_cdv hK hK2 (by omega), bn_s]
    dsimp only
    rw [iz_f hd (by omega), iz_f hd (by omega), pk_div (by omega) hd (by omega), pk_div (by omega) hd (by omega), nI_l (by omega), nI_l (by omega), iz_b (by omega)]
    cases Nat.beq p 0 <;> rfl
  | succ d ih =>
    intro i k w1 hi hk kp
    obtain ⟨k, rfl⟩ : ∃ j, k = j + 1 := ⟨k - 1, by omega⟩
    obtain ⟨w2, w3, e2, e3, k3, r3⟩ := S_lot hV (CC_fr rfl kp hC) hg (x := x + i) (by omega)
    have kp3 : KP w w3 := KP_t kp k3
    show ∃ w2, F_Loc_odds_80 _ _ _ _ _ _ _ _ _ = _ ∧ _
    unfold F_Loc_odds_80 F_Loc_odds_143
    simp (disch := omega) only [nI_clamp, am_ckI, ile_t, ile_f, ilt_t, ilt_f, ieq_t, ieq_f, iz_t, iz_f, ilz_f, nI_add, e2, e3, Option.bind_some, am_ltU, am_ckT, cond_true, cond_false, bi_ite, ck_bi, ite_T, ite_F, r3, hh_lt (hoA_h t)]
    rcases hoA_h (n := n) (m := m) (v := v) (s := s) (cm := dr (x + i)) (g := g) t with h2 | ⟨z, hz, h2⟩
    · have h3 : hit n m v s g x t y i = false := by
        unfold hit
        rw [h2]
        exact Bool.eq_false_iff.mpr (fun q => by have := (in_iff.mp q).1; rw [m1_ti] at this; omega)
      rw [if_pos h2]
      have := ih (i + 1) k w3 (by omega) (by omega) kp3
      rw [cnt_n h3] at this
      exact this
    · rw [if_neg (fun q => by
        have := congrArg Int32.toInt (h2.symm.trans q)
        rw [nI_toInt (by omega), m1_ti] at this; omega), h2]
      by_cases h4 : z < y + 1
      · have h3 : hit n m v s g x t y i = true := by unfold hit; rw [h2, in_nI h4 (by omega)]
        rw [ilt_f (by omega) (by omega)]
        have := ih (i + 1) k w3 (by omega) (by omega) kp3
        rw [cnt_s h3] at this
        exact this
      · have h3 : hit n m v s g x t y i = false := by
          unfold hit
          rw [h2]
          exact Bool.eq_false_iff.mpr (fun q => by have := (in_iff.mp q).2; rw [nI_toInt (by omega)] at this; omega)
        rw [ilt_t (by omega) (by omega)]
        have := ih (i + 1) k w3 (by omega) (by omega) kp3
        rw [cnt_n h3] at this
        exact this
theorem D_odds (hV : VI n m v) (hM : MM n m g s v w) {x K p z : Nat} (hx : x < 100000) (hK : 0 < K) (hK2 : K ≤ 40) (hp : p < 2) (hz : z < 2 ^ 31) (ht : z / 100 < n) : ∀ (d i k : Nat) (w1 : am_W), i + d = K → d < k → KP w w1 → ∃ w2, L_Mod_odds_78 k (nI x) (nI K) (nI z) (nI p) (lN (cnt (hit n m v s g x (z / 100) (z % 100)) i)) (nI i) w1 = some (lN ((bif Nat.beq p 0 then cnt (hit n m v s g x (z / 100) (z % 100)) K else K) / Nat.gcd K (cnt (hit n m v s g x (z / 100) (z % 100)) K)), w2) ∧ KP w w2 := by
  have hn := hV.1
  intro d
  induction d with
  | zero =>
    intro i k w1 hi hk kp
    obtain ⟨k, rfl⟩ : ∃ j, k = j + 1 := ⟨k - 1, by omega⟩
    have hc := cnt_le (hit n m v s g x (z / 100) (z % 100)) K
    refine ⟨w1, ?_, kp⟩
    rw [show i = K from hi]
    show F_Mod_odds_78 _ _ _ _ _ _ _ _ = _
    unfold F_Mod_odds_78
    rw [ile_t (Nat.le_refl _) (by omega), nI_l (by omega), D_low hK hK2 (by omega) hp, bn_s]
  | succ d ih =>
    intro i k w1 hi hk kp
    obtain ⟨k, rfl⟩ : ∃ j, k = j + 1 := ⟨k - 1, by omega⟩
    obtain ⟨w3, e3, k3, r3⟩ := D_lot hV (MM_fr rfl kp hM) (x := x + i) (by omega)
    have kp3 : KP w w3 := KP_t kp k3
    have hy : z % 100 < 100 := Nat.mod_lt _ (by omega)
    show ∃ w2, F_Mod_odds_78 _ _ _ _ _ _ _ _ = _ ∧ _
    unfold F_Mod_odds_78 F_Mod_odds_119
    rw [ile_f (by omega) (by omega), nI_add, e3, bn_s]
    rw [pk_rem hz (by omega) (by omega), pk_div hz (by omega) (by omega), in_nI (by omega) (by omega), am_ckT, nI_clamp (by omega), r3 _ (by omega), D_in0 (by omega), bn_s]
    have := ih (i + 1) k w3 (by omega) (by omega) kp3
    cases h3 : hit n m v s g x (z / 100) (z % 100) i with
    | true =>
      rw [cnt_s h3] at this
      unfold hit at h3
      dsimp only
      rw [h3, bi_ite, cond_true, lN_add, nI_add]
      exact this
    | false =>
      rw [cnt_n h3] at this
      unfold hit at h3
      dsimp only
      rw [h3, bi_ite, cond_false, lN_add, nI_add]
      exact this
end
theorem B_odds (a b c d : Int32) : BOTHL (F_Loc_odds a b c d) (F_Mod_odds a b c d) := BOTHL_q (fun {n m g s T f v te tc w} hq => by
  obtain ⟨hV, hg, hs, hC, hM, hT, hX, hS, hP, hI, hA⟩ := id hq
  have hn := hV.1
  have NOT : ∀ w2, F_Mod_odds_60 a b c d w2 = some (-lN 4611686018427387904, w2) := fun w2 => rfl
  cases h1 : am_in a 100000 with
  | false =>
    refine ⟨-lN 4611686018427387904, w, w, ?_, ?_, KP_r w⟩
    · unfold F_Loc_odds F_Loc_odds_30
      by_cases h3 : a < 0
      · rw [if_pos h3]
      · rw [if_neg h3, if_pos]
        refine Classical.byContradiction fun h4 => ?_
        have h5 : am_in a 100000 = true := in_iff.mpr ⟨by rw [Int32.lt_iff_toInt_lt, ti_0] at h3; omega, by rw [Int32.lt_iff_toInt_lt, nI_toInt (by omega)] at h4; omega⟩
        rw [h1] at h5; cases h5
    · unfold F_Mod_odds
      rw [D_in0 (k := 99999) (by omega), h1, bn_s]
      exact (if_pos rfl).trans (NOT w)
  | true =>
    obtain ⟨x, hx, rfl⟩ := in_ex h1 (by omega)
    by_cases h2 : 1 ≤ b.toInt ∧ b.toInt ≤ 40
    · obtain ⟨K, hK⟩ : ∃ K : Nat, b.toInt = (K : Int) := ⟨b.toInt.toNat, by omega⟩
      have hb := nI_ti hK (by omega)
      subst hb
      have hK1 : 0 < K := by omega
      have hK2 : K ≤ 40 := by omega
      have hmb : ∀ w2, F_Mod_in (nI K) (nI 1) (nI 40) w2 = some (bi true, w2) := fun w2 => by
        rw [D_inG, nI_toInt (by omega), nI_toInt (by omega), nI_toInt (by omega), decide_eq_true (by omega)]
      by_cases h3 : c < 0
      · refine ⟨-lN 4611686018427387904, w, w, ?_, ?_, KP_r w⟩
        · unfold F_Loc_odds F_Loc_odds_30 F_Loc_odds_70
          simp (disch := omega) only [nI_clamp, am_ckI, ile_t, ile_f, ilt_t, ilt_f, ieq_t, ieq_f, iz_t, iz_f, ilz_f, nI_add, S_isEither, Option.bind_some, am_ltU, am_ckT, cond_true, cond_false, bi_ite, ck_bi, ite_T, ite_F]
          rw [if_pos h3]
          cases am_in d 2 <;> rfl
        · unfold F_Mod_odds
          rw [D_in0 (k := 99999) (by omega), h1, bn_s, bi_ite, cond_true, hmb, bn_s, bi_ite, cond_true, if_pos h3]
          rfl
      · obtain ⟨z, hz⟩ : ∃ z : Nat, c.toInt = (z : Int) := ⟨c.toInt.toNat, by rw [Int32.lt_iff_toInt_lt, ti_0] at h3; omega⟩
        have hz2 : z < 2 ^ 31 := by have := Int32.toInt_lt c; omega
        have hc := nI_ti hz hz2
        subst hc
        have hy : z % 100 < 100 := Nat.mod_lt _ (by omega)
        have hS : F_Loc_odds (nI x) (nI K) (nI z) d w = bif am_in d 2 && (am_in (nI (z / 100)) n && am_in (nI (z % 100)) 24) then L_Loc_odds_80 am_NF (nI x) (nI K) d (nI (z / 100)) (nI (z % 100)) (nI 0) (nI 0) w else some (-lN 4611686018427387904, w) := by
          unfold F_Loc_odds F_Loc_odds_30 F_Loc_odds_70
          simp (disch := omega) only [nI_clamp, am_ckI, ile_t, ile_f, ilt_t, ilt_f, ieq_t, ieq_f, iz_t, iz_f, ilz_f, nI_add, S_isEither, Option.bind_some, am_ltU, am_ckT, cond_true, cond_false, bi_ite, ck_bi, ite_T, ite_F]
          rw [pk_rem hz2 (by omega) (by omega), pk_div hz2 (by omega) (by omega), S_isThing hV hC, bn_s, S_isHour, bn_s, bi_ite, bi_ite]
          cases am_in d 2 <;> cases am_in (nI (z / 100)) n <;> cases am_in (nI (z % 100)) 24 <;> rfl
        have hD : ∀ w2, MM n m g s v w2 → F_Mod_odds (nI x) (nI K) (nI z) d w2 = bif am_in d 2 && (am_in (nI (z / 100)) n && am_in (nI (z % 100)) 24) then L_Mod_odds_78 am_NF (nI x) (nI K) (nI z) d (lN 0) (nI 0) w2 else some (-lN 4611686018427387904, w2) := fun w2 hM2 => by
          unfold F_Mod_odds
          rw [D_in0 (k := 99999) (by omega), h1, bn_s, bi_ite, cond_true, hmb, bn_s, bi_ite, cond_true, if_neg h3, pk_rem hz2 (by omega) (by omega), pk_div hz2 (by omega) (by omega), D_isThing hV hM2, bn_s, D_isHour, bn_s, bi_ite, bi_ite, D_in0 (k := 1) (by omega), bn_s, bi_ite]
          cases am_in d 2 <;> cases am_in (nI (z / 100)) n <;> cases am_in (nI (z % 100)) 24 <;> rfl
        rw [hS]
        cases h4 : am_in d 2 && (am_in (nI (z / 100)) n && am_in (nI (z % 100)) 24) with
        | false =>
          refine ⟨_, _, w, rfl, ?_, KP_r w⟩
          rw [hD w hM, h4]
          rfl
        | true =>
          rw [Bool.and_eq_true, Bool.and_eq_true] at h4
          obtain ⟨p, hp, rfl⟩ := in_ex h4.1 (by omega)
          obtain ⟨t, ht, et⟩ := in_ex h4.2.1 (by omega)
          obtain ⟨y, hy2, ey⟩ := in_ex h4.2.2 (by omega)
          have et := (nI_eq (by omega) (by omega)).mp et
          have ey := (nI_eq (by omega) (by omega)).mp ey
          rw [cond_true]
          obtain ⟨w2, e2, kp2⟩ := S_odds hV hC hg hx hK1 hK2 hp (t := z / 100) (y := z % 100) (by omega) (by omega) K 0 am_NF w (by omega) (by show K < 4000; omega) (KP_r w)
          have hM2 : MM n m g s v w2 := MM_fr rfl kp2 hM
          obtain ⟨w3, e3, kp3⟩ := D_odds hV hM2 hx hK1 hK2 hp hz2 (by omega) K 0 am_NF w2 (by omega) (by show K < 4000; omega) (KP_r w2)
          refine ⟨_, w2, w3, e2, ?_, KP_t kp2 kp3⟩
          rw [hD w2 hM2, h4.1, h4.2.1, h4.2.2]
          exact e3
    · refine ⟨-lN 4611686018427387904, w, w, ?_, ?_, KP_r w⟩
      · unfold F_Loc_odds F_Loc_odds_30
        rw [ilz_f (by omega), ilt_f (by omega) (by omega)]
        by_cases h3 : b < nI 1
        · rw [if_pos h3]
        · rw [if_neg h3, if_pos]
          refine Classical.byContradiction fun h4 => h2 ?_
          rw [Int32.lt_iff_toInt_lt, nI_toInt (by omega)] at h3 h4
          omega
      · unfold F_Mod_odds
        rw [D_in0 (k := 99999) (by omega), h1, bn_s, bi_ite, cond_true, D_inG, nI_toInt (by omega), nI_toInt (by omega), decide_eq_false (by omega), bn_s, bi_ite, cond_false]
        exact NOT w)
