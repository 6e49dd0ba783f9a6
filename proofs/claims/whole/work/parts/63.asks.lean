/-! ===== asks, saw, out, theft, loot ===== -/
/-- what the class's side, what the model's side tells -/
def SB (n m g s T f : Nat) (v : am_V) (te tc : Nat → Nat → Nat) (w : am_W) : Prop := VI n m v ∧ g < 2 ^ n ∧ CC n m g s v w ∧ TS T f w ∧ TX T te tc w
def DB (n m g s T f : Nat) (v : am_V) (te tc : Nat → Nat → Nat) (w : am_W) : Prop := VI n m v ∧ g < 2 ^ n ∧ s < 2 ^ m ∧ MM n m g s v w ∧ TD T f w ∧ TX T te tc w
def ofF (k mo : Nat) (q : Int32) : Int32 := match k with
  | 1 => nI 2 * q
  | 3 => if q = 0 then nI 0 else nI 2 * q + nI mo
  | 4 => nI 1
  | _ => q
theorem S_offBy {k mo : Nat} (hk : k < 6) (q : Int32) (w : am_W) : F_Kinds_offBy (nI k) (nI mo) q w = some (ofF k mo q, w) := by
  unfold F_Kinds_offBy F_Kinds_offBy_52 F_Kinds_offBy_49 ofF
  rw [nI_toInt (by omega)]
  match k, hk with
  | 0, _ => rfl
  | 1, _ => rfl
  | 2, _ => rfl
  | 3, _ =>
    by_cases h : q = 0
    · rw [if_pos h, if_pos h]; rfl
    · rw [if_neg h, if_neg h]; rfl
  | 4, _ => rfl
  | 5, _ => rfl
/-- OFF -/
def pr (v : am_V) (te tc : Nat → Nat → Nat) (f t l : Nat) : Int32 := ofF (v 1 t) (v 2 t) (sy v te tc f 0 t (some l) 0)
section
variable {n m g s T f : Nat} {v : am_V} {te tc : Nat → Nat → Nat} {w w2 : am_W}
theorem SB_kp (k : KP w w2) (h : SB n m g s T f v te tc w) : SB n m g s T f v te tc w2 := ⟨h.1, h.2.1, CC_fr rfl k h.2.2.1, TS_fr rfl k h.2.2.2.1, TX_fr rfl k h.2.2.2.2 h.2.2.2.1.1⟩
theorem DB_kp (k : KP w w2) (h : DB n m g s T f v te tc w) : DB n m g s T f v te tc w2 := ⟨h.1, h.2.1, h.2.2.1, MM_fr rfl k h.2.2.2.1, TD_fr rfl k h.2.2.2.2.1, TX_fr rfl k h.2.2.2.2.2 h.2.2.2.2.1.1⟩
theorem SB_q (hq : RQ n m g s T f v te tc w) : SB n m g s T f v te tc w := by
  obtain ⟨hV, hg, hs, hC, hM, hT, hX, hS, hP, hI, hA⟩ := hq
  exact ⟨hV, hg, hC, ⟨hT.1, hT.2.1, hT.2.2.2.1⟩, hX⟩
theorem DB_q (hq : RQ n m g s T f v te tc w) : DB n m g s T f v te tc w := by
  obtain ⟨hV, hg, hs, hC, hM, hT, hX, hS, hP, hI, hA⟩ := hq
  exact ⟨hV, hg, hs, hM, ⟨hT.1, hT.2.1, hT.2.2.2.2.2⟩, hX⟩
theorem S_say (hb : SB n m g s T f v te tc w) {u p t h : Nat} {lo : Option Nat} (hu : u < T) (hp : p < 3) (ht : t < n) (hl : ∀ l, lo = some l → l < m) : ∃ w2, F_Law_says (nI u) (nI p) (nI t) (lk lo) (nI h) w = some (sy v te tc u p t lo h, w2) ∧ KP w w2 := by
  obtain ⟨w2, e, k⟩ := S_says hb.1 hb.2.2.1 hb.2.2.2.2 hb.2.2.2.1.1 (h := h) hu hp ht hl
  exact ⟨w2, e, KP_34 k⟩
theorem D_ask (hb : DB n m g s T f v te tc w) {p t h : Nat} {lo : Option Nat} (hp : p < 3) (ht : t < n) (hl : ∀ l, lo = some l → l < m) : ∃ w2, F_Mod_asksOf (nI p) (nI t) (lk lo) (nI h) w = some (sy v te tc f p t lo h, w2) ∧ KP w w2 := by
  obtain ⟨w2, e, k⟩ := D_asks hb.1 hb.2.2.2.1 hb.2.2.2.2.2 hb.2.2.2.2.1 (h := h) hp ht hl
  exact ⟨w2, e, KP_68 k⟩
theorem S_pris (hb : SB n m g s T f v te tc w) {t l : Nat} (ht : t < n) (hl : l < m) : ∃ w2, F_Law_prising (nI t) (nI l) w = some (pr v te tc f t l, w2) ∧ KP w w2 := by
  have hn := hb.1.1
  obtain ⟨w2, e, k⟩ := S_say hb (u := f) (p := 0) (t := t) (h := 0) (lo := some l) hb.2.2.2.1.2.1 (by omega) ht (fun j hj => by cases hj; exact hl)
  obtain ⟨c1, c2, c3⟩ := hb.2.2.1.2.2.2.2.2.1 t ht
  have k1 := (hb.1.2.2.1 t ht).1
  refine ⟨w2, ?_, k⟩
  have e : F_Law_says (nI f) (nI 0) (nI t) (nI l) (nI 0) w = _ := e
  unfold F_Law_prising
  simp (disch := omega) only [hb.2.2.2.1.2.2, nI_clamp, am_ckI, ile_t, ile_f, ilt_t, ilt_f, ieq_t, ieq_f, iz_t, iz_f, ilz_f, nI_add, bn_V, am_ltV, am_ckV, cond_V1, cond_V0, bi_ite, ck_bi, ite_T, ite_F, e, c1, c2, S_offBy]
  rfl
theorem D_off (hb : DB n m g s T f v te tc w) {t l : Nat} (ht : t < n) (hl : l < m) : ∃ w2, F_Mod_offBy (nI t) (nI l) w = some (pr v te tc f t l, w2) ∧ KP w w2 := by
  have hn := hb.1.1
  obtain ⟨w2, e, k⟩ := D_ask hb (p := 0) (t := t) (h := 0) (lo := some l) (by omega) ht (fun j hj => by cases hj; exact hl)
  have hb2 := DB_kp k hb
  obtain ⟨c1, c2, c3⟩ := hb2.2.2.2.1.2.2.2.2.1 t ht
  have k1 := (hb.1.2.2.1 t ht).1
  refine ⟨w2, ?_, k⟩
  have e : F_Mod_asksOf (nI 0) (nI t) (nI l) (nI 0) w = _ := e
  have h9 := S_offBy k1 (mo := v 2 t) (sy v te tc f 0 t (some l) 0) w2
  unfold F_Kinds_offBy F_Kinds_offBy_52 F_Kinds_offBy_49 at h9
  unfold F_Mod_offBy F_Mod_offBy_69 F_Mod_offBy_66
  simp (disch := omega) only [nI_clamp, am_ckI, ile_t, ile_f, ilt_t, ilt_f, ieq_t, ieq_f, iz_t, iz_f, ilz_f, nI_add, bn_V, am_ltV, am_ckV, cond_V1, cond_V0, bi_ite, ck_bi, ite_T, ite_F, e, c1, c2]
  exact h9
end
theorem in_T {α : Type} {p k : Nat} {x y : α} (hk : k < 2 ^ 30) (h : p ≤ k) : (if nI p < 0 then x else if nI k < nI p then x else y) = y := by
  rw [ilz_f (by omega), ilt_f h (by omega)]
theorem B_asks (a b c d : Int32) : BOTH (F_Loc_asks a b c d) (F_Mod_asks a b c d) := BOTH_q (fun {n m g s T f v te tc w} hq => by
  obtain ⟨hV, hg, hs, hC, hM, hT, hX, hS, hP, hI, hA⟩ := id hq
  have hn := hV.1
  have hm := hV.2.1
  have hSb := SB_q hq
  have hDb := DB_q hq
  have same : F_Loc_asks a b c d w = some (-nI 2, w) → F_Mod_asks a b c d w = some (-nI 2, w) → ∃ (r : Int32) (w1 w2 : am_W), F_Loc_asks a b c d w = some (r, w1) ∧ F_Mod_asks a b c d w1 = some (r, w2) ∧ KP w w2 := fun h1 h2 => ⟨_, w, w, h1, h2, KP_r w⟩
  cases ha : am_in a 3 with
  | false =>
    refine same ?_ ?_
    · unfold F_Loc_asks F_Loc_asks_28
      rw [in_F (by omega) ha]
    · unfold F_Mod_asks F_Mod_asks_50 F_Mod_asks_52
      rw [D_in0 (k := 2) (by omega), ha]; rfl
  | true =>
    obtain ⟨p, hp, rfl⟩ := in_ex ha (by omega)
    have hDa : ∀ w2, F_Mod_in (nI p) (nI 0) (nI 2) w2 = some (bi true, w2) := fun w2 => by rw [D_in0 (k := 2) (by omega), ha]
    cases hb : am_in b n with
    | false =>
      refine same ?_ ?_
      · unfold F_Loc_asks F_Loc_asks_28
        rw [in_T (by omega) (by omega)]
        simp only [S_isThing hV hC, hb, bn_V, am_ltV, am_ckV, cond_V1, cond_V0, bi_ite, ck_bi, ite_T, ite_F]
      · unfold F_Mod_asks F_Mod_asks_50 F_Mod_asks_52
        simp only [hDa, D_isThing hV hM, hb, bn_V, am_ltV, am_ckV, cond_V1, cond_V0, bi_ite, ck_bi, ite_T, ite_F]
    | true =>
      obtain ⟨t, ht, rfl⟩ := in_ex hb (by omega)
      have go : ∀ lo : Option Nat, (∀ l, lo = some l → l < m) → lk lo = c → ∃ (r : Int32) (w1 w2 : am_W), F_Loc_asks (nI p) (nI t) c d w = some (r, w1) ∧ F_Mod_asks (nI p) (nI t) c d w1 = some (r, w2) ∧ KP w w2 := fun lo hlo hc => by
        have hmod : ∀ w2, DB n m g s T f v te tc w2 → F_Mod_asks (nI p) (nI t) c d w2 = F_Mod_asks_30 (nI p) (nI t) c d w2 := fun w2 h2 => by
          unfold F_Mod_asks
          simp only [hDa, D_isThing h2.1 h2.2.2.2.1, hb, bn_V, am_ltV, am_ckV, cond_V1, cond_V0, bi_ite, ck_bi, ite_T, ite_F, D_isLock h2.1 h2.2.2.2.1]
          match lo, hlo, hc with
          | none, _, hc => rw [← hc]; exact if_pos rfl
          | some l, hlo, hc =>
            rw [← hc]
            have hl := hlo l rfl
            show (if nI l = -nI 1 then _ else bif am_in (nI l) m then _ else _) = _
            rw [if_neg (m1_ne (by omega)), in_nI hl (by omega)]; rfl
        have hcls : F_Loc_asks (nI p) (nI t) c d w = bif am_in d 24 then F_Loc_asks_50 (nI p) (nI t) c d w else some (-nI 2, w) := by
          unfold F_Loc_asks F_Loc_asks_28
          rw [in_T (by omega) (by omega)]
          simp only [S_isThing hV hC, hb, bn_V, am_ltV, am_ckV, cond_V1, cond_V0, bi_ite, ck_bi, ite_T, ite_F, S_isHour, S_isLock hV hC]
          cases am_in d 24 with
          | false => rfl
          | true =>
            match lo, hlo, hc with
            | none, _, hc => rw [cond_true, cond_true, ← hc]; exact if_pos rfl
            | some l, hlo, hc =>
              rw [cond_true, cond_true, ← hc]
              have hl := hlo l rfl
              show (if nI l = -nI 1 then _ else bif am_in (nI l) m then _ else _) = _
              rw [if_neg (m1_ne (by omega)), in_nI hl (by omega)]
              try rfl
        rw [hcls]
        cases hd : am_in d 24 with
        | false =>
          refine ⟨-nI 2, w, w, rfl, ?_, KP_r w⟩
          rw [hmod w hDb]
          unfold F_Mod_asks_30 F_Mod_asks_50 F_Mod_asks_52
          rw [D_isHour, hd]; rfl
        | true =>
          obtain ⟨h, hh, rfl⟩ := in_ex hd (by omega)
          obtain ⟨w1, e1, k1⟩ := S_say hSb (u := f) (p := p) (t := t) (h := h) (lo := lo) hT.2.1 hp ht hlo
          obtain ⟨w2, e2, k2⟩ := D_ask (DB_kp k1 hDb) (p := p) (t := t) (h := h) (lo := lo) hp ht hlo
          rw [hc] at e1 e2
          refine ⟨sy v te tc f p t lo h, w1, w2, ?_, ?_, KP_t k1 k2⟩
          · rw [cond_true]
            unfold F_Loc_asks_50
            rw [hT.2.2.2.1, e1, bn_s]
          · rw [hmod w1 (DB_kp k1 hDb)]
            unfold F_Mod_asks_30 F_Mod_asks_52
            rw [D_isHour, hd, bn_s, bi_ite, cond_true]
            dsimp only
            rw [e2, bn_s]
      by_cases hc : c = -nI 1
      · exact go none (fun l h => by cases h) hc.symm
      · cases hcm : am_in c m with
        | true =>
          obtain ⟨l, hl, rfl⟩ := in_ex hcm (by omega)
          exact go (some l) (fun j hj => by cases hj; exact hl) rfl
        | false =>
          refine same ?_ ?_
          · unfold F_Loc_asks F_Loc_asks_28
            rw [in_T (by omega) (by omega)]
            simp only [S_isThing hV hC, hb, bn_V, am_ltV, am_ckV, cond_V1, cond_V0, bi_ite, ck_bi, ite_T, ite_F, S_isHour, S_isLock hV hC, hcm]
            rw [if_neg hc]
            cases am_in d 24 <;> rfl
          · unfold F_Mod_asks F_Mod_asks_50 F_Mod_asks_52
            simp only [hDa, D_isThing hV hM, hb, bn_V, am_ltV, am_ckV, cond_V1, cond_V0, bi_ite, ck_bi, ite_T, ite_F, D_isLock hV hM, hcm]
            rw [if_neg hc])
/-! saw -/
theorem CC_s {n m g s : Nat} {v : am_V} {w : am_W} (hC : CC n m g s v w) (h : Nat) : CC n m g h v (wsf w 1 3 (nI h)) := ⟨hC.1, hC.2.1, hC.2.2.1, rfl, hC.2.2.2.2.1, hC.2.2.2.2.2.1, hC.2.2.2.2.2.2⟩
/-- what saws says of a lock and its owner's thing -/
def sw (v : am_V) (te tc : Nat → Nat → Nat) (u l : Nat) : Int32 := sy v te tc u 1 (v 4 l) (some l) 0
section
variable {n m g s T f : Nat} {v : am_V} {te tc : Nat → Nat → Nat} {w w2 : am_W}
theorem S_sawing (hb : SB n m g s T f v te tc w) {u l : Nat} (hu : u < T) (hl : l < m) : ∃ w2, F_Law_sawing (nI u) (nI l) w = some (sw v te tc u l, w2) ∧ KP w w2 := by
  have hm := hb.1.2.1
  obtain ⟨w2, e, k⟩ := S_say hb (u := u) (p := 1) (t := v 4 l) (h := 0) (lo := some l) hu (by omega) (hb.1.2.2.2 l hl).1 (fun j hj => by cases hj; exact hl)
  refine ⟨w2, ?_, k⟩
  have e : F_Law_says (nI u) (nI 1) (nI (v 4 l)) (nI l) (nI 0) w = _ := e
  unfold F_Law_sawing
  simp (disch := omega) only [nI_clamp, am_ckI, ile_t, ile_f, ilt_t, ilt_f, ieq_t, ieq_f, iz_t, iz_f, ilz_f, nI_add, bn_V, am_ltV, am_ckV, cond_V1, cond_V0, bi_ite, ck_bi, ite_T, ite_F, (hb.2.2.1.2.2.2.2.2.2 l hl).1, e]
  rfl
theorem D_sawsOf (hb : DB n m g s T f v te tc w) {l : Nat} (hl : l < m) : ∃ w2, F_Mod_sawsOf (nI l) w = some (sw v te tc f l, w2) ∧ KP w w2 := by
  have hm := hb.1.2.1
  obtain ⟨w2, e, k⟩ := D_ask hb (p := 1) (t := v 4 l) (h := 0) (lo := some l) (by omega) (hb.1.2.2.2 l hl).1 (fun j hj => by cases hj; exact hl)
  refine ⟨w2, ?_, k⟩
  have e : F_Mod_asksOf (nI 1) (nI (v 4 l)) (nI l) (nI 0) w = _ := e
  unfold F_Mod_sawsOf
  simp (disch := omega) only [nI_clamp, am_ckI, ile_t, ile_f, ilt_t, ilt_f, ieq_t, ieq_f, iz_t, iz_f, ilz_f, nI_add, bn_V, am_ltV, am_ckV, cond_V1, cond_V0, bi_ite, ck_bi, ite_T, ite_F, D_owner hb.1 hb.2.2.2.1 hl, e]
  rfl
end
theorem B_saw (a : Int32) : BOTH (F_Loc_saw a) (F_Mod_saw a) := fun w ⟨n, m, g, s, T, f, v, te, tc, hq⟩ => by
  have same : ∀ r, F_Loc_saw a w = some (r, w) → F_Mod_saw a w = some (r, w) → ∃ (r : Int32) (w1 w2 : am_W), F_Loc_saw a w = some (r, w1) ∧ F_Mod_saw a w1 = some (r, w2) ∧ RR w2 := fun r h1 h2 => ⟨r, w, w, h1, h2, n, m, g, s, T, f, v, te, tc, hq⟩
  obtain ⟨hV, hg, hs, hC, hM, hT, hX, hS, hP, hI, hA⟩ := id hq
  have hm := hV.2.1
  cases ha : am_in a m with
  | false =>
    refine same (-nI 5) ?_ ?_
    · unfold F_Loc_saw
      simp only [S_isLock hV hC, ha, bn_V, am_ltV, am_ckV, cond_V1, cond_V0, bi_ite, ck_bi, ite_T, ite_F]
    · unfold F_Mod_saw
      simp only [D_isLock hV hM, ha, bn_V, am_ltV, am_ckV, cond_V1, cond_V0, bi_ite, ck_bi, ite_T, ite_F]
  | true =>
    obtain ⟨l, hl, rfl⟩ := in_ex ha (by omega)
    cases h1 : shu v g s l with
    | false =>
      refine same (-nI 3) ?_ ?_
      · unfold F_Loc_saw
        simp only [S_isLock hV hC, ha, bn_V, am_ltV, am_ckV, cond_V1, cond_V0, bi_ite, ck_bi, ite_T, ite_F, S_isShut hV hC hl, h1]
      · unfold F_Mod_saw
        simp only [D_isLock hV hM, ha, bn_V, am_ltV, am_ckV, cond_V1, cond_V0, bi_ite, ck_bi, ite_T, ite_F, D_isShut hV hM hl, h1]
    | true =>
      have hs2 : s ||| 2 ^ l < 2 ^ m := or_lt hs (Nat.pow_lt_pow_right (by omega) hl)
      have hC1 := CC_s hC (s ||| 2 ^ l)
      have hS1 : SB n m g (s ||| 2 ^ l) T f v te tc (wsf w 1 3 (nI (s ||| 2 ^ l))) := ⟨hV, hg, hC1, ⟨hT.1, hT.2.1, hT.2.2.2.1⟩, TX_fr (A := fun a => Nat.beq a 1) rfl (FRA_sf rfl) hX hT.1⟩
      obtain ⟨w2, e2, k2⟩ := S_sawing hS1 hT.2.1 hl
      have f1 : FRA (fun a => Nat.ble a 1) w w2 := FRA_t (FRA_sf rfl) (FRA_m (fun i h => by cases i with | zero => cases h | succ i => rfl) k2)
      have hM2 : MM n m g s v w2 := MM_fr (A := fun a => Nat.beq a 0) rfl k2 hM
      have hM3 := MM_s hM2 (s ||| 2 ^ l)
      have hC2 : CC n m g (s ||| 2 ^ l) v w2 := CC_fr rfl k2 hC1
      have hC3 : CC n m g (s ||| 2 ^ l) v (wsf w2 53 7 (nI (s ||| 2 ^ l))) := hC2
      have f2 : FRA (fun a => Nat.ble a 1) w (wsf w2 53 7 (nI (s ||| 2 ^ l))) := FRA_t f1 (FRA_sf rfl)
      have hD3 : DB n m g (s ||| 2 ^ l) T f v te tc (wsf w2 53 7 (nI (s ||| 2 ^ l))) := ⟨hV, hg, hs2, hM3, TD_fr rfl f2 ⟨hT.1, hT.2.1, hT.2.2.2.2.2⟩, TX_fr rfl f2 hX hT.1⟩
      obtain ⟨w4, e4, k4⟩ := D_sawsOf hD3 hl
      refine ⟨sw v te tc f l, w2, w4, ?_, ?_, n, m, g, s ||| 2 ^ l, T, f, v, te, tc, RQ_rl (FRA_t f2 (FRA_m (fun i h => by cases i with | zero => cases h | succ i => rfl) k4)) hq hV hg hs2 (CC_fr rfl k4 hC3) (MM_fr rfl k4 hM3) hI⟩
      · have e9 : (wsf w 1 3 (nI (s ||| 2 ^ l))).1 17 2 = nI f := (wsf_nc rfl).trans hT.2.2.2.1
        unfold F_Loc_saw
        simp (disch := omega) only [S_isLock hV hC, ha, bn_V, am_ltV, am_ckV, cond_V1, cond_V0, bi_ite, ck_bi, ite_T, ite_F, S_isShut hV hC hl, h1, hC.2.2.2.1, s_one, nx_or, e9, e2]
      · unfold F_Mod_saw
        simp (disch := omega) only [D_isLock hV hM2, ha, bn_V, am_ltV, am_ckV, cond_V1, cond_V0, bi_ite, ck_bi, ite_T, ite_F, D_isShut hV hM2 hl, h1, hM2.2.2.2.1, s_one, nx_or, e4]
/-! out -/
def ouF (p : Nat → Bool) (x : Nat → Int32) : Nat → Nat → Int32 → Int32
  | 0, _, a => a
  | d + 1, i, a => bif p i then (if x i = 0 then -nI 1 else ouF p x d (i + 1) (a + x i)) else ouF p x d (i + 1) a
section
variable {n m g s T f : Nat} {v : am_V} {te tc : Nat → Nat → Nat} {w w2 : am_W}
theorem S_outL (hb : SB n m g s T f v te tc w) {t : Nat} (ht : t < n) {p : Nat → Bool} : ∀ (d i F : Nat) (a : Int32) (w1 : am_W), i + d = m → d < F → KP w w1 → ∃ w2, L_Loc_out_28 F (nI t) (mk p m) a (nI i) w1 = some (ouF p (pr v te tc f t) d i a, w2) ∧ KP w w2 := by
  have hm := hb.1.2.1
  intro d
  induction d with
  | zero =>
    intro i F a w1 hi hF k
    obtain ⟨F, rfl⟩ : ∃ j, F = j + 1 := ⟨F - 1, by omega⟩
    have hC1 := (SB_kp k hb).2.2.1
    refine ⟨w1, ?_, k⟩
    show F_Loc_out_28 _ _ _ _ _ _ = _
    unfold F_Loc_out_28
    simp (disch := omega) only [hC1.2.2.1, nI_clamp, am_ckI, ile_t, ile_f, ilt_t, ilt_f, ieq_t, ieq_f, iz_t, iz_f, ilz_f, nI_add, ouF]
  | succ d ih =>
    intro i F a w1 hi hF k
    obtain ⟨F, rfl⟩ : ∃ j, F = j + 1 := ⟨F - 1, by omega⟩
    have hb1 := SB_kp k hb
    have him : i < m := by omega
    show ∃ w2, F_Loc_out_28 _ _ _ _ _ _ = _ ∧ _
    unfold F_Loc_out_28 F_Loc_out_73
    simp (disch := omega) only [hb1.2.2.1.2.2.1, nI_clamp, am_ckI, ile_t, ile_f, ilt_t, ilt_f, ieq_t, ieq_f, iz_t, iz_f, ilz_f, nI_add, S_has, mk_b, decide_eq_true him, Bool.true_and, bn_V, am_ltV, am_ckV, cond_V1, cond_V0, bi_ite, ck_bi, ite_T, ite_F, ouF]
    cases p i with
    | false => exact ih (i + 1) F a w1 (by omega) (by omega) k
    | true =>
      obtain ⟨w2, e2, k2⟩ := S_pris hb1 ht him
      simp only [cond_true, e2, bn_V, am_ltV, am_ckV, cond_V1, cond_V0, bi_ite, ck_bi, ite_T, ite_F]
      by_cases h : pr v te tc f t i = 0
      · rw [if_pos h, if_pos h]; exact ⟨w2, rfl, KP_t k k2⟩
      · rw [if_neg h, if_neg h]; exact ih (i + 1) F _ w2 (by omega) (by omega) (KP_t k k2)
theorem D_outL (hb : DB n m g s T f v te tc w) {t : Nat} (ht : t < n) {p : Nat → Bool} : ∀ (d i F : Nat) (a : Int32) (w1 : am_W), i + d = m → d < F → KP w w1 → ∃ w2, L_Mod_out_22 F (nI t) (mk p m) a (nI i) w1 = some (ouF p (pr v te tc f t) d i a, w2) ∧ KP w w2 := by
  have hm := hb.1.2.1
  intro d
  induction d with
  | zero =>
    intro i F a w1 hi hF k
    obtain ⟨F, rfl⟩ : ∃ j, F = j + 1 := ⟨F - 1, by omega⟩
    have hM1 := (DB_kp k hb).2.2.2.1
    refine ⟨w1, ?_, k⟩
    show F_Mod_out_22 _ _ _ _ _ _ = _
    unfold F_Mod_out_22
    simp (disch := omega) only [hM1.2.2.1, nI_clamp, am_ckI, ile_t, ile_f, ilt_t, ilt_f, ieq_t, ieq_f, iz_t, iz_f, ilz_f, nI_add, ouF]
  | succ d ih =>
    intro i F a w1 hi hF k
    obtain ⟨F, rfl⟩ : ∃ j, F = j + 1 := ⟨F - 1, by omega⟩
    have hb1 := DB_kp k hb
    have him : i < m := by omega
    show ∃ w2, F_Mod_out_22 _ _ _ _ _ _ = _ ∧ _
    unfold F_Mod_out_22 F_Mod_out_62
    simp (disch := omega) only [hb1.2.2.2.1.2.2.1, nI_clamp, am_ckI, ile_t, ile_f, ilt_t, ilt_f, ieq_t, ieq_f, iz_t, iz_f, ilz_f, nI_add, b_has, bi1_ite, mk_b, decide_eq_true him, Bool.true_and, bn_V, am_ltV, am_ckV, cond_V1, cond_V0, bi_ite, ck_bi, ite_T, ite_F, ouF]
    cases p i with
    | false => exact ih (i + 1) F a w1 (by omega) (by omega) k
    | true =>
      obtain ⟨w2, e2, k2⟩ := D_off hb1 ht him
      simp only [cond_true, e2, bn_V, am_ltV, am_ckV, cond_V1, cond_V0, bi_ite, ck_bi, ite_T, ite_F]
      by_cases h : pr v te tc f t i = 0
      · rw [if_pos h, if_pos h]; exact ⟨w2, rfl, KP_t k k2⟩
      · rw [if_neg h, if_neg h]; exact ih (i + 1) F _ w2 (by omega) (by omega) (KP_t k k2)
end
theorem B_out (a : Int32) : BOTH (F_Loc_out a) (F_Mod_out a) := BOTH_q (fun {n m g s T f v te tc w} hq => by
  obtain ⟨hV, hg, hs, hC, hM, hT, hX, hS, hP, hI, hA⟩ := id hq
  have hn := hV.1
  have hm := hV.2.1
  unfold F_Loc_out
  simp only [S_isThing hV hC, bn_V, am_ltV, am_ckV, cond_V1, cond_V0, bi_ite, ck_bi, ite_T, ite_F]
  cases h : am_in a n with
  | false =>
    refine ⟨_, _, w, rfl, ?_, KP_r w⟩
    unfold F_Mod_out
    simp only [D_isThing hV hM, h, bn_V, am_ltV, am_ckV, cond_V1, cond_V0, bi_ite, ck_bi, ite_T, ite_F]
  | true =>
    obtain ⟨t, ht, rfl⟩ := in_ex h (by omega)
    obtain ⟨w1, e1, k1⟩ := S_outL (SB_q hq) ht (p := ho v g s t) m 0 am_NF (nI 0) w (by omega) (by show m < 4000; omega) (KP_r w)
    have hM1 : MM n m g s v w1 := MM_fr rfl k1 hM
    obtain ⟨w2, e2, k2⟩ := D_outL (DB_kp k1 (DB_q hq)) ht (p := ho v g s t) m 0 am_NF (nI 0) w1 (by omega) (by show m < 4000; omega) (KP_r w1)
    refine ⟨ouF (ho v g s t) (pr v te tc f t) m 0 (nI 0), w1, w2, ?_, ?_, KP_t k1 k2⟩
    · simp only [S_holders hV hC ht, bn_V, am_ltV, am_ckV, cond_V1, cond_V0, bi_ite, ck_bi, ite_T, ite_F]
      exact e1
    · unfold F_Mod_out
      simp only [D_isThing hV hM1, h, D_holdsNow hV hM1 ht, bn_V, am_ltV, am_ckV, cond_V1, cond_V0, bi_ite, ck_bi, ite_T, ite_F]
      exact e2)
/-! theft, loot -/
def tp (off cut : Int32) : Int32 := if off = 0 then cut else if off < cut then off else cut
theorem tp_le (off cut : Int32) : (if off ≤ cut then off else cut) = if off < cut then off else cut := by
  by_cases h : off < cut
  · rw [if_pos h, if_pos (Int32.le_of_lt h)]
  · rw [if_neg h]
    by_cases h2 : off ≤ cut
    · rw [if_pos h2]
      rw [Int32.le_iff_toInt_le] at h2
      rw [Int32.lt_iff_toInt_lt] at h
      exact Int32.toInt_inj.mp (by omega)
    · rw [if_neg h2]
/-- what it costs to steal a thing, of the first locks -/
def thS (p : Nat → Bool) (x y : Nat → Int32) : Nat → Int32
  | 0 => nI 0
  | i + 1 => bif p i then thS p x y i + tp (x i) (y i) else thS p x y i
/-- the price of a thing to a thief -/
def thP (n m : Nat) (v : am_V) (te tc : Nat → Nat → Nat) (f g s t : Nat) : Int32 := thS (fx v g s t) (pr v te tc f t) (fun l => sy v te tc f 1 t (some l) 0) m
section
variable {n m g s T f : Nat} {v : am_V} {te tc : Nat → Nat → Nat} {w w2 : am_W}
theorem S_steal (hb : SB n m g s T f v te tc w) {t : Nat} (ht : t < n) : ∃ w2, F_Loc_toSteal (nI t) w = some (thP n m v te tc f g s t, w2) ∧ KP w w2 := by
  have hm := hb.1.2.1
  have key : ∀ (d i F : Nat) (w1 : am_W), i + d = m → d < F → KP w w1 → ∃ w2, L_Loc_toSteal_14 F (nI t) (mk (fx v g s t) m) (thS (fx v g s t) (pr v te tc f t) (fun l => sy v te tc f 1 t (some l) 0) i) (nI i) w1 = some (thP n m v te tc f g s t, w2) ∧ KP w w2 := by
    intro d
    induction d with
    | zero =>
      intro i F w1 hi hF k
      obtain ⟨F, rfl⟩ : ∃ j, F = j + 1 := ⟨F - 1, by omega⟩
      have hC1 := (SB_kp k hb).2.2.1
      refine ⟨w1, ?_, k⟩
      show F_Loc_toSteal_14 _ _ _ _ _ _ = _
      unfold F_Loc_toSteal_14
      simp (disch := omega) only [hC1.2.2.1, nI_clamp, am_ckI, ile_t, ile_f, ilt_t, ilt_f, ieq_t, ieq_f, iz_t, iz_f, ilz_f, nI_add]
      rw [show i = m from hi]; rfl
    | succ d ih =>
      intro i F w1 hi hF k
      obtain ⟨F, rfl⟩ : ∃ j, F = j + 1 := ⟨F - 1, by omega⟩
      have hb1 := SB_kp k hb
      have him : i < m := by omega
      show ∃ w2, F_Loc_toSteal_14 _ _ _ _ _ _ = _ ∧ _
      unfold F_Loc_toSteal_14 F_Loc_toSteal_86 F_Loc_toSteal_88
      simp (disch := omega) only [hb1.2.2.1.2.2.1, nI_clamp, am_ckI, ile_t, ile_f, ilt_t, ilt_f, ieq_t, ieq_f, iz_t, iz_f, ilz_f, nI_add, S_has, mk_b, decide_eq_true him, Bool.true_and, bn_V, am_ltV, am_ckV, cond_V1, cond_V0, bi_ite, ck_bi, ite_T, ite_F]
      cases hp : fx v g s t i with
      | false =>
        have h9 := ih (i + 1) F w1 (by omega) (by omega) k
        rw [thS, hp] at h9
        exact h9
      | true =>
        obtain ⟨w2, e2, k2⟩ := S_say hb1 (u := f) (p := 1) (t := t) (h := 0) (lo := some i) hb1.2.2.2.1.2.1 (by omega) ht (fun j hj => by cases hj; exact him)
        obtain ⟨w3, e3, k3⟩ := S_pris (SB_kp k2 hb1) ht him
        have e2 : F_Law_says (nI f) (nI 1) (nI t) (nI i) (nI 0) w1 = _ := e2
        simp only [cond_true, hb1.2.2.2.1.2.2, e2, e3, bn_V, am_ltV, am_ckV, cond_V1, cond_V0, bi_ite, ck_bi, ite_T, ite_F]
        have h9 := ih (i + 1) F w3 (by omega) (by omega) (KP_t k (KP_t k2 k3))
        rw [thS, hp, cond_true] at h9
        unfold tp at h9
        by_cases h : pr v te tc f t i = 0
        · rw [if_pos h]; rw [if_pos h] at h9; exact h9
        · rw [if_neg h]; rw [if_neg h] at h9; exact h9
  unfold F_Loc_toSteal
  rw [S_fixers hb.1 hb.2.2.1 ht, bn_s]
  exact key m 0 am_NF w (by omega) (by show m < 4000; omega) (KP_r w)
theorem D_theftOf (hb : DB n m g s T f v te tc w) {t : Nat} (ht : t < n) : ∃ w2, F_Mod_theftOf (nI t) w = some (thP n m v te tc f g s t, w2) ∧ KP w w2 := by
  have hm := hb.1.2.1
  have key : ∀ (d i F : Nat) (w1 : am_W), i + d = m → d < F → KP w w1 → ∃ w2, L_Mod_theftOf_11 F (nI t) (mk (fx v g s t) m) (thS (fx v g s t) (pr v te tc f t) (fun l => sy v te tc f 1 t (some l) 0) i) (nI i) w1 = some (thP n m v te tc f g s t, w2) ∧ KP w w2 := by
    intro d
    induction d with
    | zero =>
      intro i F w1 hi hF k
      obtain ⟨F, rfl⟩ : ∃ j, F = j + 1 := ⟨F - 1, by omega⟩
      have hM1 := (DB_kp k hb).2.2.2.1
      refine ⟨w1, ?_, k⟩
      show F_Mod_theftOf_11 _ _ _ _ _ _ = _
      unfold F_Mod_theftOf_11
      simp (disch := omega) only [hM1.2.2.1, nI_clamp, am_ckI, ile_t, ile_f, ilt_t, ilt_f, ieq_t, ieq_f, iz_t, iz_f, ilz_f, nI_add]
      rw [show i = m from hi]; rfl
    | succ d ih =>
      intro i F w1 hi hF k
      obtain ⟨F, rfl⟩ : ∃ j, F = j + 1 := ⟨F - 1, by omega⟩
      have hb1 := DB_kp k hb
      have him : i < m := by omega
      show ∃ w2, F_Mod_theftOf_11 _ _ _ _ _ _ = _ ∧ _
      unfold F_Mod_theftOf_11 F_Mod_theftOf_63 F_Mod_theftOf_70 F_Mod_theftOf_72
      simp (disch := omega) only [hb1.2.2.2.1.2.2.1, nI_clamp, am_ckI, ile_t, ile_f, ilt_t, ilt_f, ieq_t, ieq_f, iz_t, iz_f, ilz_f, nI_add, b_has, bi1_ite, mk_b, decide_eq_true him, Bool.true_and, bn_V, am_ltV, am_ckV, cond_V1, cond_V0, bi_ite, ck_bi, ite_T, ite_F]
      cases hp : fx v g s t i with
      | false =>
        have h9 := ih (i + 1) F w1 (by omega) (by omega) k
        rw [thS, hp] at h9
        exact h9
      | true =>
        obtain ⟨w2, e2, k2⟩ := D_off hb1 ht him
        obtain ⟨w3, e3, k3⟩ := D_ask (DB_kp k2 hb1) (p := 1) (t := t) (h := 0) (lo := some i) (by omega) ht (fun j hj => by cases hj; exact him)
        have e3 : F_Mod_asksOf (nI 1) (nI t) (nI i) (nI 0) w2 = _ := e3
        simp only [cond_true, e2, e3, bn_V, am_ltV, am_ckV, cond_V1, cond_V0, bi_ite, ck_bi, ite_T, ite_F]
        have h9 := ih (i + 1) F w3 (by omega) (by omega) (KP_t k (KP_t k2 k3))
        rw [thS, hp, cond_true] at h9
        unfold tp at h9
        by_cases h : pr v te tc f t i = 0
        · rw [if_pos h]; rw [if_pos h] at h9; exact h9
        · rw [if_neg h]
          rw [if_neg h, ← tp_le] at h9
          by_cases h2 : pr v te tc f t i ≤ sy v te tc f 1 t (some i) 0
          · rw [if_pos h2]; rw [if_pos h2] at h9; exact h9
          · rw [if_neg h2]; rw [if_neg h2] at h9; exact h9
  unfold F_Mod_theftOf
  rw [D_fixedBy hb.1 hb.2.2.2.1 ht, bn_s]
  exact key m 0 am_NF w (by omega) (by show m < 4000; omega) (KP_r w)
end
theorem B_theft (a : Int32) : BOTH (F_Loc_theft a) (F_Mod_theft a) := BOTH_q (fun {n m g s T f v te tc w} hq => by
  obtain ⟨hV, hg, hs, hC, hM, hT, hX, hS, hP, hI, hA⟩ := id hq
  have hn := hV.1
  unfold F_Loc_theft F_Loc_theft_35
  simp only [S_isThing hV hC, bn_V, am_ltV, am_ckV, cond_V1, cond_V0, bi_ite, ck_bi, ite_T, ite_F]
  cases h : am_in a n with
  | false =>
    refine ⟨_, _, w, rfl, ?_, KP_r w⟩
    unfold F_Mod_theft
    simp only [D_isThing hV hM, h, bn_V, am_ltV, am_ckV, cond_V1, cond_V0, bi_ite, ck_bi, ite_T, ite_F]
  | true =>
    obtain ⟨t, ht, rfl⟩ := in_ex h (by omega)
    simp (disch := omega) only [S_isGone hC, bn_V, am_ltV, am_ckV, cond_V1, cond_V0, bi_ite, ck_bi, ite_T, ite_F]
    cases hgt : g.testBit t with
    | true =>
      refine ⟨_, _, w, rfl, ?_, KP_r w⟩
      unfold F_Mod_theft F_Mod_theft_29
      simp (disch := omega) only [D_isThing hV hM, h, D_isGone hM, hgt, bn_V, am_ltV, am_ckV, cond_V1, cond_V0, bi_ite, ck_bi, ite_T, ite_F]
    | false =>
      obtain ⟨w1, e1, k1⟩ := S_steal (SB_q hq) ht
      have hM1 : MM n m g s v w1 := MM_fr rfl k1 hM
      obtain ⟨w2, e2, k2⟩ := D_theftOf (DB_kp k1 (DB_q hq)) ht
      refine ⟨thP n m v te tc f g s t, w1, w2, ?_, ?_, KP_t k1 k2⟩
      · simp only [e1, bn_V, am_ltV, am_ckV, cond_V1, cond_V0, bi_ite, ck_bi, ite_T, ite_F]
      · unfold F_Mod_theft F_Mod_theft_29
        simp (disch := omega) only [D_isThing hV hM1, h, D_isGone hM1, hgt, e2, bn_V, am_ltV, am_ckV, cond_V1, cond_V0, bi_ite, ck_bi, ite_T, ite_F])
/-- the best so far: the first of the least -/
def bst (x : Nat → Option Int32) : Nat → Option (Nat × Int32)
  | 0 => none
  | i + 1 => match x i, bst x i with
    | none, r => r
    | some p, none => some (i, p)
    | some p, some (b, q) => if q ≤ p then some (b, q) else some (i, p)
def b1 : Option (Nat × Int32) → Int32
  | none => -nI 1
  | some (b, _) => nI b
def b2 (e : Int32) : Option (Nat × Int32) → Int32
  | none => e
  | some (_, q) => q
theorem bst_lt {x : Nat → Option Int32} : ∀ {i b : Nat} {q : Int32}, bst x i = some (b, q) → b < i
  | 0, _, _, h => by cases h
  | i + 1, b, q, h => by
    rw [bst] at h
    cases hx : x i with
    | none =>
      rw [hx] at h
      have h : bst x i = some (b, q) := h
      have := bst_lt h
      omega
    | some p =>
      rw [hx] at h
      cases hy : bst x i with
      | none =>
        rw [hy] at h
        have h : some (i, p) = some (b, q) := h
        cases h
        omega
      | some r =>
        obtain ⟨b0, q0⟩ := r
        rw [hy] at h
        have h : (if q0 ≤ p then some (b0, q0) else some (i, p)) = some (b, q) := h
        by_cases h2 : q0 ≤ p
        · rw [if_pos h2] at h
          cases h
          have := bst_lt hy
          omega
        · rw [if_neg h2] at h
          cases h
          omega
theorem bst_c {x y : Nat → Option Int32} : ∀ {i : Nat}, (∀ j, j < i → x j = y j) → bst x i = bst y i
  | 0, _ => rfl
  | i + 1, h => by rw [bst, bst, h i (by omega), bst_c (fun j hj => h j (by omega))]
theorem bst_n {x : Nat → Option Int32} {k : Nat} : ∀ {i : Nat}, k ≤ i → (∀ j, k ≤ j → j < i → x j = none) → bst x i = bst x k
  | 0, h, _ => by rw [show k = 0 from by omega]
  | i + 1, h, h2 => by
    by_cases e : k = i + 1
    · rw [e]
    · rw [bst, h2 i (by omega) (by omega), ← bst_n (i := i) (by omega) (fun j h3 h4 => h2 j h3 (by omega))]
/-- one step, as both take it -/
theorem bst_st {x : Nat → Option Int32} {i : Nat} {p : Int32} (hx : x i = some p) (hi : i < 2 ^ 30) (e : Int32) {α : Type} (A B : α) : (if b1 (bst x i) < 0 then A else if b2 e (bst x i) ≤ p then B else A) = (if bst x (i + 1) = bst x i then B else A) ∧ (if b1 (bst x i) = -nI 1 then A else if b2 e (bst x i) ≤ p then B else A) = (if bst x (i + 1) = bst x i then B else A) ∧ (¬ bst x (i + 1) = bst x i → bst x (i + 1) = some (i, p)) := by
  cases hy : bst x i with
  | none =>
    have h1 : bst x (i + 1) = some (i, p) := by rw [bst, hx, hy]
    rw [h1, if_neg (show ¬ some (i, p) = none from fun q => by cases q)]
    exact ⟨if_pos (by decide), if_pos rfl, fun _ => rfl⟩
  | some r =>
    obtain ⟨b, q⟩ := r
    have hb := bst_lt hy
    have h1 : bst x (i + 1) = if q ≤ p then some (b, q) else some (i, p) := by rw [bst, hx, hy]
    have n1 : ¬ b1 (some (b, q)) < 0 := nI_pos (by omega)
    have n2 : ¬ b1 (some (b, q)) = -nI 1 := m1_ne (by omega)
    rw [h1, if_neg n1, if_neg n2]
    by_cases h2 : q ≤ p
    · rw [if_pos h2, if_pos (show b2 e (some (b, q)) ≤ p from h2), if_pos rfl]
      exact ⟨rfl, rfl, fun h => absurd rfl h⟩
    · rw [if_neg h2, if_neg (show ¬ b2 e (some (b, q)) ≤ p from h2), if_neg (show ¬ some (i, p) = some (b, q) from fun h => by cases h; omega)]
      exact ⟨rfl, rfl, fun _ => rfl⟩
/-- each thing's price -/
def lo (n m : Nat) (v : am_V) (te tc : Nat → Nat → Nat) (f g s t : Nat) : Option Int32 := bif g.testBit t then none else some (thP n m v te tc f g s t)
section
variable {n m g s T f : Nat} {v : am_V} {te tc : Nat → Nat → Nat} {w w2 : am_W}
theorem S_loot (hb : SB n m g s T f v te tc w) {y : Nat} (hy : y < 2) : ∃ w2, L_Loc_loot_17 am_NF (nI y) (-nI 1) (-nI 1) (nI 0) w = some (bif Nat.beq y 0 then b1 (bst (lo n m v te tc f g s) n) else b2 (-nI 1) (bst (lo n m v te tc f g s) n), w2) ∧ KP w w2 := by
  have hn := hb.1.1
  have key : ∀ (d i F : Nat) (w1 : am_W), i + d = n → d < F → KP w w1 → ∃ w2, L_Loc_loot_17 F (nI y) (b1 (bst (lo n m v te tc f g s) i)) (b2 (-nI 1) (bst (lo n m v te tc f g s) i)) (nI i) w1 = some (bif Nat.beq y 0 then b1 (bst (lo n m v te tc f g s) n) else b2 (-nI 1) (bst (lo n m v te tc f g s) n), w2) ∧ KP w w2 := by
    intro d
    induction d with
    | zero =>
      intro i F w1 hi hF k
      obtain ⟨F, rfl⟩ : ∃ j, F = j + 1 := ⟨F - 1, by omega⟩
      have hC1 := (SB_kp k hb).2.2.1
      refine ⟨w1, ?_, k⟩
      show F_Loc_loot_17 _ _ _ _ _ _ = _
      unfold F_Loc_loot_17 F_Loc_loot_80
      simp (disch := omega) only [hC1.1, nI_clamp, am_ckI, ile_t, ile_f, ilt_t, ilt_f, ieq_t, ieq_f, iz_t, iz_f, ilz_f, nI_add, iz_b]
      rw [show i = n from hi]
      cases Nat.beq y 0 <;> rfl
    | succ d ih =>
      intro i F w1 hi hF k
      obtain ⟨F, rfl⟩ : ∃ j, F = j + 1 := ⟨F - 1, by omega⟩
      have hb1 := SB_kp k hb
      have hin : i < n := by omega
      show ∃ w2, F_Loc_loot_17 _ _ _ _ _ _ = _ ∧ _
      unfold F_Loc_loot_17 F_Loc_loot_59 F_Loc_loot_65
      simp (disch := omega) only [hb1.2.2.1.1, nI_clamp, am_ckI, ile_t, ile_f, ilt_t, ilt_f, ieq_t, ieq_f, iz_t, iz_f, ilz_f, nI_add, S_isGone hb1.2.2.1, bn_V, am_ltV, am_ckV, cond_V1, cond_V0, bi_ite, ck_bi, ite_T, ite_F]
      cases hgi : g.testBit i with
      | true =>
        have hx : lo n m v te tc f g s i = none := by unfold lo; rw [hgi]; rfl
        have h9 := ih (i + 1) F w1 (by omega) (by omega) k
        rw [bst, hx] at h9
        exact h9
      | false =>
        have hx : lo n m v te tc f g s i = some (thP n m v te tc f g s i) := by unfold lo; rw [hgi]; rfl
        obtain ⟨w2, e2, k2⟩ := S_steal hb1 hin
        simp only [cond_false, e2, bn_V, am_ltV, am_ckV, cond_V1, cond_V0, bi_ite, ck_bi, ite_T, ite_F]
        have h9 := ih (i + 1) F w2 (by omega) (by omega) (KP_t k k2)
        obtain ⟨s1, _, s3⟩ := bst_st hx (by omega) (-nI 1) (L_Loc_loot_17 F (nI y) (nI i) (thP n m v te tc f g s i) (nI (i + 1)) w2) (L_Loc_loot_17 F (nI y) (b1 (bst (lo n m v te tc f g s) i)) (b2 (-nI 1) (bst (lo n m v te tc f g s) i)) (nI (i + 1)) w2)
        rw [s1]
        by_cases h : bst (lo n m v te tc f g s) (i + 1) = bst (lo n m v te tc f g s) i
        · rw [if_pos h]; rw [h] at h9; exact h9
        · rw [if_neg h]; rw [s3 h] at h9; exact h9
  exact key n 0 am_NF w (by omega) (by show n < 4000; omega) (KP_r w)
theorem D_loot (hb : DB n m g s T f v te tc w) {y : Nat} (hy : y < 2) : ∃ w2, L_Mod_loot_19 am_NF (nI y) (-nI 1) (-nI 1) (nI 0) w = some (bif Nat.beq y 0 then b1 (bst (lo n m v te tc f g s) n) else b2 (-nI 1) (bst (lo n m v te tc f g s) n), w2) ∧ KP w w2 := by
  have hn := hb.1.1
  have key : ∀ (d i F : Nat) (w1 : am_W), i + d = n → d < F → KP w w1 → ∃ w2, L_Mod_loot_19 F (nI y) (b1 (bst (lo n m v te tc f g s) i)) (b2 (-nI 1) (bst (lo n m v te tc f g s) i)) (nI i) w1 = some (bif Nat.beq y 0 then b1 (bst (lo n m v te tc f g s) n) else b2 (-nI 1) (bst (lo n m v te tc f g s) n), w2) ∧ KP w w2 := by
    intro d
    induction d with
    | zero =>
      intro i F w1 hi hF k
      obtain ⟨F, rfl⟩ : ∃ j, F = j + 1 := ⟨F - 1, by omega⟩
      have hM1 := (DB_kp k hb).2.2.2.1
      refine ⟨w1, ?_, k⟩
      show F_Mod_loot_19 _ _ _ _ _ _ = _
      unfold F_Mod_loot_19 F_Mod_loot_115
      simp (disch := omega) only [hM1.1, nI_clamp, am_ckI, ile_t, ile_f, ilt_t, ilt_f, ieq_t, ieq_f, iz_t, iz_f, ilz_f, nI_add, iz_b]
      rw [show i = n from hi]
      cases Nat.beq y 0 <;> rfl
    | succ d ih =>
      intro i F w1 hi hF k
      obtain ⟨F, rfl⟩ : ∃ j, F = j + 1 := ⟨F - 1, by omega⟩
      have hb1 := DB_kp k hb
      have hin : i < n := by omega
      show ∃ w2, F_Mod_loot_19 _ _ _ _ _ _ = _ ∧ _
      unfold F_Mod_loot_19 F_Mod_loot_47 F_Mod_loot_69 F_Mod_loot_73 F_Mod_loot_74 F_Mod_loot_87 F_Mod_loot_99
      simp (disch := omega) only [hb1.2.2.2.1.1, nI_clamp, am_ckI, ile_t, ile_f, ilt_t, ilt_f, ieq_t, ieq_f, iz_t, iz_f, ilz_f, nI_add, D_isGone hb1.2.2.2.1, bn_V, am_ltV, am_ckV, cond_V1, cond_V0, bi_ite, ck_bi, ite_T, ite_F]
      cases hgi : g.testBit i with
      | true =>
        have hx : lo n m v te tc f g s i = none := by unfold lo; rw [hgi]; rfl
        have h9 := ih (i + 1) F w1 (by omega) (by omega) k
        rw [bst, hx] at h9
        exact h9
      | false =>
        have hx : lo n m v te tc f g s i = some (thP n m v te tc f g s i) := by unfold lo; rw [hgi]; rfl
        obtain ⟨w2, e2, k2⟩ := D_theftOf hb1 hin
        have hb2 := DB_kp k2 hb1
        simp (disch := omega) only [cond_false, e2, bn_V, am_ltV, am_ckV, cond_V1, cond_V0, bi_ite, ck_bi, ite_T, ite_F, D_isGone hb2.2.2.2.1, hgi, nI_clamp, am_ckI, ile_t, ile_f, ilt_t, ilt_f, ieq_t, ieq_f, iz_t, iz_f, ilz_f, nI_add]
        have h9 := ih (i + 1) F w2 (by omega) (by omega) (KP_t k k2)
        obtain ⟨_, s2, s3⟩ := bst_st hx (by omega) (-nI 1) (L_Mod_loot_19 F (nI y) (nI i) (thP n m v te tc f g s i) (nI (i + 1)) w2) (L_Mod_loot_19 F (nI y) (b1 (bst (lo n m v te tc f g s) i)) (b2 (-nI 1) (bst (lo n m v te tc f g s) i)) (nI (i + 1)) w2)
        refine (?_ : ∃ w3, (if b1 (bst (lo n m v te tc f g s) i) = -nI 1 then L_Mod_loot_19 F (nI y) (nI i) (thP n m v te tc f g s i) (nI (i + 1)) w2 else if b2 (-nI 1) (bst (lo n m v te tc f g s) i) ≤ thP n m v te tc f g s i then L_Mod_loot_19 F (nI y) (b1 (bst (lo n m v te tc f g s) i)) (b2 (-nI 1) (bst (lo n m v te tc f g s) i)) (nI (i + 1)) w2 else L_Mod_loot_19 F (nI y) (nI i) (thP n m v te tc f g s i) (nI (i + 1)) w2) = _ ∧ _)
        rw [s2]
        by_cases h : bst (lo n m v te tc f g s) (i + 1) = bst (lo n m v te tc f g s) i
        · rw [if_pos h]; rw [h] at h9; exact h9
        · rw [if_neg h]; rw [s3 h] at h9; exact h9
  exact key n 0 am_NF w (by omega) (by show n < 4000; omega) (KP_r w)
end
theorem B_loot (a : Int32) : BOTH (F_Loc_loot a) (F_Mod_loot a) := BOTH_q (fun {n m g s T f v te tc w} hq => by
  cases ha : am_in a 2 with
  | false =>
    refine ⟨-nI 2, w, w, ?_, ?_, KP_r w⟩
    · unfold F_Loc_loot
      rw [S_isEither, ha]; rfl
    · unfold F_Mod_loot
      rw [D_in0 (k := 1) (by omega), ha]; rfl
  | true =>
    obtain ⟨y, hy, rfl⟩ := in_ex ha (by omega)
    obtain ⟨w1, e1, k1⟩ := S_loot (SB_q hq) hy
    obtain ⟨w2, e2, k2⟩ := D_loot (DB_kp k1 (DB_q hq)) hy
    refine ⟨bif Nat.beq y 0 then b1 (bst (lo n m v te tc f g s) n) else b2 (-nI 1) (bst (lo n m v te tc f g s) n), w1, w2, ?_, ?_, KP_t k1 k2⟩
    · unfold F_Loc_loot
      rw [S_isEither, ha]
      exact e1
    · unfold F_Mod_loot
      rw [D_in0 (k := 1) (by omega), ha]
      exact e2)
