/-! ===== what the class's calls answer, by numbers ===== -/
/-- the rail by numbers, the laws by their codes -/
def PQ (n m g s T f : Nat) (v : am_V) (te tc : Nat → Nat → Nat) (w : am_W) : Prop := SB n m g s T f v te tc w ∧ s < 2 ^ m
section
variable {n m g s T f : Nat} {v : am_V} {te tc : Nat → Nat → Nat} {w : am_W}
theorem P_kp {w2 : am_W} (h : PQ n m g s T f v te tc w) (k : KP w w2) : PQ n m g s T f v te tc w2 := ⟨SB_kp k h.1, h.2⟩
theorem P_holds (h : PQ n m g s T f v te tc w) {t : Nat} (ht : t < n) : F_Loc_holds (nI t) w = some (mk (ho v g s t) m, w) := by
  have hn := h.1.1.1
  unfold F_Loc_holds
  simp only [S_isThing h.1.1 h.1.2.2.1, in_nI ht (by omega), S_holders h.1.1 h.1.2.2.1 ht, bn_V, am_ltV, am_ckV, cond_V1, cond_V0, bi_ite]
  rfl
theorem P_holds8 (h : PQ n m g s T f v te tc w) (hn : n ≤ 4) : F_Loc_holds (nI 8) w = some (-nI 5, w) := by
  have e : am_in (nI 8) n = false := by rw [in_dec, nI_toInt (by omega)]; exact decide_eq_false (by omega)
  unfold F_Loc_holds
  simp only [S_isThing h.1.1 h.1.2.2.1, e, bn_V, am_ltV, am_ckV, cond_V1, cond_V0, bi_ite]
  rfl
theorem P_waits (h : PQ n m g s T f v te tc w) {t : Nat} (ht : t < n) : F_Loc_waits (nI t) w = some (mk (aw m v g s t) n, w) := by
  have hn := h.1.1.1
  unfold F_Loc_waits
  simp only [S_isThing h.1.1 h.1.2.2.1, in_nI ht (by omega), S_awaited h.1.1 h.1.2.2.1 ht, bn_V, am_ltV, am_ckV, cond_V1, cond_V0, bi_ite]
  rfl
theorem P_waits8 (h : PQ n m g s T f v te tc w) (hn : n ≤ 4) : F_Loc_waits (nI 8) w = some (-nI 5, w) := by
  have e : am_in (nI 8) n = false := by rw [in_dec, nI_toInt (by omega)]; exact decide_eq_false (by omega)
  unfold F_Loc_waits
  simp only [S_isThing h.1.1 h.1.2.2.1, e, bn_V, am_ltV, am_ckV, cond_V1, cond_V0, bi_ite]
  rfl
theorem P_free (h : PQ n m g s T f v te tc w) : F_Loc_free w = some (mk (cg m v g s) n, w) := by
  unfold F_Loc_free
  rw [h.1.2.2.1.2.1, h.1.2.2.1.2.2.2.1, S_canGo h.1.1 h.1.2.2.1]
  rfl
theorem P_never (h : PQ n m g s T f v te tc w) : F_Loc_never w = some (nI (2 ^ n - 1) &&& (nI (gal n m v 0 s g) ^^^ (-nI 1)), w) := by
  unfold F_Loc_never
  simp only [S_allThings h.1.1 h.1.2.2.1, h.1.2.2.1.2.2.2.1, S_gal h.1.1 h.1.2.2.1, bn_V, am_ltV, am_ckV, cond_V1, cond_V0, bi_ite]
theorem P_told0 (h : PQ n m g s T f v te tc w) {t : Nat} (ht : t < n) : F_Loc_told (nI t) (nI 0) w = some (nI (v 1 t), w) ∧ F_Loc_told (nI t) (nI 1) w = some (nI (v 2 t), w) ∧ F_Loc_told (nI t) (nI 2) w = some (nI (v 3 t), w) ∧ F_Loc_told (nI t) (nI 3) w = some (bi (g.testBit t), w) ∧ F_Loc_told (nI t) (nI 4) w = some (-nI 7, w) := by
  have hn := h.1.1.1
  obtain ⟨c1, c2, c3⟩ := h.1.2.2.1.2.2.2.2.2.1 t ht
  refine ⟨?_, ?_, ?_, ?_, ?_⟩ <;>
  · unfold F_Loc_told
    simp (disch := omega) only [S_isThing h.1.1 h.1.2.2.1, in_nI ht (by omega), nI_clamp, am_ckI, iti_0, iti_1, iti_2, iti_3, c1, c2, c3, S_isGone h.1.2.2.1, bn_V, am_ltV, am_ckV, cond_V1, cond_V0, bi_ite]
    first | rfl | (cases g.testBit t <;> rfl)
theorem P_told8 (h : PQ n m g s T f v te tc w) (hn : n ≤ 4) {b : Int32} : F_Loc_told (nI 8) b w = some (-nI 5, w) := by
  have e : am_in (nI 8) n = false := by rw [in_dec, nI_toInt (by omega)]; exact decide_eq_false (by omega)
  unfold F_Loc_told
  simp only [S_isThing h.1.1 h.1.2.2.1, e, bn_V, am_ltV, am_ckV, cond_V1, cond_V0, bi_ite]
theorem P_lockTold (h : PQ n m g s T f v te tc w) {l : Nat} (hl : l < m) : F_Loc_lockTold (nI l) (nI 0) w = some (nI (v 4 l), w) ∧ F_Loc_lockTold (nI l) (nI 1) w = some (nI (v 5 l), w) ∧ F_Loc_lockTold (nI l) (nI 2) w = some (nI (v 6 l), w) ∧ F_Loc_lockTold (nI l) (nI 3) w = some (bi (s.testBit l), w) ∧ F_Loc_lockTold (nI l) (nI 4) w = some (bi (shu v g s l), w) ∧ F_Loc_lockTold (nI l) (nI 5) w = some (-nI 7, w) := by
  have hm := h.1.1.2.1
  obtain ⟨c1, c2, c3, c4⟩ := h.1.2.2.1.2.2.2.2.2.2 l hl
  refine ⟨?_, ?_, ?_, ?_, ?_, ?_⟩ <;>
  · unfold F_Loc_lockTold
    simp (disch := omega) only [S_isLock h.1.1 h.1.2.2.1, in_nI hl (by omega), nI_clamp, am_ckI, iti_0, iti_1, iti_2, iti_3, iti_4, c1, c2, c3, h.1.2.2.1.2.2.2.1, b_has, b_nI, S_isShut h.1.1 h.1.2.2.1 hl, S_hasN, bn_V, am_ltV, am_ckV, cond_V1, cond_V0, bi_ite]
    first | rfl | (cases s.testBit l <;> rfl) | (cases shu v g s l <;> rfl)
theorem P_lockTold10 (h : PQ n m g s T f v te tc w) (hm : m ≤ 5) {b : Int32} : F_Loc_lockTold (nI 10) b w = some (-nI 5, w) := by
  have e : am_in (nI 10) m = false := by rw [in_dec, nI_toInt (by omega)]; exact decide_eq_false (by omega)
  unfold F_Loc_lockTold
  simp only [S_isLock h.1.1 h.1.2.2.1, e, bn_V, am_ltV, am_ckV, cond_V1, cond_V0, bi_ite]
theorem P_count (h : PQ n m g s T f v te tc w) : F_Loc_count (nI 2) w = some (nI g, w) ∧ F_Loc_count (nI 3) w = some (nI s, w) := by
  constructor <;>
  · unfold F_Loc_count
    simp (disch := omega) only [iti_0, iti_1, iti_2, iti_3, h.1.2.2.1.2.1, h.1.2.2.1.2.2.2.1]
    rfl
theorem P_go8 (h : PQ n m g s T f v te tc w) (hn : n ≤ 4) : F_Loc_go (nI 8) w = some (-nI 5, w) := by
  have e : am_in (nI 8) n = false := by rw [in_dec, nI_toInt (by omega)]; exact decide_eq_false (by omega)
  unfold F_Loc_go
  simp only [S_isThing h.1.1 h.1.2.2.1, e, bn_V, am_ltV, am_ckV, cond_V1, cond_V0, bi_ite]
theorem P_go (h : PQ n m g s T f v te tc w) {t : Nat} (ht : t < n) : ∃ w2, F_Loc_go (nI t) w = some (if cg m v g s t = true then nI n - nI (pc (g ||| 2 ^ t) 10) else -nI 3, w2) ∧ PQ n m (if cg m v g s t = true then g ||| 2 ^ t else g) s T f v te tc w2 := by
  obtain ⟨⟨hV, hg, hC, hT, hX⟩, hs⟩ := id h
  have hn := hV.1
  have hp : 2 ^ n ≤ 2 ^ 8 := Nat.pow_le_pow_right (by omega) hn
  unfold F_Loc_go
  simp (disch := omega) only [S_isThing hV hC, in_nI ht (by omega), hC.2.1, hC.2.2.2.1, S_canGo hV hC, S_has, mk_b, decide_eq_true ht, Bool.true_and, s_one, nx_or, bn_V, am_ltV, am_ckV, cond_V1, cond_V0, bi_ite]
  cases h2 : cg m v g s t with
  | false => exact ⟨w, rfl, h⟩
  | true =>
    have hg2 : g ||| 2 ^ t < 2 ^ n := or_lt hg (Nat.pow_lt_pow_right (by omega) ht)
    refine ⟨wsf w 1 1 (nI (g ||| 2 ^ t)), ?_, ⟨⟨hV, hg2, ⟨hC.1, rfl, hC.2.2.1, hC.2.2.2.1, hC.2.2.2.2.1, hC.2.2.2.2.2.1, hC.2.2.2.2.2.2⟩, TS_fr (A := fun a => Nat.beq a 1) rfl (FRA_sf rfl) hT, TX_fr (A := fun a => Nat.beq a 1) rfl (FRA_sf rfl) hX hT.1⟩, hs⟩⟩
    rw [cond_true, wsf_at, S_bits (by omega), bn_s]
    show some ((wsf w 1 1 (nI (g ||| 2 ^ t))).1 1 0 - _, _) = _
    rw [wsf_ne (by omega), hC.1]
    rfl
theorem P_saw10 (h : PQ n m g s T f v te tc w) (hm : m ≤ 5) : F_Loc_saw (nI 10) w = some (-nI 5, w) := by
  have e : am_in (nI 10) m = false := by rw [in_dec, nI_toInt (by omega)]; exact decide_eq_false (by omega)
  unfold F_Loc_saw
  simp only [S_isLock h.1.1 h.1.2.2.1, e, bn_V, am_ltV, am_ckV, cond_V1, cond_V0, bi_ite]
theorem P_saw (h : PQ n m g s T f v te tc w) {l : Nat} (hl : l < m) : ∃ w2, F_Loc_saw (nI l) w = some (if shu v g s l = true then sw v te tc f l else -nI 3, w2) ∧ PQ n m g (if shu v g s l = true then s ||| 2 ^ l else s) T f v te tc w2 := by
  obtain ⟨⟨hV, hg, hC, hT, hX⟩, hs⟩ := id h
  have hm := hV.2.1
  cases h1 : shu v g s l with
  | false =>
    refine ⟨w, ?_, h⟩
    unfold F_Loc_saw
    simp only [S_isLock hV hC, in_nI hl (by omega), bn_V, am_ltV, am_ckV, cond_V1, cond_V0, bi_ite, S_isShut hV hC hl, h1]
    rfl
  | true =>
    have hs2 : s ||| 2 ^ l < 2 ^ m := or_lt hs (Nat.pow_lt_pow_right (by omega) hl)
    have hC1 := CC_s hC (s ||| 2 ^ l)
    have hS1 : SB n m g (s ||| 2 ^ l) T f v te tc (wsf w 1 3 (nI (s ||| 2 ^ l))) := ⟨hV, hg, hC1, ⟨hT.1, hT.2.1, hT.2.2⟩, TX_fr (A := fun a => Nat.beq a 1) rfl (FRA_sf rfl) hX hT.1⟩
    obtain ⟨w2, e2, k2⟩ := S_sawing hS1 hT.2.1 hl
    refine ⟨w2, ?_, SB_kp k2 hS1, hs2⟩
    have e9 : (wsf w 1 3 (nI (s ||| 2 ^ l))).1 17 2 = nI f := (wsf_nc rfl).trans hT.2.2
    unfold F_Loc_saw
    simp (disch := omega) only [S_isLock hV hC, in_nI hl (by omega), bn_V, am_ltV, am_ckV, cond_V1, cond_V0, bi_ite, S_isShut hV hC hl, h1, hC.2.2.2.1, s_one, nx_or, e9, e2]
    rfl
theorem P_sawFor (h : PQ n m g s T f v te tc w) {t : Nat} (ht : t < n) : ∃ w2, F_Loc_sawFor (nI t) (nI 0) w = some (b1 (bst (sx n m v te tc f g s (nI (2 ^ t))) (2 ^ m)), w2) ∧ PQ n m g s T f v te tc w2 := by
  have hn := h.1.1.1
  obtain ⟨w2, e, k⟩ := S_cheapest h.1 (W := nI (2 ^ t)) (y := 0) (by omega)
  refine ⟨w2, ?_, P_kp h k⟩
  unfold F_Loc_sawFor F_Loc_sawFor_34
  simp (disch := omega) only [S_isThing h.1.1 h.1.2.2.1, in_nI ht (by omega), S_isEither, in_nI (show 0 < 2 by omega) (by omega), s_one, bn_V, am_ltV, am_ckV, cond_V1, cond_V0, bi_ite, e]
  rfl
theorem P_first (h : PQ n m g s T f v te tc w) {t : Nat} (ht : t < n) (hgt : g.testBit t = false) : ∃ w2, F_Loc_first (nI t) (nI 1) w = some (b2 (-nI 1) (bst (aho n m v 0 s g t) (2 ^ n)), w2) ∧ PQ n m g s T f v te tc w2 := by
  have hn := h.1.1.1
  obtain ⟨w2, e, k⟩ := S_fewest h.1.1 h.1.2.2.1 h.1.2.1 ht
  refine ⟨w2, ?_, P_kp h k⟩
  unfold F_Loc_first F_Loc_first_61
  simp (disch := omega) only [S_isThing h.1.1 h.1.2.2.1, in_nI ht (by omega), S_isEither, in_nI (show 1 < 2 by omega) (by omega), S_isGone h.1.2.2.1, hgt, iz_b, bn_V, am_ltV, am_ckV, cond_V1, cond_V0, bi_ite, e]
  rfl
end
