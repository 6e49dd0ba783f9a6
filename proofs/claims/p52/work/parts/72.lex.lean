/-! ===== tokens: what stands from a place on; the class's reader finds it ===== -/
/-- the first place from p on, of so many, at which q doesn't hold -/
def spn (x : Nat → Nat) (q : Nat → Bool) : Nat → Nat → Nat
  | 0, p => p
  | d + 1, p => bif q (x p) then spn x q d (p + 1) else p
def isB (c : Nat) : Bool := Nat.beq c 32 || Nat.beq c 10
def isL (c : Nat) : Bool := Nat.ble 97 c && Nat.ble c 122
def isD (c : Nat) : Bool := Nat.ble 48 c && Nat.ble c 57
def isS (c : Nat) : Bool := Nat.beq c 40 || (Nat.beq c 41 || (Nat.beq c 59 || (Nat.beq c 43 || (Nat.beq c 45 || (Nat.beq c 42 || (Nat.beq c 60 || Nat.beq c 61))))))
/-- the number that so many digits tell -/
def nvN (x : Nat → Nat) (b : Nat) : Nat → Nat
  | 0 => 0
  | j + 1 => nvN x b j * 10 + (x (b + j) - 48)
/-- the letters from a place to one -/
def lts (x : Nat → Nat) (b e : Nat) : List Nat := (List.range (e - b)).map (fun j => x (b + j))
/-- what a word is: 3 a key, 2 a name, 4 or, 5 and, 6 not, 7 nothing; which one -/
def wi (l : List Nat) : Nat × Nat := if l = [116, 97, 107, 101, 115] then (3, 0) else if l = [115, 97, 119, 115] then (3, 1) else if l = [109, 105, 110, 100, 115] then (3, 2) else if l = [111, 114] then (4, 0) else if l = [97, 110, 100] then (5, 0) else if l = [110, 111, 116] then (6, 0) else if l = [109, 111, 114, 101] then (2, 0) else if l = [115, 111, 114, 116] then (2, 1) else if l = [104, 111, 117, 114] then (2, 2) else if l = [116, 104, 105, 110, 103] then (2, 3) else if l = [109, 97, 110, 121] then (2, 4) else if l = [107, 105, 110, 100] then (2, 5) else (7, 0)
/-- the token from p on: where it begins, where it ends, what it is (0 the end, 1 a number, a sign its byte), which -/
def lx (x : Nat → Nat) (z p : Nat) : Nat × Nat × Nat × Nat := let b := spn x isB (z - p) p
  if z ≤ b then (b, b, 0, 0) else bif isL (x b) then (let e := spn x isL (z - b) b; (b, e, (wi (lts x b e)).1, (wi (lts x b e)).2)) else bif isD (x b) then (let e := spn x isD (z - b) b; if e - b ≤ 4 then (b, e, 1, nvN x b (e - b)) else (b, e, 7, 0)) else (b, b + 1, (bif isS (x b) then x b else 7), 0)
section
variable {x : Nat → Nat} {q : Nat → Bool}
theorem spn_le : ∀ d p, spn x q d p ≤ p + d
  | 0, p => Nat.le_refl p
  | d + 1, p => by
    rw [spn]
    cases q (x p)
    · show p ≤ _; omega
    · have := spn_le d (p + 1)
      show spn x q d (p + 1) ≤ _; omega
theorem spn_ge : ∀ d p, p ≤ spn x q d p
  | 0, p => Nat.le_refl p
  | d + 1, p => by
    rw [spn]
    cases q (x p)
    · exact Nat.le_refl p
    · have := spn_ge d (p + 1)
      show p ≤ spn x q d (p + 1); omega
theorem spn_q : ∀ d p i, p ≤ i → i < spn x q d p → q (x i) = true
  | 0, p, i, h1, h2 => by rw [spn] at h2; omega
  | d + 1, p, i, h1, h2 => by
    rw [spn] at h2
    cases hq : q (x p) with
    | false =>
      rw [hq] at h2
      have h2 : i < p := h2
      omega
    | true =>
      rw [hq] at h2
      have h2 : i < spn x q d (p + 1) := h2
      by_cases e : i = p
      · rw [e]; exact hq
      · exact spn_q d (p + 1) i (by omega) h2
end
/-- the tape, as the class has it -/
def RB (x : Nat → Nat) (z : Nat) (w : am_W) : Prop := z ≤ 160 ∧ w.1 18 0 = nI z ∧ ∀ i, i < z → w.1 19 i = nI (x i) ∧ x i < 256
/-- the class's number of a token -/
def ctk (k v : Nat) : Nat := match k with
  | 0 => 308
  | 1 => 307
  | 2 => 306
  | 3 => 300 + v
  | 4 => 303
  | 5 => 304
  | 6 => 305
  | 7 => 309
  | k => k
theorem S_isIn {c a b : Nat} (hc : c < 2 ^ 31) (ha : a < 2 ^ 31) (hb : b < 2 ^ 31) (w : am_W) : F_Read_isIn (nI c) (nI a) (nI b) w = some (bi (Nat.ble a c && Nat.ble c b), w) := by
  unfold F_Read_isIn F_Read_isIn_14 F_Read_isIn_15
  by_cases h1 : c < a
  · rw [ilt_t h1 ha, show Nat.ble a c = false from Bool.eq_false_iff.mpr (fun q => by have := Nat.le_of_ble_eq_true q; omega)]; rfl
  · rw [ilt_f (by omega) hc, Nat.ble_eq_true_of_le (by omega)]
    by_cases h2 : b < c
    · rw [ilt_t h2 hc, show Nat.ble c b = false from Bool.eq_false_iff.mpr (fun q => by have := Nat.le_of_ble_eq_true q; omega)]; rfl
    · rw [ilt_f (by omega) hb, Nat.ble_eq_true_of_le (by omega)]; rfl
section
variable {x : Nat → Nat} {z : Nat} {w : am_W}
theorem RB_f {j : Nat} {y : Int32} (h : RB x z w) (hj : ¬ j = 0) : RB x z (wsf w 18 j y) := ⟨h.1, by rw [wsf_ne (fun e => hj e.symm)]; exact h.2.1, fun i hi => by rw [wsf_nc rfl]; exact h.2.2 i hi⟩
theorem S_blank (h : RB x z w) : ∀ (d p F : Nat), p + d = z → d < F → L_Read_advance_16 F (wsf w 18 1 (nI p)) = F_Read_advance_68 (wsf w 18 1 (nI (spn x isB d p))) := by
  have hz := h.1
  intro d
  induction d with
  | zero =>
    intro p F hp hF
    obtain ⟨F, rfl⟩ : ∃ j, F = j + 1 := ⟨F - 1, by omega⟩
    have h0 : (wsf w 18 1 (nI p)).1 18 0 = nI z := (RB_f h (by omega)).2.1
    show F_Read_advance_16 _ _ = _
    unfold F_Read_advance_16
    rw [h0, wsf_at, ile_t (by omega) (by omega), spn]
  | succ d ih =>
    intro p F hp hF
    obtain ⟨F, rfl⟩ : ∃ j, F = j + 1 := ⟨F - 1, by omega⟩
    have h0 : (wsf w 18 1 (nI p)).1 18 0 = nI z := (RB_f h (by omega)).2.1
    obtain ⟨h1, h2⟩ := (RB_f h (by omega) (y := nI p) (j := 1)).2.2 p (by omega)
    show F_Read_advance_16 _ _ = _
    unfold F_Read_advance_16 F_Read_advance_55
    rw [h0, wsf_at, ile_f (by omega) (by omega), in_nI (by omega : p < 160) (by omega), am_ckT, nI_clamp (by omega), h1, ieq_b (by omega) (by omega), ieq_b (by omega) (by omega), am_ckT, am_ltU, wsf_wsf, nI_add, ih (p + 1) F (by omega) (by omega), spn]
    unfold isB
    cases Nat.beq (x p) 32 <;> cases Nat.beq (x p) 10 <;> rfl
theorem S_word (h : RB x z w) : ∀ (d p F : Nat), p + d = z → d < F → L_Read_scanWord_0 F (wsf w 18 2 (nI p)) = F_Read_scanWord_43 (wsf w 18 2 (nI (spn x isL d p))) := by
  have hz := h.1
  intro d
  induction d with
  | zero =>
    intro p F hp hF
    obtain ⟨F, rfl⟩ : ∃ j, F = j + 1 := ⟨F - 1, by omega⟩
    have h0 : (wsf w 18 2 (nI p)).1 18 0 = nI z := (RB_f h (by omega)).2.1
    show F_Read_scanWord_0 _ _ = _
    unfold F_Read_scanWord_0
    rw [h0, wsf_at, ile_t (by omega) (by omega), spn]
  | succ d ih =>
    intro p F hp hF
    obtain ⟨F, rfl⟩ : ∃ j, F = j + 1 := ⟨F - 1, by omega⟩
    have h0 : (wsf w 18 2 (nI p)).1 18 0 = nI z := (RB_f h (by omega)).2.1
    obtain ⟨h1, h2⟩ := (RB_f h (by omega) (y := nI p) (j := 2)).2.2 p (by omega)
    show F_Read_scanWord_0 _ _ = _
    unfold F_Read_scanWord_0
    rw [h0, wsf_at, ile_f (by omega) (by omega), in_nI (by omega : p < 160) (by omega), am_ckT, nI_clamp (by omega), h1, S_isIn (by omega) (by omega) (by omega), bn_s, bi_ite]
    dsimp only
    rw [wsf_at, am_ltU, wsf_wsf, nI_add, ih (p + 1) F (by omega) (by omega), spn]
    unfold isL
    cases Nat.ble 97 (x p) && Nat.ble (x p) 122 <;> rfl
/-- digits: the value is told as long as they are at most four -/
theorem S_num (h : RB x z w) {b : Nat} (h1b : w.1 18 1 = nI b) : ∀ (d j F : Nat) (V : Int32), b + j + d = z → d < F → (j ≤ 4 → V = nI (nvN x b j)) → ∃ V2, L_Read_scanNumber_5 F (wsf (wsf w 18 4 V) 18 2 (nI (b + j))) = some (nI (if spn x isD d (b + j) - b ≤ 4 then 307 else 309), wsf (wsf w 18 4 V2) 18 2 (nI (spn x isD d (b + j)))) ∧ (spn x isD d (b + j) - b ≤ 4 → V2 = nI (nvN x b (spn x isD d (b + j) - b))) := by
  have hz := h.1
  have nd : ∀ (e : Nat) (V : Int32), e ≤ z → b ≤ e → F_Read_scanNumber_72 (wsf (wsf w 18 4 V) 18 2 (nI e)) = some (nI (if e - b ≤ 4 then 307 else 309), wsf (wsf w 18 4 V) 18 2 (nI e)) := fun e V he hbe => by
    unfold F_Read_scanNumber_72 F_Read_scanNumber_94
    rw [wsf_at, wsf_ne (by omega), wsf_ne (by omega), h1b, pk_sub hbe]
    by_cases q : e - b ≤ 4
    · rw [ile_t q (by omega), if_pos q]
    · rw [ile_f (by omega) (by omega), if_neg q]
  intro d
  induction d with
  | zero =>
    intro j F V hj hF hV
    obtain ⟨F, rfl⟩ : ∃ j, F = j + 1 := ⟨F - 1, by omega⟩
    have h0 : (wsf (wsf w 18 4 V) 18 2 (nI (b + j))).1 18 0 = nI z := (RB_f (RB_f h (by omega)) (by omega)).2.1
    refine ⟨V, ?_, fun q => ?_⟩
    · show F_Read_scanNumber_5 _ _ = _
      unfold F_Read_scanNumber_5
      rw [h0, wsf_at, ile_t (by omega) (by omega), nd _ V (by omega) (by omega), spn]
    · rw [spn] at q ⊢
      rw [show b + j - b = j from by omega] at q ⊢
      exact hV q
  | succ d ih =>
    intro j F V hj hF hV
    obtain ⟨F, rfl⟩ : ∃ j, F = j + 1 := ⟨F - 1, by omega⟩
    have hR := RB_f (RB_f h (by omega) (y := V) (j := 4)) (by omega) (y := nI (b + j)) (j := 2)
    have h0 : (wsf (wsf w 18 4 V) 18 2 (nI (b + j))).1 18 0 = nI z := hR.2.1
    obtain ⟨h1, h2⟩ := hR.2.2 (b + j) (by omega)
    show ∃ V2, F_Read_scanNumber_5 _ _ = _ ∧ _
    unfold F_Read_scanNumber_5
    rw [h0, wsf_at, ile_f (by omega) (by omega), in_nI (by omega : b + j < 160) (by omega), am_ckT, nI_clamp (by omega), h1, S_isIn (by omega) (by omega) (by omega), bn_s, bi_ite]
    dsimp only
    rw [wsf_at, in_nI (by omega : b + j < 160) (by omega), am_ckT, nI_clamp (by omega), h1]
    rw [show spn x isD (d + 1) (b + j) = bif isD (x (b + j)) then spn x isD d (b + j + 1) else b + j from rfl]
    cases hd : isD (x (b + j)) with
    | false =>
      unfold isD at hd
      rw [hd, cond_false]
      refine ⟨V, nd _ V (by omega) (by omega), fun q => ?_⟩
      rw [cond_false, show b + j - b = j from by omega] at q ⊢
      exact hV q
    | true =>
      have hd2 := hd
      unfold isD at hd
      rw [hd, cond_true, cond_true]
      rw [Bool.and_eq_true] at hd
      have g1 := Nat.le_of_ble_eq_true hd.1
      have g2 := Nat.le_of_ble_eq_true hd.2
      have t1 := ih (j + 1) F ((wsf (wsf w 18 4 V) 18 2 (nI (b + j))).1 18 4 * nI 10 + (nI (x (b + j)) - nI 48)) (by omega) (by omega) (fun q => by
        rw [wsf_ne (by omega), wsf_at, hV (by omega), pk_mul, pk_sub g1, nI_add, nvN])
      rw [show b + (j + 1) = b + j + 1 from rfl] at t1
      have e1 : ∀ y : Int32, wsf (wsf (wsf (wsf w 18 4 V) 18 2 (nI (b + j))) 18 4 y) 18 2 (nI (b + j + 1)) = wsf (wsf w 18 4 y) 18 2 (nI (b + j + 1)) := fun y => by
        unfold wsf
        dsimp only
        rw [mf_mf, mf_mf, mf_mf, mf_s, mf_s, mf_s, mf_mf, mf_s]
        refine congrArg (fun q => (mf w.1 18 q, w.2)) (funext fun i => ?_)
        unfold upd
        by_cases i2 : i = 2
        · subst i2; rfl
        · by_cases i4 : i = 4
          · subst i4; rfl
          · simp only [if_neg i2, if_neg i4]
      have r2 : ∀ y : Int32, (wsf (wsf (wsf w 18 4 V) 18 2 (nI (b + j))) 18 4 y).1 18 2 = nI (b + j) := fun y => (wsf_ne (by omega)).trans (wsf_at _ _ _ _)
      rw [am_ltU, am_ltU, r2, nI_add, e1]
      exact t1
end
