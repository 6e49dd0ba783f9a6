/-! ===== the model's scans ===== -/
/-- the tape, as the model has it -/
def DT (x : Nat → Nat) (z : Nat) (w : am_W) : Prop := z ≤ 160 ∧ w.1 53 9 = nI z ∧ ∀ i, i < z → w.1 58 i = nI (x i) ∧ x i < 256
theorem D_inC {c a b : Nat} (hc : c < 2 ^ 31) (ha : a < 2 ^ 31) (hb : b < 2 ^ 31) (w : am_W) : F_Mod_in (nI c) (nI a) (nI b) w = some (bi (Nat.ble a c && Nat.ble c b), w) := by
  rw [D_inG, nI_toInt hc, nI_toInt ha, nI_toInt hb]
  refine congrArg (fun q => some (bi q, w)) ?_
  rw [Bool.eq_iff_iff, decide_eq_true_eq, Bool.and_eq_true, Nat.ble_eq, Nat.ble_eq]
  omega
section
variable {x : Nat → Nat} {z : Nat} {w : am_W}
theorem DT_f {j : Nat} {y : Int32} (h : DT x z w) (hj : ¬ j = 9) : DT x z (wsf w 53 j y) := ⟨h.1, by rw [wsf_ne (fun e => hj e.symm)]; exact h.2.1, fun i hi => by rw [wsf_nc rfl]; exact h.2.2 i hi⟩
theorem D_blank (h : DT x z w) : ∀ (d p F : Nat), p + d = z → d < F → L_Mod_next_0 F (wsf w 53 25 (nI p)) = F_Mod_next_52 (wsf w 53 25 (nI (spn x isB d p))) := by
  have hz := h.1
  intro d
  induction d with
  | zero =>
    intro p F hp hF
    obtain ⟨F, rfl⟩ : ∃ j, F = j + 1 := ⟨F - 1, by omega⟩
    have h0 : (wsf w 53 25 (nI p)).1 53 9 = nI z := (DT_f h (by omega)).2.1
    show F_Mod_next_0 _ _ = _
    unfold F_Mod_next_0
    rw [h0, wsf_at, ile_t (by omega) (by omega), spn]
  | succ d ih =>
    intro p F hp hF
    obtain ⟨F, rfl⟩ : ∃ j, F = j + 1 := ⟨F - 1, by omega⟩
    have h0 : (wsf w 53 25 (nI p)).1 53 9 = nI z := (DT_f h (by omega)).2.1
    obtain ⟨h1, h2⟩ := (DT_f h (by omega) (y := nI p) (j := 25)).2.2 p (by omega)
    show F_Mod_next_0 _ _ = _
    unfold F_Mod_next_0 F_Mod_next_39
    rw [h0, wsf_at, ile_f (by omega) (by omega), in_nI (by omega : p < 160) (by omega), am_ckT, nI_clamp (by omega), h1, ieq_b (by omega) (by omega), ieq_b (by omega) (by omega), am_ckT, am_ltU, wsf_wsf, nI_add, ih (p + 1) F (by omega) (by omega), spn]
    unfold isB
    cases Nat.beq (x p) 32 <;> cases Nat.beq (x p) 10 <;> rfl
theorem D_word (h : DT x z w) : ∀ (d p F : Nat), p + d = z → d < F → L_Mod_next_103 F (wsf w 53 25 (nI p)) = F_Mod_next_146 (wsf w 53 25 (nI (spn x isL d p))) := by
  have hz := h.1
  intro d
  induction d with
  | zero =>
    intro p F hp hF
    obtain ⟨F, rfl⟩ : ∃ j, F = j + 1 := ⟨F - 1, by omega⟩
    have h0 : (wsf w 53 25 (nI p)).1 53 9 = nI z := (DT_f h (by omega)).2.1
    show F_Mod_next_103 _ _ = _
    unfold F_Mod_next_103
    rw [h0, wsf_at, ile_t (by omega) (by omega), spn]
  | succ d ih =>
    intro p F hp hF
    obtain ⟨F, rfl⟩ : ∃ j, F = j + 1 := ⟨F - 1, by omega⟩
    have h0 : (wsf w 53 25 (nI p)).1 53 9 = nI z := (DT_f h (by omega)).2.1
    obtain ⟨h1, h2⟩ := (DT_f h (by omega) (y := nI p) (j := 25)).2.2 p (by omega)
    show F_Mod_next_103 _ _ = _
    unfold F_Mod_next_103
    rw [h0, wsf_at, ile_f (by omega) (by omega), in_nI (by omega : p < 160) (by omega), am_ckT, nI_clamp (by omega), h1, D_inC (by omega) (by omega) (by omega), bn_s, bi_ite]
    dsimp only
    rw [wsf_at, am_ltU, wsf_wsf, nI_add, ih (p + 1) F (by omega) (by omega), spn]
    unfold isL
    cases Nat.ble 97 (x p) && Nat.ble (x p) 122 <;> rfl
/-- digits: the value is told as long as they are at most four -/
theorem D_num (h : DT x z w) {b : Nat} : ∀ (d j F : Nat) (V : Int32), b + j + d = z → d < F → (j ≤ 4 → V = nI (nvN x b j)) → ∃ V2, L_Mod_next_230 F (nI j) (wsf (wsf w 53 28 V) 53 25 (nI (b + j))) = some (wsf (wsf (wsf w 53 28 V2) 53 25 (nI (spn x isD d (b + j)))) 53 27 (if spn x isD d (b + j) - b ≤ 4 then nI 1 else -nI 1)) ∧ (spn x isD d (b + j) - b ≤ 4 → V2 = nI (nvN x b (spn x isD d (b + j) - b))) := by
  have hz := h.1
  have nd : ∀ (j : Nat) (V : Int32), b + j ≤ z → F_Mod_next_309 (nI j) (wsf (wsf w 53 28 V) 53 25 (nI (b + j))) = some (wsf (wsf (wsf w 53 28 V) 53 25 (nI (b + j))) 53 27 (if b + j - b ≤ 4 then nI 1 else -nI 1)) := fun j V hj => by
    unfold F_Mod_next_309 F_Mod_next_320 F_Mod_next_403
    rw [show b + j - b = j from by omega]
    by_cases q : j ≤ 4
    · rw [ile_t q (by omega), if_pos q, am_ltU]
    · rw [ile_f (by omega) (by omega), if_neg q, am_ltU]
  intro d
  induction d with
  | zero =>
    intro j F V hj hF hV
    obtain ⟨F, rfl⟩ : ∃ j, F = j + 1 := ⟨F - 1, by omega⟩
    have h0 : (wsf (wsf w 53 28 V) 53 25 (nI (b + j))).1 53 9 = nI z := (DT_f (DT_f h (by omega)) (by omega)).2.1
    refine ⟨V, ?_, fun q => ?_⟩
    · show F_Mod_next_230 _ _ _ = _
      unfold F_Mod_next_230
      rw [h0, wsf_at, ile_t (by omega) (by omega), nd j V (by omega), spn]
    · rw [spn] at q ⊢
      rw [show b + j - b = j from by omega] at q ⊢
      exact hV q
  | succ d ih =>
    intro j F V hj hF hV
    obtain ⟨F, rfl⟩ : ∃ j, F = j + 1 := ⟨F - 1, by omega⟩
    have hR := DT_f (DT_f h (by omega) (y := V) (j := 28)) (by omega) (y := nI (b + j)) (j := 25)
    have h0 : (wsf (wsf w 53 28 V) 53 25 (nI (b + j))).1 53 9 = nI z := hR.2.1
    obtain ⟨h1, h2⟩ := hR.2.2 (b + j) (by omega)
    have r28 : (wsf (wsf w 53 28 V) 53 25 (nI (b + j))).1 53 28 = V := (wsf_ne (by omega)).trans (wsf_at _ _ _ _)
    have e1 : ∀ y : Int32, wsf (wsf (wsf (wsf w 53 28 V) 53 25 (nI (b + j))) 53 28 y) 53 25 (nI (b + j + 1)) = wsf (wsf w 53 28 y) 53 25 (nI (b + j + 1)) := fun y => by
      rw [wsf_sw (i := 25) (j := 28) (by omega), wsf_wsf, wsf_wsf]
    have r2 : ∀ y : Int32, (wsf (wsf (wsf w 53 28 V) 53 25 (nI (b + j))) 53 28 y).1 53 25 = nI (b + j) := fun y => (wsf_ne (by omega)).trans (wsf_at _ _ _ _)
    show ∃ V2, F_Mod_next_230 _ _ _ = _ ∧ _
    unfold F_Mod_next_230 F_Mod_next_290
    rw [h0, wsf_at, ile_f (by omega) (by omega), in_nI (by omega : b + j < 160) (by omega), am_ckT, nI_clamp (by omega), h1, D_inC (by omega) (by omega) (by omega), bn_s, bi_ite]
    dsimp only
    rw [wsf_at, in_nI (by omega : b + j < 160) (by omega), am_ckT, nI_clamp (by omega), h1, r28, am_ltU, am_ltU, am_ltU, am_ltU, r2, r2, nI_add, nI_add, e1, e1]
    rw [show spn x isD (d + 1) (b + j) = bif isD (x (b + j)) then spn x isD d (b + j + 1) else b + j from rfl]
    cases hd : isD (x (b + j)) with
    | false =>
      unfold isD at hd
      rw [hd, cond_false]
      refine ⟨V, nd j V (by omega), fun q => ?_⟩
      rw [cond_false, show b + j - b = j from by omega] at q ⊢
      exact hV q
    | true =>
      unfold isD at hd
      rw [hd, cond_true, cond_true]
      rw [Bool.and_eq_true] at hd
      have g1 := Nat.le_of_ble_eq_true hd.1
      have g2 := Nat.le_of_ble_eq_true hd.2
      by_cases q4 : 4 ≤ j
      · rw [ile_t q4 (by omega)]
        exact ih (j + 1) F (nI 0) (by omega) (by omega) (fun q => by omega)
      · rw [ile_f (by omega) (by omega)]
        exact ih (j + 1) F _ (by omega) (by omega) (fun q => by
          rw [hV (by omega), pk_mul, nI_add, pk_sub (by omega), nvN]
          refine congrArg nI ?_
          omega)
end
