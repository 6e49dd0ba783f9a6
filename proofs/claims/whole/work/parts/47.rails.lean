/-! ===== thing, lock, relock, taken ===== -/
/-- what a set of a lock may be -/
def thr (n : Nat) (a : Int32) : Bool := !(decide (a = 0)) && decide ((a &&& ((nI (2 ^ n - 1) ||| nI 256) ^^^ (-nI 1))) = 0)
theorem thr_ex {n : Nat} {a : Int32} (hn : n ≤ 8) (h : thr n a = true) : ∃ k, k < 512 ∧ a = nI k ∧ 0 < k ∧ ∀ i, i < 8 → n ≤ i → k.testBit i = false := by
  unfold thr at h
  rw [Bool.and_eq_true, Bool.not_eq_true', decide_eq_false_iff_not, decide_eq_true_eq] at h
  obtain ⟨h1, h2⟩ := h
  have key : ∀ i, i < 32 → bt a i = true → i < n ∨ i = 8 := by
    intro i hi hb
    have h3 := congrArg (fun x => bt x i) h2
    have h4 : (256 : Nat).testBit i = decide (i = 8) := by
      rw [show (256 : Nat) = 2 ^ 8 from rfl, Nat.testBit_two_pow]
      exact decide_eq_decide.mpr ⟨fun q => q.symm, fun q => q.symm⟩
    have h3 : bt (a &&& ((nI (2 ^ n - 1) ||| nI 256) ^^^ (-nI 1))) i = bt (nI 0) i := h3
    rw [b_and, b_not _ hi, b_or, b_all (by omega) hi, b_nI hi, h4, b_0i, hb, Bool.true_and] at h3
    by_cases q : i < n
    · exact Or.inl q
    · by_cases q2 : i = 8
      · exact Or.inr q2
      · rw [decide_eq_false q, decide_eq_false q2] at h3; cases h3
  obtain ⟨k, hk, rfl⟩ := small_ex (x := a) (fun i h9 hi => Bool.eq_false_iff.mpr (fun q => by rcases key i hi q with r | r <;> omega))
  refine ⟨k, hk, rfl, Nat.pos_of_ne_zero (fun q => h1 (by rw [q]; rfl)), fun i hi hni => Bool.eq_false_iff.mpr (fun q => ?_)⟩
  rcases key i (by omega) (by rw [b_nI (by omega)]; exact q) with r | r <;> omega
section
variable {n m g s : Nat} {v : am_V} {w : am_W}
theorem S_isThrough (hV : VI n m v) (hC : CC n m g s v w) {a : Int32} : F_Rail_isThrough a w = some (bi (thr n a), w) := by
  unfold F_Rail_isThrough thr
  by_cases h1 : a = 0
  · rw [if_pos h1, decide_eq_true h1]; rfl
  · rw [if_neg h1, decide_eq_false h1, S_allThings hV hC, bn_s]
    by_cases h2 : (a &&& ((nI (2 ^ n - 1) ||| nI 256) ^^^ (-nI 1))) = 0
    · rw [decide_eq_true h2, if_pos h2]; rfl
    · rw [decide_eq_false h2, if_neg h2]; rfl
theorem D_areSome (hV : VI n m v) (hM : MM n m g s v w) {a : Int32} : F_Mod_areSome a w = some (bi (thr n a), w) := by
  unfold F_Mod_areSome
  rw [D_inG, bn_s]
  dsimp only
  rw [bi_ite]
  have e1 : (nI 1).toInt = 1 := rfl
  have e2 : (nI 511).toInt = 511 := rfl
  cases ht : thr n a with
  | true =>
    obtain ⟨k, hk, rfl, h0, h5⟩ := thr_ex hV.1 ht
    rw [decide_eq_true (by rw [nI_toInt (by omega), e1, e2]; omega), cond_true, D_everything hV hM, bn_s]
    unfold thr at ht
    rw [Bool.and_eq_true, decide_eq_true_eq] at ht
    rw [if_pos ht.2]; rfl
  | false =>
    cases decide ((nI 1).toInt ≤ a.toInt ∧ a.toInt ≤ (nI 511).toInt) with
    | false => rfl
    | true =>
      rw [cond_true, D_everything hV hM, bn_s]
      by_cases h1 : (a &&& ((nI (2 ^ n - 1) ||| nI 256) ^^^ (-nI 1))) = 0
      · have h2 : a = 0 := Classical.byContradiction fun q => by
          unfold thr at ht
          rw [decide_eq_true h1, decide_eq_false q] at ht
          cases ht
        subst h2
        sorry
      · rw [if_neg h1]; rfl
end
