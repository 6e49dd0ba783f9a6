/-! ===== a few more of ints ===== -/
theorem in_dec {a : Int32} {n : Nat} : am_in a n = decide (0 ≤ a.toInt ∧ a.toInt < n) := by
  rw [Bool.eq_iff_iff, in_iff, decide_eq_true_eq]
section
variable {n m g s : Nat} {v : am_V} {w : am_W}
end

