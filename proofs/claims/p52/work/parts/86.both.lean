/-! ===== both readers find the same ===== -/
section
variable {x : Nat → Nat} {z T : Nat}
def FL (z r o p : Nat) : Nat ⊕ (Nat × List Nat) → Prop
  | .inl _ => True
  | .inr (p2, su) => p ≤ p2 ∧ p2 ≤ z ∧ p + su.length ≤ p2 ∧ ∀ d, d + hbr r o ≤ 64 → hl su (d + 1) = some (d + 1)
theorem hbr_1 {r o : Nat} (hr : r ≤ 4) : hbr r o = hbr (r + 1) o + 1 := by
  unfold hbr
  omega
/-- a sign, a part, what stands behind it -/
theorem FL_step {r o p e k p2 p3 : Nat} {cs su : List Nat} (hr : r ≤ 4) (hj : jl k = r) (he : p < e) (h2 : FA z (r + 1) o e (.inr (p2, cs))) (h3 : FL z r o p2 (.inr (p3, su))) : FL z r o p (.inr (p3, cs ++ sg k :: su)) := by
  obtain ⟨s1, s2, s3, s4, s5, s6, s7⟩ := sg_r hj hr
  obtain ⟨f1, f2, f3, f4⟩ := h2
  obtain ⟨g1, g2, g3, g4⟩ := h3
  refine ⟨by omega, g2, ?_, fun d hd => ?_⟩
  · rw [List.length_append, List.length_cons]; omega
  · rw [hl_t (f4 (d + 1) (by rw [hbr_1 hr] at hd; omega))]
    show (hgt (sg k) (d + 2)).bind (hl su) = _
    rw [hgt_bin s3 s4 s5, bn_s]
    exact g4 d hd
/-- a sign before a part -/
theorem FA_un {r r2 o o2 p e p2 c : Nat} {cs : List Nat} (hc : c = 13 ∨ c = 19) (he : p < e) (hh : hbr r2 o2 ≤ hbr r o) (h : FA z r2 o2 e (.inr (p2, cs))) : FA z r o p (.inr (p2, cs ++ [c])) := by
  obtain ⟨f1, f2, f3, f4⟩ := h
  refine ⟨by omega, f2, ?_, fun d hd => ?_⟩
  · rw [List.length_append]; show p + (cs.length + 1) ≤ p2; omega
  · rw [hl_t (f4 d (by omega))]
    show (hgt c (d + 1)).bind (hl []) = _
    rw [hgt_un hc]; rfl
end
