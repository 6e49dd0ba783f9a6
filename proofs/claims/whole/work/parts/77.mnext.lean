/-! ===== the model's next token ===== -/
/-- the model's number of a token -/
def dtk (k : Nat) : Int32 := if k = 7 then -nI 1 else nI k
/-- what the model leaves of a token -/
def DTq (t : Nat × Nat × Nat × Nat) (w w2 : am_W) : Prop := EX (fun a => Nat.beq a 53) w w2 ∧ (∀ j, ¬ j = 25 → ¬ j = 26 → ¬ j = 27 → ¬ j = 28 → w2.1 53 j = w.1 53 j) ∧ w2.1 53 26 = nI t.1 ∧ w2.1 53 25 = nI t.2.1 ∧ w2.1 53 27 = dtk t.2.2.1 ∧ (t.2.2.1 = 1 ∨ t.2.2.1 = 2 ∨ t.2.2.1 = 3 → w2.1 53 28 = nI t.2.2.2)
section
variable {x : Nat → Nat} {z : Nat} {w : am_W}
theorem isL_32 {c : Nat} (h : isL c = true) : ¬ c = 32 := fun q => by rw [q] at h; cases h
/-- the model's words and the kinds -/
theorem fiw_wi (l : List Nat) : ∃ k, fiw l MW 0 = k ∧ k ≤ 12 ∧ (if 3 ≤ k then (if 9 ≤ k then (if k = 12 then -nI 1 else nI (4 + k - 9)) else nI 2) else nI 3) = dtk (wi l).1 ∧ ((wi l).1 = 1 ∨ (wi l).1 = 2 ∨ (wi l).1 = 3 → (if 3 ≤ k then k - 3 else k) = (wi l).2) := by
  unfold MW wi
  simp only [fiw]
  by_cases c0 : l = [116, 97, 107, 101, 115]
  · rw [if_pos c0, if_pos c0]; exact ⟨_, rfl, by decide, by decide, by decide⟩
  rw [if_neg c0, if_neg c0]
  by_cases c1 : l = [115, 97, 119, 115]
  · rw [if_pos c1, if_pos c1]; exact ⟨_, rfl, by decide, by decide, by decide⟩
  rw [if_neg c1, if_neg c1]
  by_cases c2 : l = [109, 105, 110, 100, 115]
  · rw [if_pos c2, if_pos c2]; exact ⟨_, rfl, by decide, by decide, by decide⟩
  rw [if_neg c2, if_neg c2]
  by_cases c3 : l = [111, 114]
  · subst c3; exact ⟨_, rfl, by decide, by decide, by decide⟩
  rw [if_neg c3]
  by_cases c4 : l = [97, 110, 100]
  · subst c4; exact ⟨_, rfl, by decide, by decide, by decide⟩
  rw [if_neg c4]
  by_cases c5 : l = [110, 111, 116]
  · subst c5; exact ⟨_, rfl, by decide, by decide, by decide⟩
  rw [if_neg c5, if_neg c3, if_neg c4, if_neg c5]
  by_cases c6 : l = [109, 111, 114, 101]
  · rw [if_pos c6, if_pos c6]; exact ⟨_, rfl, by decide, by decide, by decide⟩
  rw [if_neg c6, if_neg c6]
  by_cases c7 : l = [115, 111, 114, 116]
  · rw [if_pos c7, if_pos c7]; exact ⟨_, rfl, by decide, by decide, by decide⟩
  rw [if_neg c7, if_neg c7]
  by_cases c8 : l = [104, 111, 117, 114]
  · rw [if_pos c8, if_pos c8]; exact ⟨_, rfl, by decide, by decide, by decide⟩
  rw [if_neg c8, if_neg c8]
  by_cases c9 : l = [116, 104, 105, 110, 103]
  · rw [if_pos c9, if_pos c9]; exact ⟨_, rfl, by decide, by decide, by decide⟩
  rw [if_neg c9, if_neg c9]
  by_cases c10 : l = [109, 97, 110, 121]
  · rw [if_pos c10, if_pos c10]; exact ⟨_, rfl, by decide, by decide, by decide⟩
  rw [if_neg c10, if_neg c10]
  by_cases c11 : l = [107, 105, 110, 100]
  · rw [if_pos c11, if_pos c11]; exact ⟨_, rfl, by decide, by decide, by decide⟩
  rw [if_neg c11, if_neg c11]
  exact ⟨_, rfl, by decide, by decide, by decide⟩
/-- a word read: its kind, which -/
theorem D_146 (h : DT x z w) (hA : ABC w) {p e : Nat} (h26 : w.1 53 26 = nI p) (h25 : w.1 53 25 = nI e) (he : e ≤ z) (hp : p ≤ e) (hx : ∀ t, p ≤ t → t < e → ¬ x t = 32) : ∃ V, F_Mod_next_146 w = some (wsf (wsf w 53 27 (dtk (wi (lts x p e)).1)) 53 28 V) ∧ ((wi (lts x p e)).1 = 1 ∨ (wi (lts x p e)).1 = 2 ∨ (wi (lts x p e)).1 = 3 → V = nI (wi (lts x p e)).2) := by
  obtain ⟨k, e1, k12, e2, e3⟩ := fiw_wi (lts x p e)
  unfold F_Mod_next_146 F_Mod_next_195 F_Mod_next_211 F_Mod_next_403
  rw [h26, h25, D_wordFrom h hA he hp hx, e1, bn_s]
  dsimp only
  rw [← e2]
  by_cases q3 : 3 ≤ k
  · rw [ile_t q3 (by omega), if_pos q3]
    refine ⟨nI (k - 3), ?_, fun q => by rw [← e3 q, if_pos q3]⟩
    by_cases q9 : 9 ≤ k
    · rw [ile_t q9 (by omega), if_pos q9]
      by_cases q12 : k = 12
      · rw [ieq_t q12, if_pos q12, am_ltU, ile_t q3 (by omega), am_ltU, pk_sub q3]
      · rw [ieq_f q12 (by omega) (by omega), if_neg q12, am_ltU, ile_t q3 (by omega), am_ltU, pk_sub q3, nI_add, pk_sub (by omega)]
    · rw [ile_f (by omega) (by omega), if_neg q9, am_ltU, ile_t q3 (by omega), am_ltU, pk_sub q3]
  · rw [ile_f (by omega) (by omega), if_neg q3]
    refine ⟨nI k, ?_, fun q => by rw [← e3 q, if_neg q3]⟩
    rw [am_ltU, ile_f (by omega) (by omega), am_ltU]
end
