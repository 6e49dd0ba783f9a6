/-! ===== one of the three parts of a text ===== -/
section
variable {x : Nat → Nat} {z T : Nat}
theorem S_demand {p q c : Nat} {w : am_W} (hp : p ≤ z) (hz : z ≤ 160) (hq : q ≤ 160) (hc : c < 1000) (h : ST x z T p q w) : ∃ w2, F_Read_demand (nI c) w = some w2 ∧ (ctk (lx x z p).2.2.1 (lx x z p).2.2.2 = c → ST x z T (lx x z p).2.1 q w2 ∧ SM T q w w2) ∧ (¬ ctk (lx x z p).2.2.1 (lx x z p).2.2.2 = c → SX x z T (lx x z p).1 w2 ∧ SM T 0 w w2) := by
  have hcv := ctk_v (lx_ok x hp).2.2.2.2
  unfold F_Read_demand F_Read_demand_19
  rw [h.2.2.2.2.1]
  by_cases e : ctk (lx x z p).2.2.1 (lx x z p).2.2.2 = c
  · obtain ⟨w2, e2, T2, M2⟩ := S_advance h hp
    rw [ieq_t e, e2, bn_s]
    exact ⟨w2, rfl, fun _ => ⟨T2, M2⟩, fun q => absurd e q⟩
  · obtain ⟨w2, e2, T2, M2⟩ := T_refuse h hq
    rw [ieq_f e (by omega) (by omega), e2, bn_s]
    exact ⟨w2, rfl, fun q => absurd q e, fun _ => ⟨T2, M2⟩⟩
theorem X_demand {b c : Nat} {w : am_W} (hc : c < 1000) (h9 : ¬ 309 = c) (h : SX x z T b w) : ∃ w2, F_Read_demand (nI c) w = some w2 ∧ SX x z T b w2 ∧ SM T 0 w w2 := by
  obtain ⟨w2, e2, X2, M2⟩ := X_refuse h
  unfold F_Read_demand F_Read_demand_19
  rw [h.2.2.2.1, ieq_f h9 (by omega) (by omega), e2, bn_s]
  exact ⟨w2, rfl, X2, M2⟩
/-- what a part comes to -/
def FP (z p : Nat) : Nat ⊕ (Nat × List Nat) → Prop
  | .inl _ => True
  | .inr (p2, cs) => p < p2 ∧ p2 ≤ z ∧ p + cs.length ≤ p2 ∧ hl cs 0 = some 1
def SPp (x : Nat → Nat) (z T k p : Nat) (res : Nat ⊕ (Nat × List Nat)) : Prop := ∀ q w, q ≤ p → ST x z T p q w → ∃ w8 w9 w2, F_Read_demand (nI 300 + nI k) w = some w8 ∧ F_Read_x (nI 0) (nI 0) w8 = some w9 ∧ F_Read_demand (nI 59) w9 = some w2 ∧ SR x z T q w w2 res
/-- a part behind a fault -/
theorem X_part (hT : T < 6) {k b : Nat} {w : am_W} (hk : k < 3) (h : SX x z T b w) : ∃ w8 w9 w2, F_Read_demand (nI 300 + nI k) w = some w8 ∧ F_Read_x (nI 0) (nI 0) w8 = some w9 ∧ F_Read_demand (nI 59) w9 = some w2 ∧ SX x z T b w2 ∧ SM T 0 w w2 := by
  obtain ⟨w8, e8, X8, M8⟩ := X_demand (c := 300 + k) (by omega) (by omega) h
  obtain ⟨w9, e9, X9, M9⟩ := (X_read hT 100).1 0 0 _ w8 (by omega) (by omega) (by omega) X8
  obtain ⟨w2, e2, X2, M2⟩ := X_demand (c := 59) (by omega) (by omega) X9
  exact ⟨w8, w9, w2, by rw [nI_add]; exact e8, e9, e2, X2, SM_t M8 (SM_t M9 M2)⟩
end
