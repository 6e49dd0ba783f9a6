/-! ===== a text: class and model ===== -/
section
variable {x : Nat → Nat} {z T : Nat}
def SV (T : Nat) (w w2 : am_W) : Prop := EX (fun a => Nat.beq a 18 || (Nat.beq a (20 + 1 + T) || Nat.beq a (27 + 1 + T))) w w2
theorem SV_M {q : Nat} {w w2 : am_W} (h : SM T q w w2) : SV T w w2 := EX_m (fun c hc => by
  simp only [Bool.or_eq_false_iff] at hc ⊢
  exact ⟨hc.1, hc.2.1⟩) h.1
theorem SV_t {a b c : am_W} (h : SV T a b) (k : SV T b c) : SV T a c := EX_t h k
theorem SV_e {w : am_W} {j : Nat} {y : Int32} : SV T w (wsf w (27 + 1 + T) j y) := EX_sf (by
  show (Nat.beq (27 + 1 + T) 18 || (Nat.beq (27 + 1 + T) (20 + 1 + T) || Nat.beq (27 + 1 + T) (27 + 1 + T))) = true
  rw [Nat.beq_refl, Bool.or_true, Bool.or_true])
theorem SV_f {w : am_W} {j : Nat} {y : Int32} : SV T w (wsf w 18 j y) := EX_sf rfl
theorem ne28 (T : Nat) : Nat.beq 18 (27 + 1 + T) = false ∧ Nat.beq 19 (27 + 1 + T) = false ∧ Nat.beq (20 + 1 + T) (27 + 1 + T) = false ∧ Nat.beq (27 + 1 + T) 18 = false ∧ Nat.beq (27 + 1 + T) (20 + 1 + T) = false := ⟨nbf (by omega), nbf (by omega), nbf (by omega), nbf (by omega), nbf (by omega)⟩
theorem ST_e {p q j : Nat} {y : Int32} {w : am_W} (h : ST x z T p q w) : ST x z T p q (wsf w (27 + 1 + T) j y) := by
  obtain ⟨h1, h2, h3, h4, h5, h6, h7, h8⟩ := h
  obtain ⟨n1, n2, n3, n4, n5⟩ := ne28 T
  exact ⟨⟨h1.1, (wsf_nc n1).trans h1.2.1, fun i hi => by rw [wsf_nc n2]; exact h1.2.2 i hi⟩, (wsf_nc n1).trans h2, (wsf_nc n1).trans h3, (wsf_nc n1).trans h4, (wsf_nc n1).trans h5, fun k => (wsf_nc n1).trans (h6 k), (wsf_nc n1).trans h7, h8⟩
theorem SX_e {b j : Nat} {y : Int32} {w : am_W} (h : SX x z T b w) : SX x z T b (wsf w (27 + 1 + T) j y) := by
  obtain ⟨h1, h2, h3, h4, ⟨q, h5, h6⟩, h7⟩ := h
  obtain ⟨n1, n2, n3, n4, n5⟩ := ne28 T
  exact ⟨⟨h1.1, (wsf_nc n1).trans h1.2.1, fun i hi => by rw [wsf_nc n2]; exact h1.2.2 i hi⟩, (wsf_nc n1).trans h2, (wsf_nc n1).trans h3, (wsf_nc n1).trans h4, ⟨q, h5, (wsf_nc n1).trans h6⟩, h7⟩
theorem S_stepT {k F : Nat} {w w8 w9 w2 : am_W} (hk : k < 3) (e8 : F_Read_demand (nI 300 + nI k) w = some w8) (e9 : F_Read_x (nI 0) (nI 0) w8 = some w9) (e2 : F_Read_demand (nI 59) w9 = some w2) : L_Read_read_26 (F + 1) T (nI k) w = L_Read_read_26 F T (nI (k + 1)) (wsf w2 (27 + 1 + T) k (w2.1 18 6)) := by
  show F_Read_read_26 _ _ _ _ = _
  unfold F_Read_read_26
  rw [ile_f hk (by omega), e8, bn_s, e9, bn_s, e2, bn_s, in_nI hk (by omega), am_ckT, am_ltU, wst_f (by omega), nI_add]
theorem X_fin (hT : T < 6) {b : Nat} : ∀ (j k F : Nat) (w : am_W), k + j = 3 → j < F → SX x z T b w → ∃ w2, L_Read_read_26 F T (nI k) w = some (nI 0, w2) ∧ w2.1 18 1 = nI b ∧ w2.1 18 0 = nI 0 ∧ SV T w w2
  | 0, k, F, w, hk, hF, h => by
    obtain ⟨F, rfl⟩ : ∃ j, F = j + 1 := ⟨F - 1, by omega⟩
    obtain ⟨w2, e2, X2, M2⟩ := X_refuse h
    show ∃ w2, F_Read_read_26 _ _ _ _ = some (nI 0, w2) ∧ _
    unfold F_Read_read_26 F_Read_read_79 F_Read_read_96
    rw [ile_t (by omega) (by omega), h.2.2.2.1, ieq_f (by omega) (by omega) (by omega), e2, bn_s, am_ltU, wsf_ne (by omega), X2.2.1, iz_f (by omega) (by omega)]
    exact ⟨_, rfl, (wsf_ne (by omega)).trans X2.2.2.1, wsf_at _ _ _ _, SV_t (SV_M M2) SV_f⟩
  | j + 1, k, F, w, hk, hF, h => by
    obtain ⟨F, rfl⟩ : ∃ j, F = j + 1 := ⟨F - 1, by omega⟩
    obtain ⟨w8, w9, w2, e8, e9, e2, X2, M2⟩ := X_part hT (by omega : k < 3) h
    obtain ⟨w4, e4, b4, z4, V4⟩ := X_fin hT j (k + 1) F _ (by omega) (by omega) (SX_e (j := k) (y := w2.1 18 6) X2)
    exact ⟨w4, (S_stepT (by omega) e8 e9 e2).trans e4, b4, z4, SV_t (SV_M M2) (SV_t SV_e V4)⟩
/-- what a text comes to: its fault, or the codes of its parts -/
def FT : Nat ⊕ (List Nat × List Nat × List Nat) → Prop
  | .inl _ => True
  | .inr (c0, c1, c2) => c0.length + c1.length + c2.length ≤ 160 ∧ hl c0 0 = some 1 ∧ hl c1 0 = some 1 ∧ hl c2 0 = some 1
def STx (T : Nat) (w : am_W) (G : Option (Int32 × am_W)) : Nat ⊕ (List Nat × List Nat × List Nat) → Prop
  | .inl b => ∃ w2, G = some (nI 0, w2) ∧ w2.1 18 1 = nI b ∧ w2.1 18 0 = nI 0 ∧ SV T w w2
  | .inr (c0, c1, c2) => ∃ w2, G = some (nI 1, w2) ∧ SQ stp (c0 ++ (c1 ++ c2)) 0 (w2.1 (20 + 1 + T)) ∧ w2.1 (27 + 1 + T) 0 = nI c0.length ∧ w2.1 (27 + 1 + T) 1 = nI (c0.length + c1.length) ∧ w2.1 (27 + 1 + T) 2 = nI (c0.length + c1.length + c2.length) ∧ w2.1 18 0 = nI 0 ∧ SV T w w2 ∧ w2.2 = some T
end
