/-! ===== what both readers find where an E, or a part of one, stands ===== -/
/-- how a rank binds, and under what its parts may stand -/
def lor (r : Nat) : Nat := [1, 2, 3, 5, 6, 7].getD r 0
def tbr (r : Nat) : Nat := [1, 2, 4, 5, 6, 7].getD r 0
/-- a comparing sign is the first that doesn't bind two numbers -/
def RP (pd : List Nat) : Prop := ∃ A c B, pd = A ++ c :: B ∧ RK 5 A ∧ c < 20 ∧ rk c = 4
/-- the token behind joins nothing of this rank -/
def NX (r k : Nat) (pd : List Nat) : Prop := r ≤ jl k → jl k ≤ 4 → r ≤ 2 ∧ jl k = 2 ∧ RP pd
/-- what comes of pieces: a code behind; one behind another; with a sign of two behind; in ( ) -/
def rUn (c : Nat) : Nat ⊕ (Nat × List Nat) → Nat ⊕ (Nat × List Nat)
  | .inl b => .inl b
  | .inr (p2, cs) => .inr (p2, cs ++ [c])
def rCh : Nat ⊕ (Nat × List Nat) → Nat ⊕ (Nat × List Nat) → Nat ⊕ (Nat × List Nat)
  | .inl b, _ => .inl b
  | .inr _, .inl b => .inl b
  | .inr (_, cs1), .inr (p2, su) => .inr (p2, cs1 ++ su)
def rJo (c : Nat) : Nat ⊕ (Nat × List Nat) → Nat ⊕ (Nat × List Nat) → Nat ⊕ (Nat × List Nat)
  | .inl b, _ => .inl b
  | .inr _, .inl b => .inl b
  | .inr (_, cs2), .inr (p3, su) => .inr (p3, cs2 ++ c :: su)
def rPa (x : Nat → Nat) (z : Nat) : Nat ⊕ (Nat × List Nat) → Nat ⊕ (Nat × List Nat)
  | .inl b => .inl b
  | .inr (p2, cs) => if (lx x z p2).2.2.1 = 41 then .inr ((lx x z p2).2.1, cs) else .inl (lx x z p2).1
def rAp (c1 : List Nat) : Nat ⊕ (Nat × List Nat) → Nat ⊕ (Nat × List Nat)
  | .inl b => .inl b
  | .inr (p2, su) => .inr (p2, c1 ++ su)
def hbr (r o : Nat) : Nat := 1 + 5 * (5 - o) + (5 - r)
def FA (z r o p : Nat) : Nat ⊕ (Nat × List Nat) → Prop
  | .inl _ => True
  | .inr (p2, cs) => p < p2 ∧ p2 ≤ z ∧ p + cs.length ≤ p2 ∧ ∀ d, d + hbr r o ≤ 64 → hl cs d = some (d + 1)
def MN (x : Nat → Nat) (z r o p m : Nat) : Prop := (m = 0 ∨ m = 1) ∧ (r ≤ 2 → m = 1) ∧ (2 < r → m = 0 ∨ ¬ (lx x z p).2.2.1 = 6 ∨ 5 ≤ o)
theorem lor_b {r : Nat} (hr : r ≤ 5) : (lor r ≤ 7 ∧ tbr r ≤ 7) ∧ (r < 5 → lor r ≤ lor (r + 1) ∧ tbr r ≤ tbr (r + 1) ∧ tbr r ≤ lsr r ∧ lor r ≤ lsr r ∧ lsr r ≤ lor (r + 1) ∧ [1, 2, 4, 5, 6].getD r 0 < tbr (r + 1) ∧ lor r ≤ [1, 2, 4, 5, 6].getD r 0 ∧ (¬ r = 2 → lsr r ≤ [1, 2, 4, 5, 6].getD r 0)) := by
  match r, hr with
  | 0, _ => decide
  | 1, _ => decide
  | 2, _ => decide
  | 3, _ => decide
  | 4, _ => decide
  | 5, _ => decide
section
variable {x : Nat → Nat} {z T : Nat}
theorem RP_ap {A B : List Nat} (h : RP A) : RP (A ++ B) := by
  obtain ⟨C, c, D, e1, e2⟩ := h
  exact ⟨C, c, D ++ B, by rw [e1, List.append_assoc]; rfl, e2⟩
theorem NX_ap {r k : Nat} {A B : List Nat} (h : NX r k A) : NX r k (A ++ B) := fun h1 h2 => by
  obtain ⟨g1, g2, g3⟩ := h h1 h2
  exact ⟨g1, g2, RP_ap g3⟩
/-- no joiner of this rank either -/
theorem NX_d {r k : Nat} {A : List Nat} (h : NX (r + 1) k A) (hj : ¬ jl k = r) : NX r k A := fun h1 h2 => by
  obtain ⟨g1, g2, g3⟩ := h (by omega) h2
  exact ⟨by omega, g2, g3⟩
end
