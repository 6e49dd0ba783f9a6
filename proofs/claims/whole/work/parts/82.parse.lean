/-! ===== what both readers find where an E, or a part of one, stands ===== -/
/-- how a rank binds, and under what its parts may stand -/
def lor (r : Nat) : Nat := [1, 2, 3, 5, 6, 7].getD r 0
def tbr (r : Nat) : Nat := [1, 2, 4, 5, 6, 7].getD r 0
/-- a comparing sign is the first that doesn't bind two numbers -/
def RP (pd : List Nat) : Prop := ∃ A c B, pd = A ++ c :: B ∧ RK 5 A ∧ c < 20 ∧ rk c = 4
/-- the token behind joins nothing of this rank -/
def NX (r k : Nat) (pd : List Nat) : Prop := r ≤ jl k → jl k ≤ 4 → r ≤ 2 ∧ jl k = 2 ∧ RP pd
/-- what comes of pieces: a code behind; one behind another; with a sign of two behind; in ( ) -/
def rUn (c : Nat) : Nat ⊕ (Nat × List Nat) → Nat ⊕ (Nat × List Nat)
  | .inl b => .inl b
  | .inr (p2, cs) => .inr (p2, cs ++ [c])
def rCh : Nat ⊕ (Nat × List Nat) → Nat ⊕ (Nat × List Nat) → Nat ⊕ (Nat × List Nat)
  | .inl b, _ => .inl b
  | .inr _, .inl b => .inl b
  | .inr (_, cs1), .inr (p2, su) => .inr (p2, cs1 ++ su)
def rJo (c : Nat) : Nat ⊕ (Nat × List Nat) → Nat ⊕ (Nat × List Nat) → Nat ⊕ (Nat × List Nat)
  | .inl b, _ => .inl b
  | .inr _, .inl b => .inl b
  | .inr (_, cs2), .inr (p3, su) => .inr (p3, cs2 ++ c :: su)
def rPa (x : Nat → Nat) (z : Nat) : Nat ⊕ (Nat × List Nat) → Nat ⊕ (Nat × List Nat)
  | .inl b => .inl b
  | .inr (p2, cs) => if (lx x z p2).2.2.1 = 41 then .inr ((lx x z p2).2.1, cs) else .inl (lx x z p2).1
def rAp (c1 : List Nat) : Nat ⊕ (Nat × List Nat) → Nat ⊕ (Nat × List Nat)
  | .inl b => .inl b
  | .inr (p2, su) => .inr (p2, c1 ++ su)
def hbr (r o : Nat) : Nat := 1 + 5 * (5 - o) + (5 - r)
def FA (z r o p : Nat) : Nat ⊕ (Nat × List Nat) → Prop
  | .inl _ => True
  | .inr (p2, cs) => p < p2 ∧ p2 ≤ z ∧ p + cs.length ≤ p2 ∧ ∀ d, d + hbr r o ≤ 64 → hl cs d = some (d + 1)
def MN (x : Nat → Nat) (z r o p m : Nat) : Prop := (m = 0 ∨ m = 1) ∧ (r ≤ 2 → m = 1) ∧ (2 < r → m = 0 ∨ ¬ (lx x z p).2.2.1 = 6 ∨ 5 ≤ o)
/-- what the model comes to from G, the signs pre of its own held -/
def DR (x : Nat → Nat) (z T r o q : Nat) (H : List Nat) (w : am_W) (G : Option (Int32 × am_W)) (pre : List Nat) : Nat ⊕ (Nat × List Nat) → Prop
  | .inl b => ∃ w2, G = some (nI 0, w2) ∧ w2.1 53 26 = nI b ∧ DM T q w w2
  | .inr (p2, su) => ∃ (w2 : am_W) (F m : Nat) (cn pd : List Nat), G = L_Mod_eRead_14 F (nI 0) (nI m) w2 ∧ z < F + p2 ∧ pre ++ su = cn ++ pd ∧ DS x z T p2 (o + cn19 pd) (q + cn.length) (pd ++ H) w2 ∧ SQ nI cn (200 * T + q) (w2.1 59) ∧ DM T q w w2 ∧ RK (lor r) pd ∧ NX r (lx x z p2).2.2.1 pd
def DC (x : Nat → Nat) (z T r o p : Nat) (res : Nat ⊕ (Nat × List Nat)) : Prop := ∀ (H : List Nat) (q F m : Nat) (w : am_W), DS x z T p o q H w → TOP (tbr r) H → H.length + q ≤ p → z < F + p → MN x z r o p m → DR x z T r o q H w (L_Mod_eRead_14 F (nI 1) (nI m) w) [] res
/-- a ONE: the k signs - before it come with it; a are open then -/
def DQ (x : Nat → Nat) (z T o k q : Nat) (H : List Nat) (w : am_W) (G : Option (Int32 × am_W)) : Nat ⊕ (Nat × List Nat) → Prop
  | .inl b => ∃ w2, G = some (nI 0, w2) ∧ w2.1 53 26 = nI b ∧ DM T q w w2
  | .inr (p2, cs) => ∃ (w2 : am_W) (F m : Nat), G = L_Mod_eRead_14 F (nI 0) (nI m) w2 ∧ z < F + p2 ∧ DS x z T p2 o (q + cs.length + k) H w2 ∧ SQ nI (cs ++ List.replicate k 19) (200 * T + q) (w2.1 59) ∧ DM T q w w2
def DO (x : Nat → Nat) (z T a p : Nat) (res : Nat ⊕ (Nat × List Nat)) : Prop := ∀ (H : List Nat) (k o q F m : Nat) (w : am_W), o + k = a → DS x z T p a q (List.replicate k 19 ++ H) w → TOP 7 H → k + H.length + q ≤ p → z < F + p → MN x z 5 a p m → DQ x z T o k q H w (L_Mod_eRead_14 F (nI 1) (nI m) w) res
theorem lor_b {r : Nat} (hr : r ≤ 5) : (lor r ≤ 7 ∧ tbr r ≤ 7) ∧ (r < 5 → lor r ≤ lor (r + 1) ∧ tbr r ≤ tbr (r + 1) ∧ tbr r ≤ lsr r ∧ lor r ≤ lsr r ∧ lsr r ≤ lor (r + 1) ∧ [1, 2, 4, 5, 6].getD r 0 < tbr (r + 1) ∧ lor r ≤ [1, 2, 4, 5, 6].getD r 0 ∧ (¬ r = 2 → lsr r ≤ [1, 2, 4, 5, 6].getD r 0)) := by
  match r, hr with
  | 0, _ => decide
  | 1, _ => decide
  | 2, _ => decide
  | 3, _ => decide
  | 4, _ => decide
  | 5, _ => decide
section
variable {x : Nat → Nat} {z T : Nat}
/-- more before it -/
theorem DR_pre {r o q : Nat} {H : List Nat} {w w1 : am_W} {G G1 : Option (Int32 × am_W)} {c1 pre : List Nat} {res : Nat ⊕ (Nat × List Nat)} (hG : G = G1) (hM : DM T q w w1) (hc : SQ nI c1 (200 * T + q) (w1.1 59)) (h : DR x z T r o (q + c1.length) H w1 G1 pre res) : DR x z T r o q H w G (c1 ++ pre) res := by
  cases res with
  | inl b =>
    obtain ⟨w2, e1, e2, e3⟩ := h
    exact ⟨w2, hG.trans e1, e2, DM_t hM (DM_m (by omega) e3)⟩
  | inr y =>
    obtain ⟨p2, su⟩ := y
    obtain ⟨w2, F, m, cn, pd, e1, e2, e3, e4, e5, e6, e7, e8⟩ := h
    refine ⟨w2, F, m, c1 ++ cn, pd, hG.trans e1, e2, ?_, ?_, SQ_ap.mpr ⟨SQ_fr (fun i _ hi => e6.2.2 i (by omega)) hc, ?_⟩, DM_t hM (DM_m (by omega) e6), e7, e8⟩
    · rw [List.append_assoc, List.append_assoc, e3]
    · rw [List.length_append, ← Nat.add_assoc]; exact e4
    · rw [Nat.add_assoc]; exact e5
/-- codes moved from behind to before -/
theorem DR_mv {r o q p2 : Nat} {H : List Nat} {w : am_W} {G : Option (Int32 × am_W)} {pre a b : List Nat} (h : DR x z T r o q H w G (pre ++ a) (.inr (p2, b))) : DR x z T r o q H w G pre (.inr (p2, a ++ b)) := by
  obtain ⟨w2, F, m, cn, pd, e1, e2, e3, e4⟩ := h
  exact ⟨w2, F, m, cn, pd, e1, e2, by rw [← List.append_assoc]; exact e3, e4⟩
theorem DR_0 {r o q b : Nat} {H : List Nat} {w : am_W} {G : Option (Int32 × am_W)} {pre pre2 : List Nat} (h : DR x z T r o q H w G pre (.inl b)) : DR x z T r o q H w G pre2 (.inl b) := h
theorem RP_ap {A B : List Nat} (h : RP A) : RP (A ++ B) := by
  obtain ⟨C, c, D, e1, e2⟩ := h
  exact ⟨C, c, D ++ B, by rw [e1, List.append_assoc]; rfl, e2⟩
theorem NX_ap {r k : Nat} {A B : List Nat} (h : NX r k A) : NX r k (A ++ B) := fun h1 h2 => by
  obtain ⟨g1, g2, g3⟩ := h h1 h2
  exact ⟨g1, g2, RP_ap g3⟩
/-- no joiner of this rank either -/
theorem NX_d {r k : Nat} {A : List Nat} (h : NX (r + 1) k A) (hj : ¬ jl k = r) : NX r k A := fun h1 h2 => by
  obtain ⟨g1, g2, g3⟩ := h (by omega) h2
  exact ⟨by omega, g2, g3⟩
end
