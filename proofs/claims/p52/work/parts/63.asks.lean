/-! ===== asks, saw, out, theft, loot ===== -/
/-- what the class's side, what the model's side tells -/
def SB (n m g s T f : Nat) (v : am_V) (te tc : Nat → Nat → Nat) (w : am_W) : Prop := VI n m v ∧ g < 2 ^ n ∧ CC n m g s v w ∧ TS T f w ∧ TX T te tc w
def ofF (k mo : Nat) (q : Int32) : Int32 := match k with
  | 1 => nI 2 * q
  | 3 => if q = 0 then nI 0 else nI 2 * q + nI mo
  | 4 => nI 1
  | _ => q
/-- OFF -/
def pr (v : am_V) (te tc : Nat → Nat → Nat) (f t l : Nat) : Int32 := ofF (v 1 t) (v 2 t) (sy v te tc f 0 t (some l) 0)
section
variable {n m g s T f : Nat} {v : am_V} {te tc : Nat → Nat → Nat} {w w2 : am_W}
theorem SB_kp (k : KP w w2) (h : SB n m g s T f v te tc w) : SB n m g s T f v te tc w2 := ⟨h.1, h.2.1, CC_fr rfl k h.2.2.1, TS_fr rfl k h.2.2.2.1, TX_fr rfl k h.2.2.2.2 h.2.2.2.1.1⟩
theorem S_say (hb : SB n m g s T f v te tc w) {u p t h : Nat} {lo : Option Nat} (hu : u < T) (hp : p < 3) (ht : t < n) (hl : ∀ l, lo = some l → l < m) : ∃ w2, F_Law_says (nI u) (nI p) (nI t) (lk lo) (nI h) w = some (sy v te tc u p t lo h, w2) ∧ KP w w2 := by
  obtain ⟨w2, e, k⟩ := S_says hb.1 hb.2.2.1 hb.2.2.2.2 hb.2.2.2.1.1 (h := h) hu hp ht hl
  exact ⟨w2, e, KP_34 k⟩
end
theorem in_T {α : Type} {p k : Nat} {x y : α} (hk : k < 2 ^ 30) (h : p ≤ k) : (if nI p < 0 then x else if nI k < nI p then x else y) = y := by
  rw [ilz_f (by omega), ilt_f h (by omega)]
/-! saw -/
theorem CC_s {n m g s : Nat} {v : am_V} {w : am_W} (hC : CC n m g s v w) (h : Nat) : CC n m g h v (wsf w 1 3 (nI h)) := ⟨hC.1, hC.2.1, hC.2.2.1, rfl, hC.2.2.2.2.1, hC.2.2.2.2.2.1, hC.2.2.2.2.2.2⟩
/-- what saws says of a lock and its owner's thing -/
def sw (v : am_V) (te tc : Nat → Nat → Nat) (u l : Nat) : Int32 := sy v te tc u 1 (v 4 l) (some l) 0
section
variable {n m g s T f : Nat} {v : am_V} {te tc : Nat → Nat → Nat} {w w2 : am_W}
theorem S_sawing (hb : SB n m g s T f v te tc w) {u l : Nat} (hu : u < T) (hl : l < m) : ∃ w2, F_Law_sawing (nI u) (nI l) w = some (sw v te tc u l, w2) ∧ KP w w2 := by
  have hm := hb.1.2.1
  obtain ⟨w2, e, k⟩ := S_say hb (u := u) (p := 1) (t := v 4 l) (h := 0) (lo := some l) hu (by omega) (hb.1.2.2.2 l hl).1 (fun j hj => by cases hj; exact hl)
  refine ⟨w2, ?_, k⟩
  have e : F_Law_says (nI u) (nI 1) (nI (v 4 l)) (nI l) (nI 0) w = _ := e
  unfold F_Law_sawing
  simp (disch := omega) only [nI_clamp, am_ckI, ile_t, ile_f, ilt_t, ilt_f, ieq_t, ieq_f, iz_t, iz_f, ilz_f, nI_add, bn_V, am_ltV, am_ckV, cond_V1, cond_V0, bi_ite, ck_bi, ite_T, ite_F, (hb.2.2.1.2.2.2.2.2.2 l hl).1, e]
  rfl
end
/-! out -/
def ouF (p : Nat → Bool) (x : Nat → Int32) : Nat → Nat → Int32 → Int32
  | 0, _, a => a
  | d + 1, i, a => bif p i then (if x i = 0 then -nI 1 else ouF p x d (i + 1) (a + x i)) else ouF p x d (i + 1) a
section
variable {n m g s T f : Nat} {v : am_V} {te tc : Nat → Nat → Nat} {w w2 : am_W}
end
/-! theft, loot -/
def tp (off cut : Int32) : Int32 := if off = 0 then cut else if off < cut then off else cut
theorem tp_le (off cut : Int32) : (if off ≤ cut then off else cut) = if off < cut then off else cut := by
  by_cases h : off < cut
  · rw [if_pos h, if_pos (Int32.le_of_lt h)]
  · rw [if_neg h]
    by_cases h2 : off ≤ cut
    · rw [if_pos h2]
      rw [Int32.le_iff_toInt_le] at h2
      rw [Int32.lt_iff_toInt_lt] at h
      exact Int32.toInt_inj.mp (by omega)
    · rw [if_neg h2]
/-- what it costs to steal a thing, of the first locks -/
def thS (p : Nat → Bool) (x y : Nat → Int32) : Nat → Int32
  | 0 => nI 0
  | i + 1 => bif p i then thS p x y i + tp (x i) (y i) else thS p x y i
/-- the price of a thing to a thief -/
def thP (n m : Nat) (v : am_V) (te tc : Nat → Nat → Nat) (f g s t : Nat) : Int32 := thS (fx v g s t) (pr v te tc f t) (fun l => sy v te tc f 1 t (some l) 0) m
section
variable {n m g s T f : Nat} {v : am_V} {te tc : Nat → Nat → Nat} {w w2 : am_W}
end
/-- the best so far: the first of the least -/
def bst (x : Nat → Option Int32) : Nat → Option (Nat × Int32)
  | 0 => none
  | i + 1 => match x i, bst x i with
    | none, r => r
    | some p, none => some (i, p)
    | some p, some (b, q) => if q ≤ p then some (b, q) else some (i, p)
def b1 : Option (Nat × Int32) → Int32
  | none => -nI 1
  | some (b, _) => nI b
def b2 (e : Int32) : Option (Nat × Int32) → Int32
  | none => e
  | some (_, q) => q
theorem bst_lt {x : Nat → Option Int32} : ∀ {i b : Nat} {q : Int32}, bst x i = some (b, q) → b < i
  | 0, _, _, h => by cases h
  | i + 1, b, q, h => by
    rw [bst] at h
    cases hx : x i with
    | none =>
      rw [hx] at h
      have h : bst x i = some (b, q) := h
      have := bst_lt h
      omega
    | some p =>
      rw [hx] at h
      cases hy : bst x i with
      | none =>
        rw [hy] at h
        have h : some (i, p) = some (b, q) := h
        cases h
        omega
      | some r =>
        obtain ⟨b0, q0⟩ := r
        rw [hy] at h
        have h : (if q0 ≤ p then some (b0, q0) else some (i, p)) = some (b, q) := h
        by_cases h2 : q0 ≤ p
        · rw [if_pos h2] at h
          cases h
          have := bst_lt hy
          omega
        · rw [if_neg h2] at h
          cases h
          omega
theorem bst_c {x y : Nat → Option Int32} : ∀ {i : Nat}, (∀ j, j < i → x j = y j) → bst x i = bst y i
  | 0, _ => rfl
  | i + 1, h => by rw [bst, bst, h i (by omega), bst_c (fun j hj => h j (by omega))]
theorem bst_n {x : Nat → Option Int32} {k : Nat} : ∀ {i : Nat}, k ≤ i → (∀ j, k ≤ j → j < i → x j = none) → bst x i = bst x k
  | 0, h, _ => by rw [show k = 0 from by omega]
  | i + 1, h, h2 => by
    by_cases e : k = i + 1
    · rw [e]
    · rw [bst, h2 i (by omega) (by omega), ← bst_n (i := i) (by omega) (fun j h3 h4 => h2 j h3 (by omega))]
/-- one step, as both take it -/
theorem bst_st {x : Nat → Option Int32} {i : Nat} {p : Int32} (hx : x i = some p) (hi : i < 2 ^ 30) (e : Int32) {α : Type} (A B : α) : (if b1 (bst x i) < 0 then A else if b2 e (bst x i) ≤ p then B else A) = (if bst x (i + 1) = bst x i then B else A) ∧ (if b1 (bst x i) = -nI 1 then A else if b2 e (bst x i) ≤ p then B else A) = (if bst x (i + 1) = bst x i then B else A) ∧ (¬ bst x (i + 1) = bst x i → bst x (i + 1) = some (i, p)) := by
  cases hy : bst x i with
  | none =>
    have h1 : bst x (i + 1) = some (i, p) := by rw [bst, hx, hy]
    rw [h1, if_neg (show ¬ some (i, p) = none from fun q => by cases q)]
    exact ⟨if_pos (by decide), if_pos rfl, fun _ => rfl⟩
  | some r =>
    obtain ⟨b, q⟩ := r
    have hb := bst_lt hy
    have h1 : bst x (i + 1) = if q ≤ p then some (b, q) else some (i, p) := by rw [bst, hx, hy]
    have n1 : ¬ b1 (some (b, q)) < 0 := nI_pos (by omega)
    have n2 : ¬ b1 (some (b, q)) = -nI 1 := m1_ne (by omega)
    rw [h1, if_neg n1, if_neg n2]
    by_cases h2 : q ≤ p
    · rw [if_pos h2, if_pos (show b2 e (some (b, q)) ≤ p from h2), if_pos rfl]
      exact ⟨rfl, rfl, fun h => absurd rfl h⟩
    · rw [if_neg h2, if_neg (show ¬ b2 e (some (b, q)) ≤ p from h2), if_neg (show ¬ some (i, p) = some (b, q) from fun h => by cases h; omega)]
      exact ⟨rfl, rfl, fun _ => rfl⟩
/-- each thing's price -/
def lo (n m : Nat) (v : am_V) (te tc : Nat → Nat → Nat) (f g s t : Nat) : Option Int32 := bif g.testBit t then none else some (thP n m v te tc f g s t)
section
variable {n m g s T f : Nat} {v : am_V} {te tc : Nat → Nat → Nat} {w w2 : am_W}
end