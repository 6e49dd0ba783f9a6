/-! ===== what holds between two calls: the class's cells and the model's tell the same ===== -/
/-- which part of the systems a cell tells of: 0 scratch, 1 rails, 2 image, 3 texts, 4 sheets, 5 tape, 6 what never changes -/
def area (c j : Nat) : Nat := match c with
  | 0 => 2
  | 1 => 1
  | 2 => 1
  | 3 => 1
  | 4 => 1
  | 5 => 1
  | 6 => 1
  | 7 => 1
  | 8 => 1
  | 9 => 2
  | 10 => 2
  | 11 => 2
  | 12 => 2
  | 13 => 2
  | 14 => 2
  | 15 => 2
  | 16 => 2
  | 17 => 7
  | 18 => bif Nat.beq j 0 then 5 else 0
  | 19 => 5
  | 20 => 3
  | 21 => 3
  | 22 => 3
  | 23 => 3
  | 24 => 3
  | 25 => 3
  | 26 => 3
  | 27 => 3
  | 28 => 3
  | 29 => 3
  | 30 => 3
  | 31 => 3
  | 32 => 3
  | 33 => 3
  | 34 => 0
  | 35 => 0
  | 37 => 0
  | 38 => 0
  | 39 => 0
  | 41 => 0
  | 43 => 0
  | 44 => 0
  | 67 => 0
  | 68 => 0
  | 69 => 0
  | 70 => 0
  | 71 => 0
  | 72 => 0
  | 73 => 0
  | 74 => 0
  | 45 => 4
  | 46 => 4
  | 47 => 4
  | 48 => 4
  | 49 => 4
  | 50 => 4
  | 51 => 4
  | 52 => 4
  | 62 => 4
  | 63 => 4
  | 64 => 4
  | 54 => 1
  | 55 => 1
  | 56 => 1
  | 57 => 1
  | 58 => 5
  | 59 => 3
  | 60 => 3
  | 61 => 2
  | 53 => bif Nat.ble 25 j then 0 else match j with
    | 0 => 1
    | 4 => 1
    | 5 => 1
    | 7 => 1
    | 9 => 5
    | 12 => 7
    | 13 => 7
    | 14 => 2
    | 15 => 2
    | 16 => 2
    | 17 => 2
    | 18 => 2
    | 19 => 2
    | _ => 6
  | _ => 6
/-- only cells of the parts A were written -/
def FRA (A : Nat → Bool) (w w' : am_W) : Prop := ∀ c j, A (area c j) = false → w'.1 c j = w.1 c j
theorem FRA_r (A : Nat → Bool) (w : am_W) : FRA A w w := fun _ _ _ => rfl
theorem FRA_t {A : Nat → Bool} {a b c : am_W} (h : FRA A a b) (k : FRA A b c) : FRA A a c := fun x j q => (k x j q).trans (h x j q)
theorem FRA_m {A B : Nat → Bool} {a b : am_W} (hs : ∀ i, B i = false → A i = false) (h : FRA A a b) : FRA B a b := fun x j q => h x j (hs _ q)
theorem FRA_st {A : Nat → Bool} {w : am_W} {c : Nat} {i x : Int32} (h : ∀ j, A (area c j) = true) : FRA A w (wst w c i x) := fun a j q => by
  cases hc : Nat.beq a c
  · exact congrFun (mf_n hc) j
  · rw [Nat.eq_of_beq_eq_true hc, h j] at q; cases q
theorem FRA_sf {A : Nat → Bool} {w : am_W} {c i : Nat} {x : Int32} (h : A (area c i) = true) : FRA A w (wsf w c i x) := fun a j q => by
  cases hc : Nat.beq a c
  · exact congrFun (mf_n hc) j
  · have hc := Nat.eq_of_beq_eq_true hc
    subst hc
    show mf w.1 a (upd (w.1 a) i x) a j = w.1 a j
    rw [mf_s]
    unfold upd
    by_cases e : j = i
    · subst e; rw [h] at q; cases q
    · rw [if_neg e]
def KP (w w' : am_W) : Prop := FRA (fun a => Nat.beq a 0) w w'
theorem KP_r (w : am_W) : KP w w := FRA_r _ w
theorem KP_t {a b c : am_W} (h : KP a b) (k : KP b c) : KP a c := FRA_t h k
/-- only cells of S were written -/
def EX (S : Nat → Bool) (w w' : am_W) : Prop := ∀ c, S c = false → w'.1 c = w.1 c
theorem EX_r (S : Nat → Bool) (w : am_W) : EX S w w := fun _ _ => rfl
theorem EX_t {S : Nat → Bool} {a b c : am_W} (h : EX S a b) (k : EX S b c) : EX S a c := fun x q => (k x q).trans (h x q)
theorem EX_m {S R : Nat → Bool} {a b : am_W} (hs : ∀ c, R c = false → S c = false) (h : EX S a b) : EX R a b := fun x q => h x (hs x q)
theorem EX_st {S : Nat → Bool} {w : am_W} {c : Nat} {i x : Int32} (h : S c = true) : EX S w (wst w c i x) := fun a ha => mf_n (Bool.eq_false_iff.mpr (fun q => by rw [Nat.eq_of_beq_eq_true q, h] at ha; cases ha))
theorem EX_sf {S : Nat → Bool} {w : am_W} {c j : Nat} {x : Int32} (h : S c = true) : EX S w (wsf w c j x) := fun a ha => mf_n (Bool.eq_false_iff.mpr (fun q => by rw [Nat.eq_of_beq_eq_true q, h] at ha; cases ha))
theorem KP_ex {S : Nat → Bool} {a b : am_W} (hs : ∀ c, S c = true → ∀ j, area c j = 0) (h : EX S a b) : KP a b := fun c j q => by
  cases hc : S c
  · rw [h c hc]
  · rw [hs c hc j] at q; cases q
/-- the kept rail -/
def KC (n m g s : Nat) (v : am_V) (w : am_W) : Prop := w.1 9 0 = nI n ∧ w.1 9 1 = nI g ∧ w.1 9 2 = nI m ∧ w.1 9 3 = nI s ∧ w.1 9 4 = mk (evr v) n ∧ (∀ t, t < n → w.1 10 t = nI (v 1 t) ∧ w.1 11 t = nI (v 2 t) ∧ w.1 12 t = nI (v 3 t)) ∧ ∀ l, l < m → w.1 13 l = nI (v 4 l) ∧ w.1 14 l = nI (v 5 l) ∧ w.1 15 l = nI (v 6 l) ∧ w.1 16 l = mk (gr v l) n
/-- the class's step for a code of the model's -/
def stp (c : Nat) : Int32 := bif Nat.ble 100000 c then nI (c - 100000) else bif Nat.ble c 5 then -nI 1 - nI c else match c with
  | 11 => -nI 15
  | 12 => -nI 14
  | 13 => -nI 8
  | 14 => -nI 12
  | 15 => -nI 13
  | 16 => -nI 10
  | 17 => -nI 11
  | 18 => -nI 9
  | _ => -nI 7
/-- how a code changes the height of the stack; none: it can't stand here -/
def hgt (c d : Nat) : Option Nat := bif Nat.ble 100000 c && Nat.ble c 109999 || Nat.ble c 5 then (bif Nat.ble (d + 1) 64 then some (d + 1) else none) else bif Nat.beq c 13 || Nat.beq c 19 then (bif Nat.ble 1 d then some d else none) else bif Nat.ble 11 c && Nat.ble c 18 then (bif Nat.ble 2 d then some (d - 1) else none) else none
/-- k codes from i on take the stack from height d to 1 -/
def hts (c : Nat → Nat) : Nat → Nat → Nat → Prop
  | 0, _, d => d = 1
  | k + 1, i, d => ∃ e, hgt (c i) d = some e ∧ hts c k (i + 1) e
/-- the texts: of each the first code behind each part, and the codes -/
def TX (T : Nat) (te tc : Nat → Nat → Nat) (w : am_W) : Prop := ∀ t, t < T → te t 0 = 0 ∧ te t 0 ≤ te t 1 ∧ te t 1 ≤ te t 2 ∧ te t 2 ≤ te t 3 ∧ te t 3 ≤ 160 ∧ (∀ p, p < 3 → w.1 (27 + 1 + t) p = nI (te t (p + 1)) ∧ hts (tc t) (te t (p + 1) - te t p) (te t p) 0) ∧ True ∧ ∀ i, i < te t 3 → w.1 (20 + 1 + t) i = stp (tc t i) ∧ True
section
variable {n m g s T f : Nat} {v : am_V} {te tc : Nat → Nat → Nat} {w w' : am_W}
theorem CC_fr {A : Nat → Bool} (hA : A 1 = false) (k : FRA A w w') (h : CC n m g s v w) : CC n m g s v w' := ⟨(k 1 0 hA).trans h.1, (k 1 1 hA).trans h.2.1, (k 1 2 hA).trans h.2.2.1, (k 1 3 hA).trans h.2.2.2.1, (k 1 4 hA).trans h.2.2.2.2.1, fun t ht => ⟨(k 2 t hA).trans (h.2.2.2.2.2.1 t ht).1, (k 3 t hA).trans (h.2.2.2.2.2.1 t ht).2.1, (k 4 t hA).trans (h.2.2.2.2.2.1 t ht).2.2⟩, fun l hl => ⟨(k 5 l hA).trans (h.2.2.2.2.2.2 l hl).1, (k 6 l hA).trans (h.2.2.2.2.2.2 l hl).2.1, (k 7 l hA).trans (h.2.2.2.2.2.2 l hl).2.2.1, (k 8 l hA).trans (h.2.2.2.2.2.2 l hl).2.2.2⟩⟩
theorem KC_fr {A : Nat → Bool} (hA : A 2 = false) (k : FRA A w w') (h : KC n m g s v w) : KC n m g s v w' := ⟨(k 9 0 hA).trans h.1, (k 9 1 hA).trans h.2.1, (k 9 2 hA).trans h.2.2.1, (k 9 3 hA).trans h.2.2.2.1, (k 9 4 hA).trans h.2.2.2.2.1, fun t ht => ⟨(k 10 t hA).trans (h.2.2.2.2.2.1 t ht).1, (k 11 t hA).trans (h.2.2.2.2.2.1 t ht).2.1, (k 12 t hA).trans (h.2.2.2.2.2.1 t ht).2.2⟩, fun l hl => ⟨(k 13 l hA).trans (h.2.2.2.2.2.2 l hl).1, (k 14 l hA).trans (h.2.2.2.2.2.2 l hl).2.1, (k 15 l hA).trans (h.2.2.2.2.2.2 l hl).2.2.1, (k 16 l hA).trans (h.2.2.2.2.2.2 l hl).2.2.2⟩⟩
theorem TX_fr {A : Nat → Bool} (hA : A 3 = false) (k : FRA A w w') (h : TX T te tc w) (hT : T ≤ 6) : TX T te tc w' := fun t ht => by
  have e1 : ∀ j, w'.1 (27 + 1 + t) j = w.1 (27 + 1 + t) j := fun j => k _ j (by match t, Nat.lt_of_lt_of_le ht hT with | 0, _ => exact hA | 1, _ => exact hA | 2, _ => exact hA | 3, _ => exact hA | 4, _ => exact hA | 5, _ => exact hA)
  have e2 : ∀ j, w'.1 (20 + 1 + t) j = w.1 (20 + 1 + t) j := fun j => k _ j (by match t, Nat.lt_of_lt_of_le ht hT with | 0, _ => exact hA | 1, _ => exact hA | 2, _ => exact hA | 3, _ => exact hA | 4, _ => exact hA | 5, _ => exact hA)
  obtain ⟨h0, h1, h2, h3, h4, h5, h6, h7⟩ := h t ht
  exact ⟨h0, h1, h2, h3, h4, fun p hp => ⟨(e1 p).trans (h5 p hp).1, (h5 p hp).2⟩, trivial, fun i hi => ⟨(e2 i).trans (h7 i hi).1, trivial⟩⟩
end