/-! ===== small facts ===== -/
theorem m1_ti : (-nI 1 : Int32).toInt = -1 := by decide
theorem KP_b {a b : am_W} (c : Nat) (hc : ∀ j, area c j = 0) (h : EX (fun a => Nat.beq a c) a b) : KP a b := KP_ex (fun a ha j => by rw [Nat.eq_of_beq_eq_true ha]; exact hc j) h
theorem map_1 {α : Type} {o : Option (α × am_W)} {r : α} (h : o.map (fun q => q.1) = some r) (w : am_W) : o.map (fun q => (q.1, w)) = some (r, w) := by
  cases o with
  | none => cases h
  | some q => rw [Option.map_some] at h ⊢; rw [Option.some.inj h]
theorem bn_V {α β : Type} (x : α) (f : α → Option β) : (some x).bind f = f x := (Eq.refl _).trans (Eq.refl _)
theorem am_ltV {α β : Type} (x : α) (f : α → β) : am_lt x f = f x := (Eq.refl _).trans (Eq.refl _)
theorem am_ckV {α : Type} {k : Option α} : am_ck true k = k := (Eq.refl _).trans (Eq.refl _)
theorem cond_V1 {α : Type} {a b : α} : (bif true then a else b) = a := (Eq.refl _).trans (Eq.refl _)
theorem cond_V0 {α : Type} {a b : α} : (bif false then a else b) = b := (Eq.refl _).trans (Eq.refl _)
theorem wsf_fc {w : am_W} {c j a : Nat} {x : Int32} (h : ¬ a = c) : (wsf w c j x).1 a = w.1 a := mf_n (nbf h)
theorem m1_ne {a : Nat} (ha : a < 2 ^ 31) : ¬ nI a = -nI 1 := fun q => by
  have := congrArg Int32.toInt q
  rw [nI_toInt ha, m1_ti] at this
  omega
/-- the model's number of a token -/
def dtk (k : Nat) : Int32 := if k = 7 then -nI 1 else nI k
/-- how a sign between two lets the others come -/
def lsr (r : Nat) : Nat := [1, 2, 5, 5, 6].getD r 0
