/-! ===== calls that write the rails: come, go, thing, lock, relock; force; row, taken ===== -/
theorem wst_f {w : am_W} {c i : Nat} {x : Int32} (h : i < 2 ^ 31) : wst w c (nI i) x = wsf w c i x := by
  unfold wst wsf
  rw [nI_clamp h]
theorem wsf_at (w : am_W) (c j : Nat) (x : Int32) : (wsf w c j x).1 c j = x := by
  show mf w.1 c (upd (w.1 c) j x) c j = x
  rw [mf_s]
  exact if_pos rfl
theorem wsf_ne {w : am_W} {c j i : Nat} {x : Int32} (h : ¬ i = j) : (wsf w c j x).1 c i = w.1 c i := by
  show mf w.1 c (upd (w.1 c) j x) c i = _
  rw [mf_s]
  exact if_neg h
theorem wsf_nc {w : am_W} {c j a i : Nat} {x : Int32} (h : Nat.beq a c = false) : (wsf w c j x).1 a i = w.1 a i := congrFun (mf_n h) i
def vset (v : am_V) (a i x : Nat) : am_V := fun b j => bif Nat.beq b a && Nat.beq j i then x else v b j
theorem vset_at (v : am_V) (a i x : Nat) : vset v a i x a i = x := by unfold vset; rw [Nat.beq_refl, Nat.beq_refl]; rfl
theorem vset_ne {v : am_V} {a i x j : Nat} (h : ¬ j = i) : vset v a i x a j = v a j := by unfold vset; rw [nbf h, Bool.and_false]; rfl
theorem vset_nc {v : am_V} {a i x b j : Nat} (h : Nat.beq b a = false) : vset v a i x b j = v b j := by unfold vset; rw [h]; rfl
/-! counting bits -/
def pc (k : Nat) : Nat → Nat
  | 0 => 0
  | n + 1 => pc k n + bif k.testBit n then 1 else 0
def w00 : am_W := (fun _ _ => 0, none)
theorem bc_all : ((List.range 512).all fun k => decide ((F_Jint_bitCount_0f7a4 (nI k) w00).map (fun q => q.1) = some (nI (pc k 10)))) = true := by decide +kernel
theorem S_bits {k : Nat} {w : am_W} (hk : k < 512) : F_Jint_bitCount_0f7a4 (nI k) w = some (nI (pc k 10), w) := by
  have h := of_decide_eq_true (List.all_eq_true.mp bc_all k (List.mem_range.mpr hk))
  have e : F_Jint_bitCount_0f7a4 (nI k) w = ((F_Jint_bitCount_0f7a4 (nI k) w00).map (fun q => q.1)).map (fun x => (x, w)) := rfl
  rw [e, h]
  rfl
section
variable {n m g s T : Nat} {v : am_V} {w : am_W}
theorem VI_hour (hV : VI n m v) {t x : Nat} (hx : x < 24) : VI n m (vset v 3 t x) := ⟨hV.1, hV.2.1, fun u hu => ⟨(hV.2.2.1 u hu).1, (hV.2.2.1 u hu).2.1, by
  by_cases h : u = t
  · rw [h, vset_at]; exact hx
  · rw [vset_ne h]; exact (hV.2.2.1 u hu).2.2⟩, hV.2.2.2⟩
end
/-! force -/
/-! row -/
section
variable {n m g s : Nat} {v : am_V} {w : am_W}
end