/-! ===== the law's own memory: the class's cells, what was made meanwhile, the row of longs ===== -/
abbrev am_U : Type := am_W × (Nat → Int64)
def hlw (X : am_H) (u : am_U) : am_H := ww u.1 ++ (X ++ [.inl (1, 160, .inr (.inl u.2))])
def hst (u : am_U) (i : Int32) (x : Int64) : am_U := (u.1, vp_updL u.2 i.toNatClampNeg x)
theorem hl_len {X : am_H} {u : am_U} : (hlw X u).length = 53 + X.length + 1 := by
  unfold hlw
  rw [List.length_append, List.length_append, ww_len]
  simp only [List.length_cons, List.length_nil]
  omega
theorem hl_len2 {X : am_H} {u u2 : am_U} : (hlw X u2).length = (hlw X u).length := by rw [hl_len, hl_len]
theorem hl_le {X : am_H} {u : am_U} (h : X.length ≤ 1000) : (hlw X u).length ≤ am_pX := by
  rw [hl_len]
  show _ ≤ 2000000
  omega
theorem hl_get {X : am_H} {u : am_U} : (hlw X u)[53 + X.length]? = some (.inl (1, 160, .inr (.inl u.2))) := by
  unfold hlw
  rw [List.getElem?_append_right (by rw [ww_len]; omega), ww_len, List.getElem?_append_right (by omega)]
  rw [show 53 + X.length - 53 - X.length = 0 by omega]
  rfl
theorem hl_set {X : am_H} {u u2 : am_U} {i : Int32} {x : Int64} (e : hst u i x = u2) : (hlw X u).set (53 + X.length) (.inl (1, 160, .inr (.inl (vp_updL u.2 i.toNatClampNeg x)))) = hlw X u2 := by
  subst e
  unfold hlw hst
  rw [List.set_append_right _ _ (by rw [ww_len]; omega), ww_len, List.set_append_right _ _ (by omega)]
  rw [show 53 + X.length - 53 - X.length = 0 by omega]
  rfl
theorem hl_0 (X : am_H) (u : am_U) : (hlw X u)[0]? = some (.inr (6, [.ref 1, .ref 9, .ref 17, .ref 36, .ref 40, .ref 42, .ref 43, .ref 44, .int (u.1.1 0 8), .int (u.1.1 0 9)])) := rfl
theorem am_hl {rest : List Value} {h : am_H} (h1 : Nat.ble (am_cat rest) 8 = true) (h2 : h.length ≤ am_pX) : (Nat.ble (am_cat rest) 8 && Nat.ble h.length am_pX) = true := by
  rw [h1, Nat.ble_eq_true_of_le h2]
  rfl
theorem am_kcall {E : am_E} {mc ms z pc k n : Nat} {P : am_S → Prop} {as rest : List Value} {lv : am_L} {kf : Option (List Nat)} {h h1 : am_H} {r : Option Value} (hl : (Nat.ble (am_cat rest) 8 && Nat.ble h.length am_pX) = true) (hE : E z as h r h1 0 0) (hlen : h1.length = h.length) (hk : k ≤ mc) (hn : n ≤ ms) (H : P (pc + 3, am_pick kf lv, r.toList ++ rest, h1, k, n)) : am_call (am_fr E) mc ms P z as pc lv kf rest h k n := by
  unfold am_call
  rw [hl]
  rw [Bool.and_eq_true] at hl
  exact ⟨r, h1, 0, 0, am_fr_of hE (Nat.le_of_eq hlen.symm) (by rw [hlen]; exact Nat.le_of_ble_eq_true hl.2), Nat.le_of_eq hlen.symm, hk, hn, Or.inl hlen, H⟩
/-- a call of the class's, the rest of the heap untouched -/
theorem am_fr_c {E : am_E} {z : Nat} {as : List Value} {w w2 : am_W} {Y : am_H} {r : Option Value} (hY : Y.length ≤ 2000) (hE : E z as (ww w) r (ww w2) 0 0) (has : ∀ off, as.map (am_mv (am_ro 0 53 off)) = as) (hr : ∀ off, r.map (am_mv (am_ro 0 53 off)) = r) : am_fr E z as (ww w ++ Y) r (ww w2 ++ Y) 0 0 := by
  refine ⟨[], Y, ww w, ww w2, as, r, hE, by rw [ww_len, ww_len]; exact Nat.le_refl _, ?_, Or.inl (by rw [ww_len, ww_len]), ?_, ?_, ?_, ?_⟩
  · rw [ww_len]
    show 53 + (0 + Y.length) ≤ 2000000
    omega
  · exact (has _).symm
  · show _ = [] ++ ((ww w).map (am_mc (am_ro 0 (ww w).length (0 + Y.length))) ++ Y)
    rw [ww_len, ww_mv]
    rfl
  · exact (hr _).symm
  · show _ = [] ++ (((ww w2).take (ww w).length).map (am_mc (am_ro 0 (ww w).length (0 + Y.length))) ++ (Y ++ ((ww w2).drop (ww w).length).map (am_mc (am_ro 0 (ww w).length (0 + Y.length)))))
    rw [ww_len, List.take_of_length_le (by rw [ww_len]; exact Nat.le_refl _), List.drop_eq_nil_of_le (by rw [ww_len]; exact Nat.le_refl _), ww_mv, List.map_nil, List.append_nil]
    rfl
theorem am_kfc {E : am_E} {mc ms z pc k n : Nat} {P : am_S → Prop} {as rest : List Value} {lv : am_L} {kf : Option (List Nat)} {X : am_H} {u : am_U} {w2 : am_W} {r : Option Value} (hl1 : Nat.ble (am_cat rest) 8 = true) (hX : X.length ≤ 1000) (hE : E z as (ww u.1) r (ww w2) 0 0) (has : ∀ off, as.map (am_mv (am_ro 0 53 off)) = as) (hr : ∀ off, r.map (am_mv (am_ro 0 53 off)) = r) (hk : k ≤ mc) (hn : n ≤ ms) (H : P (pc + 3, am_pick kf lv, r.toList ++ rest, hlw X (w2, u.2), k, n)) : am_call (am_fr E) mc ms P z as pc lv kf rest (hlw X u) k n := by
  unfold am_call
  rw [hl1, Nat.ble_eq_true_of_le (hl_le hX)]
  exact ⟨r, hlw X (w2, u.2), 0, 0, am_fr_c (by rw [List.length_append]; show X.length + 1 ≤ 2000; omega) hE has hr, Nat.le_of_eq hl_len2, hk, hn, Or.inl hl_len2, H⟩
section
variable {E : am_E} {L : Nat} {xs : Nat → Int32} {sc : Option (Nat × (Nat → Int32))} {y mc ms : Nat} {Φ : Option Value → am_H → Prop} {pc a b hint : Nat} {kf kt : Option (List Nat)} {tg : List (Nat × List Nat)} {lv : am_L} {st : List Value} {h h1 : am_H} {k n : Nat}
theorem am_scn (hh : h.length ≤ am_pX) : h[am_pL]? = none := List.getElem?_eq_none (Nat.le_trans hh (Nat.le_of_ble_eq_true rfl))
theorem am_sld {i : Int32} (he : am_tb y pc = some (.iaload, a, b, hint, kf, kt, tg)) (hh : h.length ≤ am_pX) (hv : vp_in i L) (H : am_go E (some (L, xs)) y mc ms Φ (pc + 1, am_pick kf lv, .int (xs i.toNatClampNeg) :: st, h, k, n)) : am_go E (some (L, xs)) y mc ms Φ (pc, lv, .int i :: .ref am_pL :: st, h, k, n) := by
  refine am_go_step ?_
  unfold am_step
  dsimp only
  rw [he]
  simp only [am_ex, am_i1, am_r1, am_scn hh, Nat.beq_refl, am_b, Nat.ble_eq_true_of_le hh]
  exact ⟨hv, H⟩
theorem am_sln (he : am_tb y pc = some (.arraylength, a, b, hint, kf, kt, tg)) (hh : h.length ≤ am_pX) (H : am_go E (some (L, xs)) y mc ms Φ (pc + 1, am_pick kf lv, .int (nI L) :: st, h, k, n)) : am_go E (some (L, xs)) y mc ms Φ (pc, lv, .ref am_pL :: st, h, k, n) := by
  refine am_go_step ?_
  unfold am_step
  dsimp only
  rw [he]
  have h9 : Nat.ble am_pV am_pL = false := rfl
  simp only [am_ex, am_r1, am_scn hh, h9, Nat.beq_refl, am_b, Nat.ble_eq_true_of_le hh, Bool.and_self]
  exact H
theorem am_lald {o len : Nat} {f : Nat → Int64} {i : Int32} (he : am_tb y pc = some (.laload, a, b, hint, kf, kt, tg)) (ho : h[o]? = some (.inl (1, len, .inr (.inl f)))) (hv : vp_in i len) (H : am_go E sc y mc ms Φ (pc + 1, am_pick kf lv, .long (f i.toNatClampNeg) :: st, h, k, n)) : am_go E sc y mc ms Φ (pc, lv, .int i :: .ref o :: st, h, k, n) := by
  refine am_go_step ?_
  unfold am_step
  dsimp only
  rw [he]
  simp only [am_ex, am_i1, am_r1, am_arr, ho, Nat.beq_refl, am_b, am_al]
  exact ⟨hv, H⟩
theorem am_lasd {o len : Nat} {f : Nat → Int64} {i : Int32} {x : Int64} (he : am_tb y pc = some (.lastore, a, b, hint, kf, kt, tg)) (ho : h[o]? = some (.inl (1, len, .inr (.inl f)))) (hv : vp_in i len) (e : h.set o (.inl (1, len, .inr (.inl (vp_updL f i.toNatClampNeg x)))) = h1) (H : am_go E sc y mc ms Φ (pc + 1, am_pick kf lv, st, h1, k, n)) : am_go E sc y mc ms Φ (pc, lv, .long x :: .int i :: .ref o :: st, h, k, n) := by
  refine am_go_step ?_
  unfold am_step
  dsimp only
  rw [he]
  simp only [am_ex, am_i1, am_l1, am_r1, am_arr, ho, Nat.beq_refl, am_b, am_al, e]
  exact ⟨hv, H⟩
end
/-! how the law's methods run: p over any heap, u over the law's memory, w the law itself -/
abbrev am_gp (L : Nat) (xs : Nat → Int32) (d y : Nat) (o : Int32) (g : am_H) (c : am_S) : Prop := am_go (am_fr (am_run (some (L, xs)) d)) (some (L, xs)) y 0 0 (fun r h => r = some (.int o) ∧ h = g) c
abbrev am_gu (L : Nat) (xs : Nat → Int32) (d y : Nat) (X : am_H) (o : Int32 × am_U) (c : am_S) : Prop := am_go (am_fr (am_run (some (L, xs)) d)) (some (L, xs)) y 0 0 (fun r h => r = some (.int o.1) ∧ h = hlw X o.2) c
abbrev am_guv (L : Nat) (xs : Nat → Int32) (d y : Nat) (X : am_H) (o : am_U) (c : am_S) : Prop := am_go (am_fr (am_run (some (L, xs)) d)) (some (L, xs)) y 0 0 (fun r h => r = none ∧ h = hlw X o) c
abbrev am_gw (L : Nat) (xs : Nat → Int32) (_k _n : Nat) (c : am_S) : Prop := am_go (am_fr (am_run (some (L, xs)) 1000)) (some (L, xs)) 129 600000 7302250 (fun r _ => r = some (.int 1)) c
theorem am_fp {x o : Int32} {g : am_H} (h : some x = some o) : some (Value.int x) = some (Value.int o) ∧ g = g := by
  cases h
  exact ⟨rfl, rfl⟩
theorem am_fu {X : am_H} {x : Int32} {u : am_U} {o : Int32 × am_U} (h : some (x, u) = some o) : some (Value.int x) = some (Value.int o.1) ∧ hlw X u = hlw X o.2 := by
  cases h
  exact ⟨rfl, rfl⟩
theorem am_fuv {X : am_H} {u o : am_U} (h : some u = some o) : (none : Option Value) = none ∧ hlw X u = hlw X o := by
  cases h
  exact ⟨rfl, rfl⟩
theorem am_fn1 {x : Int32} (h : some x = some (nI 1)) : narrow .boolean (.int x) = .int x := by
  cases h
  rfl
theorem am_f1 {x : Int32} (h : some x = some (nI 1)) : some (Value.int x) = some (Value.int 1) := by
  cases h
  rfl
