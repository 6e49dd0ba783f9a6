/-! ===== what the decompiled functions are made of, and how each says what its method does ===== -/
def am_NF : Nat := 4000
def am_in (i : Int32) (n : Nat) : Bool := !(decide (i < 0)) && Nat.ble (i.toNatClampNeg + 1) n
theorem am_inl {i : Int32} {n : Nat} (h : am_in i n = true) : i.toNatClampNeg < n := by
  unfold am_in at h
  rw [Bool.and_eq_true] at h
  exact Nat.le_of_ble_eq_true h.2
theorem am_inv {i : Int32} {n : Nat} (h : am_in i n = true) : vp_in i n := by
  have h2 := am_inl h
  unfold am_in at h
  rw [Bool.and_eq_true, Bool.not_eq_true', decide_eq_false_iff_not] at h
  intro h3
  rcases h3 with h3 | h3
  · exact h.1 h3
  · omega
def am_ck {α : Type} (b : Bool) (k : Option α) : Option α := match b with
  | true => k
  | false => none
theorem am_ckE {α : Type} {b : Bool} {k : Option α} {o : α} (h : am_ck b k = some o) : b = true ∧ k = some o := by
  cases b with
  | true => exact ⟨rfl, h⟩
  | false => cases h
def am_lt {α β : Type} (x : α) (f : α → β) : β := f x
theorem am_ltE {α β : Type} {x : α} {f : α → Option β} {o : β} (h : am_lt x f = some o) : ∃ y, x = y ∧ f y = some o := ⟨x, rfl, h⟩
theorem am_bnE {α β : Type} {x : Option α} {f : α → Option β} {o : β} (h : x.bind f = some o) : ∃ a, x = some a ∧ f a = some o := by
  cases x with
  | none => cases h
  | some a => exact ⟨a, rfl, h⟩
theorem am_it {α : Type} {c : Prop} {hd : Decidable c} {A B : Option α} {o : α} (hc : c) (h : (if c then A else B) = some o) : A = some o := (if_pos hc).symm.trans h
theorem am_ie {α : Type} {c : Prop} {hd : Decidable c} {A B : Option α} {o : α} (hc : ¬ c) (h : (if c then A else B) = some o) : B = some o := (if_neg hc).symm.trans h
theorem am_inE {α : Type} {c : Prop} {hd : Decidable c} {A : Option α} {o : α} (h : (if c then none else A) = some o) : ¬ c ∧ A = some o := by
  by_cases hc : c
  · rw [if_pos hc] at h; cases h
  · rw [if_neg hc] at h; exact ⟨hc, h⟩
def am_zc {α : Type} (z : Option Nat) (A : Option α) (B : Nat → Option α) : Option α := match z with
  | none => A
  | some t => am_ck (Nat.ble (t + 1) 6) (B t)
theorem am_zcE {α : Type} {z : Option Nat} {A : Option α} {B : Nat → Option α} {o : α} (h : am_zc z A B = some o) : (z = none ∧ A = some o) ∨ ∃ t, z = some t ∧ t < 6 ∧ B t = some o := by
  cases z with
  | none => exact Or.inl ⟨rfl, h⟩
  | some t => exact Or.inr ⟨t, rfl, Nat.le_of_ble_eq_true (am_ckE h).1, (am_ckE h).2⟩
theorem am_zv1 {z : Option Nat} {t : Nat} (h : z = some t) (ht : t < 6) : zv z = .ref (20 + 1 + t) := by
  rw [h]
  show Value.ref (20 + 1 + t % 6) = _
  rw [Nat.mod_eq_of_lt ht]
theorem am_shv {i : Nat} (h : i < 4) : va_rf (va_up (va_up (va_up (va_up (fun _ => none) 0 (some 45)) 1 (some 47)) 2 (some 49)) 3 (some 51) i) = .ref (45 + 2 * i) := by
  match i, h with
  | 0, _ => rfl
  | 1, _ => rfl
  | 2, _ => rfl
  | 3, _ => rfl
abbrev am_gi (sc : Option (Nat × (Nat → Int32))) (d y : Nat) (o : Int32 × am_W) (c : am_S) : Prop := am_go (am_fr (am_run sc d)) sc y 0 0 (fun r h => r = some (.int o.1) ∧ h = ww o.2) c
abbrev am_gj (sc : Option (Nat × (Nat → Int32))) (d y : Nat) (o : Int64 × am_W) (c : am_S) : Prop := am_go (am_fr (am_run sc d)) sc y 0 0 (fun r h => r = some (.long o.1) ∧ h = ww o.2) c
abbrev am_gv (sc : Option (Nat × (Nat → Int32))) (d y : Nat) (o : am_W) (c : am_S) : Prop := am_go (am_fr (am_run sc d)) sc y 0 0 (fun r h => r = none ∧ h = ww o) c
theorem am_mv_id {r : Nat → Nat} (hr : ∀ k, r k = k) (v : Value) : am_mv r v = v := by
  cases v with
  | ref a => exact congrArg Value.ref (hr a)
  | _ => rfl
theorem am_mc_id {r : Nat → Nat} (hr : ∀ k, r k = k) (c : am_C) : am_mc r c = c := by
  cases c with
  | inr o =>
    show Sum.inr (o.1, o.2.map (am_mv r)) = _
    rw [List.map_congr_left (fun v _ => am_mv_id hr v), List.map_id']
  | inl o =>
    obtain ⟨t, n, z⟩ := o
    match z with
    | .inl f => rfl
    | .inr (.inl f) => rfl
    | .inr (.inr (.inl f)) => rfl
    | .inr (.inr (.inr (.inl f))) => rfl
    | .inr (.inr (.inr (.inr f))) =>
      show Sum.inl (t, n, _) = Sum.inl (t, n, _)
      congr 7
      funext i
      by_cases hi : i < n
      · rw [if_pos hi]
        cases f i with
        | none => rfl
        | some a => exact congrArg some (hr a)
      · rw [if_neg hi]
theorem am_ro_id {n : Nat} (k : Nat) : am_ro 0 n 0 k = k := by
  unfold am_ro
  cases Nat.ble am_pX k <;> cases Nat.ble n k <;> rfl
/-- a run is a run over the whole heap -/
theorem am_fr_of {E : am_E} {z : Nat} {as : List Value} {h h1 : am_H} {r : Option Value} {mc ms : Nat} (hE : E z as h r h1 mc ms) (hle : h.length ≤ h1.length) (hb : h1.length ≤ am_pX) : am_fr E z as h r h1 mc ms := by
  have hr : ∀ k, am_ro ([] : am_H).length h.length (([] : am_H).length + ([] : am_H).length) k = k := fun k => am_ro_id k
  have hm : ∀ l : am_H, l.map (am_mc (am_ro ([] : am_H).length h.length (([] : am_H).length + ([] : am_H).length))) = l := fun l => by
    rw [List.map_congr_left (fun c _ => am_mc_id hr c), List.map_id']
  refine ⟨[], [], h, h1, as, r, hE, hle, hb, Or.inr rfl, ?_, ?_, ?_, ?_⟩
  · rw [List.map_congr_left (fun v _ => am_mv_id hr v), List.map_id']
  · rw [hm, List.append_nil]
    rfl
  · cases r with
    | none => rfl
    | some v => exact congrArg some (am_mv_id hr v).symm
  · rw [hm, hm, List.nil_append, List.nil_append, List.take_append_drop]
theorem am_fi {x : Int32} {w : am_W} {o : Int32 × am_W} (h : some (x, w) = some o) : some (Value.int x) = some (Value.int o.1) ∧ ww w = ww o.2 := by
  cases h
  exact ⟨rfl, rfl⟩
theorem am_fj {x : Int64} {w : am_W} {o : Int64 × am_W} (h : some (x, w) = some o) : some (Value.long x) = some (Value.long o.1) ∧ ww w = ww o.2 := by
  cases h
  exact ⟨rfl, rfl⟩
theorem am_fv {w o : am_W} (h : some w = some o) : (none : Option Value) = none ∧ ww w = ww o := by
  cases h
  exact ⟨rfl, rfl⟩
def am_bo (x : Int32) : Bool := decide (x = 0) || decide (x = 1)
theorem am_boE {x : Int32} (h : am_bo x = true) : narrow .boolean (.int x) = .int x := by
  unfold am_bo at h
  rw [Bool.or_eq_true, decide_eq_true_eq, decide_eq_true_eq] at h
  rcases h with rfl | rfl <;> rfl
def am_ch (x : Int32) : Bool := decide ((x.toUInt32 % 65536).toInt32 = x)
theorem am_chE {x : Int32} (h : am_ch x = true) : narrow .char (.int x) = .int x := by
  have h := of_decide_eq_true h
  have h2 := pk_nc x
  rw [h] at h2
  exact h2
def am_by (x : Int32) : Bool := decide (x.toInt8.toInt32 = x)
theorem am_byE {x : Int32} (h : am_by x = true) : narrow .byte (.int x) = .int x := by
  have h := of_decide_eq_true h
  have h2 := pk_nb x
  rw [h] at h2
  exact h2
def am_cpk (sp dp n : Int32) (l1 l2 : Nat) : Bool := !(decide (sp < 0)) && (!(decide (dp < 0)) && (!(decide (n < 0)) && (Nat.ble (sp.toNatClampNeg + n.toNatClampNeg) l1 && Nat.ble (dp.toNatClampNeg + n.toNatClampNeg) l2)))
theorem am_cpv {sp dp n : Int32} {l1 l2 : Nat} {P : Prop} (h : am_cpk sp dp n l1 l2 = true) (H : P) : ¬ sp < 0 ∧ ¬ dp < 0 ∧ ¬ n < 0 ∧ sp.toNatClampNeg + n.toNatClampNeg ≤ l1 ∧ dp.toNatClampNeg + n.toNatClampNeg ≤ l2 ∧ P := by
  unfold am_cpk at h
  simp only [Bool.and_eq_true, Bool.not_eq_true', decide_eq_false_iff_not] at h
  exact ⟨h.1, h.2.1, h.2.2.1, Nat.le_of_ble_eq_true h.2.2.2.1, Nat.le_of_ble_eq_true h.2.2.2.2, H⟩
def am_cix (x z : Int32) : Bool := !(decide (x < 0)) && decide (x < z)
theorem am_cixE {x z : Int32} {P : Prop} (h : am_cix x z = true) (H : P) : ¬ x < 0 ∧ x < z ∧ P := by
  unfold am_cix at h
  simp only [Bool.and_eq_true, Bool.not_eq_true', decide_eq_false_iff_not, decide_eq_true_eq] at h
  exact ⟨h.1, h.2, H⟩
theorem am_calli {E : am_E} {mc ms z pc : Nat} {P : am_S → Prop} {as rest : List Value} {lv : am_L} {kf : Option (List Nat)} {w : am_W} {o : Int32 × am_W} (hl : Nat.ble (am_cat rest) 8 = true) (hE : E z as (ww w) (some (.int o.1)) (ww o.2) 0 0) (H : P (pc + 3, am_pick kf lv, .int o.1 :: rest, ww o.2, 0, 0)) : am_call (am_fr E) mc ms P z as pc lv kf rest (ww w) 0 0 := by
  unfold am_call
  rw [hl, ww_len]
  exact ⟨_, _, _, _, am_fr_of hE (Nat.le_refl _) (by rw [ww_len]; exact Nat.le_of_ble_eq_true rfl), Nat.le_refl _, Nat.zero_le _, Nat.zero_le _, Or.inl rfl, H⟩
theorem am_callj {E : am_E} {mc ms z pc : Nat} {P : am_S → Prop} {as rest : List Value} {lv : am_L} {kf : Option (List Nat)} {w : am_W} {o : Int64 × am_W} (hl : Nat.ble (am_cat rest) 8 = true) (hE : E z as (ww w) (some (.long o.1)) (ww o.2) 0 0) (H : P (pc + 3, am_pick kf lv, .long o.1 :: rest, ww o.2, 0, 0)) : am_call (am_fr E) mc ms P z as pc lv kf rest (ww w) 0 0 := by
  unfold am_call
  rw [hl, ww_len]
  exact ⟨_, _, _, _, am_fr_of hE (Nat.le_refl _) (by rw [ww_len]; exact Nat.le_of_ble_eq_true rfl), Nat.le_refl _, Nat.zero_le _, Nat.zero_le _, Or.inl rfl, H⟩
theorem am_callv {E : am_E} {mc ms z pc : Nat} {P : am_S → Prop} {as rest : List Value} {lv : am_L} {kf : Option (List Nat)} {w o : am_W} (hl : Nat.ble (am_cat rest) 8 = true) (hE : E z as (ww w) none (ww o) 0 0) (H : P (pc + 3, am_pick kf lv, rest, ww o, 0, 0)) : am_call (am_fr E) mc ms P z as pc lv kf rest (ww w) 0 0 := by
  unfold am_call
  rw [hl, ww_len]
  exact ⟨_, _, _, _, am_fr_of hE (Nat.le_refl _) (by rw [ww_len]; exact Nat.le_of_ble_eq_true rfl), Nat.le_refl _, Nat.zero_le _, Nat.zero_le _, Or.inl rfl, H⟩
section
variable {E : am_E} {sc : Option (Nat × (Nat → Int32))} {y mc ms : Nat} {Φ : Option Value → am_H → Prop} {pc a b hint : Nat} {kf kt : Option (List Nat)} {tg : List (Nat × List Nat)} {lv : am_L} {st : List Value} {h h1 : am_H} {k n : Nat}
theorem am_tv {v v1 : Value} (e : v = v1) (H : am_go E sc y mc ms Φ (pc, lv, v1 :: st, h, k, n)) : am_go E sc y mc ms Φ (pc, lv, v :: st, h, k, n) := e ▸ H
theorem am_ifnull0 {x : Int} {z : Option Nat} (he : am_tb y pc = some (.ifnull x, a, b, hint, kf, kt, tg)) (hz : z = none) (H : am_go E sc y mc ms Φ (a, am_pick kt lv, st, h, k, n)) : am_go E sc y mc ms Φ (pc, lv, zv z :: st, h, k, n) := by
  subst hz
  refine am_go_step ?_
  unfold am_step
  dsimp only
  rw [he]
  exact H
theorem am_ifnull1 {x : Int} {z : Option Nat} {t : Nat} (he : am_tb y pc = some (.ifnull x, a, b, hint, kf, kt, tg)) (hz : z = some t) (H : am_go E sc y mc ms Φ (pc + 3, am_pick kf lv, st, h, k, n)) : am_go E sc y mc ms Φ (pc, lv, zv z :: st, h, k, n) := by
  subst hz
  refine am_go_step ?_
  unfold am_step
  dsimp only
  rw [he]
  exact H
theorem am_gfd {x o : Nat} {fs : List Value} {v : Value} (he : am_tb y pc = some (.getfield x, a, b, hint, kf, kt, tg)) (h9 : (Nat.beq a 8 && Nat.ble am_pS o) = false) (ho : h[o]? = some (.inr (a, fs))) (hv : fs[b]? = some v) (H : am_go E sc y mc ms Φ (pc + 3, am_pick kf lv, v :: st, h, k, n)) : am_go E sc y mc ms Φ (pc, lv, .ref o :: st, h, k, n) := by
  refine am_go_step ?_
  unfold am_step
  dsimp only
  rw [he]
  simp only [am_ex, am_r1, h9, am_obj, ho, Nat.beq_refl, am_b, am_ov, hv]
  exact H
theorem am_pfd {x o : Nat} {fs : List Value} {v : Value} (he : am_tb y pc = some (.putfield x, a, b, hint, kf, kt, tg)) (ho : h[o]? = some (.inr (a, fs))) (hb : Nat.ble (b + 1) fs.length = true) (hn : narrow (am_ty a b) v = v) (hf : fits (am_ty a b) v = true) (e : h.set o (.inr (a, fs.set b v)) = h1) (H : am_go E sc y mc ms Φ (pc + 3, am_pick kf lv, st, h1, k, n)) : am_go E sc y mc ms Φ (pc, lv, v :: .ref o :: st, h, k, n) := by
  refine am_go_step ?_
  unfold am_step
  dsimp only
  rw [he]
  simp only [am_ex, am_r1, List.head?_cons, List.tail_cons, am_obj, ho, Nat.beq_refl, hb, Bool.and_self, am_b, am_ov, e]
  exact ⟨hn, hf, H⟩
theorem am_iald {o len : Nat} {f : Nat → Int32} {i : Int32} (he : am_tb y pc = some (.iaload, a, b, hint, kf, kt, tg)) (ho : h[o]? = some (.inl (0, len, .inl f))) (hv : vp_in i len) (H : am_go E sc y mc ms Φ (pc + 1, am_pick kf lv, .int (f i.toNatClampNeg) :: st, h, k, n)) : am_go E sc y mc ms Φ (pc, lv, .int i :: .ref o :: st, h, k, n) := by
  refine am_go_step ?_
  unfold am_step
  dsimp only
  rw [he]
  simp only [am_ex, am_r1, am_i1, am_arr, ho, Nat.beq_refl, am_b, am_ai]
  exact ⟨hv, H⟩
theorem am_iasd {o len : Nat} {f : Nat → Int32} {i x : Int32} (he : am_tb y pc = some (.iastore, a, b, hint, kf, kt, tg)) (ho : h[o]? = some (.inl (0, len, .inl f))) (hv : vp_in i len) (e : h.set o (.inl (0, len, .inl (upd f i.toNatClampNeg x))) = h1) (H : am_go E sc y mc ms Φ (pc + 1, am_pick kf lv, st, h1, k, n)) : am_go E sc y mc ms Φ (pc, lv, .int x :: .int i :: .ref o :: st, h, k, n) := by
  refine am_go_step ?_
  unfold am_step
  dsimp only
  rw [he]
  simp only [am_ex, am_r1, am_i1, am_arr, ho, Nat.beq_refl, am_b, am_ai, e]
  exact ⟨hv, H⟩
theorem am_ald {o len : Nat} {f : Nat → Int32} (he : am_tb y pc = some (.arraylength, a, b, hint, kf, kt, tg)) (ho : h[o]? = some (.inl (0, len, .inl f))) (H : am_go E sc y mc ms Φ (pc + 1, am_pick kf lv, .int (Int32.ofNat len) :: st, h, k, n)) : am_go E sc y mc ms Φ (pc, lv, .ref o :: st, h, k, n) := by
  refine am_go_step ?_
  unfold am_step
  dsimp only
  rw [he]
  simp only [am_ex, am_r1, am_arr, ho]
  exact H
theorem am_cpd {x o o0 l0 l1 : Nat} {f g : Nat → Int32} {sp dp c : Int32} (he : am_tb y pc = some (.invokestatic x, 9003, b, hint, kf, kt, tg)) (h0 : h[o0]? = some (.inl (0, l0, .inl f))) (ho : h[o]? = some (.inl (0, l1, .inl g))) (hr : Nat.ble (am_cat st) 8 = true) (hc : am_cpk sp dp c l0 l1 = true) (e : h.set o (.inl (0, l1, .inl (va_cpy f g sp.toNatClampNeg dp.toNatClampNeg c.toNatClampNeg))) = h1) (H : am_go E sc y mc ms Φ (pc + 3, am_pick kf lv, st, h1, k, n)) : am_go E sc y mc ms Φ (pc, lv, .int c :: .int dp :: .ref o :: .int sp :: .ref o0 :: st, h, k, n) := by
  refine am_go_step ?_
  unfold am_step
  dsimp only
  rw [he]
  have h9 : Nat.ble 9000 9003 = true := rfl
  simp only [am_ex, h9, am_r1, am_i1, am_arr, h0, ho, Nat.beq_refl, hr, Bool.and_self, Bool.true_or, am_b, am_ai, e]
  exact am_cpv hc ⟨fun e => absurd e (by decide), H⟩
theorem am_invd {x o ci : Nat} {fs as rest : List Value} (he : am_tb y pc = some (.invokevirtual x, a, b, hint, kf, kt, tg)) (ht : am_take (am_na a) [] st = some (as, .ref o :: rest)) (ho : h[o]? = some (.inr (ci, fs))) (hc : (!(Nat.ble 9000 a) && (Nat.beq (am_kd a) 1 && (!(Nat.beq (am_ci a) 8 && Nat.ble am_pS o) && (Nat.beq ci (am_ci a) && (Nat.ble (ci + 1) 9 && !(Nat.beq b 2)))))) = true) (H : am_call E mc ms (am_go E sc y mc ms Φ) a (.ref o :: as) pc lv kf rest h k n) : am_go E sc y mc ms Φ (pc, lv, st, h, k, n) := by
  refine am_go_step ?_
  unfold am_step
  dsimp only
  rw [he]
  rw [Bool.and_eq_true, Bool.and_eq_true, Bool.and_eq_true, Bool.not_eq_true', Bool.not_eq_true'] at hc
  simp only [am_ex, hc.1, ht, hc.2.1, hc.2.2.1, am_obj, ho, hc.2.2.2, am_b]
  exact H
theorem am_cls {x : Nat} {as rest : List Value} (he : am_tb y pc = some (.invokestatic x, a, b, hint, kf, kt, tg)) (ht : am_take (am_na a) [] st = some (as, rest)) (hc : (!(Nat.ble 9000 a) && Nat.beq (am_kd a) 0) = true) (H : am_call E mc ms (am_go E sc y mc ms Φ) a as pc lv kf rest h k n) : am_go E sc y mc ms Φ (pc, lv, st, h, k, n) := by
  refine am_go_step ?_
  unfold am_step
  dsimp only
  rw [he]
  rw [Bool.and_eq_true, Bool.not_eq_true'] at hc
  simp only [am_ex, hc.1, ht, hc.2, am_b]
  exact H
theorem am_invs {x o : Nat} {as rest : List Value} (he : am_tb y pc = some (.invokevirtual x, a, b, hint, kf, kt, tg)) (ht : am_take (am_na a) [] st = some (as, .ref o :: rest)) (hc : (!(Nat.ble 9000 a) && (Nat.beq (am_kd a) 1 && ((Nat.beq (am_ci a) 8 && Nat.ble am_pS o) && (Nat.ble o (am_pS + 6) && !(Nat.beq b 2))))) = true) (H : am_call E mc ms (am_go E sc y mc ms Φ) a (.ref o :: as) pc lv kf rest h k n) : am_go E sc y mc ms Φ (pc, lv, st, h, k, n) := by
  refine am_go_step ?_
  unfold am_step
  dsimp only
  rw [he]
  rw [Bool.and_eq_true, Bool.and_eq_true, Bool.and_eq_true, Bool.not_eq_true'] at hc
  simp only [am_ex, hc.1, ht, hc.2.1, hc.2.2.1, hc.2.2.2, am_b]
  exact H
end
