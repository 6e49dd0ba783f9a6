/-! ===== the law's build and text on the abstract machine ===== -/
theorem nc_mc {c : am_C} {lo hi : Nat} (e : am_mc (am_ro 0 53 1) c = c) (h1 : 53 ≤ lo) (h2 : hi ≤ am_pX) : am_nc lo hi c = true := by
  have key : ∀ a, am_ro 0 53 1 a = a → am_nr lo hi (.ref a) = true := fun a h => by
    show (!(Nat.ble lo a && Nat.ble (a + 1) hi)) = true
    by_cases ha : lo ≤ a
    · by_cases hb : a + 1 ≤ hi
      · exfalso
        unfold am_ro at h
        rw [show Nat.ble am_pX a = false from Bool.eq_false_iff.mpr (fun q => by have := Nat.le_of_ble_eq_true q; omega), show Nat.ble 53 a = true from Nat.ble_eq_true_of_le (by omega)] at h
        have h : a + 1 = a := h
        omega
      · rw [show Nat.ble (a + 1) hi = false from Bool.eq_false_iff.mpr (fun q => hb (Nat.le_of_ble_eq_true q)), Bool.and_false]; rfl
    · rw [show Nat.ble lo a = false from Bool.eq_false_iff.mpr (fun q => ha (Nat.le_of_ble_eq_true q))]; rfl
  match c, e with
  | .inr (k, fs), e =>
    have e2 : fs.map (am_mv (am_ro 0 53 1)) = fs := (Prod.mk.inj (Sum.inr.inj e)).2
    have e3 := List.map_inj_left.mp (e2.trans (List.map_id fs).symm)
    show fs.all (am_nr lo hi) = true
    refine List.all_eq_true.mpr (fun v hv => ?_)
    have e4 := e3 v hv
    cases v with
    | ref a => exact key a (Value.ref.inj e4)
    | _ => rfl
  | .inl (t, n, .inr (.inr (.inr (.inr f)))), e =>
    have e2 : (fun i => if i < n then (f i).map (am_ro 0 53 1) else f i) = f := Sum.inr.inj (Sum.inr.inj (Sum.inr.inj (Sum.inr.inj (Prod.mk.inj (Prod.mk.inj (Sum.inl.inj e)).2).2)))
    refine List.all_eq_true.mpr (fun i hi => ?_)
    have hi := List.mem_range.mp hi
    have e3 := congrFun e2 i
    rw [if_pos hi] at e3
    cases hf : f i with
    | none => rfl
    | some a =>
      rw [hf] at e3
      exact key a (Option.some.inj e3)
  | .inl (t, n, .inl f), e => rfl
  | .inl (t, n, .inr (.inl f)), e => rfl
  | .inl (t, n, .inr (.inr (.inl f))), e => rfl
  | .inl (t, n, .inr (.inr (.inr (.inl f)))), e => rfl
theorem ww_nc {w : am_W} {lo hi : Nat} (h1 : 53 ≤ lo) (h2 : hi ≤ am_pX) : (ww w).all (am_nc lo hi) = true := by
  refine List.all_eq_true.mpr (fun c hc => nc_mc ?_ h1 h2)
  exact List.map_inj_left.mp ((ww_mv w 1).trans (List.map_id (ww w)).symm) c hc
/-- a call on the last cells alone, new ones behind them -/
theorem am_fr_m {E : am_E} {z : Nat} {as0 as : List Value} {w : am_W} {Y0 Y1 Z0 Z1 : am_H} {r0 r : Option Value} {mc ms : Nat} (hE : E z as0 Y0 r0 Y1 mc ms) (hl : Y0.length ≤ Y1.length) (hb : Y1.length ≤ 1000) (has : as = as0.map (am_mv (am_ro 53 Y0.length 53))) (hr : r = r0.map (am_mv (am_ro 53 Y0.length 53))) (h0 : Z0 = Y0.map (am_mc (am_ro 53 Y0.length 53))) (h1 : Z1 = Y1.map (am_mc (am_ro 53 Y0.length 53))) : am_fr E z as (ww w ++ Z0) r (ww w ++ Z1) mc ms := by
  refine ⟨ww w, [], Y0, Y1, as0, r0, hE, hl, ?_, Or.inr ?_, has, ?_, hr, ?_⟩
  · show Y1.length + (53 + 0) ≤ 2000000; omega
  · rw [List.append_nil]
    exact ww_nc (by rw [ww_len]; omega) (by show 53 + (Y1.length + 0) ≤ 2000000; omega)
  · rw [h0, List.append_nil]; rfl
  · rw [h1, List.nil_append, ← List.map_append, List.take_append_drop]; rfl
/-- a call that makes nothing, on the last cells alone -/
theorem am_fr_p {E : am_E} {z lo : Nat} {as0 as : List Value} {pre Y0 Z0 : am_H} {r0 r : Option Value} (hp : pre.length = lo) (hE : E z as0 Y0 r0 Y0 0 0) (hb : Y0.length + lo ≤ 1000) (has : as = as0.map (am_mv (am_ro lo Y0.length lo))) (hr : r = r0.map (am_mv (am_ro lo Y0.length lo))) (h0 : Z0 = Y0.map (am_mc (am_ro lo Y0.length lo))) : am_fr E z as (pre ++ Z0) r (pre ++ Z0) 0 0 := by
  subst hp
  refine ⟨pre, [], Y0, Y0, as0, r0, hE, Nat.le_refl _, ?_, Or.inl rfl, has, ?_, hr, ?_⟩
  · show Y0.length + (pre.length + 0) ≤ 2000000; omega
  · rw [h0, List.append_nil]; rfl
  · rw [h0, List.nil_append, ← List.map_append, List.take_append_drop]; rfl
theorem am_kfr {E : am_E} {mc ms z pc k n mc1 ms1 : Nat} {P : am_S → Prop} {as rest : List Value} {lv : am_L} {kf : Option (List Nat)} {h h1 : am_H} {r : Option Value} (hl : (Nat.ble (am_cat rest) 8 && Nat.ble h.length am_pX) = true) (hE : am_fr E z as h r h1 mc1 ms1) (hle : h.length ≤ h1.length) (hk : k + mc1 ≤ mc) (hn : n + ms1 ≤ ms) (hh : h1.length = h.length ∨ am_nh h.length h1.length lv rest [] = true) (H : P (pc + 3, am_pick kf lv, r.toList ++ rest, h1, k + mc1, n + ms1)) : am_call (am_fr E) mc ms P z as pc lv kf rest h k n := by
  unfold am_call
  rw [hl]
  exact ⟨r, h1, mc1, ms1, hE, hle, hk, hn, hh, H⟩
section
variable {E : am_E} {sc : Option (Nat × (Nat → Int32))} {y mc ms : Nat} {Φ : Option Value → am_H → Prop} {pc a b hint : Nat} {kf kt : Option (List Nat)} {tg : List (Nat × List Nat)} {lv : am_L} {st : List Value} {h h1 : am_H} {k n : Nat}
theorem am_newd {x : Nat} (he : am_tb y pc = some (.new x, a, b, hint, kf, kt, tg)) (hn : am_nh h.length (h.length + 1) lv st h = true) (hb : (Nat.ble (k + 1) mc && Nat.ble (n + am_Nf a) ms) = true) (H : am_go E sc y mc ms Φ (pc + 3, am_pick kf lv, .ref h.length :: st, h ++ [.inr (a, am_dfl a)], k + 1, n + am_Nf a)) : am_go E sc y mc ms Φ (pc, lv, st, h, k, n) := by
  refine am_go_step ?_
  unfold am_step
  dsimp only
  rw [he]
  simp only [am_ex, hn, hb, am_b]
  exact H
theorem am_ispd {x o : Nat} {as rest : List Value} (he : am_tb y pc = some (.invokespecial x, a, b, hint, kf, kt, tg)) (ht : am_take (am_na a) [] st = some (as, .ref o :: rest)) (hc : (!(Nat.ble 9000 a) && Nat.beq (am_kd a) 2) = true) (H : am_call E mc ms (am_go E sc y mc ms Φ) a (.ref o :: as) pc lv kf rest h k n) : am_go E sc y mc ms Φ (pc, lv, st, h, k, n) := by
  refine am_go_step ?_
  unfold am_step
  dsimp only
  rw [he]
  rw [Bool.and_eq_true, Bool.not_eq_true'] at hc
  simp only [am_ex, hc.1, ht, hc.2, am_b]
  exact H
theorem am_ldcS {x : Nat} (he : am_tb y pc = some (.ldc x, a, 7, hint, kf, kt, tg)) (hh : Nat.ble h.length am_pX = true) (H : am_go E sc y mc ms Φ (pc + 2, am_pick kf lv, .ref (am_pS + a) :: st, h, k, n)) : am_go E sc y mc ms Φ (pc, lv, st, h, k, n) := by
  refine am_go_step ?_
  unfold am_step
  dsimp only
  rw [he]
  simp only [am_ex, hh, am_b]
  exact H
end
/-! a character of the text -/
def XT (K J M : Nat) : am_H := [.inr (7, [.ref 56, .int (nI 0), .int (nI 0), .int (nI 59)]), .inl (4, 16, .inl (jb_1 K J M)), .inl (4, 34, .inl (jb_5 K J M)), .inl (4, 70, .inl (jb_9 K J M)), .inr (8, [.ref 58, .int (nI 0), .int (nI 0), .int (nI 0)]), .inl (4, 59, .inl (jb_10 K J M))]
theorem XT_len (w : am_W) (K J M : Nat) : (ww w ++ XT K J M).length = 59 := rfl
theorem ch_all : ((List.range 128).all fun n => (List.range 59).all fun i => decide (((jb_10 (n % 4) (n / 4 % 8) (n / 32) i &&& nI 255).toUInt32 % 65536).toInt32 = nI (tX (n % 4) (n / 4 % 8) (n / 32) i))) = true := by decide +kernel
theorem ch_ok {K J M : Nat} (hK : K < 4) (hJ : J < 8) (hM : M < 4) : ∀ i, i < 59 → ((jb_10 K J M i &&& nI 255).toUInt32 % 65536).toInt32 = nI (tX K J M i) := fun i hi => by
  have h2 := of_decide_eq_true (List.all_eq_true.mp (List.all_eq_true.mp ch_all (K + 4 * J + 32 * M) (List.mem_range.mpr (by omega))) i (List.mem_range.mpr hi))
  rwa [show (K + 4 * J + 32 * M) % 4 = K by omega, show (K + 4 * J + 32 * M) / 4 % 8 = J by omega, show (K + 4 * J + 32 * M) / 32 = M by omega] at h2
def ST2 (K J M : Nat) : am_H := [.inr (8, [.ref 1, .int (nI 0), .int (nI 0), .int (nI 0)]), .inl (4, 59, .inl (jb_10 K J M))]
theorem J_lch {sc : Option (Nat × (Nat → Int32))} {D K J M : Nat} (hK : K < 4) (hJ : J < 8) (hM : M < 4) {i : Nat} (hi : i < 59) : am_run sc (D + 1) 100 [.ref 1, .int (nI i)] (ST2 K J M) (some (.int (nI (tX K J M i)))) (ST2 K J M) 0 0 := by
  have ht := tX_b hK hJ hM i hi
  refine am_run_of rfl ?_
  show am_gsb sc D 100 0 0 (some (.int (nI (tX K J M i)))) (ST2 K J M) (0, [(0, .ref 1), (1, .int (nI i))], [], ST2 K J M, 0, 0)
  refine am_go_blk 4 ⟨nI_pos (n := i) (by omega), (show nI i < nI 59 from nI_lt hi (by omega)), (?_ : am_gsb sc D 100 0 0 (some (.int (nI (tX K J M i)))) (ST2 K J M) (6, [(0, .ref 1), (1, .int (nI i))], [], ST2 K J M, 0, 0))⟩
  refine am_go_blk 3 ⟨am_inv (show am_in (nI i) 59 = true from in_nI hi (by omega)), (?_ : am_gsb sc D 100 0 0 (some (.int (nI (tX K J M i)))) (ST2 K J M) (9, [(0, .ref 1), (1, .int (nI i))], [.int (jb_10 K J M (nI i).toNatClampNeg)], ST2 K J M, 0, 0))⟩
  refine am_go_blk 3 (?_ : am_gsb sc D 100 0 0 (some (.int (nI (tX K J M i)))) (ST2 K J M) (14, [(0, .ref 1), (1, .int (nI i))], [.int (((jb_10 K J M (nI i).toNatClampNeg) &&& nI 255).toUInt32 % 65536).toInt32], ST2 K J M, 0, 0))
  rw [nI_clamp (by omega), ch_ok hK hJ hM i hi]
  exact am_go_blk 1 ⟨(pk_charN (by omega)).1, rfl, rfl⟩
theorem J_chr {sc : Option (Nat × (Nat → Int32))} {D K J M : Nat} (hK : K < 4) (hJ : J < 8) (hM : M < 4) {i : Nat} (hi : i < 59) : am_run sc (D + 2) 88 [.ref 0, .int (nI i)] (ST2 K J M) (some (.int (nI (tX K J M i)))) (ST2 K J M) 0 0 := by
  have ht := tX_b hK hJ hM i hi
  refine am_run_of rfl ?_
  show am_gsb sc (D + 1) 88 0 0 (some (.int (nI (tX K J M i)))) (ST2 K J M) (0, [(0, .ref 0), (1, .int (nI i))], [], ST2 K J M, 0, 0)
  refine am_go_blk 1 (?_ : am_gsb sc (D + 1) 88 0 0 (some (.int (nI (tX K J M i)))) (ST2 K J M) (1, [(0, .ref 0), (1, .int (nI i))], [.ref 0], ST2 K J M, 0, 0))
  refine am_go_blk 1 ⟨some (.int (nI 1)), ST2 K J M, 0, 0, am_fr_of (J_72 (D := D) K J M hK hJ hM) (Nat.le_of_ble_eq_true rfl) (Nat.le_of_ble_eq_true rfl), Nat.le_of_ble_eq_true rfl, (show 0 + 0 ≤ 0 by omega), (show 0 + 0 ≤ 0 by omega), Or.inl rfl, (?_ : am_gsb sc (D + 1) 88 0 0 (some (.int (nI (tX K J M i)))) (ST2 K J M) (4, [(0, .ref 0), (1, .int (nI i))], [.int (nI 1)], ST2 K J M, 0, 0))⟩
  refine am_go_blk 1 ⟨fun hc => absurd hc (by decide), fun _ => (?_ : am_gsb sc (D + 1) 88 0 0 (some (.int (nI (tX K J M i)))) (ST2 K J M) (7, [(0, .ref 0), (1, .int (nI i))], [], ST2 K J M, 0, 0))⟩
  refine am_go_blk 3 (?_ : am_gsb sc (D + 1) 88 0 0 (some (.int (nI (tX K J M i)))) (ST2 K J M) (12, [(0, .ref 0), (1, .int (nI i))], [.int (nI i), .ref 1], ST2 K J M, 0, 0))
  refine am_go_blk 1 ⟨some (.int (nI (tX K J M i))), ST2 K J M, 0, 0, am_fr_of (J_lch (D := D) hK hJ hM hi) (Nat.le_of_ble_eq_true rfl) (Nat.le_of_ble_eq_true rfl), Nat.le_of_ble_eq_true rfl, (show 0 + 0 ≤ 0 by omega), (show 0 + 0 ≤ 0 by omega), Or.inl rfl, (?_ : am_gsb sc (D + 1) 88 0 0 (some (.int (nI (tX K J M i)))) (ST2 K J M) (15, [(0, .ref 0), (1, .int (nI i))], [.int (nI (tX K J M i))], ST2 K J M, 0, 0))⟩
  exact am_go_blk 1 ⟨(pk_charN (by omega)).1, rfl, rfl⟩
/-- the cells before the string -/
def XG (K J M : Nat) : am_H := (XT K J M).take 4
def XS (K J M : Nat) : am_H := (XT K J M).drop 4
theorem XT_s (w : am_W) (K J M : Nat) : (ww w ++ XG K J M) ++ XS K J M = ww w ++ XT K J M := by
  rw [List.append_assoc]; rfl
theorem J_len57 {sc : Option (Nat × (Nat → Int32))} {D K J M : Nat} (hK : K < 4) (hJ : J < 8) (hM : M < 4) {w : am_W} : am_fr (am_run sc (D + 2)) 87 [.ref 57] (ww w ++ XT K J M) (some (.int (nI 59))) (ww w ++ XT K J M) 0 0 := by
  rw [← XT_s]
  exact am_fr_p (lo := 57) (as0 := [.ref 0]) (Y0 := ST2 K J M) (r0 := some (.int (nI 59))) rfl (J_71 K J M hK hJ hM) (Nat.le_of_ble_eq_true rfl) rfl rfl rfl
theorem J_chr57 {sc : Option (Nat × (Nat → Int32))} {D K J M : Nat} (hK : K < 4) (hJ : J < 8) (hM : M < 4) {w : am_W} {i : Nat} (hi : i < 59) : am_fr (am_run sc (D + 2)) 88 [.ref 57, .int (nI i)] (ww w ++ XT K J M) (some (.int (nI (tX K J M i)))) (ww w ++ XT K J M) 0 0 := by
  rw [← XT_s]
  exact am_fr_p (lo := 57) (as0 := [.ref 0, .int (nI i)]) (Y0 := ST2 K J M) (r0 := some (.int (nI (tX K J M i)))) rfl (J_chr hK hJ hM hi) (Nat.le_of_ble_eq_true rfl) rfl rfl rfl

section
variable {L : Nat} {xs : Nat → Int32}
/-- the text is fed -/
theorem TXL {D K J M n m s : Nat} {v : am_V} (hK : K < 4) (hJ : J < 8) (hM : M < 4) : ∀ (d i : Nat) (w : am_W), i + d = 59 → PQ n m 0 s 1 0 v te0 tc0 w → PT 1 i w → TP (tX K J M) i w → ∃ w2, (PQ n m 0 s 1 0 v te0 tc0 w2 ∧ PT 1 59 w2 ∧ TP (tX K J M) 59 w2) ∧ am_gsb (some (L, xs)) (D + 3) 110 0 0 none (ww w2 ++ XT K J M) (2, [(0, .ref 0), (1, .ref 57), (2, .int (nI i))], [], ww w ++ XT K J M, 0, 0) := by
  intro d
  induction d with
  | zero =>
    intro i w hi hP hT hx
    obtain rfl : i = 59 := hi
    refine ⟨w, ⟨hP, hT, hx⟩, ?_⟩
    refine am_go_blk 2 (?_ : am_gsb (some (L, xs)) (D + 3) 110 0 0 none (ww w ++ XT K J M) (4, [(0, .ref 0), (1, .ref 57), (2, .int (nI 59))], [.ref 57, .int (nI 59)], ww w ++ XT K J M, 0, 0))
    refine am_invd (o := 57) (ci := 8) (fs := [.ref 58, .int (nI 0), .int (nI 0), .int (nI 0)]) (as := []) (rest := [.int (nI 59)]) rfl rfl rfl rfl (am_kfr rfl (J_len57 (D := D + 1) hK hJ hM) (Nat.le_refl _) (Nat.le_refl _) (Nat.le_refl _) (Or.inl rfl) (?_ : am_gsb (some (L, xs)) (D + 3) 110 0 0 none (ww w ++ XT K J M) (7, [(0, .ref 0), (1, .ref 57), (2, .int (nI 59))], [.int (nI 59), .int (nI 59)], ww w ++ XT K J M, 0, 0)))
    refine am_go_blk 1 ⟨fun _ => (?_ : am_gsb (some (L, xs)) (D + 3) 110 0 0 none (ww w ++ XT K J M) (31, [], [], ww w ++ XT K J M, 0, 0)), fun hc => absurd (by decide) hc⟩
    exact am_go_blk 1 ⟨rfl, rfl⟩
  | succ d ih =>
    intro i w hi hP hT hx
    have hi59 : i < 59 := by omega
    obtain ⟨r, w5, e5, hP5, hT5, hx5⟩ := P_feed hP hT hx (by omega) (tX_b hK hJ hM i hi59)
    obtain ⟨w2, hw2, run⟩ := ih (i + 1) w5 (by omega) hP5 hT5 hx5
    refine ⟨w2, hw2, ?_⟩
    refine am_go_blk 2 (?_ : am_gsb (some (L, xs)) (D + 3) 110 0 0 none (ww w2 ++ XT K J M) (4, [(0, .ref 0), (1, .ref 57), (2, .int (nI i))], [.ref 57, .int (nI i)], ww w ++ XT K J M, 0, 0))
    refine am_invd (o := 57) (ci := 8) (fs := [.ref 58, .int (nI 0), .int (nI 0), .int (nI 0)]) (as := []) (rest := [.int (nI i)]) rfl rfl rfl rfl (am_kfr rfl (J_len57 (D := D + 1) hK hJ hM) (Nat.le_refl _) (Nat.le_refl _) (Nat.le_refl _) (Or.inl rfl) (?_ : am_gsb (some (L, xs)) (D + 3) 110 0 0 none (ww w2 ++ XT K J M) (7, [(0, .ref 0), (1, .ref 57), (2, .int (nI i))], [.int (nI 59), .int (nI i)], ww w ++ XT K J M, 0, 0)))
    refine am_go_blk 1 ⟨fun hc => absurd hc (nI_ge hi59 (by omega)), fun _ => (?_ : am_gsb (some (L, xs)) (D + 3) 110 0 0 none (ww w2 ++ XT K J M) (10, [(0, .ref 0), (1, .ref 57), (2, .int (nI i))], [], ww w ++ XT K J M, 0, 0))⟩
    refine am_go_blk 4 (?_ : am_gsb (some (L, xs)) (D + 3) 110 0 0 none (ww w2 ++ XT K J M) (14, [(0, .ref 0), (1, .ref 57), (2, .int (nI i))], [.int (nI i), .ref 57, .int (nI 1), .ref 0], ww w ++ XT K J M, 0, 0))
    refine am_invd (o := 57) (ci := 8) (fs := [.ref 58, .int (nI 0), .int (nI 0), .int (nI 0)]) (as := [.int (nI i)]) (rest := [.int (nI 1), .ref 0]) rfl rfl rfl rfl (am_kfr rfl (J_chr57 (D := D + 1) hK hJ hM hi59) (Nat.le_refl _) (Nat.le_refl _) (Nat.le_refl _) (Or.inl rfl) (?_ : am_gsb (some (L, xs)) (D + 3) 110 0 0 none (ww w2 ++ XT K J M) (17, [(0, .ref 0), (1, .ref 57), (2, .int (nI i))], [.int (nI (tX K J M i)), .int (nI 1), .ref 0], ww w ++ XT K J M, 0, 0)))
    refine am_go_blk 4 (?_ : am_gsb (some (L, xs)) (D + 3) 110 0 0 none (ww w2 ++ XT K J M) (21, [(0, .ref 0), (1, .ref 57), (2, .int (nI i))], [.int (nI 0), .int (nI 0), .int (nI 0), .int (nI 0), .int (nI (tX K J M i)), .int (nI 1), .ref 0], ww w ++ XT K J M, 0, 0))
    refine am_invd (o := 0) (ci := 6) (as := [.int (nI 1), .int (nI (tX K J M i)), .int (nI 0), .int (nI 0), .int (nI 0), .int (nI 0)]) (rest := []) rfl rfl rfl rfl (am_kfr rfl (am_fr_c (Nat.le_of_ble_eq_true rfl) (M_Loc_feed (D := D + 1) e5) (fun _ => rfl) (fun _ => rfl)) (Nat.le_refl _) (Nat.le_refl _) (Nat.le_refl _) (Or.inl rfl) (?_ : am_gsb (some (L, xs)) (D + 3) 110 0 0 none (ww w2 ++ XT K J M) (24, [(0, .ref 0), (1, .ref 57), (2, .int (nI i))], [.int r], ww w5 ++ XT K J M, 0, 0)))
    refine am_go_blk 3 (?_ : am_gsb (some (L, xs)) (D + 3) 110 0 0 none (ww w2 ++ XT K J M) (2, [(0, .ref 0), (1, .ref 57), (2, .int (nI i + nI 1))], [], ww w5 ++ XT K J M, 0, 0))
    rw [nI_add]
    exact run
theorem M_W_text {D K J M n m s : Nat} {v : am_V} {w : am_W} (hK : K < 4) (hJ : J < 8) (hM : M < 4) (hP : PQ n m 0 s 1 0 v te0 tc0 w) (hT : PT 1 0 w) : ∃ w2, (PQ n m 0 s 1 0 v te0 tc0 w2 ∧ PT 1 59 w2 ∧ TP (tX K J M) 59 w2) ∧ am_run (some (L, xs)) (D + 4) 110 [.ref 0, .ref 57] (ww w ++ XT K J M) none (ww w2 ++ XT K J M) 0 0 := by
  obtain ⟨w2, hw2, run⟩ := TXL (L := L) (xs := xs) (D := D) hK hJ hM 59 0 w rfl hP hT (fun j hj => absurd hj (Nat.not_lt_zero _))
  refine ⟨w2, hw2, am_run_of rfl ?_⟩
  show am_gsb (some (L, xs)) (D + 3) 110 0 0 none (ww w2 ++ XT K J M) (0, [(0, .ref 0), (1, .ref 57)], [], ww w ++ XT K J M, 0, 0)
  exact am_go_blk 2 run

/-- what the law has made: the class, and cells of a text that was put together -/
def WG (L : Nat) (xs : Nat → Int32) (w : am_W) (X : am_H) : Prop := (X = [] ∨ ∃ K J M, X = XT K J M) ∧ ∃ T f te tc, PQ (wN L xs) (wM L xs) 0 (mkN (wSw L xs) (wM L xs)) T f (wV L xs) te tc w ∧ (∀ l, l < wM L xs → F_W_saws L xs (nI (wO L xs l)) (nI l) = some (sw (wV L xs) te tc f l))
theorem ww_hl {w : am_W} {rest : List Value} (h : Nat.ble (am_cat rest) 8 = true) : (Nat.ble (am_cat rest) 8 && Nat.ble (ww w).length am_pX) = true := am_hl h (Nat.le_of_ble_eq_true rfl)
theorem ww_le {w : am_W} : (ww w).length ≤ am_pX := Nat.le_of_ble_eq_true rfl
theorem wx_le {w : am_W} {K J M : Nat} : (ww w ++ XT K J M).length ≤ am_pX := Nat.le_of_ble_eq_true rfl
/-- the law's text put together, read, in force -/
theorem BTEXT (hL : L ≤ 260) {D : Nat} {w : am_W} (hp : wP L xs = false) (hP : PQ (wN L xs) (wM L xs) 0 (mkN (wSw L xs) (wM L xs)) 1 0 (wV L xs) te0 tc0 w) (hT : PT 1 0 w) : ∃ w2 X, WG L xs w2 X ∧ am_gsb (some (L, xs)) (D + 110) 111 59 2314 (some (.ref 0)) (ww w2 ++ X) (101, [(0, .ref am_pL), (1, .ref 0)], [], ww w, 53, 2127) := by
  have hK : wKd L xs < 4 := fl_lt _ _ _
  have hJ : wJd L xs < 8 := fl_lt _ _ _
  have hM : wMd L xs < 4 := fl_lt _ _ _
  have eK : (wA L xs 0 >>> (nI 7 &&& 31)) &&& nI 3 = nI (wKd L xs) := fl_e _ 7 2 (by rfl)
  have eJ : (wA L xs 0 >>> (nI 9 &&& 31)) &&& nI 7 = nI (wJd L xs) := fl_e _ 9 3 (by rfl)
  have eM : (wA L xs 0 >>> (nI 12 &&& 31)) &&& nI 3 = nI (wMd L xs) := fl_e _ 12 2 (by rfl)
  have hat := W_at (xs := xs) hL (i := 0) (by omega)
  have hsw : ∀ l, l < wM L xs → F_W_saws L xs (nI (wO L xs l)) (nI l) = some (sw (wV L xs) (te1 (100000 + wKd L xs) (100000 + wJd L xs) (100000 + wMd L xs)) (tc1 (100000 + wKd L xs) (100000 + wJd L xs) (100000 + wMd L xs)) 1 l) := fun l hl => W_saws1 hL (by have := wM_lt (L := L) (xs := xs); omega) hp
  generalize wKd L xs = K at *
  generalize wJd L xs = J at *
  generalize wMd L xs = M at *
  obtain ⟨w1, ⟨hP1, hT1, hx1⟩, run1⟩ := M_W_text (L := L) (xs := xs) (D := D + 106) hK hJ hM hP hT
  obtain ⟨w3, e3, hP3, h17⟩ := P_text hK hJ hM hP1 hT1 hx1 (tX_b hK hJ hM)
  obtain ⟨r4, w4, e4, hP4⟩ := P_force hP3 h17
  refine ⟨w4, XT K J M, ⟨Or.inr ⟨K, J, M, rfl⟩, _, _, _, _, hP4, hsw⟩, ?_⟩
  refine am_go_blk 1 (?_ : am_gsb (some (L, xs)) (D + 110) 111 59 2314 (some (.ref 0)) (ww w4 ++ XT K J M) (102, [(0, .ref am_pL), (1, .ref 0)], [.ref 0], ww w, 53, 2127))
  refine am_newd rfl ?_ rfl (?_ : am_gsb (some (L, xs)) (D + 110) 111 59 2314 (some (.ref 0)) (ww w4 ++ XT K J M) (105, [(0, .ref am_pL), (1, .ref 0)], [.ref 53, .ref 0], ww w ++ [.inr (7, [.null, .int (nI 0), .int (nI 0), .int (nI 0)])], 54, 2131))
  · unfold am_nh
    rw [ww_nc (by rw [ww_len]; omega) (by show 53 + 1 ≤ 2000000; omega)]
    rfl
  refine am_go_blk 1 (?_ : am_gsb (some (L, xs)) (D + 110) 111 59 2314 (some (.ref 0)) (ww w4 ++ XT K J M) (106, [(0, .ref am_pL), (1, .ref 0)], [.ref 53, .ref 53, .ref 0], ww w ++ [.inr (7, [.null, .int (nI 0), .int (nI 0), .int (nI 0)])], 54, 2131))
  refine am_ispd (o := 53) (as := []) (rest := [.ref 53, .ref 0]) rfl rfl rfl (am_kfr rfl (am_fr_m (as0 := [.ref 0]) (r0 := none) (Y0 := [.inr (7, [.null, .int (nI 0), .int (nI 0), .int (nI 0)])]) (Y1 := [.inr (7, [.ref 1, .int (nI 0), .int (nI 0), .int (nI 0)]), .inl (4, 16, .inl (fun _ => 0))]) (Z0 := [.inr (7, [.null, .int (nI 0), .int (nI 0), .int (nI 0)])]) (Z1 := [.inr (7, [.ref 54, .int (nI 0), .int (nI 0), .int (nI 0)]), .inl (4, 16, .inl (fun _ => 0))]) (J_2 (D := D + 108) K J M hK hJ hM) (Nat.le_of_ble_eq_true rfl) (Nat.le_of_ble_eq_true rfl) rfl rfl rfl rfl) (Nat.le_of_ble_eq_true rfl) (Nat.le_of_ble_eq_true rfl) (Nat.le_of_ble_eq_true rfl) (Or.inr rfl) (?_ : am_gsb (some (L, xs)) (D + 110) 111 59 2314 (some (.ref 0)) (ww w4 ++ XT K J M) (109, [(0, .ref am_pL), (1, .ref 0)], [.ref 53, .ref 0], ww w ++ [.inr (7, [.ref 54, .int (nI 0), .int (nI 0), .int (nI 0)]), .inl (4, 16, .inl (fun _ => 0))], 54 + 1, 2131 + 16)))
  show am_gsb (some (L, xs)) (D + 110) 111 59 2314 (some (.ref 0)) (ww w4 ++ XT K J M) (109, [(0, .ref am_pL), (1, .ref 0)], [.ref 53, .ref 0], ww w ++ [.inr (7, [.ref 54, .int (nI 0), .int (nI 0), .int (nI 0)]), .inl (4, 16, .inl (fun _ => 0))], 55, 2147)
  refine am_ldcS rfl rfl (?_ : am_gsb (some (L, xs)) (D + 110) 111 59 2314 (some (.ref 0)) (ww w4 ++ XT K J M) (111, [(0, .ref am_pL), (1, .ref 0)], [.ref (am_pS + 3), .ref 53, .ref 0], ww w ++ [.inr (7, [.ref 54, .int (nI 0), .int (nI 0), .int (nI 0)]), .inl (4, 16, .inl (fun _ => 0))], 55, 2147))
  refine am_invd (o := 53) (ci := 7) (as := [.ref (am_pS + 3)]) (rest := [.ref 0]) rfl rfl rfl rfl (am_kfr rfl (am_fr_m (as0 := [.ref 0, .ref 3000003]) (r0 := some (.ref 0)) (Y0 := [.inr (7, [.ref 1, .int (nI 0), .int (nI 0), .int (nI 0)]), .inl (4, 16, .inl (fun _ => 0))]) (Y1 := [.inr (7, [.ref 1, .int (nI 0), .int (nI 0), .int (nI 16)]), .inl (4, 16, .inl (jb_1 K J M))]) (Z0 := [.inr (7, [.ref 54, .int (nI 0), .int (nI 0), .int (nI 0)]), .inl (4, 16, .inl (fun _ => 0))]) (Z1 := [.inr (7, [.ref 54, .int (nI 0), .int (nI 0), .int (nI 16)]), .inl (4, 16, .inl (jb_1 K J M))]) (J_10 (D := D + 105) K J M hK hJ hM) (Nat.le_of_ble_eq_true rfl) (Nat.le_of_ble_eq_true rfl) rfl rfl rfl rfl) (Nat.le_of_ble_eq_true rfl) (Nat.le_of_ble_eq_true rfl) (Nat.le_of_ble_eq_true rfl) (Or.inl rfl) (?_ : am_gsb (some (L, xs)) (D + 110) 111 59 2314 (some (.ref 0)) (ww w4 ++ XT K J M) (114, [(0, .ref am_pL), (1, .ref 0)], [.ref 53, .ref 0], ww w ++ [.inr (7, [.ref 54, .int (nI 0), .int (nI 0), .int (nI 16)]), .inl (4, 16, .inl (jb_1 K J M))], 55 + 0, 2147 + 0)))
  show am_gsb (some (L, xs)) (D + 110) 111 59 2314 (some (.ref 0)) (ww w4 ++ XT K J M) (114, [(0, .ref am_pL), (1, .ref 0)], [.ref 53, .ref 0], ww w ++ [.inr (7, [.ref 54, .int (nI 0), .int (nI 0), .int (nI 16)]), .inl (4, 16, .inl (jb_1 K J M))], 55, 2147)
  refine am_go_blk 2 (?_ : am_gsb (some (L, xs)) (D + 110) 111 59 2314 (some (.ref 0)) (ww w4 ++ XT K J M) (116, [(0, .ref am_pL), (1, .ref 0)], [.int (nI 0), .ref am_pL, .ref 53, .ref 0], ww w ++ [.inr (7, [.ref 54, .int (nI 0), .int (nI 0), .int (nI 16)]), .inl (4, 16, .inl (jb_1 K J M))], 55, 2147))
  refine am_cls (as := [.ref am_pL, .int (nI 0)]) (rest := [.ref 53, .ref 0]) rfl rfl rfl (am_kcall rfl (M_W_at (D := D + 109) (Nat.le_of_ble_eq_true rfl) hat) rfl (Nat.le_of_ble_eq_true rfl) (Nat.le_of_ble_eq_true rfl) (?_ : am_gsb (some (L, xs)) (D + 110) 111 59 2314 (some (.ref 0)) (ww w4 ++ XT K J M) (119, [(0, .ref am_pL), (1, .ref 0)], [.int (wA L xs 0), .ref 53, .ref 0], ww w ++ [.inr (7, [.ref 54, .int (nI 0), .int (nI 0), .int (nI 16)]), .inl (4, 16, .inl (jb_1 K J M))], 55, 2147)))
  refine am_go_blk 4 (?_ : am_gsb (some (L, xs)) (D + 110) 111 59 2314 (some (.ref 0)) (ww w4 ++ XT K J M) (124, [(0, .ref am_pL), (1, .ref 0)], [.int ((wA L xs 0 >>> (nI 7 &&& 31)) &&& nI 3), .ref 53, .ref 0], ww w ++ [.inr (7, [.ref 54, .int (nI 0), .int (nI 0), .int (nI 16)]), .inl (4, 16, .inl (jb_1 K J M))], 55, 2147))
  rw [eK]
  refine am_invd (o := 53) (ci := 7) (as := [.int (nI K)]) (rest := [.ref 0]) rfl rfl rfl rfl (am_kfr rfl (am_fr_m (as0 := [.ref 0, .int (nI K)]) (r0 := some (.ref 0)) (Y0 := [.inr (7, [.ref 1, .int (nI 0), .int (nI 0), .int (nI 16)]), .inl (4, 16, .inl (jb_1 K J M))]) (Y1 := [.inr (7, [.ref 2, .int (nI 0), .int (nI 0), .int (nI 17)]), .inl (4, 16, .inl (jb_1 K J M)), .inl (4, 34, .inl (jb_3 K J M))]) (Z0 := [.inr (7, [.ref 54, .int (nI 0), .int (nI 0), .int (nI 16)]), .inl (4, 16, .inl (jb_1 K J M))]) (Z1 := [.inr (7, [.ref 55, .int (nI 0), .int (nI 0), .int (nI 17)]), .inl (4, 16, .inl (jb_1 K J M)), .inl (4, 34, .inl (jb_3 K J M))]) (J_19 (D := D + 105) K J M hK hJ hM) (Nat.le_of_ble_eq_true rfl) (Nat.le_of_ble_eq_true rfl) rfl rfl rfl rfl) (Nat.le_of_ble_eq_true rfl) (Nat.le_of_ble_eq_true rfl) (Nat.le_of_ble_eq_true rfl) (Or.inr rfl) (?_ : am_gsb (some (L, xs)) (D + 110) 111 59 2314 (some (.ref 0)) (ww w4 ++ XT K J M) (127, [(0, .ref am_pL), (1, .ref 0)], [.ref 53, .ref 0], ww w ++ [.inr (7, [.ref 55, .int (nI 0), .int (nI 0), .int (nI 17)]), .inl (4, 16, .inl (jb_1 K J M)), .inl (4, 34, .inl (jb_3 K J M))], 55 + 1, 2147 + 34)))
  show am_gsb (some (L, xs)) (D + 110) 111 59 2314 (some (.ref 0)) (ww w4 ++ XT K J M) (127, [(0, .ref am_pL), (1, .ref 0)], [.ref 53, .ref 0], ww w ++ [.inr (7, [.ref 55, .int (nI 0), .int (nI 0), .int (nI 17)]), .inl (4, 16, .inl (jb_1 K J M)), .inl (4, 34, .inl (jb_3 K J M))], 56, 2181)
  refine am_ldcS rfl rfl (?_ : am_gsb (some (L, xs)) (D + 110) 111 59 2314 (some (.ref 0)) (ww w4 ++ XT K J M) (129, [(0, .ref am_pL), (1, .ref 0)], [.ref (am_pS + 4), .ref 53, .ref 0], ww w ++ [.inr (7, [.ref 55, .int (nI 0), .int (nI 0), .int (nI 17)]), .inl (4, 16, .inl (jb_1 K J M)), .inl (4, 34, .inl (jb_3 K J M))], 56, 2181))
  refine am_invd (o := 53) (ci := 7) (as := [.ref (am_pS + 4)]) (rest := [.ref 0]) rfl rfl rfl rfl (am_kfr rfl (am_fr_m (as0 := [.ref 0, .ref 3000004]) (r0 := some (.ref 0)) (Y0 := [.inr (7, [.ref 2, .int (nI 0), .int (nI 0), .int (nI 17)]), .inl (4, 16, .inl (jb_1 K J M)), .inl (4, 34, .inl (jb_3 K J M))]) (Y1 := [.inr (7, [.ref 2, .int (nI 0), .int (nI 0), .int (nI 33)]), .inl (4, 16, .inl (jb_1 K J M)), .inl (4, 34, .inl (jb_4 K J M))]) (Z0 := [.inr (7, [.ref 55, .int (nI 0), .int (nI 0), .int (nI 17)]), .inl (4, 16, .inl (jb_1 K J M)), .inl (4, 34, .inl (jb_3 K J M))]) (Z1 := [.inr (7, [.ref 55, .int (nI 0), .int (nI 0), .int (nI 33)]), .inl (4, 16, .inl (jb_1 K J M)), .inl (4, 34, .inl (jb_4 K J M))]) (J_27 (D := D + 105) K J M hK hJ hM) (Nat.le_of_ble_eq_true rfl) (Nat.le_of_ble_eq_true rfl) rfl rfl rfl rfl) (Nat.le_of_ble_eq_true rfl) (Nat.le_of_ble_eq_true rfl) (Nat.le_of_ble_eq_true rfl) (Or.inl rfl) (?_ : am_gsb (some (L, xs)) (D + 110) 111 59 2314 (some (.ref 0)) (ww w4 ++ XT K J M) (132, [(0, .ref am_pL), (1, .ref 0)], [.ref 53, .ref 0], ww w ++ [.inr (7, [.ref 55, .int (nI 0), .int (nI 0), .int (nI 33)]), .inl (4, 16, .inl (jb_1 K J M)), .inl (4, 34, .inl (jb_4 K J M))], 56 + 0, 2181 + 0)))
  show am_gsb (some (L, xs)) (D + 110) 111 59 2314 (some (.ref 0)) (ww w4 ++ XT K J M) (132, [(0, .ref am_pL), (1, .ref 0)], [.ref 53, .ref 0], ww w ++ [.inr (7, [.ref 55, .int (nI 0), .int (nI 0), .int (nI 33)]), .inl (4, 16, .inl (jb_1 K J M)), .inl (4, 34, .inl (jb_4 K J M))], 56, 2181)
  refine am_go_blk 2 (?_ : am_gsb (some (L, xs)) (D + 110) 111 59 2314 (some (.ref 0)) (ww w4 ++ XT K J M) (134, [(0, .ref am_pL), (1, .ref 0)], [.int (nI 0), .ref am_pL, .ref 53, .ref 0], ww w ++ [.inr (7, [.ref 55, .int (nI 0), .int (nI 0), .int (nI 33)]), .inl (4, 16, .inl (jb_1 K J M)), .inl (4, 34, .inl (jb_4 K J M))], 56, 2181))
  refine am_cls (as := [.ref am_pL, .int (nI 0)]) (rest := [.ref 53, .ref 0]) rfl rfl rfl (am_kcall rfl (M_W_at (D := D + 109) (Nat.le_of_ble_eq_true rfl) hat) rfl (Nat.le_of_ble_eq_true rfl) (Nat.le_of_ble_eq_true rfl) (?_ : am_gsb (some (L, xs)) (D + 110) 111 59 2314 (some (.ref 0)) (ww w4 ++ XT K J M) (137, [(0, .ref am_pL), (1, .ref 0)], [.int (wA L xs 0), .ref 53, .ref 0], ww w ++ [.inr (7, [.ref 55, .int (nI 0), .int (nI 0), .int (nI 33)]), .inl (4, 16, .inl (jb_1 K J M)), .inl (4, 34, .inl (jb_4 K J M))], 56, 2181)))
  refine am_go_blk 4 (?_ : am_gsb (some (L, xs)) (D + 110) 111 59 2314 (some (.ref 0)) (ww w4 ++ XT K J M) (143, [(0, .ref am_pL), (1, .ref 0)], [.int ((wA L xs 0 >>> (nI 9 &&& 31)) &&& nI 7), .ref 53, .ref 0], ww w ++ [.inr (7, [.ref 55, .int (nI 0), .int (nI 0), .int (nI 33)]), .inl (4, 16, .inl (jb_1 K J M)), .inl (4, 34, .inl (jb_4 K J M))], 56, 2181))
  rw [eJ]
  refine am_invd (o := 53) (ci := 7) (as := [.int (nI J)]) (rest := [.ref 0]) rfl rfl rfl rfl (am_kfr rfl (am_fr_m (as0 := [.ref 0, .int (nI J)]) (r0 := some (.ref 0)) (Y0 := [.inr (7, [.ref 2, .int (nI 0), .int (nI 0), .int (nI 33)]), .inl (4, 16, .inl (jb_1 K J M)), .inl (4, 34, .inl (jb_4 K J M))]) (Y1 := [.inr (7, [.ref 2, .int (nI 0), .int (nI 0), .int (nI 34)]), .inl (4, 16, .inl (jb_1 K J M)), .inl (4, 34, .inl (jb_5 K J M))]) (Z0 := [.inr (7, [.ref 55, .int (nI 0), .int (nI 0), .int (nI 33)]), .inl (4, 16, .inl (jb_1 K J M)), .inl (4, 34, .inl (jb_4 K J M))]) (Z1 := [.inr (7, [.ref 55, .int (nI 0), .int (nI 0), .int (nI 34)]), .inl (4, 16, .inl (jb_1 K J M)), .inl (4, 34, .inl (jb_5 K J M))]) (J_33 (D := D + 107) K J M hK hJ hM) (Nat.le_of_ble_eq_true rfl) (Nat.le_of_ble_eq_true rfl) rfl rfl rfl rfl) (Nat.le_of_ble_eq_true rfl) (Nat.le_of_ble_eq_true rfl) (Nat.le_of_ble_eq_true rfl) (Or.inl rfl) (?_ : am_gsb (some (L, xs)) (D + 110) 111 59 2314 (some (.ref 0)) (ww w4 ++ XT K J M) (146, [(0, .ref am_pL), (1, .ref 0)], [.ref 53, .ref 0], ww w ++ [.inr (7, [.ref 55, .int (nI 0), .int (nI 0), .int (nI 34)]), .inl (4, 16, .inl (jb_1 K J M)), .inl (4, 34, .inl (jb_5 K J M))], 56 + 0, 2181 + 0)))
  show am_gsb (some (L, xs)) (D + 110) 111 59 2314 (some (.ref 0)) (ww w4 ++ XT K J M) (146, [(0, .ref am_pL), (1, .ref 0)], [.ref 53, .ref 0], ww w ++ [.inr (7, [.ref 55, .int (nI 0), .int (nI 0), .int (nI 34)]), .inl (4, 16, .inl (jb_1 K J M)), .inl (4, 34, .inl (jb_5 K J M))], 56, 2181)
  refine am_ldcS rfl rfl (?_ : am_gsb (some (L, xs)) (D + 110) 111 59 2314 (some (.ref 0)) (ww w4 ++ XT K J M) (148, [(0, .ref am_pL), (1, .ref 0)], [.ref (am_pS + 5), .ref 53, .ref 0], ww w ++ [.inr (7, [.ref 55, .int (nI 0), .int (nI 0), .int (nI 34)]), .inl (4, 16, .inl (jb_1 K J M)), .inl (4, 34, .inl (jb_5 K J M))], 56, 2181))
  refine am_invd (o := 53) (ci := 7) (as := [.ref (am_pS + 5)]) (rest := [.ref 0]) rfl rfl rfl rfl (am_kfr rfl (am_fr_m (as0 := [.ref 0, .ref 3000005]) (r0 := some (.ref 0)) (Y0 := [.inr (7, [.ref 2, .int (nI 0), .int (nI 0), .int (nI 34)]), .inl (4, 16, .inl (jb_1 K J M)), .inl (4, 34, .inl (jb_5 K J M))]) (Y1 := [.inr (7, [.ref 3, .int (nI 0), .int (nI 0), .int (nI 57)]), .inl (4, 16, .inl (jb_1 K J M)), .inl (4, 34, .inl (jb_5 K J M)), .inl (4, 70, .inl (jb_7 K J M))]) (Z0 := [.inr (7, [.ref 55, .int (nI 0), .int (nI 0), .int (nI 34)]), .inl (4, 16, .inl (jb_1 K J M)), .inl (4, 34, .inl (jb_5 K J M))]) (Z1 := [.inr (7, [.ref 56, .int (nI 0), .int (nI 0), .int (nI 57)]), .inl (4, 16, .inl (jb_1 K J M)), .inl (4, 34, .inl (jb_5 K J M)), .inl (4, 70, .inl (jb_7 K J M))]) (J_45 (D := D + 105) K J M hK hJ hM) (Nat.le_of_ble_eq_true rfl) (Nat.le_of_ble_eq_true rfl) rfl rfl rfl rfl) (Nat.le_of_ble_eq_true rfl) (Nat.le_of_ble_eq_true rfl) (Nat.le_of_ble_eq_true rfl) (Or.inr rfl) (?_ : am_gsb (some (L, xs)) (D + 110) 111 59 2314 (some (.ref 0)) (ww w4 ++ XT K J M) (151, [(0, .ref am_pL), (1, .ref 0)], [.ref 53, .ref 0], ww w ++ [.inr (7, [.ref 56, .int (nI 0), .int (nI 0), .int (nI 57)]), .inl (4, 16, .inl (jb_1 K J M)), .inl (4, 34, .inl (jb_5 K J M)), .inl (4, 70, .inl (jb_7 K J M))], 56 + 1, 2181 + 70)))
  show am_gsb (some (L, xs)) (D + 110) 111 59 2314 (some (.ref 0)) (ww w4 ++ XT K J M) (151, [(0, .ref am_pL), (1, .ref 0)], [.ref 53, .ref 0], ww w ++ [.inr (7, [.ref 56, .int (nI 0), .int (nI 0), .int (nI 57)]), .inl (4, 16, .inl (jb_1 K J M)), .inl (4, 34, .inl (jb_5 K J M)), .inl (4, 70, .inl (jb_7 K J M))], 57, 2251)
  refine am_go_blk 2 (?_ : am_gsb (some (L, xs)) (D + 110) 111 59 2314 (some (.ref 0)) (ww w4 ++ XT K J M) (153, [(0, .ref am_pL), (1, .ref 0)], [.int (nI 0), .ref am_pL, .ref 53, .ref 0], ww w ++ [.inr (7, [.ref 56, .int (nI 0), .int (nI 0), .int (nI 57)]), .inl (4, 16, .inl (jb_1 K J M)), .inl (4, 34, .inl (jb_5 K J M)), .inl (4, 70, .inl (jb_7 K J M))], 57, 2251))
  refine am_cls (as := [.ref am_pL, .int (nI 0)]) (rest := [.ref 53, .ref 0]) rfl rfl rfl (am_kcall rfl (M_W_at (D := D + 109) (Nat.le_of_ble_eq_true rfl) hat) rfl (Nat.le_of_ble_eq_true rfl) (Nat.le_of_ble_eq_true rfl) (?_ : am_gsb (some (L, xs)) (D + 110) 111 59 2314 (some (.ref 0)) (ww w4 ++ XT K J M) (156, [(0, .ref am_pL), (1, .ref 0)], [.int (wA L xs 0), .ref 53, .ref 0], ww w ++ [.inr (7, [.ref 56, .int (nI 0), .int (nI 0), .int (nI 57)]), .inl (4, 16, .inl (jb_1 K J M)), .inl (4, 34, .inl (jb_5 K J M)), .inl (4, 70, .inl (jb_7 K J M))], 57, 2251)))
  refine am_go_blk 4 (?_ : am_gsb (some (L, xs)) (D + 110) 111 59 2314 (some (.ref 0)) (ww w4 ++ XT K J M) (161, [(0, .ref am_pL), (1, .ref 0)], [.int ((wA L xs 0 >>> (nI 12 &&& 31)) &&& nI 3), .ref 53, .ref 0], ww w ++ [.inr (7, [.ref 56, .int (nI 0), .int (nI 0), .int (nI 57)]), .inl (4, 16, .inl (jb_1 K J M)), .inl (4, 34, .inl (jb_5 K J M)), .inl (4, 70, .inl (jb_7 K J M))], 57, 2251))
  rw [eM]
  refine am_invd (o := 53) (ci := 7) (as := [.int (nI M)]) (rest := [.ref 0]) rfl rfl rfl rfl (am_kfr rfl (am_fr_m (as0 := [.ref 0, .int (nI M)]) (r0 := some (.ref 0)) (Y0 := [.inr (7, [.ref 3, .int (nI 0), .int (nI 0), .int (nI 57)]), .inl (4, 16, .inl (jb_1 K J M)), .inl (4, 34, .inl (jb_5 K J M)), .inl (4, 70, .inl (jb_7 K J M))]) (Y1 := [.inr (7, [.ref 3, .int (nI 0), .int (nI 0), .int (nI 58)]), .inl (4, 16, .inl (jb_1 K J M)), .inl (4, 34, .inl (jb_5 K J M)), .inl (4, 70, .inl (jb_8 K J M))]) (Z0 := [.inr (7, [.ref 56, .int (nI 0), .int (nI 0), .int (nI 57)]), .inl (4, 16, .inl (jb_1 K J M)), .inl (4, 34, .inl (jb_5 K J M)), .inl (4, 70, .inl (jb_7 K J M))]) (Z1 := [.inr (7, [.ref 56, .int (nI 0), .int (nI 0), .int (nI 58)]), .inl (4, 16, .inl (jb_1 K J M)), .inl (4, 34, .inl (jb_5 K J M)), .inl (4, 70, .inl (jb_8 K J M))]) (J_51 (D := D + 107) K J M hK hJ hM) (Nat.le_of_ble_eq_true rfl) (Nat.le_of_ble_eq_true rfl) rfl rfl rfl rfl) (Nat.le_of_ble_eq_true rfl) (Nat.le_of_ble_eq_true rfl) (Nat.le_of_ble_eq_true rfl) (Or.inl rfl) (?_ : am_gsb (some (L, xs)) (D + 110) 111 59 2314 (some (.ref 0)) (ww w4 ++ XT K J M) (164, [(0, .ref am_pL), (1, .ref 0)], [.ref 53, .ref 0], ww w ++ [.inr (7, [.ref 56, .int (nI 0), .int (nI 0), .int (nI 58)]), .inl (4, 16, .inl (jb_1 K J M)), .inl (4, 34, .inl (jb_5 K J M)), .inl (4, 70, .inl (jb_8 K J M))], 57 + 0, 2251 + 0)))
  show am_gsb (some (L, xs)) (D + 110) 111 59 2314 (some (.ref 0)) (ww w4 ++ XT K J M) (164, [(0, .ref am_pL), (1, .ref 0)], [.ref 53, .ref 0], ww w ++ [.inr (7, [.ref 56, .int (nI 0), .int (nI 0), .int (nI 58)]), .inl (4, 16, .inl (jb_1 K J M)), .inl (4, 34, .inl (jb_5 K J M)), .inl (4, 70, .inl (jb_8 K J M))], 57, 2251)
  refine am_ldcS rfl rfl (?_ : am_gsb (some (L, xs)) (D + 110) 111 59 2314 (some (.ref 0)) (ww w4 ++ XT K J M) (166, [(0, .ref am_pL), (1, .ref 0)], [.ref (am_pS + 6), .ref 53, .ref 0], ww w ++ [.inr (7, [.ref 56, .int (nI 0), .int (nI 0), .int (nI 58)]), .inl (4, 16, .inl (jb_1 K J M)), .inl (4, 34, .inl (jb_5 K J M)), .inl (4, 70, .inl (jb_8 K J M))], 57, 2251))
  refine am_invd (o := 53) (ci := 7) (as := [.ref (am_pS + 6)]) (rest := [.ref 0]) rfl rfl rfl rfl (am_kfr rfl (am_fr_m (as0 := [.ref 0, .ref 3000006]) (r0 := some (.ref 0)) (Y0 := [.inr (7, [.ref 3, .int (nI 0), .int (nI 0), .int (nI 58)]), .inl (4, 16, .inl (jb_1 K J M)), .inl (4, 34, .inl (jb_5 K J M)), .inl (4, 70, .inl (jb_8 K J M))]) (Y1 := [.inr (7, [.ref 3, .int (nI 0), .int (nI 0), .int (nI 59)]), .inl (4, 16, .inl (jb_1 K J M)), .inl (4, 34, .inl (jb_5 K J M)), .inl (4, 70, .inl (jb_9 K J M))]) (Z0 := [.inr (7, [.ref 56, .int (nI 0), .int (nI 0), .int (nI 58)]), .inl (4, 16, .inl (jb_1 K J M)), .inl (4, 34, .inl (jb_5 K J M)), .inl (4, 70, .inl (jb_8 K J M))]) (Z1 := [.inr (7, [.ref 56, .int (nI 0), .int (nI 0), .int (nI 59)]), .inl (4, 16, .inl (jb_1 K J M)), .inl (4, 34, .inl (jb_5 K J M)), .inl (4, 70, .inl (jb_9 K J M))]) (J_59 (D := D + 105) K J M hK hJ hM) (Nat.le_of_ble_eq_true rfl) (Nat.le_of_ble_eq_true rfl) rfl rfl rfl rfl) (Nat.le_of_ble_eq_true rfl) (Nat.le_of_ble_eq_true rfl) (Nat.le_of_ble_eq_true rfl) (Or.inl rfl) (?_ : am_gsb (some (L, xs)) (D + 110) 111 59 2314 (some (.ref 0)) (ww w4 ++ XT K J M) (169, [(0, .ref am_pL), (1, .ref 0)], [.ref 53, .ref 0], ww w ++ [.inr (7, [.ref 56, .int (nI 0), .int (nI 0), .int (nI 59)]), .inl (4, 16, .inl (jb_1 K J M)), .inl (4, 34, .inl (jb_5 K J M)), .inl (4, 70, .inl (jb_9 K J M))], 57 + 0, 2251 + 0)))
  show am_gsb (some (L, xs)) (D + 110) 111 59 2314 (some (.ref 0)) (ww w4 ++ XT K J M) (169, [(0, .ref am_pL), (1, .ref 0)], [.ref 53, .ref 0], ww w ++ [.inr (7, [.ref 56, .int (nI 0), .int (nI 0), .int (nI 59)]), .inl (4, 16, .inl (jb_1 K J M)), .inl (4, 34, .inl (jb_5 K J M)), .inl (4, 70, .inl (jb_9 K J M))], 57, 2251)
  refine am_invd (o := 53) (ci := 7) (as := []) (rest := [.ref 0]) rfl rfl rfl rfl (am_kfr rfl (am_fr_m (as0 := [.ref 0]) (r0 := some (.ref 4)) (Y0 := [.inr (7, [.ref 3, .int (nI 0), .int (nI 0), .int (nI 59)]), .inl (4, 16, .inl (jb_1 K J M)), .inl (4, 34, .inl (jb_5 K J M)), .inl (4, 70, .inl (jb_9 K J M))]) (Y1 := [.inr (7, [.ref 3, .int (nI 0), .int (nI 0), .int (nI 59)]), .inl (4, 16, .inl (jb_1 K J M)), .inl (4, 34, .inl (jb_5 K J M)), .inl (4, 70, .inl (jb_9 K J M)), .inr (8, [.ref 5, .int (nI 0), .int (nI 0), .int (nI 0)]), .inl (4, 59, .inl (jb_10 K J M))]) (Z0 := [.inr (7, [.ref 56, .int (nI 0), .int (nI 0), .int (nI 59)]), .inl (4, 16, .inl (jb_1 K J M)), .inl (4, 34, .inl (jb_5 K J M)), .inl (4, 70, .inl (jb_9 K J M))]) (Z1 := [.inr (7, [.ref 56, .int (nI 0), .int (nI 0), .int (nI 59)]), .inl (4, 16, .inl (jb_1 K J M)), .inl (4, 34, .inl (jb_5 K J M)), .inl (4, 70, .inl (jb_9 K J M)), .inr (8, [.ref 58, .int (nI 0), .int (nI 0), .int (nI 0)]), .inl (4, 59, .inl (jb_10 K J M))]) (J_69 (D := D + 104) K J M hK hJ hM) (Nat.le_of_ble_eq_true rfl) (Nat.le_of_ble_eq_true rfl) rfl rfl rfl rfl) (Nat.le_of_ble_eq_true rfl) (Nat.le_of_ble_eq_true rfl) (Nat.le_of_ble_eq_true rfl) (Or.inr rfl) (?_ : am_gsb (some (L, xs)) (D + 110) 111 59 2314 (some (.ref 0)) (ww w4 ++ XT K J M) (172, [(0, .ref am_pL), (1, .ref 0)], [.ref 57, .ref 0], ww w ++ [.inr (7, [.ref 56, .int (nI 0), .int (nI 0), .int (nI 59)]), .inl (4, 16, .inl (jb_1 K J M)), .inl (4, 34, .inl (jb_5 K J M)), .inl (4, 70, .inl (jb_9 K J M)), .inr (8, [.ref 58, .int (nI 0), .int (nI 0), .int (nI 0)]), .inl (4, 59, .inl (jb_10 K J M))], 57 + 2, 2251 + 63)))
  show am_gsb (some (L, xs)) (D + 110) 111 59 2314 (some (.ref 0)) (ww w4 ++ XT K J M) (172, [(0, .ref am_pL), (1, .ref 0)], [.ref 57, .ref 0], ww w ++ [.inr (7, [.ref 56, .int (nI 0), .int (nI 0), .int (nI 59)]), .inl (4, 16, .inl (jb_1 K J M)), .inl (4, 34, .inl (jb_5 K J M)), .inl (4, 70, .inl (jb_9 K J M)), .inr (8, [.ref 58, .int (nI 0), .int (nI 0), .int (nI 0)]), .inl (4, 59, .inl (jb_10 K J M))], 59, 2314)
  show am_gsb (some (L, xs)) (D + 110) 111 59 2314 (some (.ref 0)) (ww w4 ++ XT K J M) (172, [(0, .ref am_pL), (1, .ref 0)], [.ref 57, .ref 0], ww w ++ XT K J M, 59, 2314)
  refine am_cls (as := [.ref 0, .ref 57]) (rest := []) rfl rfl rfl (am_kcall rfl run1 rfl (Nat.le_of_ble_eq_true rfl) (Nat.le_of_ble_eq_true rfl) (?_ : am_gsb (some (L, xs)) (D + 110) 111 59 2314 (some (.ref 0)) (ww w4 ++ XT K J M) (175, [(0, .ref am_pL), (1, .ref 0)], [], ww w1 ++ XT K J M, 59, 2314)))
  refine am_go_blk 2 (?_ : am_gsb (some (L, xs)) (D + 110) 111 59 2314 (some (.ref 0)) (ww w4 ++ XT K J M) (177, [(0, .ref am_pL), (1, .ref 0)], [.ref 0, .ref 0], ww w1 ++ XT K J M, 59, 2314))
  refine am_invd (o := 0) (ci := 6) (as := []) (rest := [.ref 0]) rfl rfl rfl rfl (am_kfr rfl (am_fr_c (Nat.le_of_ble_eq_true rfl) (M_Loc_text (D := D + 2) e3) (fun _ => rfl) (fun _ => rfl)) (Nat.le_refl _) (Nat.le_of_ble_eq_true rfl) (Nat.le_of_ble_eq_true rfl) (Or.inl rfl) (?_ : am_gsb (some (L, xs)) (D + 110) 111 59 2314 (some (.ref 0)) (ww w4 ++ XT K J M) (180, [(0, .ref am_pL), (1, .ref 0)], [.int (nI 1), .ref 0], ww w3 ++ XT K J M, 59, 2314)))
  refine am_invd (o := 0) (ci := 6) (as := [.int (nI 1)]) (rest := []) rfl rfl rfl rfl (am_kfr rfl (am_fr_c (Nat.le_of_ble_eq_true rfl) (M_Loc_force (D := D + 109) e4) (fun _ => rfl) (fun _ => rfl)) (Nat.le_refl _) (Nat.le_of_ble_eq_true rfl) (Nat.le_of_ble_eq_true rfl) (Or.inl rfl) (?_ : am_gsb (some (L, xs)) (D + 110) 111 59 2314 (some (.ref 0)) (ww w4 ++ XT K J M) (183, [(0, .ref am_pL), (1, .ref 0)], [.int r4], ww w4 ++ XT K J M, 59, 2314)))
  refine am_go_blk 1 (?_ : am_gsb (some (L, xs)) (D + 110) 111 59 2314 (some (.ref 0)) (ww w4 ++ XT K J M) (184, [(1, .ref 0)], [], ww w4 ++ XT K J M, 59, 2314))
  exact am_go_blk 2 ⟨rfl, rfl⟩
theorem LKL (hL : L ≤ 260) {D : Nat} : ∀ (d i : Nat) (w : am_W), i + d = wM L xs → PQ (wN L xs) i 0 (mkN (wSw L xs) i) 1 0 (wV L xs) te0 tc0 w → PT 1 0 w → ∃ w2 X, WG L xs w2 X ∧ am_gsb (some (L, xs)) (D + 110) 111 59 2314 (some (.ref 0)) (ww w2 ++ X) (46, [(0, .ref am_pL), (1, .ref 0), (2, .int (nI i))], [], ww w, 53, 2127) := by
  have hm := wM_lt (L := L) (xs := xs)
  have hn := wN_lt (L := L) (xs := xs)
  have e1 := W_locks (xs := xs) hL
  intro d
  induction d with
  | zero =>
    intro i w hi hP hT
    obtain rfl : i = wM L xs := hi
    have e2 := W_plain (xs := xs) hL
    have head : ∀ w2 X, am_gsb (some (L, xs)) (D + 110) 111 59 2314 (some (.ref 0)) (ww w2 ++ X) (98, [(0, .ref am_pL), (1, .ref 0)], [.int (bi (wP L xs))], ww w, 53, 2127) → am_gsb (some (L, xs)) (D + 110) 111 59 2314 (some (.ref 0)) (ww w2 ++ X) (46, [(0, .ref am_pL), (1, .ref 0), (2, .int (nI (wM L xs)))], [], ww w, 53, 2127) := fun w2 X H => by
      refine am_go_blk 2 (?_ : am_gsb (some (L, xs)) (D + 110) 111 59 2314 (some (.ref 0)) (ww w2 ++ X) (48, [(0, .ref am_pL), (1, .ref 0), (2, .int (nI (wM L xs)))], [.ref am_pL, .int (nI (wM L xs))], ww w, 53, 2127))
      refine am_cls (as := [.ref am_pL]) (rest := [.int (nI (wM L xs))]) rfl rfl rfl (am_kcall (ww_hl rfl) (M_W_locks (D := D + 108) ww_le e1) rfl (Nat.le_of_ble_eq_true rfl) (Nat.le_of_ble_eq_true rfl) (?_ : am_gsb (some (L, xs)) (D + 110) 111 59 2314 (some (.ref 0)) (ww w2 ++ X) (51, [(0, .ref am_pL), (1, .ref 0), (2, .int (nI (wM L xs)))], [.int (nI (wM L xs)), .int (nI (wM L xs))], ww w, 53, 2127)))
      refine am_go_blk 1 ⟨fun _ => (?_ : am_gsb (some (L, xs)) (D + 110) 111 59 2314 (some (.ref 0)) (ww w2 ++ X) (94, [(0, .ref am_pL), (1, .ref 0)], [], ww w, 53, 2127)), fun hc => absurd (nI_le (Nat.le_refl _) (by omega)) hc⟩
      refine am_go_blk 1 (?_ : am_gsb (some (L, xs)) (D + 110) 111 59 2314 (some (.ref 0)) (ww w2 ++ X) (95, [(0, .ref am_pL), (1, .ref 0)], [.ref am_pL], ww w, 53, 2127))
      refine am_cls (as := [.ref am_pL]) (rest := []) rfl rfl rfl (am_kcall (ww_hl rfl) (M_W_plain (D := D + 108) ww_le e2) rfl (Nat.le_of_ble_eq_true rfl) (Nat.le_of_ble_eq_true rfl) (?_ : am_gsb (some (L, xs)) (D + 110) 111 59 2314 (some (.ref 0)) (ww w2 ++ X) (98, [(0, .ref am_pL), (1, .ref 0)], [.int (bi (wP L xs))], ww w, 53, 2127)))
      exact H
    cases hp : wP L xs with
    | true =>
      refine ⟨w, [], ⟨Or.inl rfl, 1, 0, te0, tc0, hP, fun l hl => W_saws0 hL (by omega) hp⟩, head w [] ?_⟩
      rw [hp, List.append_nil]
      refine am_go_blk 1 ⟨fun _ => (?_ : am_gsb (some (L, xs)) (D + 110) 111 59 2314 (some (.ref 0)) (ww w) (184, [(1, .ref 0)], [], ww w, 53, 2127)), fun hc => absurd hc (by decide)⟩
      exact am_go_blk 2 ⟨rfl, rfl⟩
    | false =>
      obtain ⟨w2, X, hG, run⟩ := BTEXT hL (D := D) hp hP hT
      refine ⟨w2, X, hG, head w2 X ?_⟩
      rw [hp]
      refine am_go_blk 1 ⟨fun hc => absurd rfl hc, fun _ => (?_ : am_gsb (some (L, xs)) (D + 110) 111 59 2314 (some (.ref 0)) (ww w2 ++ X) (101, [(0, .ref am_pL), (1, .ref 0)], [], ww w, 53, 2127))⟩
      exact run
  | succ d ih =>
    intro i w hi hP hT
    have hil : i < wM L xs := by omega
    have hV := wV_I (L := L) (xs := xs)
    obtain ⟨v4, v5, v6, v7⟩ := hV.2.2.2 i hil
    obtain ⟨r, w5, e5, hP5, hT5⟩ := P_lock hP hT (by omega) v4 v5 v6 wT_pos v7
    have q4 := W_owner (xs := xs) hL (l := i) (by omega)
    have q5 := W_sort (xs := xs) hL (l := i) (by omega)
    have q6 := W_through (xs := xs) hL (l := i) (by omega)
    have q7 := W_sawn (xs := xs) hL (l := i) (by omega)
    have e5 : F_Loc_lock (nI (wO L xs i)) (nI (wS L xs i)) (nI (wT L xs i)) w = some (r, w5) := e5
    have body : ∀ w2 X, am_gsb (some (L, xs)) (D + 110) 111 59 2314 (some (.ref 0)) (ww w2 ++ X) (79, [(0, .ref am_pL), (1, .ref 0), (2, .int (nI i))], [.int (bi (wSw L xs i))], ww w5, 53, 2127) → am_gsb (some (L, xs)) (D + 110) 111 59 2314 (some (.ref 0)) (ww w2 ++ X) (46, [(0, .ref am_pL), (1, .ref 0), (2, .int (nI i))], [], ww w, 53, 2127) := fun w2 X H => by
      refine am_go_blk 2 (?_ : am_gsb (some (L, xs)) (D + 110) 111 59 2314 (some (.ref 0)) (ww w2 ++ X) (48, [(0, .ref am_pL), (1, .ref 0), (2, .int (nI i))], [.ref am_pL, .int (nI i)], ww w, 53, 2127))
      refine am_cls (as := [.ref am_pL]) (rest := [.int (nI i)]) rfl rfl rfl (am_kcall (ww_hl rfl) (M_W_locks (D := D + 108) ww_le e1) rfl (Nat.le_of_ble_eq_true rfl) (Nat.le_of_ble_eq_true rfl) (?_ : am_gsb (some (L, xs)) (D + 110) 111 59 2314 (some (.ref 0)) (ww w2 ++ X) (51, [(0, .ref am_pL), (1, .ref 0), (2, .int (nI i))], [.int (nI (wM L xs)), .int (nI i)], ww w, 53, 2127)))
      refine am_go_blk 1 ⟨fun hc => absurd hc (nI_ge hil (by omega)), fun _ => (?_ : am_gsb (some (L, xs)) (D + 110) 111 59 2314 (some (.ref 0)) (ww w2 ++ X) (54, [(0, .ref am_pL), (1, .ref 0), (2, .int (nI i))], [], ww w, 53, 2127))⟩
      refine am_go_blk 3 (?_ : am_gsb (some (L, xs)) (D + 110) 111 59 2314 (some (.ref 0)) (ww w2 ++ X) (57, [(0, .ref am_pL), (1, .ref 0), (2, .int (nI i))], [.int (nI i), .ref am_pL, .ref 0], ww w, 53, 2127))
      refine am_cls (as := [.ref am_pL, .int (nI i)]) (rest := [.ref 0]) rfl rfl rfl (am_kcall (ww_hl rfl) (M_W_owner (D := D + 107) ww_le q4) rfl (Nat.le_of_ble_eq_true rfl) (Nat.le_of_ble_eq_true rfl) (?_ : am_gsb (some (L, xs)) (D + 110) 111 59 2314 (some (.ref 0)) (ww w2 ++ X) (60, [(0, .ref am_pL), (1, .ref 0), (2, .int (nI i))], [.int (nI (wO L xs i)), .ref 0], ww w, 53, 2127)))
      refine am_go_blk 2 (?_ : am_gsb (some (L, xs)) (D + 110) 111 59 2314 (some (.ref 0)) (ww w2 ++ X) (62, [(0, .ref am_pL), (1, .ref 0), (2, .int (nI i))], [.int (nI i), .ref am_pL, .int (nI (wO L xs i)), .ref 0], ww w, 53, 2127))
      refine am_cls (as := [.ref am_pL, .int (nI i)]) (rest := [.int (nI (wO L xs i)), .ref 0]) rfl rfl rfl (am_kcall (ww_hl rfl) (M_W_sort (D := D + 108) ww_le q5) rfl (Nat.le_of_ble_eq_true rfl) (Nat.le_of_ble_eq_true rfl) (?_ : am_gsb (some (L, xs)) (D + 110) 111 59 2314 (some (.ref 0)) (ww w2 ++ X) (65, [(0, .ref am_pL), (1, .ref 0), (2, .int (nI i))], [.int (nI (wS L xs i)), .int (nI (wO L xs i)), .ref 0], ww w, 53, 2127)))
      refine am_go_blk 2 (?_ : am_gsb (some (L, xs)) (D + 110) 111 59 2314 (some (.ref 0)) (ww w2 ++ X) (67, [(0, .ref am_pL), (1, .ref 0), (2, .int (nI i))], [.int (nI i), .ref am_pL, .int (nI (wS L xs i)), .int (nI (wO L xs i)), .ref 0], ww w, 53, 2127))
      refine am_cls (as := [.ref am_pL, .int (nI i)]) (rest := [.int (nI (wS L xs i)), .int (nI (wO L xs i)), .ref 0]) rfl rfl rfl (am_kcall (ww_hl rfl) (M_W_through (D := D + 107) ww_le q6) rfl (Nat.le_of_ble_eq_true rfl) (Nat.le_of_ble_eq_true rfl) (?_ : am_gsb (some (L, xs)) (D + 110) 111 59 2314 (some (.ref 0)) (ww w2 ++ X) (70, [(0, .ref am_pL), (1, .ref 0), (2, .int (nI i))], [.int (nI (wT L xs i)), .int (nI (wS L xs i)), .int (nI (wO L xs i)), .ref 0], ww w, 53, 2127)))
      refine am_invd (o := 0) (ci := 6) (as := [.int (nI (wO L xs i)), .int (nI (wS L xs i)), .int (nI (wT L xs i))]) (rest := []) rfl rfl rfl rfl (am_kcall (ww_hl rfl) (M_Loc_lock (D := D + 105) e5) rfl (Nat.le_of_ble_eq_true rfl) (Nat.le_of_ble_eq_true rfl) (?_ : am_gsb (some (L, xs)) (D + 110) 111 59 2314 (some (.ref 0)) (ww w2 ++ X) (73, [(0, .ref am_pL), (1, .ref 0), (2, .int (nI i))], [.int r], ww w5, 53, 2127)))
      refine am_go_blk 3 (?_ : am_gsb (some (L, xs)) (D + 110) 111 59 2314 (some (.ref 0)) (ww w2 ++ X) (76, [(0, .ref am_pL), (1, .ref 0), (2, .int (nI i))], [.int (nI i), .ref am_pL], ww w5, 53, 2127))
      refine am_cls (as := [.ref am_pL, .int (nI i)]) (rest := []) rfl rfl rfl (am_kcall (ww_hl rfl) (M_W_sawn (D := D + 108) ww_le q7) rfl (Nat.le_of_ble_eq_true rfl) (Nat.le_of_ble_eq_true rfl) (?_ : am_gsb (some (L, xs)) (D + 110) 111 59 2314 (some (.ref 0)) (ww w2 ++ X) (79, [(0, .ref am_pL), (1, .ref 0), (2, .int (nI i))], [.int (bi (wSw L xs i))], ww w5, 53, 2127)))
      exact H
    have next : ∀ w6 w2 X, am_gsb (some (L, xs)) (D + 110) 111 59 2314 (some (.ref 0)) (ww w2 ++ X) (46, [(0, .ref am_pL), (1, .ref 0), (2, .int (nI (i + 1)))], [], ww w6, 53, 2127) → am_gsb (some (L, xs)) (D + 110) 111 59 2314 (some (.ref 0)) (ww w2 ++ X) (88, [(0, .ref am_pL), (1, .ref 0), (2, .int (nI i))], [], ww w6, 53, 2127) := fun w6 w2 X H => by
      refine am_go_blk 2 (?_ : am_gsb (some (L, xs)) (D + 110) 111 59 2314 (some (.ref 0)) (ww w2 ++ X) (46, [(0, .ref am_pL), (1, .ref 0), (2, .int (nI i + nI 1))], [], ww w6, 53, 2127))
      rw [nI_add]
      exact H
    cases hs : wSw L xs i with
    | false =>
      have hS : mkN (wSw L xs) (i + 1) = mkN (wSw L xs) i := by
        rw [mkN, hs, cond_false, Nat.or_zero]
      obtain ⟨w2, X, hG, run⟩ := ih (i + 1) w5 (by omega) (by rw [hS]; exact hP5) hT5
      refine ⟨w2, X, hG, body w2 X ?_⟩
      rw [hs]
      refine am_go_blk 1 ⟨fun _ => (?_ : am_gsb (some (L, xs)) (D + 110) 111 59 2314 (some (.ref 0)) (ww w2 ++ X) (88, [(0, .ref am_pL), (1, .ref 0), (2, .int (nI i))], [], ww w5, 53, 2127)), fun hc => absurd rfl hc⟩
      exact next w5 w2 X run
    | true =>
      have hS : mkN (wSw L xs) (i + 1) = mkN (wSw L xs) i ||| 2 ^ i := by
        rw [mkN, hs, cond_true]
      have hsh : shu (wV L xs) 0 (mkN (wSw L xs) i) i = true := by
        unfold shu
        rw [mkN_t, decide_eq_false (by omega), Nat.zero_testBit]
        rfl
      obtain ⟨r6, w6, e6, hP6, hT6⟩ := P_sawT hP5 hT5 (Nat.lt_succ_self i) hsh
      obtain ⟨w2, X, hG, run⟩ := ih (i + 1) w6 (by omega) (by rw [hS]; exact hP6) hT6
      refine ⟨w2, X, hG, body w2 X ?_⟩
      rw [hs]
      refine am_go_blk 1 ⟨fun hc => absurd hc (by decide), fun _ => (?_ : am_gsb (some (L, xs)) (D + 110) 111 59 2314 (some (.ref 0)) (ww w2 ++ X) (82, [(0, .ref am_pL), (1, .ref 0), (2, .int (nI i))], [], ww w5, 53, 2127))⟩
      refine am_go_blk 2 (?_ : am_gsb (some (L, xs)) (D + 110) 111 59 2314 (some (.ref 0)) (ww w2 ++ X) (84, [(0, .ref am_pL), (1, .ref 0), (2, .int (nI i))], [.int (nI i), .ref 0], ww w5, 53, 2127))
      refine am_invd (o := 0) (ci := 6) (as := [.int (nI i)]) (rest := []) rfl rfl rfl rfl (am_kcall (ww_hl rfl) (M_Loc_saw (D := D + 104) e6) rfl (Nat.le_of_ble_eq_true rfl) (Nat.le_of_ble_eq_true rfl) (?_ : am_gsb (some (L, xs)) (D + 110) 111 59 2314 (some (.ref 0)) (ww w2 ++ X) (87, [(0, .ref am_pL), (1, .ref 0), (2, .int (nI i))], [.int r6], ww w6, 53, 2127)))
      refine am_go_blk 1 (?_ : am_gsb (some (L, xs)) (D + 110) 111 59 2314 (some (.ref 0)) (ww w2 ++ X) (88, [(0, .ref am_pL), (1, .ref 0), (2, .int (nI i))], [], ww w6, 53, 2127))
      exact next w6 w2 X run
theorem THL (hL : L ≤ 260) {D : Nat} : ∀ (d i : Nat) (w : am_W), i + d = wN L xs → PQ i 0 0 0 1 0 (wV L xs) te0 tc0 w → PT 1 0 w → ∃ w2 X, WG L xs w2 X ∧ am_gsb (some (L, xs)) (D + 110) 111 59 2314 (some (.ref 0)) (ww w2 ++ X) (10, [(0, .ref am_pL), (1, .ref 0), (2, .int (nI i))], [], ww w, 53, 2127) := by
  have hm := wM_lt (L := L) (xs := xs)
  have hn := wN_lt (L := L) (xs := xs)
  have e1 := W_things (xs := xs) hL
  intro d
  induction d with
  | zero =>
    intro i w hi hP hT
    obtain rfl : i = wN L xs := hi
    obtain ⟨w2, X, hG, run⟩ := LKL hL (D := D) (wM L xs) 0 w (Nat.zero_add _) hP hT
    refine ⟨w2, X, hG, ?_⟩
    refine am_go_blk 2 (?_ : am_gsb (some (L, xs)) (D + 110) 111 59 2314 (some (.ref 0)) (ww w2 ++ X) (12, [(0, .ref am_pL), (1, .ref 0), (2, .int (nI (wN L xs)))], [.ref am_pL, .int (nI (wN L xs))], ww w, 53, 2127))
    refine am_cls (as := [.ref am_pL]) (rest := [.int (nI (wN L xs))]) rfl rfl rfl (am_kcall (ww_hl rfl) (M_W_things (D := D + 108) ww_le e1) rfl (Nat.le_of_ble_eq_true rfl) (Nat.le_of_ble_eq_true rfl) (?_ : am_gsb (some (L, xs)) (D + 110) 111 59 2314 (some (.ref 0)) (ww w2 ++ X) (15, [(0, .ref am_pL), (1, .ref 0), (2, .int (nI (wN L xs)))], [.int (nI (wN L xs)), .int (nI (wN L xs))], ww w, 53, 2127)))
    refine am_go_blk 1 ⟨fun _ => (?_ : am_gsb (some (L, xs)) (D + 110) 111 59 2314 (some (.ref 0)) (ww w2 ++ X) (44, [(0, .ref am_pL), (1, .ref 0)], [], ww w, 53, 2127)), fun hc => absurd (nI_le (Nat.le_refl _) (by omega)) hc⟩
    exact am_go_blk 2 run
  | succ d ih =>
    intro i w hi hP hT
    have hin : i < wN L xs := by omega
    obtain ⟨v1, v2, v3⟩ := (wV_I (L := L) (xs := xs)).2.2.1 i hin
    obtain ⟨r, w5, e5, hP5, hT5⟩ := P_thing hP hT (by omega) v1 v2 v3
    have e5 : F_Loc_thing (nI (wK L xs i)) (nI (wO2 L xs i)) (nI (wC L xs i)) w = some (r, w5) := e5
    have q1 := W_kind (xs := xs) hL (t := i) (by omega)
    have q2 := W_more (xs := xs) hL (t := i) (by omega)
    have q3 := W_come (xs := xs) hL (t := i) (by omega)
    obtain ⟨w2, X, hG, run⟩ := ih (i + 1) w5 (by omega) hP5 hT5
    refine ⟨w2, X, hG, ?_⟩
    refine am_go_blk 2 (?_ : am_gsb (some (L, xs)) (D + 110) 111 59 2314 (some (.ref 0)) (ww w2 ++ X) (12, [(0, .ref am_pL), (1, .ref 0), (2, .int (nI i))], [.ref am_pL, .int (nI i)], ww w, 53, 2127))
    refine am_cls (as := [.ref am_pL]) (rest := [.int (nI i)]) rfl rfl rfl (am_kcall (ww_hl rfl) (M_W_things (D := D + 108) ww_le e1) rfl (Nat.le_of_ble_eq_true rfl) (Nat.le_of_ble_eq_true rfl) (?_ : am_gsb (some (L, xs)) (D + 110) 111 59 2314 (some (.ref 0)) (ww w2 ++ X) (15, [(0, .ref am_pL), (1, .ref 0), (2, .int (nI i))], [.int (nI (wN L xs)), .int (nI i)], ww w, 53, 2127)))
    refine am_go_blk 1 ⟨fun hc => absurd hc (nI_ge hin (by omega)), fun _ => (?_ : am_gsb (some (L, xs)) (D + 110) 111 59 2314 (some (.ref 0)) (ww w2 ++ X) (18, [(0, .ref am_pL), (1, .ref 0), (2, .int (nI i))], [], ww w, 53, 2127))⟩
    refine am_go_blk 3 (?_ : am_gsb (some (L, xs)) (D + 110) 111 59 2314 (some (.ref 0)) (ww w2 ++ X) (21, [(0, .ref am_pL), (1, .ref 0), (2, .int (nI i))], [.int (nI i), .ref am_pL, .ref 0], ww w, 53, 2127))
    refine am_cls (as := [.ref am_pL, .int (nI i)]) (rest := [.ref 0]) rfl rfl rfl (am_kcall (ww_hl rfl) (M_W_kind (D := D + 108) ww_le q1) rfl (Nat.le_of_ble_eq_true rfl) (Nat.le_of_ble_eq_true rfl) (?_ : am_gsb (some (L, xs)) (D + 110) 111 59 2314 (some (.ref 0)) (ww w2 ++ X) (24, [(0, .ref am_pL), (1, .ref 0), (2, .int (nI i))], [.int (nI (wK L xs i)), .ref 0], ww w, 53, 2127)))
    refine am_go_blk 2 (?_ : am_gsb (some (L, xs)) (D + 110) 111 59 2314 (some (.ref 0)) (ww w2 ++ X) (26, [(0, .ref am_pL), (1, .ref 0), (2, .int (nI i))], [.int (nI i), .ref am_pL, .int (nI (wK L xs i)), .ref 0], ww w, 53, 2127))
    refine am_cls (as := [.ref am_pL, .int (nI i)]) (rest := [.int (nI (wK L xs i)), .ref 0]) rfl rfl rfl (am_kcall (ww_hl rfl) (M_W_more (D := D + 108) ww_le q2) rfl (Nat.le_of_ble_eq_true rfl) (Nat.le_of_ble_eq_true rfl) (?_ : am_gsb (some (L, xs)) (D + 110) 111 59 2314 (some (.ref 0)) (ww w2 ++ X) (29, [(0, .ref am_pL), (1, .ref 0), (2, .int (nI i))], [.int (nI (wO2 L xs i)), .int (nI (wK L xs i)), .ref 0], ww w, 53, 2127)))
    refine am_go_blk 2 (?_ : am_gsb (some (L, xs)) (D + 110) 111 59 2314 (some (.ref 0)) (ww w2 ++ X) (31, [(0, .ref am_pL), (1, .ref 0), (2, .int (nI i))], [.int (nI i), .ref am_pL, .int (nI (wO2 L xs i)), .int (nI (wK L xs i)), .ref 0], ww w, 53, 2127))
    refine am_cls (as := [.ref am_pL, .int (nI i)]) (rest := [.int (nI (wO2 L xs i)), .int (nI (wK L xs i)), .ref 0]) rfl rfl rfl (am_kcall (ww_hl rfl) (M_W_come (D := D + 108) ww_le q3) rfl (Nat.le_of_ble_eq_true rfl) (Nat.le_of_ble_eq_true rfl) (?_ : am_gsb (some (L, xs)) (D + 110) 111 59 2314 (some (.ref 0)) (ww w2 ++ X) (34, [(0, .ref am_pL), (1, .ref 0), (2, .int (nI i))], [.int (nI (wC L xs i)), .int (nI (wO2 L xs i)), .int (nI (wK L xs i)), .ref 0], ww w, 53, 2127)))
    refine am_invd (o := 0) (ci := 6) (as := [.int (nI (wK L xs i)), .int (nI (wO2 L xs i)), .int (nI (wC L xs i))]) (rest := []) rfl rfl rfl rfl (am_kcall (ww_hl rfl) (M_Loc_thing (D := D + 105) e5) rfl (Nat.le_of_ble_eq_true rfl) (Nat.le_of_ble_eq_true rfl) (?_ : am_gsb (some (L, xs)) (D + 110) 111 59 2314 (some (.ref 0)) (ww w2 ++ X) (37, [(0, .ref am_pL), (1, .ref 0), (2, .int (nI i))], [.int r], ww w5, 53, 2127)))
    refine am_go_blk 3 (?_ : am_gsb (some (L, xs)) (D + 110) 111 59 2314 (some (.ref 0)) (ww w2 ++ X) (10, [(0, .ref am_pL), (1, .ref 0), (2, .int (nI i + nI 1))], [], ww w5, 53, 2127))
    rw [nI_add]
    exact run
theorem BUILD (hL : L ≤ 260) {D : Nat} : ∃ w2 X, WG L xs w2 X ∧ am_run (some (L, xs)) (D + 111) 111 [.ref am_pL] [] (some (.ref 0)) (ww w2 ++ X) 59 2314 := by
  obtain ⟨w1, hr, hz, hP, h17, h18⟩ := BEGIN (wV L xs)
  generalize hw : wsf w1 17 1 (nI 1) = w at hz hP h17 h18
  obtain ⟨w2, X, hG, run⟩ := THL hL (D := D) (wN L xs) 0 (wB w) (Nat.zero_add _) hP ⟨h17, h18⟩
  refine ⟨w2, X, hG, am_run_of rfl ?_⟩
  show am_gsb (some (L, xs)) (D + 110) 111 59 2314 (some (.ref 0)) (ww w2 ++ X) (0, [(0, .ref am_pL)], [], [], 0, 0)
  refine am_go_blk 1 (?_ : am_gsb (some (L, xs)) (D + 110) 111 59 2314 (some (.ref 0)) (ww w2 ++ X) (3, [(0, .ref am_pL)], [.ref 0], [.inr (6, [.null, .null, .null, .null, .null, .null, .null, .null, .int 0, .int 0])], 1, 10))
  refine am_go_blk 1 (?_ : am_gsb (some (L, xs)) (D + 110) 111 59 2314 (some (.ref 0)) (ww w2 ++ X) (4, [(0, .ref am_pL)], [.ref 0, .ref 0], [.inr (6, [.null, .null, .null, .null, .null, .null, .null, .null, .int 0, .int 0])], 1, 10))
  refine am_go_blk 1 ⟨none, H_C68 w, 52, 2117, am_fr_of (C68 (D := D + 2) hr hw hz) (Nat.le_of_ble_eq_true rfl) (Nat.le_of_ble_eq_true rfl), Nat.le_of_ble_eq_true rfl, (show 1 + 52 ≤ 59 by omega), (show 10 + 2117 ≤ 2314 by omega), Or.inr rfl, (?_ : am_gsb (some (L, xs)) (D + 110) 111 59 2314 (some (.ref 0)) (ww w2 ++ X) (7, [(0, .ref am_pL)], [.ref 0], H_C68 w, 1 + 52, 10 + 2117))⟩
  show am_gsb (some (L, xs)) (D + 110) 111 59 2314 (some (.ref 0)) (ww w2 ++ X) (7, [(0, .ref am_pL)], [.ref 0], ww (wB w), 53, 2127)
  refine am_go_blk 1 (?_ : am_gsb (some (L, xs)) (D + 110) 111 59 2314 (some (.ref 0)) (ww w2 ++ X) (8, [(1, .ref 0), (0, .ref am_pL)], [], ww (wB w), 53, 2127))
  exact am_go_blk 2 run
end
