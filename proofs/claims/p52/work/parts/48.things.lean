/-! ===== thing, lock, relock, taken ===== -/
theorem in_F {α : Type} {a : Int32} {k : Nat} {x y : α} (hk : k < 2 ^ 30) (h : am_in a (k + 1) = false) : (if a < 0 then x else if nI k < a then x else y) = x := by
  by_cases h1 : a < 0
  · rw [if_pos h1]
  · rw [if_neg h1]
    by_cases h2 : nI k < a
    · rw [if_pos h2]
    · rw [in_dec, decide_eq_false_iff_not] at h
      rw [Int32.lt_iff_toInt_lt, ti_0] at h1
      rw [Int32.lt_iff_toInt_lt, nI_toInt (by omega)] at h2
      omega
def addT (w : am_W) (n x y h : Nat) : am_W := wsf (wsf (wsf w 1 0 (nI (n + 1))) 3 n (nI y)) 4 n (nI h)
def adMT (w : am_W) (n x y h : Nat) (g : Nat) : am_W := wsf (wsf (wsf (wsf (wsf w 54 n (nI x)) 55 n (nI y)) 56 n (nI h)) 53 4 (nI g)) 53 0 (nI (n + 1))
def vT (v : am_V) (n x y h : Nat) : am_V := vset (vset (vset v 1 n x) 2 n y) 3 n h
section
variable {n m g s : Nat} {v : am_V} {w : am_W}
theorem vT_1 {x y h t : Nat} (e : ¬ t = n) : vT v n x y h 1 t = v 1 t ∧ vT v n x y h 2 t = v 2 t ∧ vT v n x y h 3 t = v 3 t := ⟨vset_ne (v := v) (a := 1) e, vset_ne (v := vset v 1 n x) (a := 2) e, vset_ne (v := vset (vset v 1 n x) 2 n y) (a := 3) e⟩
theorem vT_2 {x y h : Nat} : vT v n x y h 1 n = x ∧ vT v n x y h 2 n = y ∧ vT v n x y h 3 n = h := ⟨vset_at v 1 n x, vset_at (vset v 1 n x) 2 n y, vset_at (vset (vset v 1 n x) 2 n y) 3 n h⟩
theorem VI_T (hV : VI n m v) {x y h : Nat} (hn : n < 8) (hx : x < 6) (hy : y < 10) (hh : h < 24) : VI (n + 1) m (vT v n x y h) := by
  refine ⟨hn, hV.2.1, fun t ht => ?_, fun l hl => ?_⟩
  · by_cases e : t = n
    · subst e
      obtain ⟨e1, e2, e3⟩ := vT_2 (v := v) (n := t) (x := x) (y := y) (h := h)
      rw [e1, e2, e3]
      exact ⟨hx, hy, hh⟩
    · obtain ⟨e1, e2, e3⟩ := vT_1 (v := v) (x := x) (y := y) (h := h) e
      rw [e1, e2, e3]
      exact hV.2.2.1 t (by omega)
  · obtain ⟨h1, h2, h3, h4⟩ := hV.2.2.2 l hl
    exact ⟨Nat.lt_succ_of_lt h1, h2, h3, fun i hi hni => h4 i hi (by omega)⟩
theorem S_addThing (hV : VI n m v) (hC : CC n m g s v w) {x y h : Nat} (hn : n < 8) (hx : x < 6) (hy : y < 10) : ∃ w', F_Rail_addThing (nI x) (nI y) (nI h) w = some w' ∧ CC (n + 1) m g s (vT v n x y h) w' ∧ FRA (fun a => Nat.ble a 1) w w' ∧ (∀ c, 53 ≤ c → w'.1 c = w.1 c) := by
  have hm := hV.2.1
  have hR : ∃ w', F_Rail_putKind (nI n) (nI x) (addT w n x y h) = some w' ∧ (∀ c, ¬ c = 1 → ¬ c = 2 → ¬ c = 8 → w'.1 c = (addT w n x y h).1 c) ∧ (∀ j, ¬ j = 4 → w'.1 1 j = (addT w n x y h).1 1 j) ∧ w'.1 1 4 = mk (evr (vT v n x y h)) (n + 1) ∧ (∀ u, u < n + 1 → w'.1 2 u = nI (vT v n x y h 1 u)) ∧ ∀ l, l < m → w'.1 8 l = mk (gr (vT v n x y h) l) (n + 1) := by
    refine S_putKind (n := n + 1) (m := m) (v := vT v n x y h) (w := addT w n x y h) (t := n) (x := x) hn hm (by omega) hx vT_2.1 rfl hC.2.2.1 ?_ ?_ ?_
    · intro u hu
      by_cases e : u = n
      · subst e
        obtain ⟨e1, e2, e3⟩ := vT_2 (v := v) (n := u) (x := x) (y := y) (h := h)
        rw [e1, e2]
        refine ⟨fun q => absurd rfl q, ?_, hx, hy⟩
        show upd (w.1 3) u (nI y) u = _
        exact pk_us
      · obtain ⟨e1, e2, e3⟩ := vT_1 (v := v) (x := x) (y := y) (h := h) e
        obtain ⟨c1, c2, c3⟩ := hC.2.2.2.2.2.1 u (by omega)
        obtain ⟨k1, k2, k3⟩ := hV.2.2.1 u (by omega)
        rw [e1, e2]
        refine ⟨fun _ => c1, ?_, k1, k2⟩
        show upd (w.1 3) n (nI y) u = _
        rw [pk_un e]; exact c2
    · intro l hl
      obtain ⟨c1, c2, c3, c4⟩ := hC.2.2.2.2.2.2 l hl
      exact ⟨c3, c2, (hV.2.2.2 l hl).2.1⟩
    · intro i hi e
      have h9 : (addT w n x y h).1 1 4 = mk (evr v) n := hC.2.2.2.2.1
      rw [h9, mk_b _ n (by omega) hi]
      unfold evr
      rw [(vT_1 (v := v) (x := x) (y := y) (h := h) e).1, show decide (i < n + 1) = decide (i < n) from decide_eq_decide.mpr (by omega)]
  obtain ⟨w', e1, e2, e3, e4, e5, e6⟩ := hR
  refine ⟨w', ?_, ⟨?_, ?_, ?_, ?_, e4, fun t ht => ?_, fun l hl => ?_⟩, ?_, ?_⟩
  · unfold F_Rail_addThing
    simp (disch := omega) only [hC.1, nI_clamp, am_ckI, ile_t, ile_f, ilt_t, ilt_f, ieq_t, ieq_f, iz_t, iz_f, ilz_f, nI_add, wst_f, Option.bind_some, am_ltU, am_ckT, cond_true, cond_false, bi_ite, ck_bi, ite_T, ite_F]
    show (F_Rail_putKind (nI n) (nI x) (addT w n x y h)).bind _ = _
    rw [e1]; rfl
  · rw [e3 0 (by omega)]; rfl
  · rw [e3 1 (by omega)]; exact hC.2.1
  · rw [e3 2 (by omega)]; exact hC.2.2.1
  · rw [e3 3 (by omega)]; exact hC.2.2.2.1
  · rw [e5 t ht, e2 3 (by omega) (by omega) (by omega), e2 4 (by omega) (by omega) (by omega)]
    refine ⟨rfl, ?_⟩
    show upd (w.1 3) n (nI y) t = _ ∧ upd (w.1 4) n (nI h) t = _
    by_cases e : t = n
    · subst e
      obtain ⟨q1, q2, q3⟩ := vT_2 (v := v) (n := t) (x := x) (y := y) (h := h)
      rw [q2, q3, pk_us, pk_us]
      exact ⟨rfl, rfl⟩
    · obtain ⟨q1, q2, q3⟩ := vT_1 (v := v) (x := x) (y := y) (h := h) e
      rw [q2, q3, pk_un e, pk_un e]
      exact (hC.2.2.2.2.2.1 t (by omega)).2
  · obtain ⟨c1, c2, c3, c4⟩ := hC.2.2.2.2.2.2 l hl
    rw [e2 5 (by omega) (by omega) (by omega), e2 6 (by omega) (by omega) (by omega), e2 7 (by omega) (by omega) (by omega)]
    exact ⟨c1, c2, c3, e6 l hl⟩
  · intro c j q
    by_cases c1 : c = 1
    · subst c1; cases q
    · by_cases c2 : c = 2
      · subst c2; cases q
      · by_cases c8 : c = 8
        · subst c8; cases q
        · rw [e2 c c1 c2 c8]
          by_cases c3 : c = 3
          · subst c3; cases q
          · by_cases c4 : c = 4
            · subst c4; cases q
            · exact congrFun ((mf_n (nbf c4)).trans ((mf_n (nbf c3)).trans (mf_n (nbf c1)))) j
  · intro c hc
    rw [e2 c (by omega) (by omega) (by omega)]
    exact (mf_n (nbf (by omega))).trans ((mf_n (nbf (by omega))).trans (mf_n (nbf (by omega))))
theorem CC_lo {w' : am_W} (h : ∀ c, c < 53 → w'.1 c = w.1 c) (hC : CC n m g s v w) : CC n m g s v w' := by
  unfold CC
  rw [h 1 (by omega), h 2 (by omega), h 3 (by omega), h 4 (by omega), h 5 (by omega), h 6 (by omega), h 7 (by omega), h 8 (by omega)]
  exact hC
end
theorem clr_bit {g t : Nat} (hg : g < 2 ^ t) (ht : t < 31) : nI g &&& ((nI 1 <<< (nI t &&& 31)) ^^^ (-nI 1)) = nI g := b_ext (fun i hi => by
  rw [b_and, b_not _ hi, b_one t (by omega) hi, b_nI hi]
  by_cases e : i = t
  · subst e
    rw [Nat.testBit_lt_two_pow hg]; rfl
  · rw [decide_eq_false e]; simp)