/-! ===== lock, relock, taken ===== -/
def addL (w : am_W) (m o so se : Nat) (x : Int32) : am_W := wsf (wsf (wsf (wsf (wsf w 1 2 (nI (m + 1))) 5 m (nI o)) 6 m (nI so)) 7 m (nI se)) 8 m x
def adML (w : am_W) (m o so se : Nat) (s : Nat) : am_W := wsf (wsf (wsf (wsf (wsf w 57 (3 * m) (nI o)) 57 (3 * m + 1) (nI so)) 57 (3 * m + 2) (nI se)) 53 7 (nI s)) 53 5 (nI (m + 1))
def vL (v : am_V) (m o so se : Nat) : am_V := vset (vset (vset v 4 m o) 5 m so) 6 m se
section
variable {n m g s : Nat} {v : am_V} {w : am_W}
theorem vL_1 {o so se l : Nat} (e : ¬ l = m) : vL v m o so se 4 l = v 4 l ∧ vL v m o so se 5 l = v 5 l ∧ vL v m o so se 6 l = v 6 l := ⟨vset_ne (v := v) (a := 4) e, vset_ne (v := vset v 4 m o) (a := 5) e, vset_ne (v := vset (vset v 4 m o) 5 m so) (a := 6) e⟩
theorem vL_2 {o so se : Nat} : vL v m o so se 4 m = o ∧ vL v m o so se 5 m = so ∧ vL v m o so se 6 m = se := ⟨vset_at v 4 m o, vset_at (vset v 4 m o) 5 m so, vset_at (vset (vset v 4 m o) 5 m so) 6 m se⟩
theorem VI_L (hV : VI n m v) {k j o so se : Nat} (hk : k ≤ 10) (hkm : ∀ l, l < k → ¬ l = j → l < m) (ho : o < n) (hso : so < 3) (hse : se < 512) (hb : ∀ i, i < 8 → n ≤ i → se.testBit i = false) : VI n k (vL v j o so se) := by
  refine ⟨hV.1, hk, hV.2.2.1, fun l hl => ?_⟩
  by_cases e : l = j
  · subst e
    obtain ⟨e1, e2, e3⟩ := vL_2 (v := v) (m := l) (o := o) (so := so) (se := se)
    rw [e1, e2, e3]
    exact ⟨ho, hso, hse, hb⟩
  · obtain ⟨e1, e2, e3⟩ := vL_1 (v := v) (o := o) (so := so) (se := se) e
    rw [e1, e2, e3]
    exact hV.2.2.2 l (hkm l hl e)
theorem S_addLock (hV : VI n m v) (hC : CC n m g s v w) {o so se : Nat} (hm : m < 10) (hso : so < 3) : F_Rail_addLock (nI o) (nI so) (nI se) w = some (addL w m o so se (mk (gr (vL v m o so se) m) n)) ∧ CC n (m + 1) g s (vL v m o so se) (addL w m o so se (mk (gr (vL v m o so se) m) n)) := by
  have hn := hV.1
  obtain ⟨v1, v2, v3⟩ := vL_2 (v := v) (m := m) (o := o) (so := so) (se := se)
  constructor
  · unfold F_Rail_addLock F_Rail_putSet
    simp (disch := omega) only [hC.2.2.1, nI_clamp, am_ckI, ile_t, ile_f, ilt_t, ilt_f, ieq_t, ieq_f, iz_t, iz_f, ilz_f, nI_add, wst_f, Option.bind_some, am_ltU, am_ckT, cond_true, cond_false, bi_ite, ck_bi, ite_T, ite_F]
    rw [S_regrip (v := vL v m o so se) (w := wsf (wsf (wsf (wsf w 1 2 (nI (m + 1))) 5 m (nI o)) 6 m (nI so)) 7 m (nI se)) hn hC.1 hm (by rw [wsf_at, v3]) (by
      show (wsf (wsf (wsf w 1 2 _) 5 m (nI o)) 6 m (nI so)).1 6 m = _
      rw [wsf_at, v2]) (by rw [v2]; exact hso) (fun t ht => ⟨(hC.2.2.2.2.2.1 t ht).1, (hC.2.2.2.2.2.1 t ht).2.1, (hV.2.2.1 t ht).1, (hV.2.2.1 t ht).2.1⟩)]
    rfl
  · refine ⟨hC.1, hC.2.1, rfl, hC.2.2.2.1, hC.2.2.2.2.1, hC.2.2.2.2.2.1, fun l hl => ?_⟩
    show upd (w.1 5) m (nI o) l = _ ∧ upd (w.1 6) m (nI so) l = _ ∧ upd (w.1 7) m (nI se) l = _ ∧ upd (w.1 8) m _ l = _
    by_cases e : l = m
    · subst e
      rw [v1, v2, v3, pk_us, pk_us, pk_us, pk_us]
      exact ⟨rfl, rfl, rfl, rfl⟩
    · obtain ⟨e1, e2, e3⟩ := vL_1 (v := v) (o := o) (so := so) (se := se) e
      rw [e1, e2, e3, pk_un e, pk_un e, pk_un e, pk_un e]
      obtain ⟨c1, c2, c3, c4⟩ := hC.2.2.2.2.2.2 l (by omega)
      refine ⟨c1, c2, c3, c4.trans (mk_c (fun t _ => ?_))⟩
      unfold gr
      rw [e2, e3]; rfl
theorem fr_L {x : Int32} {o so se : Nat} : FRA (fun a => Nat.ble a 1) w (addL w m o so se x) := FRA_t (FRA_t (FRA_t (FRA_t (FRA_sf rfl) (FRA_sf rfl)) (FRA_sf rfl)) (FRA_sf rfl)) (FRA_sf rfl)
theorem fr_ML {o so se : Nat} : FRA (fun a => Nat.ble a 1) w (adML w m o so se s) := FRA_t (FRA_t (FRA_t (FRA_t (FRA_sf rfl) (FRA_sf rfl)) (FRA_sf rfl)) (FRA_sf rfl)) (FRA_sf rfl)
theorem hi_L {x : Int32} {o so se : Nat} : ∀ c, 53 ≤ c → (addL w m o so se x).1 c = w.1 c := fun c hc => (mf_n (nbf (by omega))).trans ((mf_n (nbf (by omega))).trans ((mf_n (nbf (by omega))).trans ((mf_n (nbf (by omega))).trans (mf_n (nbf (by omega))))))
theorem lo_ML {o so se : Nat} : ∀ c, c < 53 → (adML w m o so se s).1 c = w.1 c := fun c hc => (mf_n (nbf (by omega))).trans ((mf_n (nbf (by omega))).trans ((mf_n (nbf (by omega))).trans ((mf_n (nbf (by omega))).trans (mf_n (nbf (by omega))))))
/-- what lock answers, for a thing o, a sort, a set -/
def lkN (m g o se : Nat) : Int32 := bif !g.testBit o && Nat.beq (se &&& g) 0 then (bif Nat.beq m 10 then -nI 4 else nI (m + 1) - nI 1) else -nI 3
theorem nbt {a b : Nat} : Nat.beq a b = true ↔ a = b := ⟨Nat.eq_of_beq_eq_true, fun h => h ▸ Nat.beq_refl _⟩
theorem and_or0 {g o se : Nat} : Nat.beq ((2 ^ o ||| se) &&& g) 0 = (!g.testBit o && Nat.beq (se &&& g) 0) := by
  rw [Bool.eq_iff_iff, nbt, Bool.and_eq_true, Bool.not_eq_true', nbt]
  constructor
  · intro h
    have k : ∀ i, ((2 ^ o ||| se) &&& g).testBit i = false := fun i => by rw [h, Nat.zero_testBit]
    constructor
    · have := k o
      rw [Nat.testBit_and, Nat.testBit_or, Nat.testBit_two_pow, decide_eq_true rfl, Bool.true_or, Bool.true_and] at this
      exact this
    · refine Nat.eq_of_testBit_eq (fun i => ?_)
      have := k i
      rw [Nat.testBit_and, Nat.testBit_or] at this
      rw [Nat.testBit_and, Nat.zero_testBit]
      cases hg : g.testBit i
      · rw [Bool.and_false]
      · rw [hg, Bool.and_true, Bool.or_eq_false_iff] at this
        rw [this.2]; rfl
  · rintro ⟨h1, h2⟩
    refine Nat.eq_of_testBit_eq (fun i => ?_)
    have k : (se &&& g).testBit i = false := by rw [h2, Nat.zero_testBit]
    rw [Nat.testBit_and] at k
    rw [Nat.testBit_and, Nat.testBit_or, Nat.zero_testBit, Nat.testBit_two_pow]
    by_cases e : o = i
    · subst e; rw [h1, Bool.and_false]
    · rw [decide_eq_false e, Bool.false_or]; exact k
def lkOK (n m g o se : Nat) : Bool := (!g.testBit o && Nat.beq (se &&& g) 0) && !(Nat.beq m 10)
theorem S_lock (hV : VI n m v) (hC : CC n m g s v w) (hg : g < 2 ^ n) {o so se : Nat} (ho : o < n) (hso : so < 3) (hse : se < 512) (ht : thr n (nI se) = true) : F_Loc_lock (nI o) (nI so) (nI se) w = some (lkN m g o se, bif lkOK n m g o se then addL w m o so se (mk (gr (vL v m o so se) m) n) else w) := by
  have hn := hV.1
  have hm := hV.2.1
  have hp : 2 ^ n ≤ 2 ^ 8 := Nat.pow_le_pow_right (by omega) hn
  have hb : (2 ^ o ||| se) &&& g < 2 ^ 9 := Nat.and_lt_two_pow _ (by omega)
  unfold F_Loc_lock
  simp (disch := omega) only [S_isThing hV hC, in_nI, S_isSort, S_isThrough hV hC, ht, hC.2.1, s_one, nx_or, nx_and, iz_b, and_or0, Option.bind_some, am_ltU, am_ckT, cond_true, cond_false, bi_ite, ck_bi, ite_T, ite_F, hC.2.2.1]
  unfold lkN lkOK
  cases (!g.testBit o && Nat.beq (se &&& g) 0) with
  | false => rfl
  | true =>
    by_cases h10 : m = 10
    · subst h10
      rw [cond_true, ilt_f (by omega) (by omega)]; rfl
    · rw [cond_true, ilt_t (by omega) (by omega), (S_addLock hV hC (by omega) hso).1, nbf h10]; rfl
end