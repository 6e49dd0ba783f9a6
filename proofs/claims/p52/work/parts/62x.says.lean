/-- a value, held within 0 and 99 -/
def cl (q : Int32) : Int32 := if nI 0 < (if q < nI 99 then q else nI 99) then (if q < nI 99 then q else nI 99) else nI 0
theorem cl_k {k : Nat} (hk : k ≤ 99) : cl (nI k) = nI k := by
  unfold cl
  by_cases h3 : k < 99
  · rw [ilt_t h3 (by omega)]
    by_cases h0 : k = 0
    · rw [h0, ite_self]
    · rw [ilt_t (by omega) (by omega)]
  · have h4 : k = 99 := by omega
    subst h4
    rw [ilt_f (by omega) (by omega), ilt_t (by omega) (by omega)]
theorem cl_nI (q : Int32) : ∃ k, k ≤ 99 ∧ cl q = nI k ∧ cl q = if nI 0 ≤ q then (if q ≤ nI 99 then q else nI 99) else nI 0 := by
  have t0 : (nI 0).toInt = 0 := rfl
  have t9 : (nI 99).toInt = 99 := rfl
  by_cases h1 : q.toInt < 0
  · have c1 : q < nI 99 := Int32.lt_iff_toInt_lt.mpr (by omega)
    have c2 : ¬ nI 0 < q := fun h => by rw [Int32.lt_iff_toInt_lt] at h; omega
    have c3 : ¬ nI 0 ≤ q := fun h => by rw [Int32.le_iff_toInt_le] at h; omega
    have c4 : cl q = nI 0 := by
      unfold cl
      rw [if_pos c1, if_neg c2]
    exact ⟨0, by omega, c4, by rw [c4, if_neg c3]⟩
  · by_cases h2 : q.toInt ≤ 99
    · obtain ⟨k, hk⟩ : ∃ k : Nat, q.toInt = (k : Int) := ⟨q.toInt.toNat, by omega⟩
      have hq := nI_ti hk (by omega)
      subst hq
      have hk99 : k ≤ 99 := by omega
      exact ⟨k, hk99, cl_k hk99, by rw [cl_k hk99, ile_t (by omega) (by omega), ile_t hk99 (by omega)]⟩
    · have c1 : ¬ q < nI 99 := fun h => by rw [Int32.lt_iff_toInt_lt] at h; omega
      have c2 : nI 0 ≤ q := Int32.le_iff_toInt_le.mpr (by omega)
      have c3 : ¬ q ≤ nI 99 := fun h => by rw [Int32.le_iff_toInt_le] at h; omega
      have c4 : cl q = nI 99 := by
        unfold cl
        rw [if_neg c1, ilt_t (by omega) (by omega)]
      exact ⟨99, by omega, c4, by rw [c4, if_pos c2, if_neg c3]⟩
/-- a lock, or none -/
def lk : Option Nat → Int32
  | none => -nI 1
  | some l => nI l
/-- the names a text is asked with -/
def nmF (v : am_V) (t : Nat) (lo : Option Nat) (h : Nat) (j : Nat) : Int32 := match j with
  | 0 => nI (v 2 t)
  | 1 => (match lo with | none => nI 0 | some l => nI (v 5 l))
  | 2 => nI h
  | 3 => nI t
  | 4 => (match lo with | none => nI 0 | some l => nI (pc (v 6 l) 10))
  | _ => nI (v 1 t)
/-- what part p of text u says of a thing, a lock, an hour -/
def sy (v : am_V) (te tc : Nat → Nat → Nat) (u p t : Nat) (lo : Option Nat) (h : Nat) : Int32 := cl (ev (tc u) (nmF v t lo h) (te u (p + 1) - te u p) (te u p) 0 (fun _ => nI 0))
theorem sy_nI (v : am_V) (te tc : Nat → Nat → Nat) (u p t : Nat) (lo : Option Nat) (h : Nat) : ∃ k, k ≤ 99 ∧ sy v te tc u p t lo h = nI k := by
  obtain ⟨k, h1, h2, _⟩ := cl_nI (ev (tc u) (nmF v t lo h) (te u (p + 1) - te u p) (te u p) 0 (fun _ => nI 0))
  exact ⟨k, h1, h2⟩
section
variable {n m g s T f : Nat} {v : am_V} {te tc : Nat → Nat → Nat} {w : am_W}
/-- six names written -/
def nmW (w : am_W) (c : Nat) (a : Nat → Int32) : am_W := wsf (wsf (wsf (wsf (wsf (wsf w c 0 (a 0)) c 1 (a 1)) c 2 (a 2)) c 3 (a 3)) c 4 (a 4)) c 5 (a 5)
theorem nmW_at {c : Nat} {a : Nat → Int32} : ∀ j, j < 6 → (nmW w c a).1 c j = a j := fun j hj => by
  unfold nmW
  match j, hj with
  | 0, _ => rw [wsf_ne (by omega), wsf_ne (by omega), wsf_ne (by omega), wsf_ne (by omega), wsf_ne (by omega), wsf_at]
  | 1, _ => rw [wsf_ne (by omega), wsf_ne (by omega), wsf_ne (by omega), wsf_ne (by omega), wsf_at]
  | 2, _ => rw [wsf_ne (by omega), wsf_ne (by omega), wsf_ne (by omega), wsf_at]
  | 3, _ => rw [wsf_ne (by omega), wsf_ne (by omega), wsf_at]
  | 4, _ => rw [wsf_ne (by omega), wsf_at]
  | 5, _ => rw [wsf_at]
theorem EX_nm {S : Nat → Bool} {c : Nat} {a : Nat → Int32} (h : S c = true) : EX S w (nmW w c a) := EX_t (EX_t (EX_t (EX_t (EX_t (EX_sf h) (EX_sf h)) (EX_sf h)) (EX_sf h)) (EX_sf h)) (EX_sf h)
theorem S_worth {w1 : am_W} (hX : TX T te tc w1) (hT : T ≤ 6) {u p : Nat} (hu : u < T) (hp : p < 3) {nm : Nat → Int32} (hnm : ∀ j, j < 6 → w1.1 34 j = nm j) : ∃ w2, F_Law_worth (nI u) (nI p) w1 = some (ev (tc u) nm (te u (p + 1) - te u p) (te u p) 0 (fun _ => nI 0), w2) ∧ EX (fun a => Nat.beq a 35) w1 w2 := by
  obtain ⟨x0, x1, x2, x3, x4, x5, x6, x7⟩ := hX u hu
  have hle : te u p ≤ te u (p + 1) ∧ te u (p + 1) ≤ 160 := by
    match p, hp with
    | 0, _ => exact ⟨x1, Nat.le_trans x2 (Nat.le_trans x3 x4)⟩
    | 1, _ => exact ⟨x2, Nat.le_trans x3 x4⟩
    | 2, _ => exact ⟨x3, x4⟩
  obtain ⟨w2, e2, k2⟩ := S_worthL hX hT hu hp hnm (te u (p + 1) - te u p) (te u p) 0 am_NF (fun _ => nI 0) w1 (by omega) (x5 p hp).2 (by omega) (by show _ < 4000; omega) (EX_r _ _) (fun j hj => by omega)
  refine ⟨w2, ?_, k2⟩
  unfold F_Law_worth F_Law_worth_20
  match p, hp with
  | 0, _ =>
    rw [x0] at e2
    rw [iz_t rfl]
    rw [x0]
    exact e2
  | 1, _ =>
    have := (x5 0 (by omega)).1
    rw [iz_f (by omega) (by omega), pk_sub (by omega)]
    simp (disch := omega) only [nI_clamp, am_ckI, ile_t, ile_f, ilt_t, ilt_f, ieq_t, ieq_f, iz_t, iz_f, ilz_f, nI_add, bn_V, am_ltV, am_ckV, cond_V1, cond_V0, bi_ite, ck_bi, ite_T, ite_F, this]
    exact e2
  | 2, _ =>
    have := (x5 1 (by omega)).1
    rw [iz_f (by omega) (by omega), pk_sub (by omega)]
    simp (disch := omega) only [nI_clamp, am_ckI, ile_t, ile_f, ilt_t, ilt_f, ieq_t, ieq_f, iz_t, iz_f, ilz_f, nI_add, bn_V, am_ltV, am_ckV, cond_V1, cond_V0, bi_ite, ck_bi, ite_T, ite_F, this]
    exact e2
def ss34 (a : Nat) : Bool := Nat.beq a 34 || Nat.beq a 35
def ss68 (a : Nat) : Bool := Nat.beq a 68 || Nat.beq a 69
theorem KP_34 {a b : am_W} (h : EX ss34 a b) : KP a b := KP_ex (fun c hc j => by
  unfold ss34 at hc
  rw [Bool.or_eq_true] at hc
  rcases hc with hc | hc <;> rw [Nat.eq_of_beq_eq_true hc] <;> rfl) h
theorem KP_68 {a b : am_W} (h : EX ss68 a b) : KP a b := KP_ex (fun c hc j => by
  unfold ss68 at hc
  rw [Bool.or_eq_true] at hc
  rcases hc with hc | hc <;> rw [Nat.eq_of_beq_eq_true hc] <;> rfl) h
theorem S_says (hV : VI n m v) (hC : CC n m g s v w) (hX : TX T te tc w) (hT : T ≤ 6) {u p t h : Nat} {lo : Option Nat} (hu : u < T) (hp : p < 3) (ht : t < n) (hl : ∀ l, lo = some l → l < m) : ∃ w2, F_Law_says (nI u) (nI p) (nI t) (lk lo) (nI h) w = some (sy v te tc u p t lo h, w2) ∧ EX ss34 w w2 := by
  have hn := hV.1
  have hm := hV.2.1
  have hX6 : TX T te tc (nmW w 34 (nmF v t lo h)) := TX_fr (A := fun a => Nat.beq a 0) rfl (KP_34 (EX_nm (a := nmF v t lo h) rfl)) hX hT
  obtain ⟨w2, e2, k2⟩ := S_worth hX6 hT hu hp (nmW_at (a := nmF v t lo h))
  refine ⟨w2, ?_, EX_t (EX_nm (a := nmF v t lo h) rfl) (EX_m (fun c hc => by
    unfold ss34 at hc
    rw [Bool.or_eq_false_iff] at hc
    exact hc.2) k2)⟩
  obtain ⟨t1, t2, t3⟩ := hC.2.2.2.2.2.1 t ht
  unfold F_Law_says F_Law_says_40 F_Law_says_84
  cases lo with
  | none =>
    have q1 : ∀ x0 x1 x2 x3 x4, (wsf (wsf (wsf (wsf (wsf w 34 0 x0) 34 1 x1) 34 2 x2) 34 3 x3) 34 4 x4).1 2 t = nI (v 1 t) := fun x0 x1 x2 x3 x4 => by rw [wsf_nc rfl, wsf_nc rfl, wsf_nc rfl, wsf_nc rfl, wsf_nc rfl]; exact t1
    rw [show lk none = -nI 1 from rfl]
    simp (disch := omega) only [nI_clamp, am_ckI, ile_t, ile_f, ilt_t, ilt_f, ieq_t, ieq_f, iz_t, iz_f, ilz_f, nI_add, bn_V, am_ltV, am_ckV, cond_V1, cond_V0, bi_ite, ck_bi, ite_T, ite_F, t2, wst_f, q1, if_true]
    rw [show wsf (wsf (wsf (wsf (wsf (wsf w 34 0 (nI (v 2 t))) 34 1 (nI 0)) 34 2 (nI h)) 34 3 (nI t)) 34 4 (nI 0)) 34 5 (nI (v 1 t)) = nmW w 34 (nmF v t none h) from rfl, e2, bn_s]
    rfl
  | some l =>
    have hlm := hl l rfl
    obtain ⟨l1, l2, l3, l4⟩ := hC.2.2.2.2.2.2 l hlm
    obtain ⟨m1, m2, m3, m4⟩ := hV.2.2.2 l hlm
    have q1 : ∀ x0 x1 x2 x3 x4, (wsf (wsf (wsf (wsf (wsf w 34 0 x0) 34 1 x1) 34 2 x2) 34 3 x3) 34 4 x4).1 2 t = nI (v 1 t) := fun x0 x1 x2 x3 x4 => by rw [wsf_nc rfl, wsf_nc rfl, wsf_nc rfl, wsf_nc rfl, wsf_nc rfl]; exact t1
    have q2 : ∀ x0, (wsf w 34 0 x0).1 6 l = nI (v 5 l) := fun x0 => by rw [wsf_nc rfl]; exact l2
    have q3 : ∀ x0 x1 x2 x3, (wsf (wsf (wsf (wsf w 34 0 x0) 34 1 x1) 34 2 x2) 34 3 x3).1 7 l = nI (v 6 l) := fun x0 x1 x2 x3 => by rw [wsf_nc rfl, wsf_nc rfl, wsf_nc rfl, wsf_nc rfl]; exact l3
    rw [show lk (some l) = nI l from rfl]
    have n1 : ¬ nI l = -nI 1 := m1_ne (by omega)
    simp (disch := omega) only [nI_clamp, am_ckI, ile_t, ile_f, ilt_t, ilt_f, ieq_t, ieq_f, iz_t, iz_f, ilz_f, nI_add, bn_V, am_ltV, am_ckV, cond_V1, cond_V0, bi_ite, ck_bi, ite_T, ite_F, t2, wst_f, q2, q3, S_bits m3, q1, if_neg n1]
    rw [show wsf (wsf (wsf (wsf (wsf (wsf w 34 0 (nI (v 2 t))) 34 1 (nI (v 5 l))) 34 2 (nI h)) 34 3 (nI t)) 34 4 (nI (pc (v 6 l) 10))) 34 5 (nI (v 1 t)) = nmW w 34 (nmF v t (some l) h) from rfl, e2, bn_s]
    rfl
end
