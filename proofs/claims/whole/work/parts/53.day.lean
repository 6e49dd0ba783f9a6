/-! ===== days: hour by hour both systems let go the least closed set ===== -/
/-- who goes on from g, of those that p lets -/
def cp (n m : Nat) (v : am_V) (p : Nat → Bool) (s g t : Nat) : Bool := decide (t < n) && (p t && cg m v g s t)
theorem cp_mono {n m : Nat} {v : am_V} {p : Nat → Bool} {g h s t : Nat} (hs : sub g h) (H : cp n m v p s g t = true) : h.testBit t = true ∨ cp n m v p s h t = true := by
  cases ht : h.testBit t
  · refine Or.inr ?_
    unfold cp at H ⊢
    simp only [Bool.and_eq_true] at H ⊢
    exact ⟨H.1, H.2.1, cg_mono hs H.2.2 ht⟩
  · exact Or.inl rfl
theorem cp_not {n m : Nat} {v : am_V} {p : Nat → Bool} {g s t : Nat} (H : cp n m v p s g t = true) : t < n ∧ g.testBit t = false := by
  unfold cp cg at H
  simp only [Bool.and_eq_true, decide_eq_true_eq, Bool.not_eq_true'] at H
  exact ⟨H.1, H.2.2.1⟩
/-- nobody goes on from g -/
def clsp (n m : Nat) (v : am_V) (p : Nat → Bool) (s g : Nat) : Prop := ∀ t, cp n m v p s g t = false
/-- the rounds: all who can go at once -/
def gitp (n m : Nat) (v : am_V) (p : Nat → Bool) (s : Nat) : Nat → Nat → Nat
  | 0, h => h
  | k + 1, h => gitp n m v p s k (h ||| mkN (cp n m v p s h) n)
def galp (n m : Nat) (v : am_V) (p : Nat → Bool) (s g : Nat) : Nat := gitp n m v p s 8 g
section
variable {n m s : Nat} {v : am_V} {p : Nat → Bool}
theorem gitp_sub : ∀ k h, sub h (gitp n m v p s k h)
  | 0, _ => sub_r _
  | k + 1, h => sub_t sub_or (gitp_sub k _)
theorem gitp_fix {h : Nat} (hc : clsp n m v p s h) : ∀ k, gitp n m v p s k h = h
  | 0 => rfl
  | k + 1 => by
    rw [gitp, mkN_z.mpr (fun i _ => hc i), Nat.or_zero]
    exact gitp_fix hc k
theorem gitp_min {X : Nat} (hX : clsp n m v p s X) : ∀ k h, sub h X → sub (gitp n m v p s k h) X
  | 0, _, hs => hs
  | k + 1, h, hs => gitp_min hX k _ (fun i hi => by
    rw [Nat.testBit_or, Bool.or_eq_true, mkN_t, Bool.and_eq_true] at hi
    rcases hi with hi | hi
    · exact hs i hi
    · rcases cp_mono hs hi.2 with q | q
      · exact q
      · rw [hX i] at q; cases q)
theorem gitp_cls (hn : n ≤ 8) : ∀ k h, left h 8 ≤ k → clsp n m v p s (gitp n m v p s k h)
  | 0, h, hk => fun t => by
    cases hc : cp n m v p s (gitp n m v p s 0 h) t
    · rfl
    · obtain ⟨h1, h2⟩ := cp_not hc
      have h3 := left_z (g := h) 8 (by omega) t (by omega : t < 8)
      rw [show gitp n m v p s 0 h = h from rfl, h3] at h2
      cases h2
  | k + 1, h, hk => by
    by_cases hz : mkN (cp n m v p s h) n = 0
    · have hc : clsp n m v p s h := fun t => by
        cases hc : cp n m v p s h t
        · rfl
        · rw [mkN_z.mp hz t (cp_not hc).1] at hc; cases hc
      rw [gitp_fix hc]; exact hc
    · have h4 : ∃ i, i < n ∧ cp n m v p s h i = true := Classical.byContradiction fun h5 => hz (mkN_z.mpr (fun i hi => Bool.eq_false_iff.mpr (fun h6 => h5 ⟨i, hi, h6⟩)))
      obtain ⟨i, hi, h5⟩ := h4
      refine gitp_cls hn k _ ?_
      have h6 := left_lt (h := h ||| mkN (cp n m v p s h) n) sub_or (cp_not h5).2 (by rw [Nat.testBit_or, mkN_t, h5, decide_eq_true hi]; simp) 8 (by omega)
      omega
theorem galp_cls (hn : n ≤ 8) (g : Nat) : clsp n m v p s (galp n m v p s g) := gitp_cls hn 8 g (left_le8 g 8)
theorem galp_eq (hn : n ≤ 8) {g R : Nat} (h1 : sub g R) (h2 : clsp n m v p s R) (h3 : ∀ X, sub g X → clsp n m v p s X → sub R X) : R = galp n m v p s g :=
  sub_eq (h3 _ (gitp_sub 8 g) (galp_cls hn g)) (gitp_min h2 8 g h1)
theorem galp_sub {g : Nat} : sub g (galp n m v p s g) := gitp_sub 8 g
theorem gitp_lt : ∀ k h, h < 2 ^ n → gitp n m v p s k h < 2 ^ n
  | 0, _, q => q
  | k + 1, _, q => gitp_lt k _ (or_lt q (mkN_lt _ n))
end
section
variable {n m s : Nat} {v : am_V}
/-- one pass of the model's -/
def isqp (n m : Nat) (v : am_V) (p : Nat → Bool) (s : Nat) : Nat → Nat → Nat → Bool → Nat × Bool
  | 0, _, h, b => (h, b)
  | k + 1, i, h, b => bif cp n m v p s h i then isqp n m v p s k (i + 1) (h ||| 2 ^ i) true else isqp n m v p s k (i + 1) h b
theorem isqp_sub {p : Nat → Bool} : ∀ k i h b, sub h (isqp n m v p s k i h b).1
  | 0, _, _, _ => sub_r _
  | k + 1, i, h, b => by
    rw [isqp]
    cases cp n m v p s h i
    · exact isqp_sub k (i + 1) h b
    · exact sub_t sub_or (isqp_sub k (i + 1) _ true)
theorem isqp_min {p : Nat → Bool} {X : Nat} (hX : clsp n m v p s X) : ∀ k i h b, sub h X → sub (isqp n m v p s k i h b).1 X
  | 0, _, _, _, q => q
  | k + 1, i, h, b, q => by
    rw [isqp]
    cases hc : cp n m v p s h i
    · exact isqp_min hX k (i + 1) h b q
    · refine isqp_min hX k (i + 1) _ true (sub_bit q ?_)
      rcases cp_mono q hc with r | r
      · exact r
      · rw [hX i] at r; cases r
theorem isqp_t {p : Nat → Bool} : ∀ k i h, (isqp n m v p s k i h true).2 = true
  | 0, _, _ => rfl
  | k + 1, i, h => by
    rw [isqp]
    cases cp n m v p s h i
    · exact isqp_t k (i + 1) h
    · exact isqp_t k (i + 1) _
theorem isqp_f {p : Nat → Bool} : ∀ k i h, (isqp n m v p s k i h false).2 = false → (isqp n m v p s k i h false).1 = h ∧ ∀ t, i ≤ t → t < i + k → cp n m v p s h t = false
  | 0, _, _, _ => ⟨rfl, fun t h1 h2 => by omega⟩
  | k + 1, i, h, q => by
    rw [isqp] at q ⊢
    cases hc : cp n m v p s h i
    · rw [hc] at q
      obtain ⟨h1, h2⟩ := isqp_f k (i + 1) h q
      refine ⟨h1, fun t h3 h4 => ?_⟩
      by_cases e : t = i
      · rw [e]; exact hc
      · exact h2 t (by omega) (by omega)
    · rw [hc, cond_true, isqp_t] at q; cases q
theorem isqp_l {p : Nat → Bool} (hn : n ≤ 8) : ∀ k i h, (isqp n m v p s k i h false).2 = true → left (isqp n m v p s k i h false).1 8 < left h 8
  | 0, _, _, q => by cases q
  | k + 1, i, h, q => by
    rw [isqp] at q ⊢
    cases hc : cp n m v p s h i
    · rw [hc] at q
      exact isqp_l hn k (i + 1) h q
    · rw [cond_true]
      obtain ⟨h1, h2⟩ := cp_not hc
      have h3 := left_lt (h := h ||| 2 ^ i) sub_or h2 (by rw [Nat.testBit_or, Nat.testBit_two_pow, decide_eq_true rfl, Bool.or_true]) 8 (by omega)
      have h4 := left_le (isqp_sub (n := n) (m := m) (v := v) (p := p) (s := s) k (i + 1) (h ||| 2 ^ i) true) 8
      omega
end
def gi (k mo h : Nat) : Bool := bif Nat.beq k 3 then Nat.ble 6 h && Nat.ble h (6 + 2 * mo) else !(Nat.beq k 5)
/-- who would go in an hour, by when they come -/
def wl (v : am_V) (cm : Nat → Nat) (h t : Nat) : Bool := Nat.ble (cm t) h && gi (v 1 t) (v 2 t) h
/-- who is gone before an hour -/
def gN (n m : Nat) (v : am_V) (s : Nat) (cm : Nat → Nat) (g : Nat) : Nat → Nat
  | 0 => g
  | h + 1 => galp n m v (wl v cm h) s (gN n m v s cm g h)
/-- in which hour before this one each went -/
def gA (n m : Nat) (v : am_V) (s : Nat) (cm : Nat → Nat) (g : Nat) : Nat → Nat → Int32
  | 0, _ => -nI 1
  | h + 1, t => bif (gN n m v s cm g (h + 1)).testBit t && !(gN n m v s cm g h).testBit t then nI h else gA n m v s cm g h t
/-- the array of the hours, in an hour in which c are gone by now -/
def aF (n m : Nat) (v : am_V) (s : Nat) (cm : Nat → Nat) (g : Nat) (f : Nat → Int32) (h c t : Nat) : Int32 := bif Nat.ble 8 t then f t else bif c.testBit t && !(gN n m v s cm g h).testBit t then nI h else gA n m v s cm g h t
def wset (w : am_W) (c : Nat) (f : Nat → Int32) : am_W := (mf w.1 c f, w.2)
theorem wst_set {w : am_W} {c t : Nat} {f : Nat → Int32} {x : Int32} (ht : t < 2 ^ 31) : wst (wset w c f) c (nI t) x = wset w c (upd f t x) := by
  unfold wst wset
  dsimp only
  rw [mf_mf, mf_s, nI_clamp ht]
theorem wset_e {w : am_W} {c : Nat} {f : Nat → Int32} (h : f = w.1 c) : wset w c f = w := by
  unfold wset
  rw [mf_e h]
theorem mf_comm {σ : am_M} {c d : Nat} {f h : Nat → Int32} (hcd : ¬ c = d) : mf (mf σ c f) d h = mf (mf σ d h) c f := funext fun a => by
  unfold mf
  cases h1 : Nat.beq a d with
  | false => rfl
  | true =>
    have := Nat.eq_of_beq_eq_true h1
    subst this
    rw [nbf (fun q => hcd q.symm)]; rfl
theorem wsf_set {w : am_W} {c d j : Nat} {f : Nat → Int32} {x : Int32} (hcd : ¬ c = d) : wsf (wset w c f) d j x = wset (wsf w d j x) c f := by
  unfold wsf wset
  dsimp only
  rw [mf_comm hcd, mf_n (nbf (fun q => hcd q.symm))]
theorem mkN_and (p q : Nat → Bool) (n : Nat) : mkN p n &&& mkN q n = mkN (fun t => p t && q t) n := Nat.eq_of_testBit_eq (fun i => by
  rw [Nat.testBit_and, mkN_t, mkN_t, mkN_t]
  cases decide (i < n) <;> rfl)
theorem cp_mask (n m : Nat) (v : am_V) (p : Nat → Bool) (s c : Nat) : mkN (cg m v c s) n &&& mkN p n = mkN (cp n m v p s c) n := Nat.eq_of_testBit_eq (fun i => by
  rw [Nat.testBit_and, mkN_t, mkN_t, mkN_t]
  unfold cp
  cases decide (i < n) <;> cases p i <;> cases cg m v c s i <;> rfl)
section
variable {n m g s : Nat} {v : am_V} {cm : Nat → Nat} {w : am_W}
theorem gN_sub (h : Nat) : sub (gN n m v s cm g h) (gN n m v s cm g (h + 1)) := galp_sub
theorem gN_lt (hg : g < 2 ^ n) : ∀ h, gN n m v s cm g h < 2 ^ n
  | 0 => hg
  | h + 1 => gitp_lt 8 _ (gN_lt hg h)
theorem gN_g : ∀ h, sub g (gN n m v s cm g h)
  | 0 => sub_r _
  | h + 1 => sub_t (gN_g h) (gN_sub h)
theorem aF_s (f : Nat → Int32) (h : Nat) : aF n m v s cm g f h (gN n m v s cm g (h + 1)) = aF n m v s cm g f (h + 1) (gN n m v s cm g (h + 1)) := funext fun t => by
  unfold aF
  rw [gA]
  cases (gN n m v s cm g (h + 1)).testBit t <;> rfl
theorem aF_0 (f : Nat → Int32) : aF n m v s cm g f 0 g = fun t => bif Nat.ble 8 t then f t else -nI 1 := funext fun t => by
  unfold aF
  rw [gA, gN]
  cases g.testBit t <;> rfl
theorem S_goesInG {k mo h : Nat} (hk1 : k < 6) (hmo : mo < 10) (hh : h < 24) : F_Kinds_goesIn (nI k) (nI mo) (nI h) w = some (bi (gi k mo h), w) := S_goesIn hk1 hmo hh
theorem D_goesIn (hV : VI n m v) (hM : MM n m g s v w) {t h : Nat} (ht : t < n) (hh : h < 24) : F_Mod_goesIn (nI t) (nI h) w = some (bi (gi (v 1 t) (v 2 t) h), w) := by
  have hn := hV.1
  obtain ⟨t1, t2, t3⟩ := hM.2.2.2.2.1 t ht
  obtain ⟨k1, k2, k3⟩ := hV.2.2.1 t ht
  unfold F_Mod_goesIn F_Mod_goesIn_45 gi
  simp (disch := omega) only [nI_clamp, am_ckI, ile_t, ile_f, ilt_t, ilt_f, ieq_t, ieq_f, iz_t, iz_f, ilz_f, nI_add, t1, t2, ieq_b, pk_mul, D_inG, Option.bind_some, am_ltU, am_ckT, cond_true, cond_false, bi_ite, ck_bi, ite_T, ite_F]
  cases Nat.beq (v 1 t) 3 with
  | true =>
    rw [cond_true, cond_true, nI_toInt (by omega), nI_toInt (by omega), nI_toInt (by omega)]
    refine congrArg (fun b => some (bi b, w)) ?_
    rw [Bool.eq_iff_iff, decide_eq_true_eq, Bool.and_eq_true]
    constructor
    · intro q
      exact ⟨Nat.ble_eq_true_of_le (by omega), Nat.ble_eq_true_of_le (by omega)⟩
    · intro q
      have := Nat.le_of_ble_eq_true q.1
      have := Nat.le_of_ble_eq_true q.2
      omega
  | false =>
    rw [cond_false, cond_false]
    cases Nat.beq (v 1 t) 5 <;> rfl
theorem S_willing (hV : VI n m v) (hC : CC n m g s v w) {p h : Nat} (hh : h < 24) (hcm : ∀ t, t < n → w.1 p t = nI (cm t) ∧ cm t < 24) : F_Day_willingIn (nI h) p w = some (nI (mkN (wl v cm h) n), w) := by
  have hn := hV.1
  rw [← mk_N]
  unfold F_Day_willingIn
  refine lp_0 (G := fun k i => L_Day_willingIn_5 k (nI h) p (mk (wl v cm h) i) (nI i) w) (m := n) ?_ ?_ (by show n < 4000; omega)
  · intro k i hi
    show F_Day_willingIn_5 _ _ _ _ _ _ = _
    obtain ⟨t1, t2, t3⟩ := hC.2.2.2.2.2.1 i hi
    obtain ⟨k1, k2, k3⟩ := hV.2.2.1 i hi
    obtain ⟨c1, c2⟩ := hcm i hi
    unfold F_Day_willingIn_5
    simp (disch := omega) only [hC.1, nI_clamp, am_ckI, ile_t, ile_f, ilt_t, ilt_f, ieq_t, ieq_f, iz_t, iz_f, ilz_f, nI_add, t1, t2, c1, S_goesInG k1 k2 hh, Option.bind_some, am_ltU, am_ckT, cond_true, cond_false, bi_ite, ck_bi, ite_T, ite_F]
    by_cases h1 : cm i ≤ h
    · rw [ilt_f h1 (by omega)]
      cases h2 : gi (v 1 i) (v 2 i) h
      · rw [mk_n (by unfold wl; rw [h2, Bool.and_false]), ← nI_add]; rfl
      · rw [mk_s (by unfold wl; rw [h2, Nat.ble_eq_true_of_le h1]; rfl) (by omega), ← nI_add]; rfl
    · rw [ilt_t (by omega) (by omega), mk_n (by unfold wl; rw [show Nat.ble (cm i) h = false from Bool.eq_false_iff.mpr (fun q => h1 (Nat.le_of_ble_eq_true q))]; rfl), ← nI_add]; rfl
  · intro k
    show F_Day_willingIn_5 _ _ _ _ _ _ = _
    unfold F_Day_willingIn_5
    simp (disch := omega) only [hC.1, nI_clamp, am_ckI, ile_t, ile_f, ilt_t, ilt_f, ieq_t, ieq_f, iz_t, iz_f, ilz_f, nI_add]
theorem S_write (hV : VI n m v) (hC : CC n m g s v w) {c h : Nat} (f : Nat → Int32) : F_Day_write (nI c) (nI h) (wset w 41 f) = some (wset w 41 (fun t => bif decide (t < n) && c.testBit t then nI h else f t)) := by
  have hn := hV.1
  unfold F_Day_write
  have e0 : f = fun t => bif decide (t < 0) && c.testBit t then nI h else f t := funext fun t => by simp
  refine Eq.trans ?_ (lp_0 (n := am_NF) (G := fun k i => L_Day_write_2 k (nI c) (nI h) (nI i) (wset w 41 (fun t => bif decide (t < i) && c.testBit t then nI h else f t))) (m := n) ?_ ?_ (by show n < 4000; omega))
  · rw [← e0]
  · intro k i hi
    show F_Day_write_2 _ _ _ _ _ = _
    have hC2 : CC n m g s v (wset w 41 (fun t => bif decide (t < i) && c.testBit t then nI h else f t)) := hC
    unfold F_Day_write_2 F_Day_write_28
    simp (disch := omega) only [hC2.1, nI_clamp, am_ckI, ile_t, ile_f, ilt_t, ilt_f, ieq_t, ieq_f, iz_t, iz_f, ilz_f, nI_add, S_hasN, wst_set, Option.bind_some, am_ltU, am_ckT, cond_true, cond_false, bi_ite, ck_bi, ite_T, ite_F]
    have e : ∀ b, c.testBit i = b → (fun t => bif decide (t < i + 1) && c.testBit t then nI h else f t) = bif b then upd (fun t => bif decide (t < i) && c.testBit t then nI h else f t) i (nI h) else (fun t => bif decide (t < i) && c.testBit t then nI h else f t) := by
      intro b hb
      funext t
      by_cases ht : t = i
      · subst ht
        rw [hb, decide_eq_true (by omega : t < t + 1)]
        cases b
        · simp
        · rw [cond_true]; exact pk_us.symm
      · have e2 : decide (t < i + 1) = decide (t < i) := decide_eq_decide.mpr (by omega)
        rw [e2]
        cases b
        · rfl
        · rw [cond_true, pk_un ht]
    cases hb : c.testBit i
    · rw [e false hb]; rfl
    · rw [e true hb]; rfl
  · intro k
    show F_Day_write_2 _ _ _ _ _ = _
    have hC2 : CC n m g s v (wset w 41 (fun t => bif decide (t < n) && c.testBit t then nI h else f t)) := hC
    unfold F_Day_write_2
    simp (disch := omega) only [hC2.1, nI_clamp, am_ckI, ile_t, ile_f, ilt_t, ilt_f, ieq_t, ieq_f, iz_t, iz_f, ilz_f, nI_add]
theorem aF_w {f : Nat → Int32} {h c d : Nat} (hn : n ≤ 8) (hs : sub (gN n m v s cm g h) c) (hd : d < 2 ^ n) (hcd : ∀ t, d.testBit t = true → c.testBit t = false) : (fun t => bif decide (t < n) && d.testBit t then nI h else aF n m v s cm g f h c t) = aF n m v s cm g f h (c ||| d) := funext fun t => by
  unfold aF
  rw [Nat.testBit_or]
  by_cases ht : t < n
  · rw [decide_eq_true ht, show Nat.ble 8 t = false from Bool.eq_false_iff.mpr (fun q => by have := Nat.le_of_ble_eq_true q; omega)]
    cases h1 : d.testBit t with
    | false => simp
    | true =>
      have h2 := hcd t h1
      have h3 : (gN n m v s cm g h).testBit t = false := by
        cases q : (gN n m v s cm g h).testBit t
        · rfl
        · rw [hs t q] at h2; cases h2
      rw [h2, h3]; rfl
  · rw [decide_eq_false ht]
    have : d.testBit t = false := Nat.testBit_lt_two_pow (Nat.lt_of_lt_of_le hd (Nat.pow_le_pow_right (by omega) (by omega)))
    rw [this]
    simp
theorem S_run (hV : VI n m v) (hC : CC n m g s v w) (hg : g < 2 ^ n) {p : Nat} (hp : ¬ p = 41) (hcm : ∀ t, t < n → w.1 p t = nI (cm t) ∧ cm t < 24) : F_Day_run p w = some (wset w 41 (aF n m v s cm g (w.1 41) 24 (gN n m v s cm g 24))) := by
  have hn := hV.1
  have hp8 : 2 ^ n ≤ 2 ^ 8 := Nat.pow_le_pow_right (by omega) hn
  have hcm2 : ∀ f t, t < n → (wset w 41 f).1 p t = nI (cm t) ∧ cm t < 24 := fun f t ht => by
    show mf w.1 41 f p t = _ ∧ _
    rw [mf_n (nbf hp)]; exact hcm t ht
  have inner : ∀ (r : Nat → Int32 → Int32 → am_W → Option am_W) (h : Nat), h < 24 → ∀ (d i k c : Nat), i + d = 8 → d < k → c < 2 ^ n → sub (gN n m v s cm g h) c → L_Day_run_48 r k p (nI c) (nI h) (nI (mkN (wl v cm h) n)) (nI i) (wset w 41 (aF n m v s cm g (w.1 41) h c)) = r p (nI (gitp n m v (wl v cm h) s d c)) (nI (h + 1)) (wset w 41 (aF n m v s cm g (w.1 41) h (gitp n m v (wl v cm h) s d c))) := by
    intro r h hh d
    induction d with
    | zero =>
      intro i k c hi hk hc hs
      obtain ⟨k, rfl⟩ : ∃ j, k = j + 1 := ⟨k - 1, by omega⟩
      show F_Day_run_48 _ _ _ _ _ _ _ _ = _
      unfold F_Day_run_48 F_Day_run_101
      simp (disch := omega) only [nI_clamp, am_ckI, ile_t, ile_f, ilt_t, ilt_f, ieq_t, ieq_f, iz_t, iz_f, ilz_f, nI_add]
      rfl
    | succ d ih =>
      intro i k c hi hk hc hs
      obtain ⟨k, rfl⟩ : ∃ j, k = j + 1 := ⟨k - 1, by omega⟩
      have hC2 : CC n m g s v (wset w 41 (aF n m v s cm g (w.1 41) h c)) := hC
      show F_Day_run_48 _ _ _ _ _ _ _ _ = _
      unfold F_Day_run_48 F_Day_run_101
      simp (disch := omega) only [nI_clamp, am_ckI, ile_t, ile_f, ilt_t, ilt_f, ieq_t, ieq_f, iz_t, iz_f, ilz_f, nI_add, hC2.2.2.2.1, S_canGoN hV hC2, nx_and, cp_mask, Option.bind_some, am_ltU, am_ckT, cond_true, cond_false, bi_ite, ck_bi, ite_T, ite_F]
      have hlt := mkN_lt (cp n m v (wl v cm h) s c) n
      rw [iz_b (by omega)]
      cases hz : Nat.beq (mkN (cp n m v (wl v cm h) s c) n) 0
      · rw [cond_false, S_write hV hC, bn_s, nx_or, aF_w hn hs hlt (fun t q => by
          rw [mkN_t, Bool.and_eq_true] at q
          exact (cp_not q.2).2)]
        exact ih (i + 1) k _ (by omega) (by omega) (or_lt hc hlt) (sub_t hs sub_or)
      · have hcl : clsp n m v (wl v cm h) s c := fun t => by
          cases q : cp n m v (wl v cm h) s c t
          · rfl
          · rw [mkN_z.mp (Nat.eq_of_beq_eq_true hz) t (cp_not q).1] at q; cases q
        rw [gitp_fix hcl]; rfl
  have outer : ∀ (d h k : Nat), h + d = 24 → d < k → L_Day_run_31 k p (nI (gN n m v s cm g h)) (nI h) (wset w 41 (aF n m v s cm g (w.1 41) h (gN n m v s cm g h))) = some (wset w 41 (aF n m v s cm g (w.1 41) 24 (gN n m v s cm g 24))) := by
    intro d
    induction d with
    | zero =>
      intro h k hi hk
      obtain ⟨k, rfl⟩ : ∃ j, k = j + 1 := ⟨k - 1, by omega⟩
      show F_Day_run_31 _ _ _ _ _ = _
      unfold F_Day_run_31
      simp (disch := omega) only [nI_clamp, am_ckI, ile_t, ile_f, ilt_t, ilt_f, ieq_t, ieq_f, iz_t, iz_f, ilz_f, nI_add]
      rw [show h = 24 from by omega]
    | succ d ih =>
      intro h k hi hk
      obtain ⟨k, rfl⟩ : ∃ j, k = j + 1 := ⟨k - 1, by omega⟩
      have hC2 : CC n m g s v (wset w 41 (aF n m v s cm g (w.1 41) h (gN n m v s cm g h))) := hC
      show F_Day_run_31 _ _ _ _ _ = _
      unfold F_Day_run_31
      simp (disch := omega) only [nI_clamp, am_ckI, ile_t, ile_f, ilt_t, ilt_f, ieq_t, ieq_f, iz_t, iz_f, ilz_f, nI_add, S_willing hV hC2 (by omega : h < 24) (hcm2 _), Option.bind_some, am_ltU, am_ckT, cond_true, cond_false, bi_ite, ck_bi, ite_T, ite_F]
      rw [inner _ h (by omega) 8 0 am_NF _ rfl (by show 8 < 4000; omega) (gN_lt hg h) (sub_r _)]
      have e : gitp n m v (wl v cm h) s 8 (gN n m v s cm g h) = gN n m v s cm g (h + 1) := rfl
      rw [e, aF_s]
      exact ih (h + 1) k (by omega) (by omega)
  unfold F_Day_run
  have e0 : w = wset w 41 (fun t => bif Nat.ble 8 t || Nat.ble 0 t then w.1 41 t else -nI 1) := (wset_e (funext fun t => by
    rw [Nat.ble_eq_true_of_le (Nat.zero_le t), Bool.or_true]; rfl)).symm
  have start : ∀ (d i k : Nat), i + d = 8 → d < k → L_Day_run_2 k p (nI i) (wset w 41 (fun t => bif Nat.ble 8 t || Nat.ble i t then w.1 41 t else -nI 1)) = some (wset w 41 (aF n m v s cm g (w.1 41) 24 (gN n m v s cm g 24))) := by
    intro d
    induction d with
    | zero =>
      intro i k hi hk
      obtain ⟨k, rfl⟩ : ∃ j, k = j + 1 := ⟨k - 1, by omega⟩
      have hC2 : CC n m g s v (wset w 41 (fun t => bif Nat.ble 8 t || Nat.ble i t then w.1 41 t else -nI 1)) := hC
      show F_Day_run_2 _ _ _ _ = _
      unfold F_Day_run_2
      simp (disch := omega) only [nI_clamp, am_ckI, ile_t, ile_f, ilt_t, ilt_f, ieq_t, ieq_f, iz_t, iz_f, ilz_f, nI_add, hC2.2.1]
      have e : (fun t => bif Nat.ble 8 t || Nat.ble i t then w.1 41 t else -nI 1) = aF n m v s cm g (w.1 41) 0 g := by
        rw [aF_0, show i = 8 from by omega]
        funext t
        rw [Bool.or_self]
      rw [e]
      exact outer 24 0 am_NF rfl (by show 24 < 4000; omega)
    | succ d ih =>
      intro i k hi hk
      obtain ⟨k, rfl⟩ : ∃ j, k = j + 1 := ⟨k - 1, by omega⟩
      show F_Day_run_2 _ _ _ _ = _
      unfold F_Day_run_2
      simp (disch := omega) only [nI_clamp, am_ckI, ile_t, ile_f, ilt_t, ilt_f, ieq_t, ieq_f, iz_t, iz_f, ilz_f, nI_add, wst_set, Option.bind_some, am_ltU, am_ckT, cond_true, cond_false, bi_ite, ck_bi, ite_T, ite_F]
      have e : upd (fun t => bif Nat.ble 8 t || Nat.ble i t then w.1 41 t else -nI 1) i (-nI 1) = fun t => bif Nat.ble 8 t || Nat.ble (i + 1) t then w.1 41 t else -nI 1 := funext fun t => by
        by_cases ht : t = i
        · subst ht
          rw [pk_us, show Nat.ble 8 t = false from Bool.eq_false_iff.mpr (fun q => by have := Nat.le_of_ble_eq_true q; omega), show Nat.ble (t + 1) t = false from Bool.eq_false_iff.mpr (fun q => by have := Nat.le_of_ble_eq_true q; omega)]; rfl
        · rw [pk_un ht]
          have : Nat.ble i t = Nat.ble (i + 1) t := by
            rw [Bool.eq_iff_iff]
            exact ⟨fun q => Nat.ble_eq_true_of_le (by have := Nat.le_of_ble_eq_true q; omega), fun q => Nat.ble_eq_true_of_le (by have := Nat.le_of_ble_eq_true q; omega)⟩
          rw [this]
      rw [e]
      exact ih (i + 1) k (by omega) (by omega)
  have h9 := start 8 0 am_NF rfl (by show 8 < 4000; omega)
  rw [← e0] at h9
  exact h9
end
