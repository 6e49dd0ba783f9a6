/-! ===== the class's reader: its small steps ===== -/
/-- written since: 18, and the row of the text from a place on -/
def SM (T q : Nat) (w w2 : am_W) : Prop := EX (fun a => Nat.beq a 18 || Nat.beq a (20 + 1 + T)) w w2 ∧ w2.1 18 0 = w.1 18 0 ∧ (∀ i, i < q → w2.1 (20 + 1 + T) i = w.1 (20 + 1 + T) i) ∧ w2.2 = w.2
theorem SM_r (T q : Nat) (w : am_W) : SM T q w w := ⟨EX_r _ w, rfl, fun _ _ => rfl, rfl⟩
theorem SM_t {T q : Nat} {a b c : am_W} (h : SM T q a b) (k : SM T q b c) : SM T q a c := ⟨EX_t h.1 k.1, k.2.1.trans h.2.1, fun i hi => (k.2.2.1 i hi).trans (h.2.2.1 i hi), k.2.2.2.trans h.2.2.2⟩
theorem SM_m {T p q : Nat} {a b : am_W} (hq : p ≤ q) (h : SM T q a b) : SM T p a b := ⟨h.1, h.2.1, fun i hi => h.2.2.1 i (Nat.lt_of_lt_of_le hi hq), h.2.2.2⟩
section
variable {x : Nat → Nat} {z T : Nat}
/-- the reader looks at the token from p on, q steps are written -/
def ST (x : Nat → Nat) (z T p q : Nat) (w : am_W) : Prop := RB x z w ∧ w.1 18 5 = nI 0 ∧ w.1 18 1 = nI (lx x z p).1 ∧ w.1 18 2 = nI (lx x z p).2.1 ∧ w.1 18 3 = nI (ctk (lx x z p).2.2.1 (lx x z p).2.2.2) ∧ ((lx x z p).2.2.1 = 1 ∨ (lx x z p).2.2.1 = 2 → w.1 18 4 = nI (lx x z p).2.2.2) ∧ w.1 18 6 = nI q ∧ w.2 = some T
/-- a fault was found at b -/
def SX (x : Nat → Nat) (z T b : Nat) (w : am_W) : Prop := RB x z w ∧ w.1 18 5 = nI 1 ∧ w.1 18 1 = nI b ∧ w.1 18 3 = nI 309 ∧ (∃ q, q ≤ 160 ∧ w.1 18 6 = nI q) ∧ w.2 = some T
theorem RB_m {T q : Nat} {w w2 : am_W} (hT : T < 6) (h : SM T q w w2) (k : RB x z w) : RB x z w2 := ⟨k.1, h.2.1.trans k.2.1, fun i hi => by
  rw [h.1 19 (by
    have : Nat.beq 19 (20 + 1 + T) = false := nbf (by omega)
    show (Nat.beq 19 18 || Nat.beq 19 (20 + 1 + T)) = false
    rw [this]; rfl)]
  exact k.2.2 i hi⟩
theorem S_advance {p q : Nat} {w : am_W} (h : ST x z T p q w) (hp : p ≤ z) : ∃ w2, F_Read_advance w = some w2 ∧ ST x z T (lx x z p).2.1 q w2 ∧ SM T q w w2 := by
  obtain ⟨h1, h2, h3, h4, h5, h6, h7, h8⟩ := h
  have hl := (lx_ok x hp).2.2.1
  obtain ⟨w2, e1, e2, e3, e4, e5, e6, e7, e8⟩ := S_adv h1 h2 h4 hl
  have hR : RB x z w2 := ⟨h1.1, (e4 0 (by omega) (by omega) (by omega) (by omega)).trans h1.2.1, fun i hi => by rw [e3 19 rfl]; exact h1.2.2 i hi⟩
  refine ⟨w2, e1, ⟨hR, (e4 5 (by omega) (by omega) (by omega) (by omega)).trans h2, e5, e6, e7, e8, (e4 6 (by omega) (by omega) (by omega) (by omega)).trans h7, by rw [e2]; exact h8⟩, fun a ha => e3 a ?_, e4 0 (by omega) (by omega) (by omega) (by omega), fun i _ => ?_, e2⟩
  · rw [Bool.or_eq_false_iff] at ha; exact ha.1
  · have : Nat.beq (20 + 1 + T) 18 = false := nbf (by omega)
    rw [e3 _ this]
theorem S_writes {p q c : Nat} {w : am_W} (hT : T < 6) (h : ST x z T p q w) (hq : q < 160) : ∃ w2, F_Read_write (stp c) w = some w2 ∧ ST x z T p (q + 1) w2 ∧ SM T q w w2 ∧ w2.1 (20 + 1 + T) q = stp c := by
  obtain ⟨h1, h2, h3, h4, h5, h6, h7, h8⟩ := h
  have n18 : Nat.beq 18 (20 + 1 + T) = false := nbf (by omega)
  have n18' : Nat.beq (20 + 1 + T) 18 = false := nbf (by omega)
  have n19 : Nat.beq 19 (20 + 1 + T) = false := nbf (by omega)
  unfold F_Read_write F_Read_write_39
  rw [h8]
  unfold am_zc
  dsimp only
  rw [Nat.ble_eq_true_of_le (by omega : T + 1 ≤ 6), am_ckT, h7, ile_f hq (by omega), in_nI hq (by omega), am_ckT, am_ltU, am_ltU, wst_f (by omega), wsf_nc n18, h7, nI_add]
  have f18 : ∀ j, ¬ j = 6 → (wsf (wsf w (20 + 1 + T) q (stp c)) 18 6 (nI (q + 1))).1 18 j = w.1 18 j := fun j hj => by
    rw [wsf_ne hj, wsf_nc n18]
  refine ⟨_, rfl, ⟨⟨h1.1, (f18 0 (by omega)).trans h1.2.1, fun i hi => ?_⟩, (f18 5 (by omega)).trans h2, (f18 1 (by omega)).trans h3, (f18 2 (by omega)).trans h4, (f18 3 (by omega)).trans h5, fun k => (f18 4 (by omega)).trans (h6 k), wsf_at _ _ _ _, h8⟩, ⟨fun a ha => ?_, f18 0 (by omega), fun i hi => ?_, rfl⟩, ?_⟩
  · rw [wsf_nc rfl, wsf_nc n19]; exact h1.2.2 i hi
  · rw [Bool.or_eq_false_iff] at ha
    exact (mf_n ha.1).trans (mf_n ha.2)
  · rw [wsf_nc n18', wsf_ne (by omega)]
  · rw [wsf_nc n18', wsf_at]
/-- nothing is read behind a fault -/
theorem X_advance {b : Nat} {w : am_W} (h : SX x z T b w) : F_Read_advance w = some w := by
  unfold F_Read_advance
  rw [h.2.1, iz_f (by omega) (by omega)]
theorem X_write {b : Nat} {c : Int32} {w : am_W} (hT : T < 6) (h : SX x z T b w) : ∃ w2, F_Read_write c w = some w2 ∧ SX x z T b w2 ∧ SM T 0 w w2 := by
  obtain ⟨h1, h2, h3, h4, ⟨q, h5, h6⟩, h8⟩ := h
  have n18 : Nat.beq 18 (20 + 1 + T) = false := nbf (by omega)
  have n19 : Nat.beq 19 (20 + 1 + T) = false := nbf (by omega)
  unfold F_Read_write F_Read_write_39
  rw [h8]
  unfold am_zc
  dsimp only
  rw [Nat.ble_eq_true_of_le (by omega : T + 1 ≤ 6), am_ckT, h6]
  by_cases hq : q < 160
  · rw [ile_f hq (by omega), in_nI hq (by omega), am_ckT, am_ltU, am_ltU, wst_f (by omega), wsf_nc n18, h6, nI_add]
    have f18 : ∀ j, ¬ j = 6 → (wsf (wsf w (20 + 1 + T) q c) 18 6 (nI (q + 1))).1 18 j = w.1 18 j := fun j hj => by
      rw [wsf_ne hj, wsf_nc n18]
    refine ⟨_, rfl, ⟨⟨h1.1, (f18 0 (by omega)).trans h1.2.1, fun i hi => ?_⟩, (f18 5 (by omega)).trans h2, (f18 1 (by omega)).trans h3, (f18 3 (by omega)).trans h4, ⟨q + 1, by omega, wsf_at _ _ _ _⟩, h8⟩, fun a ha => ?_, f18 0 (by omega), fun i hi => absurd hi (Nat.not_lt_zero _), rfl⟩
    · rw [wsf_nc rfl, wsf_nc n19]; exact h1.2.2 i hi
    · rw [Bool.or_eq_false_iff] at ha
      exact (mf_n ha.1).trans (mf_n ha.2)
  · rw [ile_t (by omega) (by omega)]
    exact ⟨w, rfl, ⟨h1, h2, h3, h4, ⟨q, h5, h6⟩, h8⟩, SM_r T 0 w⟩
/-- a fault: its place is that of the token looked at -/
theorem S_refuse {b : Nat} {w : am_W} (h1 : RB x z w) (h3 : w.1 18 1 = nI b) (h6 : ∃ q, q ≤ 160 ∧ w.1 18 6 = nI q) (h8 : w.2 = some T) : ∃ w2, F_Read_refuse w = some w2 ∧ SX x z T b w2 ∧ SM T 0 w w2 := by
  unfold F_Read_refuse
  rw [am_ltU, am_ltU]
  have f18 : ∀ j, ¬ j = 5 → ¬ j = 3 → (wsf (wsf w 18 5 (nI 1)) 18 3 (nI 309)).1 18 j = w.1 18 j := fun j j5 j3 => by
    rw [wsf_ne j3, wsf_ne j5]
  obtain ⟨q, q1, q2⟩ := h6
  refine ⟨_, rfl, ⟨⟨h1.1, (f18 0 (by omega) (by omega)).trans h1.2.1, fun i hi => ?_⟩, ?_, (f18 1 (by omega) (by omega)).trans h3, wsf_at _ _ _ _, ⟨q, q1, (f18 6 (by omega) (by omega)).trans q2⟩, h8⟩, fun a ha => ?_, f18 0 (by omega) (by omega), fun i hi => absurd hi (Nat.not_lt_zero _), rfl⟩
  · rw [wsf_nc rfl, wsf_nc rfl]; exact h1.2.2 i hi
  · rw [wsf_ne (by omega), wsf_at]
  · rw [Bool.or_eq_false_iff] at ha
    exact (mf_n ha.1).trans (mf_n ha.1)
theorem T_refuse {p q : Nat} {w : am_W} (h : ST x z T p q w) (hq : q ≤ 160) : ∃ w2, F_Read_refuse w = some w2 ∧ SX x z T (lx x z p).1 w2 ∧ SM T 0 w w2 := S_refuse h.1 h.2.2.1 ⟨q, hq, h.2.2.2.2.2.2.1⟩ h.2.2.2.2.2.2.2
theorem X_refuse {b : Nat} {w : am_W} (h : SX x z T b w) : ∃ w2, F_Read_refuse w = some w2 ∧ SX x z T b w2 ∧ SM T 0 w w2 := S_refuse h.1 h.2.2.1 h.2.2.2.2.1 h.2.2.2.2.2
/-- the step of a token that joins a rank -/
theorem S_joiner {k v r : Nat} {w : am_W} (hv : TV k v) (h3 : w.1 18 3 = nI (ctk k v)) (hr : r ≤ 4) : F_Read_joiner (nI r) w = some (if jl k = r then stp (sg k) else nI 0, w) := by
  have hc := ctk_v hv
  have hj := jl_c k
  unfold F_Read_joiner F_Read_joiner_48 F_Read_joiner_65 F_Read_joiner_95 F_Read_joiner_125 F_Read_joiner_141
  rw [h3, nI_toInt (by omega)]
  have hk : ctk k v < 2 ^ 31 := by omega
  match r, hr with
  | 0, _ =>
    rw [if_pos (by decide)]
    by_cases q : k = 4
    · rw [ieq_t (by omega), if_pos (by omega)]; subst q; rfl
    · rw [ieq_f (by omega) hk (by omega), if_neg (by omega)]
  | 1, _ =>
    rw [if_neg (by decide), if_pos (by decide)]
    by_cases q : k = 5
    · rw [ieq_t (by omega), if_pos (by omega)]; subst q; rfl
    · rw [ieq_f (by omega) hk (by omega), if_neg (by omega)]
  | 2, _ =>
    rw [if_neg (by decide), if_neg (by decide), if_pos (by decide)]
    by_cases q : k = 60
    · rw [ieq_t (by omega), if_pos (by omega)]; subst q; rfl
    · rw [ieq_f (by omega) hk (by omega)]
      by_cases q2 : k = 61
      · rw [ieq_t (by omega), if_pos (by omega)]; subst q2; rfl
      · rw [ieq_f (by omega) hk (by omega), if_neg (by omega)]
  | 3, _ =>
    rw [if_neg (by decide), if_neg (by decide), if_neg (by decide), if_pos (by decide)]
    by_cases q : k = 43
    · rw [ieq_t (by omega), if_pos (by omega)]; subst q; rfl
    · rw [ieq_f (by omega) hk (by omega)]
      by_cases q2 : k = 45
      · rw [ieq_t (by omega), if_pos (by omega)]; subst q2; rfl
      · rw [ieq_f (by omega) hk (by omega), if_neg (by omega)]
  | 4, _ =>
    rw [if_neg (by decide), if_neg (by decide), if_neg (by decide), if_neg (by decide)]
    by_cases q : k = 42
    · rw [ieq_t (by omega), if_pos (by omega)]; subst q; rfl
    · rw [ieq_f (by omega) hk (by omega), if_neg (by omega)]
theorem X_joiner {b r : Nat} {w : am_W} (h : SX x z T b w) (hr : r ≤ 4) : F_Read_joiner (nI r) w = some (nI 0, w) :=
  (S_joiner (k := 7) (v := 0) (by decide) h.2.2.2.1 hr).trans (by rw [if_neg (show ¬ jl 7 = r from fun q => absurd (show (9 : Nat) = r from q) (by omega))])
/-- what the reading of a piece of the text leaves -/
def SR (x : Nat → Nat) (z T q : Nat) (w w2 : am_W) : Nat ⊕ (Nat × List Nat) → Prop
  | .inl b => SX x z T b w2 ∧ SM T 0 w w2
  | .inr (p, cs) => ST x z T p (q + cs.length) w2 ∧ SQ stp cs q (w2.1 (20 + 1 + T)) ∧ SM T q w w2
def SC (x : Nat → Nat) (z T : Nat) (f : am_W → Option am_W) (p : Nat) (res : Nat ⊕ (Nat × List Nat)) : Prop := ∀ q w, q ≤ p → ST x z T p q w → ∃ w2, f w = some w2 ∧ SR x z T q w w2 res
/-- behind a fault all is passed -/
theorem X_read (hT : T < 6) : ∀ n, (∀ (r o b : Nat) (w : am_W), r ≤ 5 → o < 100 → 7 - r ≤ n → SX x z T b w → ∃ w2, (X_Read n).1 (nI r) (nI o) w = some w2 ∧ SX x z T b w2 ∧ SM T 0 w w2) ∧ (∀ (o b : Nat) (w : am_W), 1 ≤ n → SX x z T b w → ∃ w2, (X_Read n).2 (nI o) w = some w2 ∧ SX x z T b w2 ∧ SM T 0 w w2) := by
  intro n
  induction n with
  | zero => exact ⟨fun r o b w hr _ h => by omega, fun o b w h => by omega⟩
  | succ n ih =>
    refine ⟨fun r o b w hr ho hn h => ?_, fun o b w hn h => ?_⟩
    · show ∃ w2, F_Read_expression (X_Read n).1 (X_Read n).2 (nI r) (nI o) w = some w2 ∧ _
      unfold F_Read_expression F_Read_expression_127 F_Read_expression_54 F_Read_expression_74
      by_cases hr5 : r < 5
      · obtain ⟨w2, e1, e2, e3⟩ := ih.1 (r + 1) o b w (by omega) ho (by omega) h
        have fin : ∀ s0 : Int32, ((F_Read_joiner (nI r) w2).bind fun q2 => L_Read_expression_85 (X_Read n).1 (X_Read n).2 am_NF (nI r) (nI o) s0 q2.1 (nI 0) q2.2) = some w2 := fun s0 => by
          rw [X_joiner e2 (by omega), bn_s]
          show F_Read_expression_85 _ _ _ _ _ _ _ _ _ = _
          unfold F_Read_expression_85 F_Read_expression_127
          rw [iz_t rfl, ite_self]
        rw [ilt_t hr5 (by omega), h.2.2.2.1, ieq_f (by omega : ¬ 309 = 305) (by omega) (by omega), ite_self, nI_add, e1, bn_s]
        refine ⟨w2, ?_, e2, e3⟩
        rw [fin, fin, ite_self]
      · obtain ⟨w2, e1, e2, e3⟩ := ih.2 o b w (by omega) h
        rw [ilt_f (by omega) (by omega), e1]
        exact ⟨w2, rfl, e2, e3⟩
    · show ∃ w2, F_Read_one (X_Read n).1 (X_Read n).2 (nI o) w = some w2 ∧ _
      unfold F_Read_one F_Read_one_88 F_Read_one_137 F_Read_one_141
      obtain ⟨w2, e1, e2, e3⟩ := X_refuse h
      rw [h.2.2.2.1, ieq_f (by omega : ¬ 309 = 307) (by omega) (by omega), ieq_f (by omega : ¬ 309 = 306) (by omega) (by omega), ieq_f (by omega : ¬ 309 = 45) (by omega) (by omega), ieq_f (by omega : ¬ 309 = 40) (by omega) (by omega), e1]
      exact ⟨w2, rfl, e2, e3⟩
end
