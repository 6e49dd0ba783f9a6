/-! ===== a text, from its first token to its last ===== -/
theorem dtz {α : Type} {k : Nat} {A B : α} (hk : k < 2 ^ 31) : (if dtk k = 0 then A else B) = if k = 0 then A else B := dti (c := 0) hk (by omega) (by omega)
section
variable {x : Nat → Nat} {z T : Nat}
def SWt (T q k : Nat) (w w2 : am_W) : Prop := SV T w w2 ∧ (∀ i, i < q → w2.1 (20 + 1 + T) i = w.1 (20 + 1 + T) i) ∧ ∀ j, j < k → w2.1 (27 + 1 + T) j = w.1 (27 + 1 + T) j
theorem SM_w {q k : Nat} {w w2 : am_W} (h : SM T q w w2) : SWt T q k w w2 := ⟨SV_M h, h.2.2.1, fun j _ => by
  rw [h.1 (27 + 1 + T) (by
    obtain ⟨n1, n2, n3, n4, n5⟩ := ne28 T
    show (Nat.beq (27 + 1 + T) 18 || Nat.beq (27 + 1 + T) (20 + 1 + T)) = false
    rw [n4, n5]; rfl)]⟩
theorem SWt_t {q k : Nat} {a b c : am_W} (h : SWt T q k a b) (g : SWt T q k b c) : SWt T q k a c := ⟨SV_t h.1 g.1, fun i hi => (g.2.1 i hi).trans (h.2.1 i hi), fun j hj => (g.2.2 j hj).trans (h.2.2 j hj)⟩
theorem SWt_m {q k q2 k2 : Nat} {a b : am_W} (h1 : q ≤ q2) (h2 : k ≤ k2) (h : SWt T q2 k2 a b) : SWt T q k a b := ⟨h.1, fun i hi => h.2.1 i (by omega), fun j hj => h.2.2 j (by omega)⟩
theorem SWt_e {q k j : Nat} {y : Int32} {w : am_W} (hj : k ≤ j) : SWt T q k w (wsf w (27 + 1 + T) j y) := ⟨SV_e, fun i _ => wsf_nc (ne28 T).2.2.1, fun i hi => wsf_ne (by omega)⟩
/-- the class begins a text -/
theorem S_start {w : am_W} (h : RB x z w) : ∃ w5, F_Read_read T T w = L_Read_read_26 am_NF T (nI 0) w5 ∧ ST x z T 0 0 w5 ∧ SV T w w5 := by
  have hR : RB x z (wsf (wsf (wsf (wz w T) 18 6 (nI 0)) 18 2 (nI 0)) 18 5 (nI 0)) := RB_f (RB_f (RB_f ⟨h.1, h.2.1, h.2.2⟩ (by omega)) (by omega)) (by omega)
  obtain ⟨w5, e5, q1, q2, q3, q4, q5, q6, q7⟩ := S_adv hR (wsf_at _ _ _ _) (by rw [wsf_ne (by omega), wsf_at]) (Nat.zero_le z)
  refine ⟨w5, ?_, ⟨⟨h.1, (q3 0 (by omega) (by omega) (by omega) (by omega)).trans hR.2.1, fun i hi => by rw [q2 19 rfl]; exact hR.2.2 i hi⟩, (q3 5 (by omega) (by omega) (by omega) (by omega)).trans (wsf_at _ _ _ _), q4, q5, q6, q7, ?_, by rw [q1]; rfl⟩, fun c hc => ?_⟩
  · unfold F_Read_read
    rw [am_ltU, am_ltU, am_ltU, am_ltU, e5, bn_s]
  · rw [q3 6 (by omega) (by omega) (by omega) (by omega), wsf_ne (by omega), wsf_ne (by omega), wsf_at]
  · rw [Bool.or_eq_false_iff] at hc
    exact (q2 c hc.1).trans ((mf_n hc.1).trans ((mf_n hc.1).trans (mf_n hc.1)))
theorem S_go {k p q p2 F : Nat} {cs : List Nat} {w : am_W} (hk : k < 3) (hq : q ≤ p) (hs : SPp x z T k p (.inr (p2, cs))) (h : ST x z T p q w) : ∃ w2, L_Read_read_26 (F + 1) T (nI k) w = L_Read_read_26 F T (nI (k + 1)) w2 ∧ ST x z T p2 (q + cs.length) w2 ∧ SQ stp cs q (w2.1 (20 + 1 + T)) ∧ w2.1 (27 + 1 + T) k = nI (q + cs.length) ∧ SWt T q k w w2 := by
  obtain ⟨w8, w9, w2, e8, e9, e2, T2, c2, M2⟩ := hs q w hq h
  refine ⟨_, S_stepT hk e8 e9 e2, ST_e T2, SQ_fr (fun i _ _ => wsf_nc (ne28 T).2.2.1) c2, ?_, SWt_t (SM_w M2) (SWt_e (Nat.le_refl k))⟩
  rw [wsf_at]; exact T2.2.2.2.2.2.2.1
theorem S_badT (hT : T < 6) {k p q b F : Nat} {w : am_W} (hk : k < 3) (hq : q ≤ p) (hF : 3 < F) (hs : SPp x z T k p (.inl b)) (h : ST x z T p q w) : ∃ w4, L_Read_read_26 (F + 1) T (nI k) w = some (nI 0, w4) ∧ w4.1 18 1 = nI b ∧ w4.1 18 0 = nI 0 ∧ SV T w w4 := by
  obtain ⟨w8, w9, w2, e8, e9, e2, X2, M2⟩ := hs q w hq h
  obtain ⟨w4, e4, b4, z4, V4⟩ := X_fin hT (2 - k) (k + 1) F _ (by omega) (by omega) (SX_e (j := k) (y := w2.1 18 6) X2)
  exact ⟨w4, (S_stepT hk e8 e9 e2).trans e4, b4, z4, SV_t (SV_M M2) (SV_t SV_e V4)⟩
theorem S_last {p q F : Nat} {w : am_W} (hp : p ≤ z) (hq : q ≤ 160) (h : ST x z T p q w) : ((lx x z p).2.2.1 = 0 → L_Read_read_26 (F + 1) T (nI 3) w = some (nI 1, wsf w 18 0 (nI 0))) ∧ (¬ (lx x z p).2.2.1 = 0 → ∃ w4, L_Read_read_26 (F + 1) T (nI 3) w = some (nI 0, w4) ∧ w4.1 18 1 = nI (lx x z p).1 ∧ w4.1 18 0 = nI 0 ∧ SV T w w4) := by
  have hcv := ctk_v (lx_ok x hp).2.2.2.2
  refine ⟨fun h0 => ?_, fun h0 => ?_⟩
  · show F_Read_read_26 _ _ _ _ = _
    unfold F_Read_read_26 F_Read_read_79 F_Read_read_96
    rw [ile_t (by omega) (by omega), h.2.2.2.2.1, ieq_t (by omega), am_ltU, wsf_ne (by omega), h.2.1, iz_t rfl]
    rfl
  · obtain ⟨w2, e2, X2, M2⟩ := T_refuse h hq
    refine ⟨wsf w2 18 0 (nI 0), ?_, (wsf_ne (by omega)).trans X2.2.2.1, wsf_at _ _ _ _, SV_t (SV_M M2) SV_f⟩
    show F_Read_read_26 _ _ _ _ = _
    unfold F_Read_read_26 F_Read_read_79 F_Read_read_96
    rw [ile_t (by omega) (by omega), h.2.2.2.2.1, ieq_f (by omega) (by omega) (by omega), e2, bn_s, am_ltU, wsf_ne (by omega), X2.2.1, iz_f (by omega) (by omega)]
    rfl
end
