/-! ===== the model's next token is the class's ===== -/
theorem sg8 {α : Type} (a1 a2 a3 a4 a5 a6 a7 a8 : Bool) (A B : α) : (bif a1 then A else bif a2 then A else bif a3 then A else bif a4 then A else bif a5 then A else bif a6 then A else bif a7 then A else bif a8 then A else B) = bif (a1 || (a2 || (a3 || (a4 || (a5 || (a6 || (a7 || a8))))))) then A else B := by
  cases a1 with | true => rfl | false =>
  cases a2 with | true => rfl | false =>
  cases a3 with | true => rfl | false =>
  cases a4 with | true => rfl | false =>
  cases a5 with | true => rfl | false =>
  cases a6 with | true => rfl | false =>
  cases a7 with | true => rfl | false =>
  rfl
theorem wsf_id {w : am_W} {c j : Nat} {y : Int32} (h : w.1 c j = y) : wsf w c j y = w := by
  unfold wsf
  rw [upd_e h, mf_e rfl]
theorem dtk_n {k : Nat} (h : ¬ k = 7) : dtk k = nI k := if_neg h
/-- a blank skipped, the marks set -/
def nxw (w : am_W) (b : Nat) : am_W := wsf (wsf (wsf w 53 26 (nI b)) 53 27 (nI 0)) 53 28 (nI 0)
theorem nxw_e {w : am_W} {b : Nat} : wsf (wsf (wsf (wsf w 53 25 (nI b)) 53 26 (nI b)) 53 27 (nI 0)) 53 28 (nI 0) = wsf (nxw w b) 53 25 (nI b) := by
  unfold nxw
  rw [wsf_sw (i := 25) (j := 26) (by omega), wsf_sw (i := 25) (j := 27) (by omega), wsf_sw (i := 25) (j := 28) (by omega)]
section
variable {x : Nat → Nat} {z p b : Nat} {w : am_W}
theorem nxw_T (h : DT x z w) : DT x z (nxw w b) := DT_f (DT_f (DT_f h (by omega)) (by omega)) (by omega)
theorem nxw_A (h : ABC w) : ABC (wsf (nxw w b) 53 25 (nI p)) := fun i hi => by
  rw [wsf_nc rfl, nxw, wsf_nc rfl, wsf_nc rfl, wsf_nc rfl]; exact h i hi
theorem nxw_E : EX (fun a => Nat.beq a 53) w (nxw w b) := EX_t (EX_t (EX_sf rfl) (EX_sf rfl)) (EX_sf rfl)
theorem nxw_j {j : Nat} (h1 : ¬ j = 26) (h2 : ¬ j = 27) (h3 : ¬ j = 28) : (nxw w b).1 53 j = w.1 53 j := by
  rw [nxw, wsf_ne h3, wsf_ne h2, wsf_ne h1]
theorem nxw_26 : (nxw w b).1 53 26 = nI b := by
  rw [nxw, wsf_ne (by omega), wsf_ne (by omega), wsf_at]
theorem nxw_27 : (nxw w b).1 53 27 = nI 0 := by
  rw [nxw, wsf_ne (by omega), wsf_at]
/-- what is left of it, from the writes after the marks -/
theorem DTq_of {e k v : Nat} {K V : Int32} (hK : K = dtk k) (hV : k = 1 ∨ k = 2 ∨ k = 3 → V = nI v) : DTq (b, e, k, v) w (wsf (wsf (wsf (nxw w b) 53 25 (nI e)) 53 27 K) 53 28 V) := by
  refine ⟨EX_t (EX_t (EX_t nxw_E (EX_sf rfl)) (EX_sf rfl)) (EX_sf rfl), fun j h1 h2 h3 h4 => ?_, ?_, ?_, ?_, fun q => ?_⟩
  · rw [wsf_ne h4, wsf_ne h3, wsf_ne h1, nxw_j h2 h3 h4]
  · rw [wsf_ne (by omega), wsf_ne (by omega), wsf_ne (by omega), nxw_26]
  · rw [wsf_ne (by omega), wsf_ne (by omega), wsf_at]
  · rw [wsf_ne (by omega), wsf_at]; exact hK
  · rw [wsf_at]; exact hV q
theorem D_next (h : DT x z w) (hA : ABC w) (h25 : w.1 53 25 = nI p) (hp : p ≤ z) : ∃ w2, F_Mod_next w = some w2 ∧ DTq (lx x z p) w w2 := by
  have hz := h.1
  have hb1 := spn_ge (x := x) (q := isB) (z - p) p
  have hb2 := spn_le (x := x) (q := isB) (z - p) p
  generalize hb : spn x isB (z - p) p = b at hb1 hb2
  have R1 : DT x z (wsf (nxw w b) 53 25 (nI b)) := DT_f (nxw_T h) (by omega)
  have e0 : F_Mod_next w = F_Mod_next_52 (wsf w 53 25 (nI b)) := by
    have := D_blank h (z - p) p am_NF (by omega) (by show _ < 4000; omega)
    rw [wsf_id h25, hb] at this
    exact this
  have c0 : (nxw w b).1 53 28 = nI 0 := wsf_at _ _ _ _
  have e28 : ∀ y : Int32, wsf (wsf (nxw w b) 53 28 (nI 0)) 53 25 y = wsf (nxw w b) 53 25 y := fun y => by rw [wsf_id c0]
  rw [e0]
  unfold F_Mod_next_52
  rw [wsf_at, am_ltU, am_ltU, am_ltU, nxw_e, wsf_at, R1.2.1]
  by_cases hbz : z ≤ b
  · rw [lx_end hb hbz, ieq_t (show b = z by omega)]
    refine ⟨_, rfl, ?_⟩
    have := DTq_of (w := w) (b := b) (e := b) (k := 0) (v := 0) (K := nI 0) (V := nI 0) rfl (fun _ => rfl)
    rw [wsf_id ((wsf_ne (by omega)).trans nxw_27), wsf_id ((wsf_ne (by omega)).trans c0)] at this
    exact this
  · have hbz2 : b < z := by omega
    obtain ⟨g1, g2⟩ := R1.2.2 b hbz2
    rw [ieq_f (show ¬ b = z by omega) (by omega) (by omega), in_nI (by omega : b < 160) (by omega), am_ckT, nI_clamp (by omega), g1, D_inC (by omega) (by omega) (by omega), bn_s, bi_ite]
    dsimp only
    rw [show (Nat.ble 97 (x b) && Nat.ble (x b) 122) = isL (x b) from rfl]
    cases hL : isL (x b) with
    | true =>
      have he1 := spn_ge (x := x) (q := isL) (z - b) b
      have he2 := spn_le (x := x) (q := isL) (z - b) b
      have hq := spn_q (x := x) (q := isL) (z - b) b
      rw [lx_word hb hbz hL, cond_true, D_word (nxw_T h) (z - b) b am_NF (by omega) (by show _ < 4000; omega)]
      generalize spn x isL (z - b) b = e at he1 he2 hq
      obtain ⟨V, e1, e2⟩ := D_146 (x := x) (z := z) (p := b) (e := e) (w := wsf (nxw w b) 53 25 (nI e)) (DT_f (nxw_T h) (by omega)) (nxw_A hA) ((wsf_ne (by omega)).trans nxw_26) (wsf_at _ _ _ _) (by omega) he1 (fun t h1 h2 => isL_32 (hq t h1 h2))
      exact ⟨_, e1, DTq_of rfl e2⟩
    | false =>
      rw [cond_false, D_inC (by omega) (by omega) (by omega), bn_s, bi_ite]
      dsimp only
      rw [show (Nat.ble 48 (x b) && Nat.ble (x b) 57) = isD (x b) from rfl]
      cases hD : isD (x b) with
      | true =>
        have he1 := spn_ge (x := x) (q := isD) (z - b) b
        have he2 := spn_le (x := x) (q := isD) (z - b) b
        rw [lx_num hb hbz hL hD, cond_true]
        obtain ⟨V2, e2, q2⟩ := D_num (w := nxw w b) (nxw_T h) (b := b) (z - b) 0 am_NF (nI 0) (by omega) (by show _ < 4000; omega) (fun _ => rfl)
        rw [Nat.add_zero, e28] at e2
        rw [Nat.add_zero] at q2
        generalize spn x isD (z - b) b = e at he1 he2 e2 q2
        refine ⟨_, e2, ?_⟩
        have e9 : ∀ K : Int32, wsf (wsf (wsf (nxw w b) 53 28 V2) 53 25 (nI e)) 53 27 K = wsf (wsf (wsf (nxw w b) 53 25 (nI e)) 53 27 K) 53 28 V2 := fun K => by
          rw [wsf_sw (i := 28) (j := 25) (by omega), wsf_sw (i := 28) (j := 27) (by omega)]
        rw [e9]
        by_cases q : e - b ≤ 4
        · rw [if_pos q, if_pos q]
          exact DTq_of rfl (fun _ => q2 q)
        · rw [if_neg q, if_neg q]
          exact DTq_of rfl (fun r => by rcases r with r | r | r <;> cases r)
      | false =>
        rw [lx_sign hb hbz hL hD, cond_false]
        rw [ieq_b (by omega) (by omega), ieq_b (by omega) (by omega), ieq_b (by omega) (by omega), ieq_b (by omega) (by omega), ieq_b (by omega) (by omega), ieq_b (by omega) (by omega), ieq_b (by omega) (by omega), ieq_b (by omega) (by omega), sg8]
        rw [show (Nat.beq (x b) 40 || (Nat.beq (x b) 41 || (Nat.beq (x b) 59 || (Nat.beq (x b) 43 || (Nat.beq (x b) 45 || (Nat.beq (x b) 42 || (Nat.beq (x b) 60 || Nat.beq (x b) 61))))))) = isS (x b) from rfl]
        have fin : ∀ (k : Nat) (K : Int32), K = dtk k → ¬ (k = 1 ∨ k = 2 ∨ k = 3) → ∃ w2, F_Mod_next_390 K (wsf (nxw w b) 53 25 (nI b)) = some w2 ∧ DTq (b, b + 1, k, 0) w w2 := fun k K hK hn => by
          unfold F_Mod_next_390 F_Mod_next_403
          rw [am_ltU, am_ltU, wsf_ne (by omega), wsf_at, nI_add, wsf_sw (i := 27) (j := 25) (by omega), wsf_wsf]
          refine ⟨_, rfl, ?_⟩
          have := DTq_of (w := w) (b := b) (e := b + 1) (k := k) (v := 0) (K := K) (V := nI 0) hK (fun q => absurd q hn)
          rw [wsf_id (y := nI 0) ((wsf_ne (by omega)).trans ((wsf_ne (by omega)).trans c0))] at this
          exact this
        unfold F_Mod_next_374 F_Mod_next_379
        rw [if_neg (by decide), if_pos (by decide)]
        cases hS : isS (x b) with
        | true =>
          have h40 : 40 ≤ x b := by
            unfold isS at hS
            simp only [Bool.or_eq_true, nbt] at hS
            omega
          exact fin (x b) (nI (x b)) (dtk_n (by omega)).symm (by omega)
        | false => exact fin 7 (-nI 1) rfl (by omega)
end
