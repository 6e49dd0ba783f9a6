/-! ===== the model reads a chain of parts ===== -/
section
variable {x : Nat → Nat} {z T : Nat}
/-- behind a piece, the signs pd of this rank held -/
def DL (x : Nat → Nat) (z T : Nat) (Q : List Nat → Prop) (r o p : Nat) (res : Nat ⊕ (Nat × List Nat)) : Prop := ∀ (H pd : List Nat) (q F m : Nat) (w : am_W), DS x z T p (o + cn19 pd) q (pd ++ H) w → TOP (tbr r) H → (pd ++ H).length + q ≤ p → z < F + p → Q pd → NX (r + 1) (lx x z p).2.2.1 pd → DR x z T r o q H w (L_Mod_eRead_14 F (nI 0) (nI m) w) pd res
theorem DL_end {Q : List Nat → Prop} {r o p : Nat} (hQ : ∀ pd, Q pd → RK (lor r) pd) (hj : ¬ jl (lx x z p).2.2.1 = r) : DL x z T Q r o p (.inr (p, [])) := fun H pd q F m w h hH hb hF hq hN =>
  ⟨w, F, m, [], pd, rfl, hF, by rw [List.append_nil, List.nil_append], h, trivial, DM_r T q w, hQ pd hq, NX_d hN hj⟩
theorem DL_end2 {o p : Nat} : DL x z T (fun pd => RK 3 pd ∧ RP pd) 2 o p (.inr (p, [])) := fun H pd q F m w h hH hb hF hq hN =>
  ⟨w, F, m, [], pd, rfl, hF, by rw [List.append_nil, List.nil_append], h, trivial, DM_r T q w, hq.1, fun h1 h2 => by
    by_cases h3 : 3 ≤ jl (lx x z p).2.2.1
    · have := (hN h3 h2).1
      omega
    · exact ⟨Nat.le_refl _, by omega, hq.2⟩⟩
/-- a sign between two -/
theorem D_join {r o p q F m : Nat} {H A : List Nat} {w : am_W} (hT : T < 6) (hz : z ≤ 160) (hp : p ≤ z) (hr : r ≤ 4) (h : DS x z T p (o + cn19 A) q (A ++ H) w) (hA : RK (lsr r) A) (hH : TOP (tbr r) H) (hb : q + (A ++ H).length < 200) (ho : o + cn19 A < 1000) (hF : z < F + p) (hj : jl (lx x z p).2.2.1 = r) : ∃ (w2 : am_W) (G : Nat), L_Mod_eRead_14 F (nI 0) (nI m) w = L_Mod_eRead_14 G (nI 1) (nI (if r ≤ 1 then 1 else 0)) w2 ∧ z < G + (lx x z p).2.1 ∧ DS x z T (lx x z p).2.1 o (q + A.length) (sg (lx x z p).2.2.1 :: H) w2 ∧ SQ nI A (200 * T + q) (w2.1 59) ∧ DM T q w w2 := by
  obtain ⟨l1, l2, l3, l4, l5⟩ := lx_ok x hp
  have hk100 := tk_lt l5
  obtain ⟨s1, s2, s3, s4, s5, s6, s7⟩ := sg_r hj hr
  have l6 := l4 (by omega)
  have h59 : ¬ (lx x z p).2.2.1 = 59 := fun q => by rw [q] at hj; exact absurd (show jl 59 = 9 from rfl) (by omega)
  have h41 : ¬ (lx x z p).2.2.1 = 41 := fun q => by rw [q] at hj; exact absurd (show jl 41 = 9 from rfl) (by omega)
  obtain ⟨G, w3, rfl, e3, D3, M3, b3, t3, v3⟩ := D_e14 h hp hF (nI 0) (nI m)
  have hlr := (lor_b (r := r) (by omega)).2 (by omega)
  obtain ⟨w4, e4, D4, c4, N4⟩ := D_between (r := r) (c := sg (lx x z p).2.2.1) hT hr s6 (by omega) D3 hA (TOP_m hlr.2.2.1 hH) (fun q => by rw [q] at hH; exact hH) hb ho
  refine ⟨w4, G, ?_, by omega, D4, c4, DM_t (M3 q) (DN_d N4)⟩
  rw [e3, bn_s, iz_t rfl, t3, dti_f h59 (by omega) (by omega) (by omega), dti_f h41 (by omega) (by omega) (by omega), D_signOf (by omega) t3, bn_s]
  dsimp only
  unfold F_Mod_eRead_262
  rw [if_pos (show jl (lx x z p).2.2.1 ≤ 4 by omega), if_neg (show ¬ nI (sg (lx x z p).2.2.1) = -nI 1 from fun q => absurd (show nI (sg (lx x z p).2.2.1) < 0 by rw [q]; decide) (nI_pos (by omega))), e4, bn_s]
  dsimp only
  rw [iz_f (by omega) (by omega)]
  by_cases h1 : r ≤ 1
  · rw [if_pos h1, ilt_f (s7.mpr h1) (by omega)]
  · rw [if_neg h1, ilt_t (by
      have : ¬ sg (lx x z p).2.2.1 ≤ 12 := fun q => h1 (s7.mp q)
      omega) (by omega)]
theorem DL_step {Q Q2 : List Nat → Prop} {r o p : Nat} {res2 res3 : Nat ⊕ (Nat × List Nat)} (hT : T < 6) (hz : z ≤ 160) (hp : p ≤ z) (ho : o ≤ 5) (hr : r ≤ 4) (hj : jl (lx x z p).2.2.1 = r) (hQ : ∀ pd, Q pd → RK (lsr r) pd) (hQ2 : ∀ pd, RK (lor (r + 1)) pd → Q2 (pd ++ [sg (lx x z p).2.2.1])) (hfa : FA z (r + 1) o (lx x z p).2.1 res2) (h2 : DC x z T (r + 1) o (lx x z p).2.1 res2) (h3 : ∀ p2 cs2, res2 = .inr (p2, cs2) → DL x z T Q2 r o p2 res3) : DL x z T Q r o p (rJo (sg (lx x z p).2.2.1) res2 res3) := fun H pd q F m w h hH hb hF hq hN => by
  obtain ⟨s1, s2, s3, s4, s5, s6, s7⟩ := sg_r hj hr
  obtain ⟨l1, l2, l3, l4, l5⟩ := lx_ok x hp
  have l6 := l4 (by omega)
  have hlr := (lor_b (r := r) (by omega)).2 (by omega)
  have hla : (pd ++ H).length = pd.length + H.length := List.length_append
  have hcn := cnb pd
  obtain ⟨w4, G, e4, g4, D4, c4, M4⟩ := D_join (m := m) hT hz hp hr h (hQ pd hq) hH (by omega) (by omega) hF hj
  generalize sg (lx x z p).2.2.1 = c at s3 s4 s5 s6 s7 D4 hQ2 ⊢
  have c13 : cn19 [c] = 0 := by
    show 0 + (if c = 13 then 1 else if c = 19 then 1 else 0) = 0
    rw [if_neg s5, if_neg (by omega)]
  have h9 := h2 (c :: H) (q + pd.length) G (if r ≤ 1 then 1 else 0) w4 D4 ⟨by omega, by rw [s6]; exact hlr.2.2.2.2.2.1⟩ (by show H.length + 1 + (q + pd.length) ≤ _; omega) g4 ⟨by
    by_cases h1 : r ≤ 1
    · rw [if_pos h1]; exact Or.inr rfl
    · rw [if_neg h1]; exact Or.inl rfl, fun h1 => if_pos (by omega), fun h1 => Or.inl (if_neg (by omega))⟩
  cases res2 with
  | inl b =>
    obtain ⟨w5, e5, e6, e7⟩ := h9
    show DR x z T r o q H w _ pd (.inl b)
    exact ⟨w5, e4.trans e5, e6, DM_t M4 (DM_m (by omega) e7)⟩
  | inr y =>
    obtain ⟨p2, cs2⟩ := y
    obtain ⟨f1, f2, f3, f4⟩ := hfa
    obtain ⟨w5, F5, m5, cn, pd2, e5, e6, e7, e8, e9, e10, e11, e12⟩ := h9
    rw [List.nil_append] at e7
    have hcs : cs2.length = cn.length + pd2.length := by rw [e7, List.length_append]
    have ea : pd2 ++ c :: H = (pd2 ++ [c]) ++ H := by rw [List.append_assoc]; rfl
    have eb : o + cn19 pd2 = o + cn19 (pd2 ++ [c]) := by rw [cn_ap, c13, Nat.add_zero]
    rw [ea, eb] at e8
    have hlb : ((pd2 ++ [c]) ++ H).length = pd2.length + 1 + H.length := by rw [List.length_append, List.length_append]; rfl
    have h10 := h3 p2 cs2 rfl H (pd2 ++ [c]) (q + pd.length + cn.length) F5 m5 w5 e8 hH (by omega) e6 (hQ2 pd2 e11) (NX_ap e12)
    have h11 : DR x z T r o q H w (L_Mod_eRead_14 F (nI 0) (nI m) w) ((pd ++ cn) ++ (pd2 ++ [c])) res3 := by
      refine DR_pre (w1 := w5) (e4.trans e5) (DM_t M4 (DM_m (by omega) e10)) (SQ_ap.mpr ⟨SQ_fr (fun i _ hi => e10.2.2 i (by omega)) c4, by rw [Nat.add_assoc]; exact e9⟩) ?_
      rw [List.length_append, ← Nat.add_assoc]; exact h10
    cases res3 with
    | inl b => exact DR_0 h11
    | inr y =>
      obtain ⟨p3, su⟩ := y
      show DR x z T r o q H w _ pd (.inr (p3, cs2 ++ c :: su))
      have ec : (pd ++ cn) ++ (pd2 ++ [c]) = pd ++ (cs2 ++ [c]) := by rw [e7]; simp only [List.append_assoc]
      rw [ec] at h11
      have := DR_mv h11
      rw [List.append_assoc] at this
      exact this
/-- a part, what joins behind it -/
theorem DC_chain {r o p : Nat} {res1 res2 : Nat ⊕ (Nat × List Nat)} (hr : r ≤ 4) (hn : r = 2 → ¬ (lx x z p).2.2.1 = 6 ∨ 5 ≤ o) (hfa : FA z (r + 1) o p res1) (h1 : DC x z T (r + 1) o p res1) (h2 : ∀ p1 cs1, res1 = .inr (p1, cs1) → DL x z T (RK (lsr r)) r o p1 res2) : DC x z T r o p (rCh res1 res2) := fun H q F m w h hH hb hF hm => by
  have hlr := (lor_b (r := r) (by omega)).2 (by omega)
  have h9 := h1 H q F m w h (TOP_m hlr.2.1 hH) hb hF ⟨hm.1, fun h1 => hm.2.1 (by omega), fun h1 => by
    by_cases h3 : r = 2
    · rcases hn h3 with h4 | h4
      · exact Or.inr (Or.inl h4)
      · exact Or.inr (Or.inr h4)
    · exact hm.2.2 (by omega)⟩
  cases res1 with
  | inl b => exact h9
  | inr y =>
    obtain ⟨p1, cs1⟩ := y
    obtain ⟨f1, f2, f3, f4⟩ := hfa
    obtain ⟨w5, F5, m5, cn, pd, e5, e6, e7, e8, e9, e10, e11, e12⟩ := h9
    rw [List.nil_append] at e7
    have hcs : cs1.length = cn.length + pd.length := by rw [e7, List.length_append]
    have hla : (pd ++ H).length = pd.length + H.length := List.length_append
    have h10 := h2 p1 cs1 rfl H pd (q + cn.length) F5 m5 w5 e8 hH (by omega) e6 (RK_m hlr.2.2.2.2.1 e11) e12
    have h11 : DR x z T r o q H w (L_Mod_eRead_14 F (nI 1) (nI m) w) (cn ++ pd) res2 := DR_pre (w1 := w5) e5 e10 e9 h10
    cases res2 with
    | inl b => exact DR_0 h11
    | inr y =>
      obtain ⟨p2, su⟩ := y
      show DR x z T r o q H w _ [] (.inr (p2, cs1 ++ su))
      rw [e7]
      exact DR_mv h11
/-- not before a NOT -/
theorem DC_not {o p : Nat} {res : Nat ⊕ (Nat × List Nat)} (hz : z ≤ 160) (hp : p ≤ z) (hk : (lx x z p).2.2.1 = 6) (ho : o < 5) (hr : DC x z T 2 (o + 1) (lx x z p).2.1 res) : DC x z T 2 o p (rUn 13 res) := fun H q F m w h hH hb hF hm => by
  obtain ⟨l1, l2, l3, l4, l5⟩ := lx_ok x hp
  have l6 := l4 (by omega)
  obtain rfl : m = 1 := hm.2.1 (Nat.le_refl _)
  obtain ⟨G, w3, rfl, e3, D3, M3, b3, t3, v3⟩ := D_e14 h hp hF (nI 1) (nI 1)
  obtain ⟨w4, e4, D4, N4⟩ := D_opens (c := 13) D3 (by omega) ho
  have eG : L_Mod_eRead_14 (G + 1) (nI 1) (nI 1) w = L_Mod_eRead_14 G (nI 1) (nI 1) w4 := by
    rw [e3, bn_s, iz_f (by omega) (by omega), t3, dti_f (by omega : ¬ (lx x z p).2.2.1 = 1) (by omega) (by omega) (by omega), dti_f (by omega : ¬ (lx x z p).2.2.1 = 2) (by omega) (by omega) (by omega), dti_t hk (by omega) (by omega), iz_f (by omega) (by omega), e4, bn_s]
    dsimp only
    rw [iz_f (by omega) (by omega)]
  have h9 := hr (13 :: H) q G 1 w4 D4 ⟨by omega, by decide⟩ (by show H.length + 1 + q ≤ _; omega) (by omega) ⟨Or.inr rfl, fun _ => rfl, fun q => absurd q (by omega)⟩
  rw [eG]
  have hM := DM_t (M3 q) (DN_d N4)
  cases res with
  | inl b =>
    obtain ⟨w5, e5, e6, e7⟩ := h9
    exact ⟨w5, e5, e6, DM_t hM e7⟩
  | inr y =>
    obtain ⟨p2, cs⟩ := y
    obtain ⟨w5, F5, m5, cn, pd, e5, e6, e7, e8, e9, e10, e11, e12⟩ := h9
    rw [List.nil_append] at e7
    have ea : pd ++ 13 :: H = (pd ++ [13]) ++ H := by rw [List.append_assoc]; rfl
    have eb : o + 1 + cn19 pd = o + cn19 (pd ++ [13]) := by
      rw [cn_ap]
      show o + 1 + cn19 pd = o + (cn19 pd + 1)
      omega
    rw [ea, eb] at e8
    exact ⟨w5, F5, m5, cn, pd ++ [13], e5, e6, by rw [List.nil_append, e7, List.append_assoc], e8, e9, DM_t hM e10, RK_ap e11 (RK_1 (by omega) (by decide)), NX_ap e12⟩
/-- a ONE as a part -/
theorem DC_one {o p : Nat} {res : Nat ⊕ (Nat × List Nat)} (h : DO x z T o p res) : DC x z T 5 o p res := fun H q F m w hD hH hb hF hm => by
  have h9 := h H 0 o q F m w rfl hD (TOP_m (by decide) hH) (by omega) hF hm
  cases res with
  | inl b => exact h9
  | inr y =>
    obtain ⟨p2, cs⟩ := y
    obtain ⟨w5, F5, m5, e5, e6, e7, e8, e9⟩ := h9
    refine ⟨w5, F5, m5, cs, [], e5, e6, by rw [List.nil_append, List.append_nil], e7, ?_, e9, RK_n, fun h1 h2 => by omega⟩
    have e8 : SQ nI (cs ++ []) (200 * T + q) (w5.1 59) := e8
    rw [List.append_nil] at e8
    exact e8
end
